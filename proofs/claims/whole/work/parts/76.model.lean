/-! PURE: the model's law, past and rows. -/
section PWorked2
variable {V : VT} {X : MX} {d : Nat}
theorem w_b268 {N : Nat} {K : Int32 → Int32 → Int32 → VT → Option (Int32 × VT)} {ln kk : Int32} {Q : Int32 × VT → Prop} (h : isX V X) : ∀ (w d : Nat) (v : Int32), d < 7 → d < w → (∀ W, isX W (vaX d v X).2 → fr wkA nof V W → tot (K ln (nI (vaX d v X).1) (kk + nI 1) W) Q) → tot (gX10_worked_b268 N K w ln (nI d) kk v V) Q := by
  intro w
  induction w with
  | zero => intro d v _ h; omega
  | succ w ih =>
    intro d v hd hw hK
    have last : (ntX X d v) = (d, v) → tot (gX10_worked_b300 N K ln (nI d) kk v V) Q := by
      intro e
      unfold vaX at hK
      rw [e] at hK
      unfold gX10_worked_b300 gX10_worked_b328
      simp (disch := omega) only [fa_lit, ne_le, ne_lt, ne_eq', nI_add, pk_mul, pk_sub, rdA_n, wrA_n, rdL_n, wrL_n, nI_one, nI_bit1, nI_bit0, fa_or, fa_and, nI_df, nat31, Option.bind_some, m1_le0, m1_lt0, m1_eq, eq_m1, ite_nI, sub_m, pk_m1', not_lt0]
      rw [h 157 d (by omega) (by omega) hd, h 156 d (by omega) (by omega) hd]
      split
      · rename_i e2
        rw [if_pos (show X 157 d = 0 from e2)] at hK
        exact hK _ (h.up _) (w_fr _ _ (by omega))
      · rename_i e2
        rw [if_neg (show ¬ X 157 d = 0 from e2)] at hK
        exact hK _ (h.up _) (w_fr _ _ (by omega))
    unfold gX10_worked_b268
    cases d with
    | zero =>
      simp (disch := omega) only [fa_lit, ne_le, ne_lt, ne_eq', nI_add, pk_mul, pk_sub, rdA_n, wrA_n, rdL_n, wrL_n, nI_one, nI_bit1, nI_bit0, fa_or, fa_and, nI_df, nat31, Option.bind_some, m1_le0, m1_lt0, m1_eq, eq_m1, ite_nI, sub_m, pk_m1', not_lt0]
      rw [if_pos (Nat.le_refl 0)]
      exact last rfl
    | succ d =>
      simp (disch := omega) only [fa_lit, ne_le, ne_lt, ne_eq', nI_add, pk_mul, pk_sub, rdA_n, wrA_n, rdL_n, wrL_n, nI_one, nI_bit1, nI_bit0, fa_or, fa_and, nI_df, nat31, Option.bind_some, m1_le0, m1_lt0, m1_eq, eq_m1, ite_nI, sub_m, pk_m1', not_lt0]
      rw [if_neg (by omega), h 158 (d + 1) (by omega) (by omega) hd]
      by_cases e : X 158 (d + 1) = 1
      · rw [if_pos (show X 158 (d + 1) = nI 1 from e)]
        simp only [Nat.add_sub_cancel]
        have e3 : ∀ v, ntX X (d + 1) v = ntX X d (if v = 0 then 1 else 0) := fun v => by rw [ntX, if_pos e]
        split
        · rename_i e2
          refine ih d _ (by omega) (by omega) ?_
          unfold vaX at hK ⊢
          rw [e3, if_pos (show v = 0 from e2)] at hK
          exact hK
        · rename_i e2
          refine ih d _ (by omega) (by omega) ?_
          unfold vaX at hK ⊢
          rw [e3, if_neg (show ¬ v = 0 from e2)] at hK
          exact hK
      · rw [if_neg (show ¬ X 158 (d + 1) = nI 1 from e)]
        exact last (by rw [ntX, if_neg e])
theorem ntX_le (X : MX) : ∀ (d : Nat) (v : Int32), (ntX X d v).1 ≤ d
  | 0, v => Nat.le_refl _
  | d + 1, v => by
    rw [ntX]
    split
    · exact Nat.le_succ_of_le (ntX_le X d _)
    · exact Nat.le_refl _
theorem mst_lt {vl : Nat → Int32} {c : Nat} {s t : Nat × MX} (hs : s.1 < 7) (h : mst vl c s = some t) : t.1 < 7 := by
  unfold mst at h
  split at h
  · split at h
    · cases h
      show s.1 + 1 < 7
      omega
    · cases h
  split at h
  · cases h
    exact hs
  split at h
  · cases h
    exact hs
  split at h
  · cases h
    exact hs
  split at h
  · cases h
    exact hs
  split at h
  · split at h
    · cases h
      have := ntX_le (teX s.1 s.2) (s.1 - 1) (teX s.1 s.2 150 s.1)
      show (ntX _ _ _).1 < 7
      omega
    · cases h
  · cases h
    have := ntX_le s.2 s.1 (if c < 100 then (if 20 ≤ c then 0 else vl c) else nI (c - 100))
    show (ntX _ _ _).1 < 7
    omega
theorem nI_ne {a b : Nat} (h : a ≠ b) (ha : a < 2 ^ 31) (hb : b < 2 ^ 31) : ¬ nI a = nI b := fun e => h ((nI_eq ha hb).mp e)
theorem w_b14 {N : Nat} {vl : Nat → Int32} {cl : List Nat} (hN : 1000 < N) (hcl : cl.length ≤ 1000) (hcc : ∀ i, i < cl.length → cl.getD i 0 < 20000) : ∀ (w k : Nat) (s : Nat × MX) (V : VT), k ≤ cl.length → cl.length - k < w → s.1 < 7 → isX V s.2 → V.A 146 0 = nI cl.length → (∀ i, i < cl.length → V.A 147 i = nI (cl.getD i 0)) → (∀ i, i < 20 → V.A 159 i = vl i) → ∀ t, mrun vl (cl.drop k) s = some t →
    tot (gX10_worked_b14 N w (nI 0) (nI s.1) (nI k) V) (fun r => r.1 = teX 0 t.2 150 0 ∧ fr wkA nof V r.2) := by
  intro w
  induction w with
  | zero => intro k s V _ h; omega
  | succ w ih =>
    intro k s V hk hw hd hX h146 h147 h159 t ht
    unfold gX10_worked_b14
    rw [rdA_n (by omega) (by omega), Option.bind_some, h146]
    by_cases hc : k = cl.length
    · subst hc
      rw [List.drop_length] at ht
      cases ht
      rw [if_pos (nI_le (Nat.le_refl _) (by omega))]
      refine tot_bd (w_tests (d := 0) hX (by omega)) (fun W hW => ?_)
      exact tot_some ⟨hW.1 150 0 (by omega) (by omega) (by omega), hW.2⟩
    · have hc1 := hcc k (by omega)
      have hx := h147 k (by omega)
      have hdr : cl.drop k = cl.getD k 0 :: cl.drop (k + 1) := by
        rw [List.drop_eq_getElem_cons (by omega)]
        congr 1
        rw [List.getD_eq_getElem?_getD, List.getElem?_eq_getElem (by omega)]
        rfl
      rw [hdr, mrun] at ht
      generalize cl.getD k 0 = c at hc1 hx ht
      cases hm : mst vl c s with
      | none => rw [hm] at ht; cases ht
      | some s' =>
        rw [hm, Option.bind_some] at ht
        have hd' := mst_lt hd hm
        have step : ∀ W, isX W s'.2 → fr wkA nof V W → tot (gX10_worked_b14 N w (nI 0) (nI s'.1) (nI (k + 1)) W) (fun r => r.1 = teX 0 t.2 150 0 ∧ fr wkA nof V r.2) := by
          intro W hW hf
          have e1 := hf.2.2.1 146 (by unfold wkA; omega)
          have e2 := hf.2.2.1 147 (by unfold wkA; omega)
          have e3 := hf.2.2.1 159 (by unfold wkA; omega)
          exact tot_mo (ih (k + 1) s' W (by omega) (by omega) hd' hW (by rw [e1, h146]) (fun i hi => by rw [e2, h147 i hi]) (fun i hi => by rw [e3, h159 i hi]) t ht) (fun r hr => ⟨hr.1, hf.trans hr.2⟩)
        rw [if_neg (nI_ge (by omega) (by omega)), rdA_n (by omega) (by omega), Option.bind_some, hx]
        have op : ∀ z : Int32, (s.1 < 6 → s' = (s.1 + 1, opX (s.1 + 1) (up2 s.2 158 (s.1 + 1) z))) → s.1 < 6 → tot (gX10_worked_b66 N (gX10_worked_b14 N w) (nI 0) (nI s.1 + 1) (nI k) z (nI s.1 + 1) 158 7 V) (fun r => r.1 = teX 0 t.2 150 0 ∧ fr wkA nof V r.2) := by
          intro z hz h6
          unfold gX10_worked_b66
          rw [hz h6] at step
          simp (disch := omega) only [fa_lit, ne_le, ne_lt, ne_eq', nI_add, pk_mul, pk_sub, rdA_n, wrA_n, rdL_n, wrL_n, nI_one, nI_bit1, nI_bit0, fa_or, fa_and, nI_df, nat31, Option.bind_some, m1_le0, m1_lt0, m1_eq, eq_m1, ite_nI, sub_m, pk_m1', not_lt0]
          refine tot_bd (w_opens (d := s.1 + 1) (hX.up z) (by omega)) (fun W hW => ?_)
          exact step W hW.1 ((w_fr _ _ (by omega)).trans hW.2)
        unfold mst at hm
        by_cases c28 : c = 28
        · subst c28
          rw [if_pos (by omega)] at hm
          rw [if_pos (show nI 28 = 28 from rfl)]
          split at hm
          · rename_i h6
            cases hm
            unfold gX10_worked_b46
            rw [if_neg (by decide)]
            exact op 0 (fun _ => rfl) h6
          · cases hm
        rw [if_neg (show ¬ nI c = 28 from nI_ne (b := 28) c28 (by omega) (by omega))]
        by_cases c30 : c = 30
        · subst c30
          rw [if_pos (by omega)] at hm
          rw [if_pos (show nI 30 = 30 from rfl)]
          split at hm
          · rename_i h6
            cases hm
            unfold gX10_worked_b46
            rw [if_pos (show nI 30 = 30 from rfl)]
            exact op 1 (fun _ => rfl) h6
          · cases hm
        rw [if_neg (show ¬ nI c = 30 from nI_ne (b := 30) c30 (by omega) (by omega))]
        rw [if_neg (by omega)] at hm
        have sm : ∀ e : Nat, c = e → (s' = (s.1, up2 (suX s.1 s.2) 155 s.1 (nI c))) → tot (gX10_worked_b89 N (gX10_worked_b14 N w) (nI 0) (nI s.1) (nI k) (nI c) V) (fun r => r.1 = teX 0 t.2 150 0 ∧ fr wkA nof V r.2) := by
          intro e _ hs
          unfold gX10_worked_b89
          rw [hs] at step
          simp (disch := omega) only [fa_lit, ne_le, ne_lt, ne_eq', nI_add, pk_mul, pk_sub, rdA_n, wrA_n, rdL_n, wrL_n, nI_one, nI_bit1, nI_bit0, fa_or, fa_and, nI_df, nat31, Option.bind_some, m1_le0, m1_lt0, m1_eq, eq_m1, ite_nI, sub_m, pk_m1', not_lt0]
          refine tot_bd (w_sums hX hd) (fun W hW => ?_)
          exact step _ (hW.1.up _) (hW.2.trans (w_fr _ _ (by omega)))
        by_cases c20 : c = 20
        · rw [if_pos (by omega)] at hm
          cases hm
          rw [if_pos (show nI c = 20 by rw [c20]; rfl)]
          exact sm 20 c20 rfl
        rw [if_neg (show ¬ nI c = 20 from nI_ne (b := 20) c20 (by omega) (by omega))]
        by_cases c21 : c = 21
        · rw [if_pos (by omega)] at hm
          cases hm
          rw [if_pos (show nI c = 21 by rw [c21]; rfl)]
          exact sm 21 c21 rfl
        rw [if_neg (show ¬ nI c = 21 from nI_ne (b := 21) c21 (by omega) (by omega))]
        rw [if_neg (by omega)] at hm
        by_cases c22 : c = 22
        · rw [if_pos (by omega)] at hm
          cases hm
          rw [if_pos (show nI c = 22 by rw [c22]; rfl)]
          simp (disch := omega) only [fa_lit, ne_le, ne_lt, ne_eq', nI_add, pk_mul, pk_sub, rdA_n, wrA_n, rdL_n, wrL_n, nI_one, nI_bit1, nI_bit0, fa_or, fa_and, nI_df, nat31, Option.bind_some, m1_le0, m1_lt0, m1_eq, eq_m1, ite_nI, sub_m, pk_m1', not_lt0]
          exact step _ (hX.up _) (w_fr _ _ (by omega))
        rw [if_neg (show ¬ nI c = 22 from nI_ne (b := 22) c22 (by omega) (by omega))]
        rw [if_neg (by omega)] at hm
        have cm : (s' = (s.1, up2 (up2 (up2 (up2 (suX s.1 s.2) 152 s.1 (suX s.1 s.2 154 s.1)) 153 s.1 (nI c)) 154 s.1 0) 155 s.1 20)) → tot (gX10_worked_b137 N (gX10_worked_b14 N w) (nI 0) (nI s.1) (nI k) (nI c) V) (fun r => r.1 = teX 0 t.2 150 0 ∧ fr wkA nof V r.2) := by
          intro hs
          unfold gX10_worked_b137
          rw [hs] at step
          simp (disch := omega) only [fa_lit, ne_le, ne_lt, ne_eq', nI_add, pk_mul, pk_sub, rdA_n, wrA_n, rdL_n, wrL_n, nI_one, nI_bit1, nI_bit0, fa_or, fa_and, nI_df, nat31, Option.bind_some, m1_le0, m1_lt0, m1_eq, eq_m1, ite_nI, sub_m, pk_m1', not_lt0]
          refine tot_bd (w_sums hX hd) (fun W hW => ?_)
          rw [hW.1 154 s.1 (by omega) (by omega) hd]
          exact step _ ((((hW.1.up _).up _).up _).up _) (hW.2.trans ((((w_fr _ _ (by omega)).trans (w_fr _ _ (by omega))).trans (w_fr _ _ (by omega))).trans (w_fr _ _ (by omega))))
        by_cases c24 : c = 24
        · rw [if_pos (by omega)] at hm
          cases hm
          rw [if_pos (show nI c = 24 by rw [c24]; rfl)]
          exact cm rfl
        rw [if_neg (show ¬ nI c = 24 from nI_ne (b := 24) c24 (by omega) (by omega))]
        by_cases c25 : c = 25
        · rw [if_pos (by omega)] at hm
          cases hm
          rw [if_pos (show nI c = 25 by rw [c25]; rfl)]
          exact cm rfl
        rw [if_neg (show ¬ nI c = 25 from nI_ne (b := 25) c25 (by omega) (by omega))]
        rw [if_neg (by omega)] at hm
        have ao : (s' = (s.1, up2 (teX s.1 s.2) 151 s.1 (nI c))) → tot (gX10_worked_b194 N (gX10_worked_b14 N w) (nI 0) (nI s.1) (nI k) (nI c) V) (fun r => r.1 = teX 0 t.2 150 0 ∧ fr wkA nof V r.2) := by
          intro hs
          unfold gX10_worked_b194
          rw [hs] at step
          simp (disch := omega) only [fa_lit, ne_le, ne_lt, ne_eq', nI_add, pk_mul, pk_sub, rdA_n, wrA_n, rdL_n, wrL_n, nI_one, nI_bit1, nI_bit0, fa_or, fa_and, nI_df, nat31, Option.bind_some, m1_le0, m1_lt0, m1_eq, eq_m1, ite_nI, sub_m, pk_m1', not_lt0]
          refine tot_bd (w_tests hX hd) (fun W hW => ?_)
          exact step _ (hW.1.up _) (hW.2.trans (w_fr _ _ (by omega)))
        by_cases c26 : c = 26
        · rw [if_pos (by omega)] at hm
          cases hm
          rw [if_pos (show nI c = 26 by rw [c26]; rfl)]
          exact ao rfl
        rw [if_neg (show ¬ nI c = 26 from nI_ne (b := 26) c26 (by omega) (by omega))]
        by_cases c27 : c = 27
        · rw [if_pos (by omega)] at hm
          cases hm
          rw [if_pos (show nI c = 27 by rw [c27]; rfl)]
          exact ao rfl
        rw [if_neg (show ¬ nI c = 27 from nI_ne (b := 27) c27 (by omega) (by omega))]
        rw [if_neg (by omega)] at hm
        have va : ∀ v : Int32, ¬ c = 29 → s' = vaX s.1 v s.2 → tot (gX10_worked_b243 N (gX10_worked_b14 N w) (nI 0) (nI s.1) (nI k) (nI c) v V) (fun r => r.1 = teX 0 t.2 150 0 ∧ fr wkA nof V r.2) := by
          intro v h29 hs
          unfold gX10_worked_b243
          rw [hs] at step
          rw [if_neg (show ¬ nI c = 29 from nI_ne (b := 29) h29 (by omega) (by omega))]
          refine w_b268 hX N s.1 v hd (by omega) (fun W hW hf => ?_)
          rw [nI_add]
          exact step W hW hf
        by_cases c29 : c = 29
        · subst c29
          rw [if_pos rfl] at hm
          split at hm
          · rename_i h0
            cases hm
            rw [if_pos (by decide), if_pos (by decide)]
            unfold gX10_worked_b243
            rw [if_pos (by decide)]
            refine tot_bd (w_tests hX hd) (fun W hW => ?_)
            rw [rdA_n (by omega) (by omega), Option.bind_some, hW.1 150 s.1 (by omega) (by omega) hd, show (-1 : Int32) = -nI 1 from rfl, pk_m1' (by omega)]
            refine w_b268 hW.1 N (s.1 - 1) _ (by omega) (by omega) (fun W2 hW2 hf => ?_)
            rw [nI_add]
            exact step W2 hW2 (hW.2.trans hf)
          · cases hm
        rw [if_neg c29] at hm
        cases hm
        by_cases cs : c < 100
        · rw [if_pos (show nI c < 100 from nI_lt (b := 100) cs (by omega))]
          by_cases c2 : 20 ≤ c
          · rw [if_pos (show 20 ≤ nI c from nI_le (a := 20) c2 (by omega))]
            refine va _ c29 ?_
            rw [if_pos cs, if_pos c2]
          · rw [if_neg (show ¬ 20 ≤ nI c from nI_ge (b := 20) (by omega) (by omega)), rdA_n (by omega) (by omega), Option.bind_some, h159 c (by omega)]
            refine va _ c29 ?_
            rw [if_pos cs, if_neg c2]
        · rw [if_neg (show ¬ nI c < 100 from nI_nlt (b := 100) (by omega) (by omega))]
          refine va _ c29 ?_
          rw [if_neg cs, ← pk_sub (by omega)]
          rfl
theorem w_worked {V : VT} {N : Nat} {vl : Nat → Int32} {cl : List Nat} (hN : 1000 < N) (hcl : cl.length ≤ 1000) (hcc : ∀ i, i < cl.length → cl.getD i 0 < 20000) (h145 : V.A 145 0 = nI 0) (h146 : V.A 146 0 = nI cl.length) (h147 : ∀ i, i < cl.length → V.A 147 i = nI (cl.getD i 0)) (h159 : ∀ i, i < 20 → V.A 159 i = vl i) {t : Nat × MX} (ht : mrun vl cl (0, opX 0 V.A) = some t) :
    tot (gX10_worked N (nI 0) V) (fun r => r.1 = teX 0 t.2 150 0 ∧ fr wkA nof V r.2) := by
  unfold gX10_worked
  refine tot_bd (w_opens (d := 0) (X := V.A) (fun _ _ _ _ _ => rfl) (by omega)) (fun W hW => ?_)
  have e0 := hW.2.2.2.1 145 (by unfold wkA; omega)
  have e1 := hW.2.2.2.1 146 (by unfold wkA; omega)
  have e2 := hW.2.2.2.1 147 (by unfold wkA; omega)
  have e3 := hW.2.2.2.1 159 (by unfold wkA; omega)
  rw [rdA_n (by omega) (by omega), Option.bind_some, e0, h145]
  exact tot_mo (w_b14 hN hcl hcc N 0 (0, opX 0 V.A) W (by omega) (by omega) (by simp) hW.1 (by rw [e1, h146]) (fun i hi => by rw [e2, h147 i hi]) (fun i hi => by rw [e3, h159 i hi]) t ht) (fun r hr => ⟨hr.1, hW.2.trans hr.2⟩)
end PWorked2
