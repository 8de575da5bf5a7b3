/-! PURE: the class's law is worth what the stack machine says. -/
theorem x1_worth_b8 {o : Nat} {sl : List Int32} (hl : sl.length ≤ 1000) (l c a t : Int32) (n : Nat) : ∀ (w k : Nat) (V : VT) (st : List Int32), k ≤ sl.length → sl.length - k < w → V.F o 2 = nI sl.length → (∀ i, i < sl.length → V.A (o + 1) i = sl.getD i 0) → stkV V o st →
    tot (gX1_worth_b8 n w o l c a t (nI k) V) (fun r => r.1 = ((sl.drop k).foldl (fun st x => stP l c a t x st) st).headD 0 ∧ frL o V r.2) := by
  intro w
  induction w with
  | zero => intro k V st _ h; omega
  | succ w ih =>
    intro k V st hk hw hF hA hst
    unfold gX1_worth_b8
    rw [hF]
    by_cases hc : k = sl.length
    · subst hc
      simp (disch := omega) only [fa_lit, ne_le, ne_lt, ne_eq', nI_add, pk_mul, pk_sub, rdA_n, wrA_n, rdL_n, wrL_n, nI_one, nI_bit1, nI_bit0, fa_or, fa_and, nI_df, nat31, Option.bind_some, m1_le0, m1_lt0, m1_eq, eq_m1, ite_nI, sub_m, pk_m1', not_lt0]
      rw [if_pos (Nat.le_refl _), List.drop_length]
      refine tot_bd (x1_pop hst) (fun r hr => ?_)
      exact tot_some ⟨hr.1, hr.2.2⟩
    · simp (disch := omega) only [fa_lit, ne_le, ne_lt, ne_eq', nI_add, pk_mul, pk_sub, rdA_n, wrA_n, rdL_n, wrL_n, nI_one, nI_bit1, nI_bit0, fa_or, fa_and, nI_df, nat31, Option.bind_some, m1_le0, m1_lt0, m1_eq, eq_m1, ite_nI, sub_m, pk_m1', not_lt0]
      rw [if_neg (by omega), hA k (by omega)]
      have hd : sl.drop k = sl.getD k 0 :: sl.drop (k + 1) := by
        rw [List.drop_eq_getElem_cons (by omega)]
        congr 1
        rw [List.getD_eq_getElem?_getD, List.getElem?_eq_getElem (by omega)]
        rfl
      rw [hd, List.foldl_cons]
      generalize hx : sl.getD k 0 = x
      have step : ∀ (W : VT), frL o V W → stkV W o (stP l c a t x st) → tot (gX1_worth_b8 n w o l c a t (nI (k + 1)) W) (fun r => r.1 = ((sl.drop (k + 1)).foldl (fun st x => stP l c a t x st) (stP l c a t x st)).headD 0 ∧ frL o V r.2) := by
        intro W hW hs
        refine tot_mo (ih (k + 1) W (stP l c a t x st) (by omega) (by omega) ?_ ?_ hs) (fun r hr => ⟨hr.1, hW.trans hr.2⟩)
        · rw [hW.2.2.2 o 2 (by omega), hF]
        · intro i hi
          rw [hW.2.2.1 (o + 1) (by omega), hA i hi]
      have two : stP l c a t x st = psh (jnd (x - 10000) (st.tail.headD 0) (st.headD 0)) st.tail.tail → nI 0 ≤ x - nI 10000 → tot (gX1_worth_b128 n (gX1_worth_b8 n w) o l c a t (nI k) (x - nI 10000) V) (fun r => r.1 = ((sl.drop (k + 1)).foldl (fun st x => stP l c a t x st) (stP l c a t x st)).headD 0 ∧ frL o V r.2) := by
        intro e hp
        unfold gX1_worth_b128
        simp (disch := omega) only [fa_lit, ne_le, ne_lt, ne_eq', nI_add, pk_mul, pk_sub, rdA_n, wrA_n, rdL_n, wrL_n, nI_one, nI_bit1, nI_bit0, fa_or, fa_and, nI_df, nat31, Option.bind_some, m1_le0, m1_lt0, m1_eq, eq_m1, ite_nI, sub_m, pk_m1', not_lt0]
        rw [if_pos hp]
        refine tot_bd (x1_pop hst) (fun r1 h1 => ?_)
        refine tot_bd (x1_pop h1.2.1) (fun r2 h2 => ?_)
        rw [x1_joined, Option.bind_some]
        refine tot_bd (x1_push h2.2.1 _) (fun W h3 => ?_)
        refine step W (h1.2.2.trans (h2.2.2.trans h3.2)) ?_
        rw [e, ← h1.1, ← h2.1]
        exact h3.1
      by_cases e15 : x - nI 10000 = nI 15
      · rw [if_pos e15]
        refine tot_bd (x1_pop hst) (fun r1 h1 => ?_)
        have e : stP l c a t x st = psh (if st.headD 0 = 0 then 1 else 0) st.tail := if_pos e15
        rw [h1.1]
        unfold gX1_worth_b122
        simp (disch := omega) only [fa_lit, ne_le, ne_lt, ne_eq', nI_add, pk_mul, pk_sub, rdA_n, wrA_n, rdL_n, wrL_n, nI_one, nI_bit1, nI_bit0, fa_or, fa_and, nI_df, nat31, Option.bind_some, m1_le0, m1_lt0, m1_eq, eq_m1, ite_nI, sub_m, pk_m1', not_lt0]
        split
        · rename_i h0
          refine tot_bd (x1_push h1.2.1 _) (fun W h3 => ?_)
          refine step W (h1.2.2.trans h3.2) ?_
          rw [e, if_pos (show st.headD 0 = 0 from h0)]
          exact h3.1
        · rename_i h0
          refine tot_bd (x1_push h1.2.1 _) (fun W h3 => ?_)
          refine step W (h1.2.2.trans h3.2) ?_
          rw [e, if_neg (show ¬ st.headD 0 = 0 from h0)]
          exact h3.1
      rw [if_neg e15]
      have b15 : ¬ x - 10000 = 15 := e15
      by_cases e16 : x - nI 10000 = nI 16
      · rw [if_pos e16]
        have h16 : x - 10000 = 16 := e16
        refine two ?_ (by rw [e16]; decide)
        unfold stP
        rw [if_neg b15, h16]
        rfl
      rw [if_neg e16]
      by_cases e17 : x - nI 10000 = nI 17
      · rw [if_pos e17]
        have h17 : x - 10000 = 17 := e17
        refine two ?_ (by rw [e17]; decide)
        unfold stP
        rw [if_neg b15, h17]
        rfl
      rw [if_neg e17]
      by_cases e18 : x - nI 10000 = nI 18
      · rw [if_pos e18]
        refine tot_bd (x1_push hst _) (fun W h3 => ?_)
        refine step W h3.2 ?_
        have e : stP l c a t x st = psh l st := by
          unfold stP
          rw [if_neg b15]
          exact if_pos e18
        rw [e]
        exact h3.1
      rw [if_neg e18]
      have b18 : ¬ x - 10000 = 18 := e18
      by_cases e19 : x - nI 10000 = nI 19
      · rw [if_pos e19]
        refine tot_bd (x1_push hst _) (fun W h3 => ?_)
        refine step W h3.2 ?_
        have e : stP l c a t x st = psh c st := by
          unfold stP
          rw [if_neg b15, if_neg b18]
          exact if_pos e19
        rw [e]
        exact h3.1
      rw [if_neg e19]
      have b19 : ¬ x - 10000 = 19 := e19
      by_cases e20 : x - nI 10000 = nI 20
      · rw [if_pos e20]
        refine tot_bd (x1_push hst _) (fun W h3 => ?_)
        refine step W h3.2 ?_
        have e : stP l c a t x st = psh a st := by
          unfold stP
          rw [if_neg b15, if_neg b18, if_neg b19]
          exact if_pos e20
        rw [e]
        exact h3.1
      rw [if_neg e20]
      have b20 : ¬ x - 10000 = 20 := e20
      by_cases e21 : x - nI 10000 = nI 21
      · rw [if_pos e21]
        refine tot_bd (x1_push hst _) (fun W h3 => ?_)
        refine step W h3.2 ?_
        have e : stP l c a t x st = psh t st := by
          unfold stP
          rw [if_neg b15, if_neg b18, if_neg b19, if_neg b20]
          exact if_pos e21
        rw [e]
        exact h3.1
      rw [if_neg e21]
      have b21 : ¬ x - 10000 = 21 := e21
      by_cases ep : nI 0 ≤ x - nI 10000
      · refine two ?_ ep
        unfold stP
        rw [if_neg b15, if_neg b18, if_neg b19, if_neg b20, if_neg b21]
        exact if_pos ep
      · have e : stP l c a t x st = psh x st := by
          unfold stP
          rw [if_neg b15, if_neg b18, if_neg b19, if_neg b20, if_neg b21]
          exact if_neg ep
        unfold gX1_worth_b128
        simp (disch := omega) only [fa_lit, ne_le, ne_lt, ne_eq', nI_add, pk_mul, pk_sub, rdA_n, wrA_n, rdL_n, wrL_n, nI_one, nI_bit1, nI_bit0, fa_or, fa_and, nI_df, nat31, Option.bind_some, m1_le0, m1_lt0, m1_eq, eq_m1, ite_nI, sub_m, pk_m1', not_lt0]
        rw [if_neg ep, hA k (by omega), hx]
        refine tot_bd (x1_push hst _) (fun W h3 => ?_)
        refine step W h3.2 ?_
        rw [e]
        exact h3.1
theorem x1_worth {V : VT} {o : Nat} {sl : List Int32} (hl : sl.length ≤ 1000) (l c a t : Int32) {n : Nat} (hn : 1000 < n) (hF : V.F o 2 = nI sl.length) (hA : ∀ i, i < sl.length → V.A (o + 1) i = sl.getD i 0) :
    tot (gX1_worth n o l c a t V) (fun r => r.1 = evP sl l c a t ∧ frL o V r.2) := by
  unfold gX1_worth
  rw [Option.bind_some]
  refine tot_mo (x1_worth_b8 hl l c a t n n 0 (wF V o 3 0) [] (by omega) (by omega) ?_ hA ⟨by simp, ?_, fun j hj => by simp at hj⟩) (fun r hr => ⟨hr.1, (frL_F _).trans hr.2⟩)
  · rw [wF_F, if_neg (by omega), hF]
  · rw [wF_F, if_pos ⟨rfl, rfl⟩]
    rfl
