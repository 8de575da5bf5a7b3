/-! PURE: the statements of a PAST: matter. -/
def adM (q : PP) (ls : List Nat) (k b t : Nat) : PP := (q.n + 1, upN q.kd q.n k, upN q.bi q.n b, upN q.to q.n t, upN q.le q.n 0, q.kn, q.ad, q.fu, q.tk, fun m => if m = q.n then ls else q.nm m)
theorem adM_at (q : PP) (ls : List Nat) (k b t : Nat) : (adM q ls k b t).n = q.n + 1 ∧ (adM q ls k b t).kd q.n = k ∧ (adM q ls k b t).bi q.n = b ∧ (adM q ls k b t).to q.n = t ∧ (adM q ls k b t).le q.n = 0 ∧ (adM q ls k b t).nm q.n = ls := ⟨rfl, if_pos rfl, if_pos rfl, if_pos rfl, if_pos rfl, if_pos rfl⟩
theorem adM_ne (q : PP) (ls : List Nat) (k b t : Nat) {m : Nat} (h : m ≠ q.n) : (adM q ls k b t).kd m = q.kd m ∧ (adM q ls k b t).bi m = q.bi m ∧ (adM q ls k b t).to m = q.to m ∧ (adM q ls k b t).le m = q.le m ∧ (adM q ls k b t).nm m = q.nm m := ⟨if_neg h, if_neg h, if_neg h, if_neg h, if_neg h⟩
theorem adM_good {q : PP} {ls : List Nat} {k b t : Nat} (g : GoodP q) (gn : GoodN q) (h7 : q.n < 7) (hw : isW ls ∧ ls.length ≤ 8) (hk : k ≤ 3) (hb : b ≤ 99) (ht : t ≤ 40) : GoodP (adM q ls k b t) ∧ GoodN (adM q ls k b t) := by
  obtain ⟨a1, a2, a3, a4, a5, a6⟩ := adM_at q ls k b t
  have h2 : (2 : Nat) ^ q.n ≤ 2 ^ (q.n + 1) := Nat.pow_le_pow_right (by decide) (by omega)
  have hp := Nat.two_pow_pos (q.n + 1)
  refine ⟨⟨by rw [a1]; omega, fun m hm => ?_, fun m o hm ho hl => ?_, g.2.2.2.1, g.2.2.2.2⟩, fun m hm => ?_⟩
  · rw [a1] at hm ⊢
    by_cases e : m = q.n
    · subst e
      rw [a2, a3, a4, a5]
      exact ⟨hk, hb, ht, hp⟩
    · obtain ⟨b1, b2, b3, b4, b5⟩ := adM_ne q ls k b t e
      rw [b1, b2, b3, b4]
      have := g.2.1 m (by omega)
      omega
  · rw [a1] at hm ho
    by_cases e : m = q.n
    · subst e
      rw [a5, Nat.zero_testBit] at hl
      cases hl
    · obtain ⟨b1, b2, b3, b4, b5⟩ := adM_ne q ls k b t e
      rw [b4] at hl
      have hm2 : m < q.n := by omega
      have ho2 : o < q.n := tb_out (g.2.1 m hm2).2.2.2 hl
      obtain ⟨c1, c2, c3, c4, c5⟩ := adM_ne q ls k b t (m := o) (by omega)
      rw [b2, c2]
      exact g.2.2.1 m o hm2 ho2 hl
  · rw [a1] at hm
    by_cases e : m = q.n
    · subst e
      rw [a6]
      exact hw
    · obtain ⟨b1, b2, b3, b4, b5⟩ := adM_ne q ls k b t e
      rw [b5]
      exact gn m (by omega)
theorem wL_A (V : VT) (a k : Nat) (x : Int64) : (wL V a k x).A = V.A := rfl
section PMatter
variable {tp : List Nat} {T a N : Nat} {D : DST}
theorem DrC.nm {V : VT} (h : DrC V T D) (g : GoodD D) : NmC V T D.q := ⟨g.1.1, h.1.1, fun m hm => (h.2.1 m hm).2.2.2.2⟩
theorem NmC.rw {V W : VT} {q : PP} (h : NmC V T q) (hT : T = 6 ∨ T = 15) (f : rwe V W) : NmC W T q := ⟨h.1, by rw [f.2.2 T (by omega)]; exact h.2.1, fun m hm => by rw [f.2.1]; exact h.2.2 m hm⟩
theorem DrM.nm {V : VT} (h : DrM V D) (g : GoodD D) : NmM V 1 D.q := ⟨g.1.1, h.1.1, fun m hm => (h.2.2.1 m hm).2.2.2.2⟩
theorem NmM.mw {V W : VT} {r : Nat} {q : PP} (h : NmM V r q) (f : mwn V W) : NmM W r q := ⟨h.1, by rw [f.1]; exact h.2.1, fun m hm => by rw [f.2.1]; exact h.2.2 m hm⟩
/-- the fault's way of a matter -/
def sMt (tp : List Nat) (q : PP) (a : Nat) : PS := sG tp 59 (sN tp 0 40 (sK tp 2 (sN tp 0 99 (sK tp 1 (sKd tp (sNew tp q (enN tp a, 0)))))))
theorem t_matter (ht : GoodT tp) (hN : 1000 < N) (hT : T = 6 ∨ T = 15) (ha : a ≤ tp.length) (g : GoodD D) (h0 : tyN tp a ≠ 0) : ∃ s D', Stm tp T a D s D' (fun V => (gX4_readMatter N T V).bind fun V2 => gX6_takeSign N (nI 59) V2) (fun V => gX10_readsMatter N V) := by
  have hn := g.1.1
  by_cases h7 : D.q.n < 7
  · generalize hs1 : sNew tp D.q (enN tp a, 0) = s1
    generalize hs2 : sKd tp s1 = s2
    generalize hs3 : sK tp 1 s2 = s3
    generalize hs4 : sN tp 0 99 s3 = s4
    generalize hs5 : sK tp 2 s4 = s5
    generalize hs6 : sN tp 0 40 s5 = s6
    generalize hs7 : sG tp 59 s6 = s7
    have o0 : okS tp (enN tp a, 0) := ok_e ha
    have o1 : okS tp s1 := by rw [← hs1]; exact ok_New ht o0 _
    have o2 : okS tp s2 := by rw [← hs2]; exact ok_Kd ht o1
    have o3 : okS tp s3 := by rw [← hs3]; exact ok_K ht o2 _
    have o4 : okS tp s4 := by rw [← hs4]; exact ok_N ht o3 _ _
    have o5 : okS tp s5 := by rw [← hs5]; exact ok_K ht o4 _
    have o6 : okS tp s6 := by rw [← hs6]; exact ok_N ht o5 _ _
    have o7 : okS tp s7 := by rw [← hs7]; exact ok_G ht o6 _
    have i7 : s7.2 = 0 → s6.2 = 0 ∧ tyN tp s6.1 = 59 ∧ s7 = (enN tp s6.1, 0) := fun z => by rw [← hs7] at z ⊢; exact sG_0 z
    have i6 : s6.2 = 0 → s5.2 = 0 ∧ (tyN tp s5.1 = 3 ∧ 0 ≤ nuN tp s5.1 ∧ nuN tp s5.1 ≤ 40) ∧ s6 = (enN tp s5.1, 0) := fun z => by rw [← hs6] at z ⊢; exact sN_0 z
    have i5 : s5.2 = 0 → s4.2 = 0 ∧ kN tp s4.1 = 2 ∧ s5 = (enN tp s4.1, 0) := fun z => by rw [← hs5] at z ⊢; exact sK_0 z
    have i4 : s4.2 = 0 → s3.2 = 0 ∧ (tyN tp s3.1 = 3 ∧ 0 ≤ nuN tp s3.1 ∧ nuN tp s3.1 ≤ 99) ∧ s4 = (enN tp s3.1, 0) := fun z => by rw [← hs4] at z ⊢; exact sN_0 z
    have i3 : s3.2 = 0 → s2.2 = 0 ∧ kN tp s2.1 = 1 ∧ s3 = (enN tp s2.1, 0) := fun z => by rw [← hs3] at z ⊢; exact sK_0 z
    have i2 : s2.2 = 0 → s1.2 = 0 ∧ (11 ≤ kN tp s1.1 ∧ kN tp s1.1 ≤ 14) ∧ s2 = (enN tp s1.1, 0) := fun z => by rw [← hs2] at z ⊢; exact sKd_0 z
    have i1 : s1.2 = 0 → tyN tp (enN tp a) = 2 ∧ s1 = (enN tp (enN tp a), 0) := fun z => by rw [← hs1] at z ⊢; exact (sNew_0 z).2
    have lt1 := en_lt2 ha h0
    have lt2 : s7.2 = 0 → a < s7.1 := by
      intro z
      obtain ⟨z6, y6, e7⟩ := i7 z
      obtain ⟨z5, y5, e6⟩ := i6 z6
      obtain ⟨z4, y4, e5⟩ := i5 z5
      obtain ⟨z3, y3, e4⟩ := i4 z4
      obtain ⟨z2, y2, e3⟩ := i3 z3
      obtain ⟨z1, y1, e2⟩ := i2 z2
      obtain ⟨y0, e1⟩ := i1 z1
      have le : ∀ b, b ≤ tp.length → b ≤ enN tp b := fun b hb => Nat.le_trans (pl_le hb).1 (en_le hb).1
      have l1 := le (enN tp a) o0.1
      have l2 := le s1.1 o1.1
      have l3 := le s2.1 o2.1
      have l4 := le s3.1 o3.1
      have l5 := le s4.1 o4.1
      have l6 := le s5.1 o5.1
      have l7 := le s6.1 o6.1
      have q1 : s1.1 = enN tp (enN tp a) := by rw [e1]
      have q2 : s2.1 = enN tp s1.1 := by rw [e2]
      have q3 : s3.1 = enN tp s2.1 := by rw [e3]
      have q4 : s4.1 = enN tp s3.1 := by rw [e4]
      have q5 : s5.1 = enN tp s4.1 := by rw [e5]
      have q6 : s6.1 = enN tp s5.1 := by rw [e6]
      have q7 : s7.1 = enN tp s6.1 := by rw [e7]
      omega
    refine ⟨s7, (adM D.q (woN tp (enN tp a)) (kN tp s1.1 - 11) (nuN tp s3.1) (nuN tp s5.1), D.v, D.b, D.cs), ⟨o7.1, o7.2, fun z => ⟨?_, lt2 z⟩⟩, fun V hC hD => ?_, fun V hC hD => ?_⟩
    · obtain ⟨z6, y6, e7⟩ := i7 z
      obtain ⟨z5, y5, e6⟩ := i6 z6
      obtain ⟨z4, y4, e5⟩ := i5 z5
      obtain ⟨z3, y3, e4⟩ := i4 z4
      obtain ⟨z2, y2, e3⟩ := i3 z3
      obtain ⟨z1, y1, e2⟩ := i2 z2
      obtain ⟨y0, e1⟩ := i1 z1
      have gg := adM_good g.1 g.2.1 h7 (wo_W y0 o0.1) (show kN tp s1.1 - 11 ≤ 3 by omega) y3.2.2 y5.2.2
      exact ⟨gg.1, gg.2, g.2.2⟩
    · have e6 : V.F T 6 = nI D.q.n := hD.1.1
      dsimp only
      unfold gX4_readMatter
      rw [e6, if_pos (show nI D.q.n < 7 from nI_lt (b := 7) h7 (by omega))]
      refine tot_bd (R := fun W => AL W tp s6 ∧ dfr T V W ∧ (s6.2 = 0 → DrC W T (adM D.q (woN tp (enN tp a)) (kN tp s1.1 - 11) (nuN tp s3.1) (nuN tp s5.1), D.v, D.b, D.cs))) ?_ (fun W hW => ?_)
      · refine tot_bd (c_adv ht hN ha hC) (fun V1 h1 => ?_)
        have A1 : AL V1 tp (enN tp a, 0) := AL.rc h1.1 o0.1
        have N1 := (hD.nm g).rw hT h1.2.e
        refine tot_bd (k_New ht hN A1 N1 g.2.1) (fun r2 h2 => ?_)
        rw [hs1] at h2
        obtain ⟨A2, x2, f2⟩ := h2
        have F2 : rwe V r2.2 := h1.2.e.trans f2
        rw [wrL_n (by omega) (by omega), Option.bind_some]
        have F3 : rwe (wL V (T + 1) D.q.n r2.1) (wL r2.2 (T + 1) D.q.n r2.1) := rwe_wL F2 _ _ _
        have A3 : AL (wL r2.2 (T + 1) D.q.n r2.1) tp s1 := A2.cg rfl rfl rfl
        generalize wL r2.2 (T + 1) D.q.n r2.1 = V3 at F3 A3
        refine tot_bd (k_Kd ht hN A3) (fun r4 h4 => ?_)
        rw [hs2] at h4
        obtain ⟨A4, x4, f4⟩ := h4
        rw [wrA_n (by omega) (by omega), Option.bind_some]
        have F5 := rwe_wA (F3.trans f4) (T + 2) D.q.n r4.1
        have A5 : AL (wA r4.2 (T + 2) D.q.n r4.1) tp s2 := A4.cg (wA_n _ _ _ (by omega)) rfl rfl
        generalize wA r4.2 (T + 2) D.q.n r4.1 = V5 at F5 A5
        rw [show (1 : Int32) = nI 1 from rfl]
        refine tot_bd (k_K ht hN A5 (by omega)) (fun V6 h6 => ?_)
        rw [hs3] at h6
        rw [show (0 : Int32) = nI 0 from rfl, show (99 : Int32) = nI 99 from rfl]
        refine tot_bd (k_N ht hN h6.1 (by omega) (by omega)) (fun r7 h7' => ?_)
        rw [hs4] at h7'
        obtain ⟨A7, x7, f7⟩ := h7'
        rw [wrA_n (by omega) (by omega), Option.bind_some]
        have F8 := rwe_wA ((F5.trans h6.2).trans f7) (T + 3) D.q.n r7.1
        have A8 : AL (wA r7.2 (T + 3) D.q.n r7.1) tp s4 := A7.cg (wA_n _ _ _ (by omega)) rfl rfl
        generalize wA r7.2 (T + 3) D.q.n r7.1 = V8 at F8 A8
        rw [show (2 : Int32) = nI 2 from rfl]
        refine tot_bd (k_K ht hN A8 (by omega)) (fun V9 h9 => ?_)
        rw [hs5] at h9
        rw [show (40 : Int32) = nI 40 from rfl]
        refine tot_bd (k_N ht hN h9.1 (by omega) (by omega)) (fun r10 h10 => ?_)
        rw [hs6] at h10
        obtain ⟨A10, x10, f10⟩ := h10
        rw [wrA_n (by omega) (by omega), Option.bind_some, wrA_n (by omega) (by omega), Option.bind_some, show nI D.q.n + nI 1 = nI (D.q.n + 1) from nI_add _ _, Option.bind_some]
        have F12 := rwe_wF (rwe_wA (rwe_wA ((F8.trans h9.2).trans f10) (T + 4) D.q.n r10.1) (T + 5) D.q.n (nI 0)) (show T ≠ 3 by omega) 6 (nI (D.q.n + 1))
        have A12 : AL (wF (wA (wA r10.2 (T + 4) D.q.n r10.1) (T + 5) D.q.n (nI 0)) T 6 (nI (D.q.n + 1))) tp s6 := A10.cg (by rw [wF_A, wA_n _ _ _ (by omega), wA_n _ _ _ (by omega)]) (by funext k; rw [wF_F, if_neg (by omega)]; rfl) rfl
        generalize wF (wA (wA r10.2 (T + 4) D.q.n r10.1) (T + 5) D.q.n (nI 0)) T 6 (nI (D.q.n + 1)) = V12 at F12 A12
        refine tot_some ⟨A12, ?_, fun z6 => ?_⟩
        · refine dfr.trans ?_ (F12.d T)
          exact ((((((dfr_L _ _ (by omega)).trans (dfr_A _ _ (by omega))).trans (dfr_A _ _ (by omega))).trans (dfr_A _ _ (by omega))).trans (dfr_A _ _ (by omega))).trans (dfr_F _ _ (by omega)))
        · obtain ⟨z5, y5, e6'⟩ := i6 z6
          obtain ⟨z4, y4, e5⟩ := i5 z5
          obtain ⟨z3, y3, e4⟩ := i4 z4
          obtain ⟨z2, y2, e3⟩ := i3 z3
          obtain ⟨z1, y1, e2⟩ := i2 z2
          rw [x2 z1, x4 z2, x7 z4, x10 z6] at F12
          obtain ⟨f1, f2', f3⟩ := F12
          obtain ⟨⟨d1, d2, d3, d4, d5⟩, d6, sl, d7, d8⟩ := hD
          have fT : ∀ k, V12.F T k = if k = 6 then nI (D.q.n + 1) else V.F T k := by
            intro k
            rw [f3 T (by omega), wF_F]
            by_cases e : k = 6
            · rw [if_pos ⟨rfl, e⟩, if_pos e]
            · rw [if_neg (fun q => e q.2), if_neg e]
              rfl
          refine ⟨⟨?_, ?_, ?_, ?_, ?_⟩, fun m hm => ?_, sl, ⟨d7.1, ?_, fun i hi => ?_⟩, d8⟩
          · rw [fT, if_pos rfl]
            rfl
          · rw [fT, if_neg (by omega)]
            exact d2
          · rw [fT, if_neg (by omega)]
            exact d3
          · rw [fT, if_neg (by omega)]
            exact d4
          · rw [fT, if_neg (by omega)]
            exact d5
          · have hm : m < D.q.n + 1 := hm
            show _ = nI ((adM D.q (woN tp (enN tp a)) (kN tp s1.1 - 11) (nuN tp s3.1) (nuN tp s5.1)).kd m) ∧ _ = nI ((adM D.q (woN tp (enN tp a)) (kN tp s1.1 - 11) (nuN tp s3.1) (nuN tp s5.1)).bi m) ∧ _ = nI ((adM D.q (woN tp (enN tp a)) (kN tp s1.1 - 11) (nuN tp s3.1) (nuN tp s5.1)).to m) ∧ _ = nI ((adM D.q (woN tp (enN tp a)) (kN tp s1.1 - 11) (nuN tp s3.1) (nuN tp s5.1)).le m) ∧ _ = lN (e32 ((adM D.q (woN tp (enN tp a)) (kN tp s1.1 - 11) (nuN tp s3.1) (nuN tp s5.1)).nm m))
            rw [f1, f2']
            by_cases e : m = D.q.n
            · subst e
              obtain ⟨a1, a2, a3, a4, a5, a6⟩ := adM_at D.q (woN tp (enN tp a)) (kN tp s1.1 - 11) (nuN tp s3.1) (nuN tp s5.1)
              rw [a2, a3, a4, a5, a6]
              simp only [wF_A, wF_L, wA_L, wA_A, wL_L]
              refine ⟨?_, ?_, ?_, ?_, ?_⟩
              · rw [if_neg (by omega), if_neg (by omega), if_neg (by omega), if_pos (by simp)]
              · rw [if_neg (by omega), if_neg (by omega), if_pos (by simp)]
              · rw [if_neg (by omega), if_pos (by simp)]
              · rw [if_pos (by simp)]
              · rw [if_pos (by simp)]
            · obtain ⟨b1, b2, b3, b4, b5⟩ := adM_ne D.q (woN tp (enN tp a)) (kN tp s1.1 - 11) (nuN tp s3.1) (nuN tp s5.1) e
              have d9 := d6 m (by omega)
              rw [b1, b2, b3, b4, b5]
              simp only [wF_A, wF_L, wA_L, wA_A, wL_L]
              rw [if_neg (by omega), if_neg (by omega), if_neg (by omega), if_neg (by omega), if_neg (by omega), if_neg (by omega), if_neg (by omega), if_neg (by omega), if_neg (by omega), if_neg (by omega), if_neg (by omega), if_neg (by omega), if_neg (by omega), if_neg (by omega), if_neg (by omega), if_neg (by omega), if_neg (by omega)]
              exact d9
          · rw [f3 (T + 6) (by omega), wF_F, if_neg (by omega)]
            exact d7.2.1
          · rw [f1]
            simp only [wF_A, wA_A]
            rw [if_neg (by omega), if_neg (by omega), if_neg (by omega), if_neg (by omega)]
            exact d7.2.2 i hi
      · obtain ⟨A6, w2, w3⟩ := hW
        refine tot_mo (k_G ht hN A6 (by omega)) (fun X hX => ?_)
        rw [hs7] at hX
        refine ⟨hX.1, fun z => ?_, w2.trans (hX.2.d T)⟩
        obtain ⟨⟨d1, d2, d3, d4, d5⟩, d6, sl, d7, d8⟩ := w3 (i7 z).1
        obtain ⟨x1, x2, x3⟩ := hX.2
        refine ⟨by rw [x3 T (by omega)]; exact ⟨d1, d2, d3, d4, d5⟩, fun m hm => by rw [x1, x2]; exact d6 m hm, sl, d7.rw (by omega) hX.2, d8⟩
    · have d1 := hD.1.1
      have e7 : (7 : Int32) + V.A 139 4 = nI (7 + D.q.n) := by rw [d1]; exact nI_add 7 _
      dsimp only
      unfold gX10_readsMatter
      rw [e7, if_neg (show ¬ nI (7 + D.q.n) = 14 from nI_ne (b := 14) (by omega) (by omega) (by omega))]
      refine tot_bd (m_next ht hN ha hC) (fun V2 h2 => ?_)
      have N2 := (hD.nm g).mw h2.2.n
      rw [m_kept h2.1 o0.1, Option.bind_some]
      dsimp only
      have stop1 : ∀ (s : PS) (V3 : VT) (r : Int32 × VT), s.2 ≠ 0 → MO V3 tp s r → s7 = s → dmf V V3 → ((s7.2 ≠ 0 → r.1 = nI 0 ∧ r.2.F 137 9 = nI s7.2) ∧ (s7.2 = 0 → r.1 = nI 1 ∧ MC r.2 tp s7.1 ∧ DrM r.2 (adM D.q (woN tp (enN tp a)) (kN tp s1.1 - 11) (nuN tp s3.1) (nuN tp s5.1), D.v, D.b, D.cs)) ∧ dmf V r.2) := by
        intro s V3 r hs hM e f
        rw [e]
        exact ⟨fun z => hM.2.1 hs, fun z => absurd z hs, f.trans hM.2.2.2.d⟩
      have dead : ∀ s : PS, s.2 ≠ 0 → (s1 = s → s7 = s) ∧ (s2 = s → s7 = s) ∧ (s4 = s → s7 = s) ∧ (s6 = s → s7 = s) := by
        intro s hs
        obtain ⟨c1, c2, -, -, -⟩ := s_dead (tp := tp) (s := s) (k := 1) (lo := 0) (hi := 99) (q := D.q) hs 59
        obtain ⟨-, -, c3, -, c5⟩ := s_dead (tp := tp) (s := s) (k := 1) (lo := 0) (hi := 99) (q := D.q) hs 59
        obtain ⟨-, c2', c3', -, -⟩ := s_dead (tp := tp) (s := s) (k := 2) (lo := 0) (hi := 40) (q := D.q) hs 59
        have f6 : s6 = s → s7 = s := fun e => by rw [← hs7, e, c1]
        have f4 : s4 = s → s7 = s := fun e => f6 (by rw [← hs6, ← hs5, e, c2', c3'])
        have f2 : s2 = s → s7 = s := fun e => f4 (by rw [← hs4, ← hs3, e, c2, c3])
        exact ⟨fun e => f2 (by rw [← hs2, e, c5]), f2, f4, f6⟩
      unfold sNew at hs1
      rw [if_pos rfl] at hs1
      dsimp only at hs1
      by_cases en : nmB tp (enN tp a) = true
      · have t2 : tyN tp (enN tp a) = 2 := (of_decide_eq_true en).1
        have hw := wo_W t2 o0.1
        rw [if_pos en] at hs1
        rw [if_pos en, if_pos (by rfl), show (1 : Int32) = nI 1 from rfl, m_find hN (by omega) N2 g.2.1 hw (h2.1.2.2.2.2.2 t2), Option.bind_some]
        dsimp only
        have ml := oI_lt (b := nmF D.q (woN tp (enN tp a))) (fun j hj => by have := nmF_lt hj; omega)
        by_cases ef : nmF D.q (woN tp (enN tp a)) = none
        · rw [if_pos ef] at hs1
          rw [if_pos (ml.mpr ef)]
          have z1 : s1.2 = 0 := by rw [← hs1]
          have q1 : s1.1 = enN tp (enN tp a) := by rw [← hs1]
          refine tot_bd (m_next ht hN o0.1 h2.1) (fun V5 h5 => ?_)
          rw [← q1] at h5
          rw [h2.1.2.2.2.2.2 t2]
          have F5 : mwn V V5 := h2.2.n.trans h5.2.n
          have w11 := m_isW (k := 11) h5.1 o1.1 (by omega) (show (8740238 : Int64) = lN (c27L.getD 11 0) from rfl)
          have w12 := m_isW (k := 12) h5.1 o1.1 (by omega) (show (29637824 : Int64) = lN (c27L.getD 12 0) from rfl)
          have w13 := m_isW (k := 13) h5.1 o1.1 (by omega) (show (8984627224 : Int64) = lN (c27L.getD 13 0) from rfl)
          have w14 := m_isW (k := 14) h5.1 o1.1 (by omega) (show (335098125 : Int64) = lN (c27L.getD 14 0) from rfl)
          have bad : ¬ (11 ≤ kN tp s1.1 ∧ kN tp s1.1 ≤ 14) → tot (gX10_readsMatter_b124 N (nI (7 + D.q.n)) (lN (e27 (woN tp (enN tp a)))) (-nI 1) (nI (7 + D.q.n)) 141 14 V5) (fun r => (s7.2 ≠ 0 → r.1 = nI 0 ∧ r.2.F 137 9 = nI s7.2) ∧ (s7.2 = 0 → r.1 = nI 1 ∧ MC r.2 tp s7.1 ∧ DrM r.2 (adM D.q (woN tp (enN tp a)) (kN tp s1.1 - 11) (nuN tp s3.1) (nuN tp s5.1), D.v, D.b, D.cs)) ∧ dmf V r.2) := by
            intro hno
            unfold gX10_readsMatter_b124
            rw [wrA_n (by omega) (by omega), Option.bind_some, rdA_n (by omega) (by omega), Option.bind_some, show (wA V5 141 (7 + D.q.n) (-nI 1)).A 141 (7 + D.q.n) = -nI 1 by rw [wA_A, if_pos ⟨rfl, rfl⟩], if_neg (by decide), show (1 : Int32) = nI 1 from rfl]
            have es2 : s2 = (s1.1, 1 + 16 * plN tp s1.1) := by
              rw [← hs2]
              unfold sKd
              rw [if_pos z1, if_neg hno]
            have hM6 : MC (wA V5 141 (7 + D.q.n) (-nI 1)) tp s1.1 := h5.1.cg (wA_n _ _ _ (by omega)) (fun k _ _ => rfl) rfl
            have hne : (s1.1, 1 + 16 * plN tp s1.1).2 ≠ 0 := by show 1 + 16 * plN tp s1.1 ≠ 0; omega
            exact tot_mo (MO.bad (k := 1) hM6 o1.1 (by omega) rfl) (fun r hr => stop1 _ _ r hne hr ((dead _ hne).2.1 es2) (F5.d.trans (dmf_A _ (by omega))))
          have good : ∀ k, kN tp s1.1 = 11 + k → k ≤ 3 → tot (gX10_readsMatter_b124 N (nI (7 + D.q.n)) (lN (e27 (woN tp (enN tp a)))) (nI k) (nI (7 + D.q.n)) 141 14 V5) (fun r => (s7.2 ≠ 0 → r.1 = nI 0 ∧ r.2.F 137 9 = nI s7.2) ∧ (s7.2 = 0 → r.1 = nI 1 ∧ MC r.2 tp s7.1 ∧ DrM r.2 (adM D.q (woN tp (enN tp a)) (kN tp s1.1 - 11) (nuN tp s3.1) (nuN tp s5.1), D.v, D.b, D.cs)) ∧ dmf V r.2) := by
            intro k ek hk3
            have es2 : s2 = (enN tp s1.1, 0) := by
              rw [← hs2]
              unfold sKd
              rw [if_pos z1, if_pos (by omega)]
            have q2 : s2.1 = enN tp s1.1 := by rw [es2]
            have z2 : s2.2 = 0 := by rw [es2]
            have e2 : s2 = (s2.1, 0) := by rw [es2]
            unfold gX10_readsMatter_b124
            rw [wrA_n (by omega) (by omega), Option.bind_some, rdA_n (by omega) (by omega), Option.bind_some, show (wA V5 141 (7 + D.q.n) (nI k)).A 141 (7 + D.q.n) = nI k by rw [wA_A, if_pos ⟨rfl, rfl⟩], if_pos (show (0 : Int32) ≤ nI k from nI_pos' (by omega))]
            have hM6 : MC (wA V5 141 (7 + D.q.n) (nI k)) tp s1.1 := h5.1.cg (wA_n _ _ _ (by omega)) (fun k _ _ => rfl) rfl
            have F6 := mwn_wA F5 141 (7 + D.q.n) (nI k)
            generalize wA V5 141 (7 + D.q.n) (nI k) = V6 at hM6 F6
            refine tot_bd (m_next ht hN o1.1 hM6) (fun V7 h7' => ?_)
            rw [← q2] at h7'
            have F7 := F6.trans h7'.2.n
            rw [show (0 : Int32) = nI 0 from rfl, show (99 : Int32) = nI 99 from rfl]
            have D7 : dmf V (wA V 141 (7 + D.q.n) (nI k)) := dmf_A _ (by omega)
            refine tot_bd (mo_both (k := 1) ht hN h7'.1 o2.1 (by omega) (show (257 : Int64) = lN (c27L.getD 1 0) from rfl) (by omega) (by omega)) (fun r8 h8 => ?_)
            rw [← e2, hs3, hs4] at h8
            by_cases z4 : s4.2 = 0
            · obtain ⟨z3, y3, e4⟩ := i4 z4
              obtain ⟨-, y2, e3⟩ := i3 z3
              have q3 : s3.1 = enN tp s2.1 := by rw [e3]
              have q4 : s4 = (s4.1, 0) := by rw [e4]
              obtain ⟨m1, m2⟩ := h8.1.2.2.1 z4
              rw [m1, if_neg (by decide), wrA_n (by omega) (by omega), Option.bind_some, h8.2 z4, ← q3]
              have F9 := mwn_wA (F7.trans h8.1.2.2.2) 142 (7 + D.q.n) (nI (nuN tp s3.1))
              have M9 : MC (wA r8.2 142 (7 + D.q.n) (nI (nuN tp s3.1))) tp s4.1 := m2.cg (wA_n _ _ _ (by omega)) (fun k _ _ => rfl) rfl
              generalize wA r8.2 142 (7 + D.q.n) (nI (nuN tp s3.1)) = V9 at F9 M9
              have D9 := D7.trans (dmf_A (V := wA V 141 (7 + D.q.n) (nI k)) (a := 142) (k := 7 + D.q.n) (nI (nuN tp s3.1)) (by omega))
              rw [show (40 : Int32) = nI 40 from rfl]
              refine tot_bd (mo_both (k := 2) ht hN M9 o4.1 (by omega) (show (385497 : Int64) = lN (c27L.getD 2 0) from rfl) (by omega) (by omega)) (fun r10 h10 => ?_)
              rw [← q4, hs5, hs6] at h10
              by_cases z6 : s6.2 = 0
              · obtain ⟨z5, y5, e6⟩ := i6 z6
                obtain ⟨-, y4, e5⟩ := i5 z5
                have q5 : s5.1 = enN tp s4.1 := by rw [e5]
                have q6 : s6 = (s6.1, 0) := by rw [e6]
                obtain ⟨m3, m4⟩ := h10.1.2.2.1 z6
                rw [m3, if_neg (by decide), h10.2 z6, ← q5, wrA_n (by omega) (by omega), Option.bind_some, wrA_n (by omega) (by omega), Option.bind_some, wrL_n (by omega) (by omega), Option.bind_some]
                have F11 := mwn_wL (mwn_wA (mwn_wA (F9.trans h10.1.2.2.2) 143 (7 + D.q.n) (nI (nuN tp s5.1))) 144 (7 + D.q.n) (nI 0)) 140 (7 + D.q.n) (lN (e27 (woN tp (enN tp a))))
                have M11 : MC (wL (wA (wA r10.2 143 (7 + D.q.n) (nI (nuN tp s5.1))) 144 (7 + D.q.n) (nI 0)) 140 (7 + D.q.n) (lN (e27 (woN tp (enN tp a))))) tp s6.1 := m4.cg (by rw [wL_A, wA_n _ _ _ (by omega), wA_n _ _ _ (by omega)]) (fun k _ _ => rfl) rfl
                have D11 := ((D9.trans (dmf_A (a := 143) (k := 7 + D.q.n) (nI (nuN tp s5.1)) (by omega))).trans (dmf_A (a := 144) (k := 7 + D.q.n) (nI 0) (by omega))).trans (dmf_L (k := 7 + D.q.n) (lN (e27 (woN tp (enN tp a)))) (by omega))
                generalize hU : wL (wA (wA (wA (wA V 141 (7 + D.q.n) (nI k)) 142 (7 + D.q.n) (nI (nuN tp s3.1))) 143 (7 + D.q.n) (nI (nuN tp s5.1))) 144 (7 + D.q.n) (nI 0)) 140 (7 + D.q.n) (lN (e27 (woN tp (enN tp a)))) = U at F11 D11
                generalize wL (wA (wA r10.2 143 (7 + D.q.n) (nI (nuN tp s5.1))) 144 (7 + D.q.n) (nI 0)) 140 (7 + D.q.n) (lN (e27 (woN tp (enN tp a)))) = V11 at F11 M11
                have e4' : V11.A 139 4 = nI D.q.n := by
                  rw [F11.1, ← hU, wL_A, wA_n _ _ _ (by omega), wA_n _ _ _ (by omega), wA_n _ _ _ (by omega), wA_n _ _ _ (by omega)]
                  exact d1
                rw [e4', show nI D.q.n + 1 = nI (D.q.n + 1) from nI_1 _, Option.bind_some]
                have F12 := mwn_wA F11 139 4 (nI (D.q.n + 1))
                have M12 : MC (wA V11 139 4 (nI (D.q.n + 1))) tp s6.1 := M11.cg (wA_n _ _ _ (by omega)) (fun k _ _ => rfl) rfl
                have D12 := D11.trans (dmf_A (a := 139) (k := 4) (nI (D.q.n + 1)) (by omega))
                generalize wA V11 139 4 (nI (D.q.n + 1)) = V12 at F12 M12
                refine tot_bd (mo_closes ht hN M12 o6.1) (fun r13 h13 => ?_)
                rw [h13.b, Option.bind_some]
                rw [← q6, hs7] at h13
                refine tot_some ⟨h13.2.1, fun z7 => ⟨(h13.2.2.1 z7).1, (h13.2.2.1 z7).2, ?_⟩, (D12.trans F12.d).trans h13.2.2.2.d⟩
                have FF := F12.trans h13.2.2.2
                obtain ⟨f1, f2, f3⟩ := FF
                obtain ⟨⟨c1, c2, c3, c4⟩, c5, c6, c7, c8, c9⟩ := hD
                dsimp only
                have fA : ∀ i j, r13.2.A i j = if i = 139 ∧ j = 4 then nI (D.q.n + 1) else if i = 144 ∧ j = 7 + D.q.n then nI 0 else if i = 143 ∧ j = 7 + D.q.n then nI (nuN tp s5.1) else if i = 142 ∧ j = 7 + D.q.n then nI (nuN tp s3.1) else if i = 141 ∧ j = 7 + D.q.n then nI k else V.A i j := by
                  intro i j
                  rw [f1, wA_A, ← hU, wL_A, wA_A, wA_A, wA_A, wA_A]
                have fL : ∀ j, r13.2.L 140 j = if j = 7 + D.q.n then lN (e27 (woN tp (enN tp a))) else V.L 140 j := by
                  intro j
                  rw [f2, wA_L, ← hU, wL_L]
                  by_cases e : j = 7 + D.q.n
                  · rw [if_pos ⟨rfl, e⟩, if_pos e]
                  · rw [if_neg (fun q => e q.2), if_neg e]
                    rfl
                have fF : ∀ k, k ≠ 33 → ¬ (4 ≤ k ∧ k ≤ 9) → r13.2.F 137 k = V.F 137 k := by
                  intro k h1 h2
                  rw [f3 137 k (by omega), ← hU]
                  rfl
                have fO : ∀ i j, ¬ (i = 139 ∧ j = 4) → ¬ (141 ≤ i ∧ i ≤ 144 ∧ j = 7 + D.q.n) → r13.2.A i j = V.A i j := by
                  intro i j h1 h2
                  rw [fA, if_neg h1, if_neg (by omega), if_neg (by omega), if_neg (by omega), if_neg (by omega)]
                refine ⟨⟨?_, ?_, ?_, ?_⟩, ?_, fun m hm => ?_, ?_, ?_, ⟨?_, fun i hi => ?_⟩⟩
                · rw [fA, if_pos ⟨rfl, rfl⟩]
                  rfl
                · rw [fO _ _ (by omega) (by omega)]
                  exact c2
                · rw [fO _ _ (by omega) (by omega)]
                  exact c3
                · rw [fO _ _ (by omega) (by omega)]
                  exact c4
                · rw [fF 20 (by omega) (by omega)]
                  exact c5
                · have hm : m < D.q.n + 1 := hm
                  show _ = nI ((adM D.q (woN tp (enN tp a)) (kN tp s1.1 - 11) (nuN tp s3.1) (nuN tp s5.1)).kd m) ∧ _ = nI ((adM D.q (woN tp (enN tp a)) (kN tp s1.1 - 11) (nuN tp s3.1) (nuN tp s5.1)).bi m) ∧ _ = nI ((adM D.q (woN tp (enN tp a)) (kN tp s1.1 - 11) (nuN tp s3.1) (nuN tp s5.1)).to m) ∧ _ = nI ((adM D.q (woN tp (enN tp a)) (kN tp s1.1 - 11) (nuN tp s3.1) (nuN tp s5.1)).le m) ∧ _ = lN (e27 ((adM D.q (woN tp (enN tp a)) (kN tp s1.1 - 11) (nuN tp s3.1) (nuN tp s5.1)).nm m))
                  by_cases e : m = D.q.n
                  · subst e
                    obtain ⟨a1, a2, a3, a4, a5, a6⟩ := adM_at D.q (woN tp (enN tp a)) (kN tp s1.1 - 11) (nuN tp s3.1) (nuN tp s5.1)
                    rw [a2, a3, a4, a5, a6, fL, if_pos rfl, ek, show 11 + k - 11 = k by omega]
                    refine ⟨?_, ?_, ?_, ?_, rfl⟩
                    · rw [fA, if_neg (by omega), if_neg (by omega), if_neg (by omega), if_neg (by omega), if_pos ⟨rfl, rfl⟩]
                    · rw [fA, if_neg (by omega), if_neg (by omega), if_neg (by omega), if_pos ⟨rfl, rfl⟩]
                    · rw [fA, if_neg (by omega), if_neg (by omega), if_pos ⟨rfl, rfl⟩]
                    · rw [fA, if_neg (by omega), if_pos ⟨rfl, rfl⟩]
                  · obtain ⟨b1, b2, b3, b4, b5⟩ := adM_ne D.q (woN tp (enN tp a)) (kN tp s1.1 - 11) (nuN tp s3.1) (nuN tp s5.1) e
                    rw [b1, b2, b3, b4, b5, fL, if_neg (by omega), fO _ _ (by omega) (by omega), fO _ _ (by omega) (by omega), fO _ _ (by omega) (by omega), fO _ _ (by omega) (by omega)]
                    exact c6 m (by omega)
                · rw [fO _ _ (by omega) (by omega)]
                  exact c7
                · rw [fO _ _ (by omega) (by omega)]
                  exact c8
                · rw [fF 19 (by omega) (by omega)]
                  exact c9.1
                · rw [fO _ _ (by omega) (by omega)]
                  exact c9.2 i hi
              · rw [(h10.1.2.1 z6).1, if_pos (by rfl)]
                have st := stop1 s6 V9 r10 z6 h10.1 ((dead s6 z6).2.2.2 rfl) (D9.trans F9.d)
                exact tot_some ⟨fun z => ⟨rfl, (st.1 z).2⟩, fun z => by have := (st.2.1 z).1; rw [(h10.1.2.1 z6).1] at this; exact absurd this (by decide), st.2.2⟩
            · rw [(h8.1.2.1 z4).1, if_pos (by rfl)]
              have st := stop1 s4 V7 r8 z4 h8.1 ((dead s4 z4).2.2.1 rfl) (D7.trans F7.d)
              exact tot_some ⟨fun z => ⟨rfl, (st.1 z).2⟩, fun z => by have := (st.2.1 z).1; rw [(h8.1.2.1 z4).1] at this; exact absurd this (by decide), st.2.2⟩
          rw [w11, Option.bind_some]
          dsimp only
          by_cases k11 : kN tp s1.1 = 11
          · rw [if_pos k11, if_neg (by decide)]
            exact good 0 (by omega) (by omega)
          rw [if_neg k11, if_pos (by rfl), w12, Option.bind_some]
          dsimp only
          by_cases k12 : kN tp s1.1 = 12
          · rw [if_pos k12, if_neg (by decide)]
            exact good 1 (by omega) (by omega)
          rw [if_neg k12, if_pos (by rfl), w13, Option.bind_some]
          dsimp only
          by_cases k13 : kN tp s1.1 = 13
          · rw [if_pos k13, if_neg (by decide)]
            exact good 2 (by omega) (by omega)
          rw [if_neg k13, if_pos (by rfl), w14, Option.bind_some]
          dsimp only
          by_cases k14 : kN tp s1.1 = 14
          · rw [if_pos k14, if_neg (by decide)]
            exact good 3 (by omega) (by omega)
          · rw [if_neg k14, if_pos (by rfl)]
            exact bad (by omega)
        · rw [if_neg ef] at hs1
          rw [if_neg (fun z => ef (ml.mp z)), show (3 : Int32) = nI 3 from rfl]
          have hne : (enN tp a, 3 + 16 * plN tp (enN tp a)).2 ≠ 0 := by show 3 + 16 * plN tp (enN tp a) ≠ 0; omega
          exact tot_mo (MO.bad (k := 3) h2.1 o0.1 (by omega) rfl) (fun r hr => stop1 _ _ r hne hr ((dead _ hne).1 hs1.symm) h2.2.n.d)
      · rw [if_neg en] at hs1
        rw [if_neg en, if_neg (by decide), show (1 : Int32) = nI 1 from rfl]
        have hne : (enN tp a, 1 + 16 * plN tp (enN tp a)).2 ≠ 0 := by show 1 + 16 * plN tp (enN tp a) ≠ 0; omega
        exact tot_mo (MO.bad (k := 1) h2.1 o0.1 (by omega) rfl) (fun r hr => stop1 _ _ r hne hr ((dead _ hne).1 hs1.symm) h2.2.n.d)
  · have h77 : D.q.n = 7 := by omega
    have of := ok_f ht ha (show 5 < 16 by omega)
    have hne : (a, 5 + 16 * plN tp a).2 ≠ 0 := by show 5 + 16 * plN tp a ≠ 0; omega
    refine ⟨(a, 5 + 16 * plN tp a), D, ⟨of.1, of.2, fun z => absurd z hne⟩, fun V hC hD => ?_, fun V hC hD => ?_⟩
    · dsimp only
      unfold gX4_readMatter
      rw [hD.1.1, h77, if_neg (by decide), show (5 : Int32) = nI 5 from rfl]
      refine tot_bd (R := fun W => RD W (5 + 16 * plN tp a) ∧ rwe V W) ?_ (fun W hW => ?_)
      · exact tot_bd (c_fail (k := 5) hC (by omega) ha ht) (fun W hW => tot_some hW)
      · rw [d_tSign hW.1]
        exact tot_some ⟨AL.rd hW.1 ha, fun z => absurd z hne, hW.2.d T⟩
    · dsimp only
      unfold gX10_readsMatter
      rw [hD.1.1, h77, if_pos (by decide), show (5 : Int32) = nI 5 from rfl]
      refine tot_mo (MO.bad (k := 5) hC ha (by omega) rfl) (fun r hr => ⟨fun z => hr.2.1 z, fun z => absurd z hne, hr.2.2.2.d⟩)
end PMatter
