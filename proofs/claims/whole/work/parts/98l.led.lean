/-! PURE: the statements of a PAST: led, knife, pot, adds, takes. -/
/-- a statement, the class's own run ahead -/
def Stn (tp : List Nat) (T a : Nat) (D : DST) (fc : VT → Option VT) (fm : VT → Option (Int32 × VT)) : Prop := ∀ V, RC V tp a 0 → DrC V T D → tot (fc V) (fun W => ∃ (s : PS) (D' : DST), (s.1 ≤ tp.length ∧ s.2 < 2 ^ 20 ∧ (s.2 = 0 → GoodD D' ∧ a < s.1)) ∧ AL W tp s ∧ (s.2 = 0 → DrC W T D') ∧ dfr T V W ∧ ∀ V, MC V tp a → DrM V D → tot (fm V) (fun r => (s.2 ≠ 0 → r.1 = nI 0 ∧ r.2.F 137 9 = nI s.2) ∧ (s.2 = 0 → r.1 = nI 1 ∧ MC r.2 tp s.1 ∧ DrM r.2 D') ∧ dmf V r.2))
theorem Stm.n {tp : List Nat} {T a : Nat} {D : DST} {fc : VT → Option VT} {fm : VT → Option (Int32 × VT)} (h : ∃ s D', Stm tp T a D s D' fc fm) : Stn tp T a D fc fm := by
  obtain ⟨s, D', h1, h2, h3⟩ := h
  exact fun V hC hD => tot_mo (h2 V hC hD) (fun W hW => ⟨s, D', h1, hW.1, hW.2.1, hW.2.2, h3⟩)
theorem DrC.rw {V W : VT} {T : Nat} {D : DST} (hT : T = 6 ∨ T = 15) (h : DrC V T D) (f : rwe V W) : DrC W T D := by
  obtain ⟨d1, d6, sl, d7, d8⟩ := h
  exact ⟨by rw [f.2.2 T (by omega)]; exact d1, fun m hm => by rw [f.1, f.2.1]; exact d6 m hm, sl, d7.rw (by omega) f, d8⟩
theorem DrM.mw {V W : VT} {D : DST} (h : DrM V D) (f : mwn V W) : DrM W D := by
  obtain ⟨h1, h2, h3, h4, h5, h6⟩ := h
  exact ⟨by rw [f.1]; exact h1, by rw [f.2.2 137 20 (by omega)]; exact h2, fun m hm => by rw [f.1, f.2.1]; exact h3 m hm, by rw [f.1]; exact h4, by rw [f.1]; exact h5, ⟨by rw [f.2.2 137 19 (by omega)]; exact h6.1, fun i hi => by rw [f.1]; exact h6.2 i hi⟩⟩
def ledQ (q : PP) (m o : Nat) : PP := (q.n, q.kd, q.bi, q.to, upN q.le m (q.le m ||| 2 ^ o), q.kn, q.ad, q.fu, q.tk, q.nm)
theorem led_good {q : PP} {m o : Nat} (g : GoodP q) (gn : GoodN q) (hm : m < q.n) (ho : o < q.n) (hb : q.bi m < q.bi o) : GoodP (ledQ q m o) ∧ GoodN (ledQ q m o) := by
  have h2 : (2 : Nat) ^ o < 2 ^ q.n := Nat.pow_lt_pow_right (by decide) ho
  refine ⟨⟨g.1, fun k hk => ?_, fun k l hk hl ht => ?_, g.2.2.2.1, g.2.2.2.2⟩, gn⟩
  · have gk := g.2.1 k hk
    refine ⟨gk.1, gk.2.1, gk.2.2.1, ?_⟩
    show upN q.le m (q.le m ||| 2 ^ o) k < 2 ^ q.n
    unfold upN
    split
    · exact Nat.or_lt_two_pow (g.2.1 m hm).2.2.2 h2
    · exact gk.2.2.2
  · show q.bi k < q.bi l
    have ht : (upN q.le m (q.le m ||| 2 ^ o) k).testBit l = true := ht
    unfold upN at ht
    split at ht
    · rename_i e
      subst e
      rcases (or_tb _ _ _).mp ht with z | z
      · exact g.2.2.1 k l hk hl z
      · subst z
        exact hb
    · exact g.2.2.1 k l hk hl ht
def ledC (N T : Nat) (f s : Int32) (V4 : VT) : Option VT := (rdA 7 (V4.A (T + 3)) s).bind fun x5 => (rdA 7 (V4.A (T + 3)) f).bind fun x6 => if x5 ≤ x6 then gX4_readLed_b67 N V4 else (rdA 7 (V4.A (T + 5)) f).bind fun x7 => (gX9_bit x7 s V4).bind fun p8 => if p8.1 = 1 then gX4_readLed_b67 N p8.2 else (rdA 7 (p8.2.A (T + 5)) f).bind fun x9 => (wrA p8.2 (T + 5) 7 f (x9 ||| ((1 : Int32) <<< (s &&& 31)))).bind fun V10 => (gX6_advance N V10).bind fun V11 => some V11
def ledM (N : Nat) (f s : Int32) (V4 : VT) : Option (Int32 × VT) := (rdA 14 (V4.A 142) (7 + s)).bind fun x5 => (rdA 14 (V4.A 142) (7 + f)).bind fun x6 => if x5 ≤ x6 then gX10_readsLed_b77 N V4 else (rdA 14 (V4.A 144) (7 + f)).bind fun x7 => if ((x7 >>> (s &&& 31)) &&& 1) = 1 then gX10_readsLed_b77 N V4 else (rdA 14 (V4.A 144) (7 + f)).bind fun x8 => (wrA V4 144 14 (7 + f) (x8 ||| ((1 : Int32) <<< (s &&& 31)))).bind fun V9 => (gX10_nextToken N V9).bind fun V10 => (gX10_closes N V10).bind fun p11 => (qB p11.1).bind fun _ => some (p11.1, p11.2)
section PLed
variable {tp : List Nat} {T a N : Nat} {D : DST}
theorem okM (ht : GoodT tp) {b : Nat} (hb : b ≤ tp.length) (q : PP) : okS tp (sMat tp q (b, 0)) := by
  unfold sMat
  rw [if_pos rfl]
  split
  · split
    · exact ok_f ht hb (by omega)
    · exact ⟨hb, by show 0 < 2 ^ 20; decide⟩
  · exact ok_f ht hb (by omega)
theorem sM_0 {b : Nat} {q : PP} (h : (sMat tp q (b, 0)).2 = 0) : tyN tp b = 2 ∧ sMat tp q (b, 0) = (b, 0) := by
  unfold sMat at h ⊢
  rw [if_pos rfl] at h ⊢
  by_cases e : nmB tp b = true
  · rw [if_pos e] at h ⊢
    by_cases e2 : nmF q (woN tp b) = none
    · rw [if_pos e2] at h
      have h : 2 + 16 * plN tp b = 0 := h
      omega
    · rw [if_neg e2]
      exact ⟨(of_decide_eq_true e).1, rfl⟩
  · rw [if_neg e] at h
    have h : 1 + 16 * plN tp b = 0 := h
    omega
theorem t_led (ht : GoodT tp) (hN : 1000 < N) (hT : T = 6 ∨ T = 15) (ha : a ≤ tp.length) (g : GoodD D) (h0 : tyN tp a ≠ 0) : ∃ s D', Stm tp T a D s D' (fun V => (gX4_readLed N T V).bind fun V2 => gX6_takeSign N (nI 59) V2) (fun V => gX10_readsLed N V) := by
  have hn := g.1.1
  have o0 : okS tp (enN tp a, 0) := ok_e ha
  have l0 := en_lt2 ha h0
  generalize hs1 : sMat tp D.q (enN tp a, 0) = s1
  have o1 : okS tp s1 := by rw [← hs1]; exact okM ht o0.1 _
  by_cases z1 : s1.2 = 0
  · obtain ⟨t1, e1⟩ : tyN tp (enN tp a) = 2 ∧ s1 = (enN tp a, 0) := by rw [← hs1] at z1 ⊢; exact sM_0 z1
    have o2 : okS tp (enN tp (enN tp a), 0) := ok_e o0.1
    have l1 := en_lt2 (a := enN tp a) o0.1 (by omega)
    generalize hs2 : sMat tp D.q (enN tp (enN tp a), 0) = s2
    have o3 : okS tp s2 := by rw [← hs2]; exact okM ht o2.1 _
    by_cases z2 : s2.2 = 0
    · obtain ⟨t2, e2⟩ : tyN tp (enN tp (enN tp a)) = 2 ∧ s2 = (enN tp (enN tp a), 0) := by rw [← hs2] at z2 ⊢; exact sM_0 z2
      have l2 := en_lt2 (a := enN tp (enN tp a)) o2.1 (by omega)
      have o4 : okS tp (enN tp (enN tp (enN tp a)), 0) := ok_e o2.1
      generalize hb0 : enN tp a = b0 at *
      generalize hb1 : enN tp b0 = b1 at *
      generalize hb2 : enN tp b1 = b2 at *
      cases hm1 : nmF D.q (woN tp b0) with
      | none =>
        exfalso
        rw [← hs1] at z1
        unfold sMat at z1
        rw [if_pos rfl] at z1
        dsimp only at z1
        rw [hm1, if_pos rfl] at z1
        split at z1
        · have z1 : 2 + 16 * plN tp b0 = 0 := z1
          omega
        · have z1 : 1 + 16 * plN tp b0 = 0 := z1
          omega
      | some m1 =>
        cases hm2 : nmF D.q (woN tp b1) with
        | none =>
          exfalso
          rw [← hs2] at z2
          unfold sMat at z2
          rw [if_pos rfl] at z2
          dsimp only at z2
          rw [hm2, if_pos rfl] at z2
          split at z2
          · have z2 : 2 + 16 * plN tp b1 = 0 := z2
            omega
          · have z2 : 1 + 16 * plN tp b1 = 0 := z2
            omega
        | some m2 =>
          have n1 := nmF_lt hm1
          have n2 := nmF_lt hm2
          have g1 := g.1.2.1 m1 n1
          have g2 := g.1.2.1 m2 n2
          have hp := pw_lt g.1
          -- class and model up to the second name
          have cls : ∀ {V : VT} {Q : VT → Prop} {K : Int32 → Int32 → VT → Option VT}, RC V tp a 0 → DrC V T D → (∀ V4, RC V4 tp b1 0 → rwe V V4 → tot (K (nI m1) (nI m2) V4) Q) → tot ((gX6_advance N V).bind fun V1 => (gX4_matterHere N T V1).bind fun p2 => if p2.1 = -1 then some p2.2 else (gX6_advance N p2.2).bind fun V3 => (gX4_matterHere N T V3).bind fun p4 => if p4.1 = -1 then some p4.2 else K p2.1 p4.1 p4.2) Q := by
            intro V Q K hC hD hK
            refine tot_bd (c_adv ht hN ha hC) (fun V1 h1 => ?_)
            rw [hb0] at h1
            have A1 : AL V1 tp (b0, 0) := AL.rc h1.1 o0.1
            refine tot_bd (k_Mat ht hN A1 rfl ((hD.nm g).rw hT h1.2.e) g.2.1) (fun r2 h2 => ?_)
            rw [hs1, if_pos z1, hm1] at h2
            rw [h2.2.1, show oI (some m1) = nI m1 from rfl, if_neg (by rw [show (-1 : Int32) = -nI 1 from rfl, eq_m1 (by omega)]; exact fun z => z)]
            have C2 := h2.1.2.1 z1
            rw [e1] at C2
            refine tot_bd (c_adv ht hN o0.1 C2) (fun V3 h3 => ?_)
            rw [hb1] at h3
            have A3 : AL V3 tp (b1, 0) := AL.rc h3.1 o2.1
            have F3 := (h1.2.e.trans h2.2.2.2).trans h3.2.e
            refine tot_bd (k_Mat ht hN A3 rfl ((hD.nm g).rw hT F3) g.2.1) (fun r4 h4 => ?_)
            rw [hs2, if_pos z2, hm2] at h4
            rw [h4.2.1, show oI (some m2) = nI m2 from rfl, if_neg (by rw [show (-1 : Int32) = -nI 1 from rfl, eq_m1 (by omega)]; exact fun z => z)]
            have C4 := h4.1.2.1 z2
            rw [e2] at C4
            exact hK r4.2 C4 (F3.trans h4.2.2.2)
          have mdl : ∀ {V : VT} {Q : Int32 × VT → Prop} {K : Int32 → Int32 → VT → Option (Int32 × VT)}, MC V tp a → DrM V D → (∀ V4, MC V4 tp b1 → mwn V V4 → V4.F 137 33 = nI m2 → tot (K (nI m1) (nI m2) V4) Q) → tot ((gX10_nextToken N V).bind fun V1 => (gX10_needsMatter N 1 V1).bind fun p2 => if p2.1 = 0 then some (0, p2.2) else (gX10_nextToken N p2.2).bind fun V3 => (gX10_needsMatter N 1 V3).bind fun p4 => if p4.1 = 0 then some (0, p4.2) else K (p2.2.F 137 33) (p4.2.F 137 33) p4.2) Q := by
            intro V Q K hC hD hK
            refine tot_bd (m_next ht hN ha hC) (fun V1 h1 => ?_)
            rw [hb0] at h1
            rw [show (1 : Int32) = nI 1 from rfl]
            refine tot_bd (mo_mat ht hN h1.1 o0.1 (by omega) ((hD.nm g).mw h1.2.n) g.2.1) (fun r2 h2 => ?_)
            rw [hs1] at h2
            obtain ⟨x1, x2⟩ := h2.1.2.2.1 z1
            have x3 := (h2.2 z1).1
            rw [hm1] at x3
            rw [e1] at x2
            rw [x1, if_neg (by decide), x3]
            refine tot_bd (m_next ht hN o0.1 x2) (fun V3 h3 => ?_)
            rw [hb1] at h3
            have F3 := (h1.2.n.trans h2.1.2.2.2).trans h3.2.n
            refine tot_bd (mo_mat ht hN h3.1 o2.1 (by omega) ((hD.nm g).mw F3) g.2.1) (fun r4 h4 => ?_)
            rw [hs2] at h4
            obtain ⟨y1, y2⟩ := h4.1.2.2.1 z2
            have y3 := (h4.2 z2).1
            rw [hm2] at y3
            rw [e2] at y2
            rw [y1, if_neg (by decide), y3]
            exact hK r4.2 y2 (F3.trans h4.1.2.2.2) y3
          by_cases bad : D.q.bi m2 ≤ D.q.bi m1 ∨ (D.q.le m1).testBit m2 = true
          · have of := ok_f ht o2.1 (show 3 < 16 by omega)
            have hne : (b1, 3 + 16 * plN tp b1).2 ≠ 0 := by show 3 + 16 * plN tp b1 ≠ 0; omega
            refine ⟨(b1, 3 + 16 * plN tp b1), D, ⟨of.1, of.2, fun z => absurd z hne⟩, fun V hC hD => ?_, fun V hC hD => ?_⟩
            · dsimp only
              refine tot_bd (R := fun W => RD W (3 + 16 * plN tp b1) ∧ rwe V W) ?_ (fun W hW => ?_)
              · unfold gX4_readLed
                refine cls (K := ledC N T) hC hD (fun V4 C4 F4 => ?_)
                unfold ledC
                have D4 := hD.rw hT F4
                rw [rdA_n (by omega) (by omega), rdA_n (by omega) (by omega), Option.bind_some, Option.bind_some, (D4.2.1 m2 n2).2.1, (D4.2.1 m1 n1).2.1]
                have fin : tot (gX4_readLed_b67 N V4) (fun W => RD W (3 + 16 * plN tp b1) ∧ rwe V W) := by
                  unfold gX4_readLed_b67
                  rw [show (3 : Int32) = nI 3 from rfl]
                  exact tot_bd (c_fail (k := 3) C4 (by omega) o2.1 ht) (fun W hW => tot_some ⟨hW.1, F4.trans hW.2⟩)
                by_cases c1 : D.q.bi m2 ≤ D.q.bi m1
                · rw [if_pos (nI_le c1 (by omega))]
                  exact fin
                · rw [if_neg (nI_ge (by omega) (by omega)), rdA_n (by omega) (by omega), Option.bind_some, (D4.2.1 m1 n1).2.2.2.1]
                  unfold gX9_bit
                  rw [Option.bind_some]
                  dsimp only
                  have c2 : (D.q.le m1).testBit m2 = true := by
                    rcases bad with z | z
                    · exact absurd z c1
                    · exact z
                  rw [if_pos (by try simp (disch := omega) only [fa_lit, ne_le, ne_lt, ne_eq', nI_add, pk_mul, pk_sub, rdA_n, wrA_n, rdL_n, wrL_n, nI_one, nI_bit1, nI_bit0, fa_or, fa_and, nI_df, nat31, Option.bind_some, m1_le0, m1_lt0, m1_eq, eq_m1, ite_nI, sub_m, pk_m1', not_lt0]; exact c2)]
                  exact fin
              · rw [d_tSign hW.1]
                exact tot_some ⟨AL.rd hW.1 o2.1, fun z => absurd z hne, hW.2.d T⟩
            · dsimp only
              unfold gX10_readsLed
              refine mdl (K := ledM N) hC hD (fun V4 C4 F4 _ => ?_)
              unfold ledM
              have D4 := hD.mw F4
              rw [show (7 : Int32) + nI m2 = nI (7 + m2) from nI_add 7 m2, show (7 : Int32) + nI m1 = nI (7 + m1) from nI_add 7 m1, rdA_n (by omega) (by omega), rdA_n (by omega) (by omega), Option.bind_some, Option.bind_some, (D4.2.2.1 m2 n2).2.1, (D4.2.2.1 m1 n1).2.1]
              have fin : tot (gX10_readsLed_b77 N V4) (fun r => ((b1, 3 + 16 * plN tp b1).2 ≠ 0 → r.1 = nI 0 ∧ r.2.F 137 9 = nI (b1, 3 + 16 * plN tp b1).2) ∧ ((b1, 3 + 16 * plN tp b1).2 = 0 → r.1 = nI 1 ∧ MC r.2 tp (b1, 3 + 16 * plN tp b1).1 ∧ DrM r.2 D) ∧ dmf V r.2) := by
                unfold gX10_readsLed_b77
                rw [show (3 : Int32) = nI 3 from rfl]
                exact tot_mo (MO.bad (k := 3) C4 o2.1 (by omega) rfl) (fun r hr => ⟨fun z => hr.2.1 z, fun z => absurd z hne, F4.d.trans hr.2.2.2.d⟩)
              by_cases c1 : D.q.bi m2 ≤ D.q.bi m1
              · rw [if_pos (nI_le c1 (by omega))]
                exact fin
              · rw [if_neg (nI_ge (by omega) (by omega)), rdA_n (by omega) (by omega), Option.bind_some, (D4.2.2.1 m1 n1).2.2.2.1]
                have c2 : (D.q.le m1).testBit m2 = true := by
                  rcases bad with z | z
                  · exact absurd z c1
                  · exact z
                rw [if_pos (by try simp (disch := omega) only [fa_lit, ne_le, ne_lt, ne_eq', nI_add, pk_mul, pk_sub, rdA_n, wrA_n, rdL_n, wrL_n, nI_one, nI_bit1, nI_bit0, fa_or, fa_and, nI_df, nat31, Option.bind_some, m1_le0, m1_lt0, m1_eq, eq_m1, ite_nI, sub_m, pk_m1', not_lt0]; exact c2)]
                exact fin
          · have hbi : D.q.bi m1 < D.q.bi m2 := by omega
            have hbt : ¬ (D.q.le m1).testBit m2 = true := fun z => bad (Or.inr z)
            generalize hs5 : sG tp 59 (b2, 0) = s5
            have o5 : okS tp s5 := by rw [← hs5]; exact ok_G ht o4 _
            have i5 : s5.2 = 0 → s5 = (enN tp b2, 0) := fun z => by rw [← hs5] at z ⊢; exact (sG_0 z).2.2
            have gg := led_good g.1 g.2.1 n1 n2 hbi
            refine ⟨s5, (ledQ D.q m1 m2, D.v, D.b, D.cs), ⟨o5.1, o5.2, fun z => ⟨⟨gg.1, gg.2, g.2.2⟩, ?_⟩⟩, fun V hC hD => ?_, fun V hC hD => ?_⟩
            · rw [i5 z]
              have q9 : b2 ≤ enN tp b2 := Nat.le_trans (pl_le (a := b2) o4.1).1 (en_le (a := b2) o4.1).1
              show a < enN tp b2
              omega
            · dsimp only
              refine tot_bd (R := fun W => RC W tp b2 0 ∧ dfr T V W ∧ DrC W T (ledQ D.q m1 m2, D.v, D.b, D.cs)) ?_ (fun W hW => ?_)
              · unfold gX4_readLed
                refine cls (K := ledC N T) hC hD (fun V4 C4 F4 => ?_)
                unfold ledC
                have D4 := hD.rw hT F4
                rw [rdA_n (by omega) (by omega), rdA_n (by omega) (by omega), Option.bind_some, Option.bind_some, (D4.2.1 m2 n2).2.1, (D4.2.1 m1 n1).2.1, if_neg (nI_ge (by omega) (by omega)), rdA_n (by omega) (by omega), Option.bind_some, (D4.2.1 m1 n1).2.2.2.1]
                unfold gX9_bit
                rw [Option.bind_some]
                dsimp only
                rw [if_neg (by try simp (disch := omega) only [fa_lit, ne_le, ne_lt, ne_eq', nI_add, pk_mul, pk_sub, rdA_n, wrA_n, rdL_n, wrL_n, nI_one, nI_bit1, nI_bit0, fa_or, fa_and, nI_df, nat31, Option.bind_some, m1_le0, m1_lt0, m1_eq, eq_m1, ite_nI, sub_m, pk_m1', not_lt0]; exact hbt), rdA_n (by omega) (by omega), Option.bind_some, (D4.2.1 m1 n1).2.2.2.1]
                try simp (disch := omega) only [fa_lit, ne_le, ne_lt, ne_eq', nI_add, pk_mul, pk_sub, rdA_n, wrA_n, rdL_n, wrL_n, nI_one, nI_bit1, nI_bit0, fa_or, fa_and, nI_df, nat31, Option.bind_some, m1_le0, m1_lt0, m1_eq, eq_m1, ite_nI, sub_m, pk_m1', not_lt0]
                have C5 : RC (wA V4 (T + 5) m1 (nI (D.q.le m1 ||| 2 ^ m2))) tp b1 0 := C4.cg (wA_n _ _ _ (by omega)) rfl rfl
                have F5 : dfr T V (wA V4 (T + 5) m1 (nI (D.q.le m1 ||| 2 ^ m2))) := (F4.d T).trans (dfr_A _ _ (by omega))
                have D5 : DrC (wA V4 (T + 5) m1 (nI (D.q.le m1 ||| 2 ^ m2))) T (ledQ D.q m1 m2, D.v, D.b, D.cs) := by
                  obtain ⟨d1, d6, sl, d7, d8⟩ := D4
                  refine ⟨d1, fun m hm => ?_, sl, ⟨d7.1, d7.2.1, fun i hi => ?_⟩, d8⟩
                  · have d9 := d6 m hm
                    rw [wA_n _ _ _ (by omega), wA_n _ _ _ (by omega), wA_n _ _ _ (by omega), wA_L, wA_A]
                    refine ⟨d9.1, d9.2.1, d9.2.2.1, ?_, d9.2.2.2.2⟩
                    show _ = nI (upN D.q.le m1 (D.q.le m1 ||| 2 ^ m2) m)
                    unfold upN
                    by_cases e : m = m1
                    · rw [if_pos ⟨rfl, e⟩, if_pos e]
                    · rw [if_neg (fun z => e z.2), if_neg e]
                      exact d9.2.2.2.1
                  · rw [wA_n _ _ _ (by omega)]
                    exact d7.2.2 i hi
                generalize wA V4 (T + 5) m1 (nI (D.q.le m1 ||| 2 ^ m2)) = V5 at C5 F5 D5
                refine tot_bd (c_adv ht hN o2.1 C5) (fun V6 h6 => ?_)
                rw [hb2] at h6
                exact tot_some ⟨h6.1, F5.trans (h6.2.e.d T), D5.rw hT h6.2.e⟩
              · refine tot_mo (k_G ht hN (AL.rc hW.1 o4.1) (by omega)) (fun X hX => ?_)
                rw [hs5] at hX
                exact ⟨hX.1, fun _ => hW.2.2.rw hT hX.2, hW.2.1.trans (hX.2.d T)⟩
            · dsimp only
              unfold gX10_readsLed
              refine mdl (K := ledM N) hC hD (fun V4 C4 F4 e33 => ?_)
              unfold ledM
              have D4 := hD.mw F4
              rw [show (7 : Int32) + nI m2 = nI (7 + m2) from nI_add 7 m2, show (7 : Int32) + nI m1 = nI (7 + m1) from nI_add 7 m1, rdA_n (by omega) (by omega), rdA_n (by omega) (by omega), Option.bind_some, Option.bind_some, (D4.2.2.1 m2 n2).2.1, (D4.2.2.1 m1 n1).2.1, if_neg (nI_ge (by omega) (by omega)), rdA_n (by omega) (by omega), Option.bind_some, (D4.2.2.1 m1 n1).2.2.2.1, if_neg (by try simp (disch := omega) only [fa_lit, ne_le, ne_lt, ne_eq', nI_add, pk_mul, pk_sub, rdA_n, wrA_n, rdL_n, wrL_n, nI_one, nI_bit1, nI_bit0, fa_or, fa_and, nI_df, nat31, Option.bind_some, m1_le0, m1_lt0, m1_eq, eq_m1, ite_nI, sub_m, pk_m1', not_lt0]; exact hbt), Option.bind_some]
              try simp (disch := omega) only [fa_lit, ne_le, ne_lt, ne_eq', nI_add, pk_mul, pk_sub, rdA_n, wrA_n, rdL_n, wrL_n, nI_one, nI_bit1, nI_bit0, fa_or, fa_and, nI_df, nat31, Option.bind_some, m1_le0, m1_lt0, m1_eq, eq_m1, ite_nI, sub_m, pk_m1', not_lt0]
              have C5 : MC (wA V4 144 (7 + m1) (nI (D.q.le m1 ||| 2 ^ m2))) tp b1 := C4.cg (wA_n _ _ _ (by omega)) (fun _ _ _ => rfl) rfl
              have F5 : dmf V (wA V4 144 (7 + m1) (nI (D.q.le m1 ||| 2 ^ m2))) := F4.d.trans (dmf_A _ (by omega))
              have D5 : DrM (wA V4 144 (7 + m1) (nI (D.q.le m1 ||| 2 ^ m2))) (ledQ D.q m1 m2, D.v, D.b, D.cs) := by
                obtain ⟨d1, d2, d3, d4, d5, d6⟩ := D4
                have eA : ∀ i, i ≠ 144 → (wA V4 144 (7 + m1) (nI (D.q.le m1 ||| 2 ^ m2))).A i = V4.A i := fun i hi => wA_n _ _ _ hi
                refine ⟨by rw [eA 139 (by omega)]; exact d1, d2, fun m hm => ?_, by rw [eA 145 (by omega)]; exact d4, by rw [eA 146 (by omega)]; exact d5, d6.1, fun i hi => by rw [eA 147 (by omega)]; exact d6.2 i hi⟩
                have d9 := d3 m hm
                rw [eA 141 (by omega), eA 142 (by omega), eA 143 (by omega), wA_L, wA_A]
                refine ⟨d9.1, d9.2.1, d9.2.2.1, ?_, d9.2.2.2.2⟩
                show _ = nI (upN D.q.le m1 (D.q.le m1 ||| 2 ^ m2) m)
                unfold upN
                by_cases e : m = m1
                · rw [if_pos ⟨rfl, by omega⟩, if_pos e]
                · rw [if_neg (by omega), if_neg e]
                  exact d9.2.2.2.1
              generalize wA V4 144 (7 + m1) (nI (D.q.le m1 ||| 2 ^ m2)) = V5 at C5 F5 D5
              refine tot_bd (m_next ht hN o2.1 C5) (fun V6 h6 => ?_)
              rw [hb2] at h6
              refine tot_bd (mo_closes ht hN h6.1 o4.1) (fun r7 h7 => ?_)
              rw [h7.b, Option.bind_some]
              rw [hs5] at h7
              exact tot_some ⟨h7.2.1, fun z => ⟨(h7.2.2.1 z).1, (h7.2.2.1 z).2, (D5.mw h6.2.n).mw h7.2.2.2⟩, (F5.trans h6.2.n.d).trans h7.2.2.2.d⟩
    · refine ⟨s2, D, ⟨o3.1, o3.2, fun z => absurd z z2⟩, fun V hC hD => ?_, fun V hC hD => ?_⟩
      · dsimp only
        refine tot_bd (R := fun W => RD W s2.2 ∧ rwe V W) ?_ (fun W hW => ?_)
        · unfold gX4_readLed
          refine tot_bd (c_adv ht hN ha hC) (fun V1 h1 => ?_)
          have A1 : AL V1 tp (enN tp a, 0) := AL.rc h1.1 o0.1
          refine tot_bd (k_Mat ht hN A1 rfl ((hD.nm g).rw hT h1.2.e) g.2.1) (fun r2 h2 => ?_)
          rw [hs1, if_pos z1] at h2
          have m1 := oI_m1 (b := nmF D.q (woN tp (enN tp a))) (fun j hj => by have := nmF_lt hj; omega)
          rw [h2.2.1, if_neg (fun z => h2.2.2.1 z1 (m1.mp z))]
          have C2 := h2.1.2.1 z1
          rw [e1] at C2
          refine tot_bd (c_adv ht hN o0.1 C2) (fun V3 h3 => ?_)
          have A3 : AL V3 tp (enN tp (enN tp a), 0) := AL.rc h3.1 o2.1
          have F3 := (h1.2.e.trans h2.2.2.2).trans h3.2.e
          refine tot_bd (k_Mat ht hN A3 rfl ((hD.nm g).rw hT F3) g.2.1) (fun r4 h4 => ?_)
          rw [hs2, if_neg z2] at h4
          rw [h4.2.1, if_pos rfl]
          exact tot_some ⟨h4.1.2.2 z2, F3.trans h4.2.2.2⟩
        · rw [d_tSign hW.1]
          exact tot_some ⟨AL.rd hW.1 o3.1, fun z => absurd z z2, hW.2.d T⟩
      · dsimp only
        unfold gX10_readsLed
        refine tot_bd (m_next ht hN ha hC) (fun V1 h1 => ?_)
        rw [show (1 : Int32) = nI 1 from rfl]
        refine tot_bd (mo_mat ht hN h1.1 o0.1 (by omega) ((hD.nm g).mw h1.2.n) g.2.1) (fun r2 h2 => ?_)
        rw [hs1] at h2
        obtain ⟨x1, x2⟩ := h2.1.2.2.1 z1
        rw [e1] at x2
        rw [x1, if_neg (by decide)]
        refine tot_bd (m_next ht hN o0.1 x2) (fun V3 h3 => ?_)
        have F3 := (h1.2.n.trans h2.1.2.2.2).trans h3.2.n
        refine tot_bd (mo_mat ht hN h3.1 o2.1 (by omega) ((hD.nm g).mw F3) g.2.1) (fun r4 h4 => ?_)
        rw [hs2] at h4
        rw [(h4.1.2.1 z2).1, if_pos (by rfl)]
        exact tot_some ⟨fun _ => ⟨rfl, (h4.1.2.1 z2).2⟩, fun z => absurd z z2, (F3.trans h4.1.2.2.2).d⟩
  · refine ⟨s1, D, ⟨o1.1, o1.2, fun z => absurd z z1⟩, fun V hC hD => ?_, fun V hC hD => ?_⟩
    · dsimp only
      refine tot_bd (R := fun W => RD W s1.2 ∧ rwe V W) ?_ (fun W hW => ?_)
      · unfold gX4_readLed
        refine tot_bd (c_adv ht hN ha hC) (fun V1 h1 => ?_)
        have A1 : AL V1 tp (enN tp a, 0) := AL.rc h1.1 o0.1
        refine tot_bd (k_Mat ht hN A1 rfl ((hD.nm g).rw hT h1.2.e) g.2.1) (fun r2 h2 => ?_)
        rw [hs1, if_neg z1] at h2
        rw [h2.2.1, if_pos rfl]
        exact tot_some ⟨h2.1.2.2 z1, h1.2.e.trans h2.2.2.2⟩
      · rw [d_tSign hW.1]
        exact tot_some ⟨AL.rd hW.1 o1.1, fun z => absurd z z1, hW.2.d T⟩
    · dsimp only
      unfold gX10_readsLed
      refine tot_bd (m_next ht hN ha hC) (fun V1 h1 => ?_)
      rw [show (1 : Int32) = nI 1 from rfl]
      refine tot_bd (mo_mat ht hN h1.1 o0.1 (by omega) ((hD.nm g).mw h1.2.n) g.2.1) (fun r2 h2 => ?_)
      rw [hs1] at h2
      rw [(h2.1.2.1 z1).1, if_pos (by rfl)]
      exact tot_some ⟨fun _ => ⟨rfl, (h2.1.2.1 z1).2⟩, fun z => absurd z z1, (h1.2.n.trans h2.1.2.2.2).d⟩
end PLed
