/-! PURE: takes; a PAST whole. -/
theorem CE_ne {v : Vf} (h : CE 0 [] v) : False := by
  have key : ∀ x : Int32, v 0 0 0 0 = x := by
    intro x
    obtain ⟨X', h1, -, -, h4⟩ := h 0 0 0 0 (fun _ => 0) (fun i _ => if i = 155 then 20 else if i = 156 then x else 0) ⟨rfl, rfl, rfl, rfl⟩ (Or.inl rfl) rfl rfl rfl rfl rfl
    have h1 : some (0, fun i _ => if i = 155 then (20 : Int32) else if i = 156 then x else 0) = some (0, X') := h1
    cases h1
    rw [← h4, te_150, tv_kc]
    unfold tsX
    rw [su_n _ (show ¬ (0 = 0 ∧ (151 = 154 ∨ 151 = 157)) by omega), su_n _ (show ¬ (0 = 0 ∧ (150 = 154 ∨ 150 = 157)) by omega), su_n _ (show ¬ (0 = 0 ∧ (153 = 154 ∨ 153 = 157)) by omega), su_154]
    show kcX 0 0 (if (0 : Int32) = 25 then _ else if (0 : Int32) = 24 then _ else if (20 : Int32) = 21 then 0 - x else 0 + x) = x
    rw [if_neg (by decide), if_neg (by decide), if_neg (by decide), Int32.zero_add]
    rfl
  have h0 := key 0
  have h1 := key 1
  rw [h0] at h1
  exact absurd h1 (by decide)
theorem pwf.d {V W : VT} {T : Nat} (h : pwf (T + 6) V W) : dfr T V W := fun a h1 h2 => ⟨h.2.1 a (by omega), by rw [h.1], funext (fun k => h.2.2 a k h1 (by omega))⟩
section PTakes
variable {tp : List Nat} {T a N : Nat} {D : DST}
theorem t_takes (ht : GoodT tp) (hN : 1000 < N) (hT : T = 6 ∨ T = 15) (ha : a ≤ tp.length) (g : GoodD D) (h0 : tyN tp a ≠ 0) : Stn tp T a D (fun V => (gX4_readSetting N T (nI 7) V).bind fun V2 => gX6_takeSign N (nI 59) V2) (fun V => gX10_readsTakes N V) := by
  have hl := ht.1
  have hst := st_lt D.b
  have o0 : okS tp (enN tp a, 0) := ok_e ha
  have l0 := en_lt2 ha h0
  have hK : ∀ V, gX4_readSetting N T (nI 7) V = ((gX9_bit (V.F T 10) (nI 7) V).bind fun p1 => if p1.1 = 1 then (gX6_fail 3 p1.2).bind fun V12 => some V12 else (some (wF p1.2 T 10 ((p1.2.F T 10) ||| ((1 : Int32) <<< (nI 7 &&& 31))))).bind fun V2 => (gX6_advance N V2).bind fun V3 => (gX1_clear (T + 6) V3).bind fun V10 => (gX4_readE N (T + 6) (nI 0) V10).bind fun V11 => some V11) := fun V => rfl
  have hbC : ∀ b : Bool × Bool × Bool × Bool, (stC b).testBit 7 = b.2.2.2 := by
    rintro ⟨b1, b2, b3, b4⟩
    cases b1 <;> cases b2 <;> cases b3 <;> cases b4 <;> decide
  have hbC2 : ∀ b : Bool × Bool × Bool × Bool, b.2.2.2 = false → stC b ||| 2 ^ 7 = stC (b.1, b.2.1, b.2.2.1, true) := by
    rintro ⟨b1, b2, b3, b4⟩ h
    cases b1 <;> cases b2 <;> cases b3 <;> cases b4 <;> revert h <;> decide
  cases hb : D.b.2.2.2 with
  | true =>
    have of := ok_f ht ha (show 3 < 16 by omega)
    have hne : (a, 3 + 16 * plN tp a).2 ≠ 0 := by show 3 + 16 * plN tp a ≠ 0; omega
    refine Stm.n ⟨(a, 3 + 16 * plN tp a), D, ⟨of.1, of.2, fun z => absurd z hne⟩, fun V hC hD => ?_, fun V hC hD => ?_⟩
    · dsimp only
      refine tot_bd (R := fun W => RD W (3 + 16 * plN tp a) ∧ rwe V W) ?_ (fun W hW => ?_)
      · rw [hK, hD.1.2.2.2.2]
        unfold gX9_bit
        rw [Option.bind_some]
        dsimp only
        rw [if_pos (by try simp (disch := omega) only [fa_lit, ne_le, ne_lt, ne_eq', nI_add, pk_mul, pk_sub, rdA_n, wrA_n, rdL_n, wrL_n, nI_one, nI_bit1, nI_bit0, fa_or, fa_and, nI_df, nat31, Option.bind_some, m1_le0, m1_lt0, m1_eq, eq_m1, ite_nI, sub_m, pk_m1', not_lt0]; rw [hbC]; exact hb), show (3 : Int32) = nI 3 from rfl]
        exact tot_bd (c_fail (k := 3) hC (by omega) ha ht) (fun W hW => tot_some hW)
      · rw [d_tSign hW.1]
        exact tot_some ⟨AL.rd hW.1 ha, fun z => absurd z hne, hW.2.d T⟩
    · dsimp only
      unfold gX10_readsTakes
      have hc := (g.2.2.2 hb).1
      have hcl : 0 < D.cs.length := List.length_pos_iff.mpr hc
      have hc2 := hD.2.2.2.2.1.2
      rw [hD.2.2.2.1, hD.2.2.2.2.1.1, if_neg (nI_ge (by omega) (by omega)), show (3 : Int32) = nI 3 from rfl]
      exact tot_mo (MO.bad (k := 3) hC ha (by omega) rfl) (fun r hr => ⟨fun z => hr.2.1 z, fun z => absurd z hne, hr.2.2.2.d⟩)
  | false =>
    obtain ⟨hcs, hv⟩ := g.2.2.1 hb
    intro V hC hD
    dsimp only
    rw [hK, hD.1.2.2.2.2]
    unfold gX9_bit
    rw [Option.bind_some]
    dsimp only
    rw [if_neg (by try simp (disch := omega) only [fa_lit, ne_le, ne_lt, ne_eq', nI_add, pk_mul, pk_sub, rdA_n, wrA_n, rdL_n, wrL_n, nI_one, nI_bit1, nI_bit0, fa_or, fa_and, nI_df, nat31, Option.bind_some, m1_le0, m1_lt0, m1_eq, eq_m1, ite_nI, sub_m, pk_m1', not_lt0]; rw [hbC, hb]; decide), hD.1.2.2.2.2, show nI (stC D.b) ||| ((1 : Int32) <<< (nI 7 &&& 31)) = nI (stC (D.b.1, D.b.2.1, D.b.2.2.1, true)) by try simp (disch := omega) only [fa_lit, ne_le, ne_lt, ne_eq', nI_add, pk_mul, pk_sub, rdA_n, wrA_n, rdL_n, wrL_n, nI_one, nI_bit1, nI_bit0, fa_or, fa_and, nI_df, nat31, Option.bind_some, m1_le0, m1_lt0, m1_eq, eq_m1, ite_nI, sub_m, pk_m1', not_lt0]; rw [hbC2 _ hb], Option.bind_some]
    have C2 : RC (wF V T 10 (nI (stC (D.b.1, D.b.2.1, D.b.2.2.1, true)))) tp a 0 := hC.cg rfl (by funext j; rw [wF_F, if_neg (by omega)]) rfl
    have F2 : dfr T V (wF V T 10 (nI (stC (D.b.1, D.b.2.1, D.b.2.2.1, true)))) := dfr_F _ _ (by omega)
    have x10 : ∀ j, (wF V T 10 (nI (stC (D.b.1, D.b.2.1, D.b.2.2.1, true)))).F T j = if j = 10 then nI (stC (D.b.1, D.b.2.1, D.b.2.2.1, true)) else V.F T j := by
      intro j
      rw [wF_F]
      by_cases e : j = 10
      · rw [if_pos ⟨rfl, e⟩, if_pos e]
      · rw [if_neg (fun z => e z.2), if_neg e]
    have xA : (wF V T 10 (nI (stC (D.b.1, D.b.2.1, D.b.2.2.1, true)))).A = V.A := rfl
    have xL : (wF V T 10 (nI (stC (D.b.1, D.b.2.1, D.b.2.2.1, true)))).L = V.L := rfl
    generalize wF V T 10 (nI (stC (D.b.1, D.b.2.1, D.b.2.2.1, true))) = V2 at C2 F2 x10 xA xL
    rw [Option.bind_assoc]
    refine tot_bd (c_adv ht hN ha C2) (fun V3 h3 => ?_)
    unfold gX1_clear
    rw [Option.bind_some, Option.bind_some, Option.bind_assoc]
    have C4 : RC (wF V3 (T + 6) 2 0) tp (enN tp a) 0 := h3.1.cg rfl (by funext j; rw [wF_F, if_neg (by omega)]) rfl
    have L4 : LwS (wF V3 (T + 6) 2 0) (T + 6) [] := ⟨by simp, by rw [wF_F, if_pos ⟨rfl, rfl⟩]; rfl, fun i hi => by simp at hi⟩
    have F4 : pwf (T + 6) V2 (wF V3 (T + 6) 2 0) := ⟨h3.2.2.1, fun i _ => by rw [wF_A, h3.2.1], fun i j h1 h2 => by rw [wF_F, if_neg h2, h3.2.e.2.2 i h1]⟩
    generalize wF V3 (T + 6) 2 0 = V4 at C4 L4 F4
    refine tot_bd (x_E (o := T + 6) (by omega) ht hN V4 (enN tp a) [] C4 o0.1 L4 (by simp)) (fun V5 h5 => ?_)
    obtain ⟨p5, f, a', ps, cs, ⟨c1, c2, c3⟩, m5, v5⟩ := h5
    rw [Option.bind_some]
    have P5 := F4.trans p5
    have DF5 := F2.trans P5.d
    -- the model, up to the E
    have mdl : ∀ (s : PS) (b' : Bool × Bool × Bool × Bool) (v' : Vf) (Vm : VT), stM b' = stM D.b → (f ≠ 0 → s.2 = f) → (f = 0 → s = sG tp 59 (a', 0)) → MC Vm tp a → DrM Vm D → tot (gX10_readsTakes N Vm) (fun r => (s.2 ≠ 0 → r.1 = nI 0 ∧ r.2.F 137 9 = nI s.2) ∧ (s.2 = 0 → r.1 = nI 1 ∧ MC r.2 tp s.1 ∧ DrM r.2 (D.q, v', b', cs)) ∧ dmf Vm r.2) := by
      intro s b' v' Vm hbm hs1 hs2 hC hD
      obtain ⟨⟨e1, e2, e3, e4⟩, e5, e6, e7, ⟨e8, e8'⟩, e9⟩ := id hD
      rw [hcs] at e8 e9
      have e8 : Vm.A 146 1 = nI 1000 := e8
      unfold gX10_readsTakes
      rw [e7, e8, if_pos (by decide)]
      refine tot_bd (m_next ht hN ha hC) (fun V3 h3 => ?_)
      have e19 : V3.F 137 19 = nI 1000 := by rw [h3.2.2.2 137 19 (by omega)]; exact e9.1
      rw [e19, Option.bind_some]
      unfold gX10_reads
      rw [Option.bind_some, show qnar .boolean 0 = nI 0 by decide]
      generalize hU : wA (wA V3 145 1 (nI 1000)) 149 0 (nI 0) = U
      have uA : ∀ i, i ≠ 145 → i ≠ 149 → U.A i = Vm.A i := fun i h1 h2 => by rw [← hU, wA_n _ _ _ h2, wA_n _ _ _ h1, h3.2.1]
      have u145 : ∀ j, U.A 145 j = Vm.A 145 j := by
        intro j
        rw [← hU, wA_n _ _ _ (by omega), wA_A, h3.2.1]
        by_cases e : j = 1
        · rw [if_pos ⟨rfl, e⟩, e, e7]
        · rw [if_neg (fun z => e z.2)]
      have uF : U.F = V3.F := by rw [← hU]; rfl
      have uL : U.L = Vm.L := by rw [← hU]; exact h3.2.2.1
      have MU : MC U tp (enN tp a) := by
        rw [← hU]
        exact h3.1.cg (by rw [wA_n _ _ _ (by omega), wA_n _ _ _ (by omega)]) (fun _ _ _ => rfl) rfl
      have BU : MB U tp (enN tp a) [] := ⟨MU, ⟨by rw [uF]; exact e19, fun i hi => by simp at hi⟩, by simp, o0.1⟩
      have u149 : U.A 149 0 = nI 0 := by rw [← hU, wA_A, if_pos ⟨rfl, rfl⟩]
      have DU : dmf Vm U := by
        have hF : ∀ i k, ¬ (i = 137 ∧ 4 ≤ k ∧ k ≤ 8) → U.F i k = Vm.F i k := fun i k h => by rw [uF]; exact h3.2.2.2 i k h
        refine ⟨fun i hi => ⟨uA i (by omega) (by omega), by rw [uL], funext (fun k => hF i k (by omega))⟩, uA 138 (by omega) (by omega), ⟨hF _ _ (by omega), hF _ _ (by omega), hF _ _ (by omega)⟩, fun i _ => by rw [uA 139 (by omega) (by omega)], fun i _ => ?_, ⟨u145 0, by rw [uA 146 (by omega) (by omega)]⟩, fun i _ => by rw [uA 147 (by omega) (by omega)]⟩
        rw [uL, uA 141 (by omega) (by omega), uA 142 (by omega) (by omega), uA 143 (by omega) (by omega), uA 144 (by omega) (by omega)]
        exact ⟨rfl, rfl, rfl, rfl, rfl⟩
      have u20 : U.F 137 20 = Vm.F 137 20 := by rw [uF]; exact h3.2.2.2 137 20 (by omega)
      have run : tot (gX10_reads_b11 N N (nI 0) (nI 1) U) (fun r => (s.2 ≠ 0 → r.1 = nI 0 ∧ r.2.F 137 9 = nI s.2) ∧ (s.2 = 0 → r.1 = nI 1 ∧ MB r.2 tp s.1 cs) ∧ mwp U r.2) := by
        refine m5 U [] N _ BU (by omega) rfl u149 (fun z => ?_) (fun z w2 W b1 b2 b3 b4 => ?_)
        · intro W w1 w2
          rw [hs1 z]
          exact ⟨fun _ => ⟨rfl, w1⟩, fun z2 => absurd z2 z, w2⟩
        · obtain ⟨hno, -⟩ := v5 z
          have ha' := (c3 z).2.2.2.1
          have hs := hs2 z
          have stp : stopB W tp a' 0 := ⟨hno.1.1, hno.1.2.1, hno.1.2.2, hno.2.1, hno.2.2, b3.2.2⟩
          by_cases e59 : tyN tp a' = 59
          · have es : s = (enN tp a', 0) := by
              rw [hs]
              unfold sG
              rw [if_pos rfl, if_pos e59]
            refine a_end ht hN b2 (by omega) stp e59 (fun W2 w1 w2 => ?_)
            rw [es]
            exact ⟨fun z2 => absurd rfl z2, fun _ => ⟨rfl, w1⟩, b4.trans w2⟩
          · have es : s = (a', 1 + 16 * plN tp a') := by
              rw [hs]
              unfold sG
              rw [if_pos rfl, if_neg e59]
            refine a_bad0 ht b2.1 ha' (by omega) (by omega) stp ⟨fun q => by omega, fun _ => e59⟩ ?_
            intro W2 w1 w2
            rw [es]
            refine ⟨fun _ => ⟨rfl, w1⟩, fun z2 => ?_, b4.trans w2⟩
            have z2 : 1 + 16 * plN tp a' = 0 := z2
            omega
      refine tot_bd run (fun r hr => ?_)
      by_cases z : s.2 = 0
      · obtain ⟨r1, r2⟩ := hr.2.1 z
        rw [r1, if_neg (by decide), Option.bind_some]
        obtain ⟨w1, w2, w3, w4⟩ := hr.2.2
        have r19 := r2.2.1.1
        rw [r19]
        generalize hX : wA r.2 146 1 (nI (1000 + cs.length)) = X
        have xA' : ∀ i, i ≠ 146 → X.A i = r.2.A i := fun i hi => by rw [← hX]; exact wA_n _ _ _ hi
        have xF : X.F = r.2.F := by rw [← hX]; rfl
        have xL' : X.L = r.2.L := by rw [← hX]; rfl
        have rA : ∀ i, i ≠ 145 → i ≠ 146 → i ≠ 147 → i ≠ 148 → i ≠ 149 → X.A i = Vm.A i := fun i h1 h2 h3 h4 h5 => by rw [xA' i h2, w2 i h3 h4 h5, uA i h1 h5]
        refine tot_some ⟨fun z2 => absurd z z2, fun _ => ⟨rfl, ?_, ?_⟩, (DU.trans hr.2.2.d).trans ?_⟩
        · rw [← hX]
          exact r2.1.cg (wA_n _ _ _ (by omega)) (fun _ _ _ => rfl) rfl
        · refine ⟨⟨?_, ?_, ?_, ?_⟩, ?_, fun m hm => ?_, ?_, ⟨?_, ?_⟩, ⟨?_, fun i hi => ?_⟩⟩
          · rw [rA 139 (by omega) (by omega) (by omega) (by omega) (by omega)]
            exact e1
          · rw [rA 139 (by omega) (by omega) (by omega) (by omega) (by omega)]
            exact e2
          · rw [rA 139 (by omega) (by omega) (by omega) (by omega) (by omega)]
            exact e3
          · rw [rA 139 (by omega) (by omega) (by omega) (by omega) (by omega)]
            exact e4
          · show X.F 137 20 = nI (stM b')
            rw [hbm, xF, w4 137 20 (by omega), u20]
            exact e5
          · rw [rA 141 (by omega) (by omega) (by omega) (by omega) (by omega), rA 142 (by omega) (by omega) (by omega) (by omega) (by omega), rA 143 (by omega) (by omega) (by omega) (by omega) (by omega), rA 144 (by omega) (by omega) (by omega) (by omega) (by omega), xL', w1, uL]
            exact e6 m hm
          · rw [xA' 145 (by omega), w2 145 (by omega) (by omega) (by omega), u145]
            exact e7
          · show X.A 146 1 = nI (1000 + cs.length)
            rw [← hX, wA_A, if_pos ⟨rfl, rfl⟩]
          · show cs.length ≤ 1000
            have := r2.2.2.1
            have := r2.2.2.2
            omega
          · rw [xF]
            exact r19
          · rw [xA' 147 (by omega)]
            exact r2.2.1.2 i hi
        · rw [← hX]
          exact dmf_A _ (by omega)
      · rw [(hr.1 z).1, if_pos (by rfl)]
        exact tot_some ⟨fun _ => ⟨rfl, (hr.1 z).2⟩, fun z2 => absurd z2 z, DU.trans hr.2.2.d⟩
    by_cases hf : f = 0
    · obtain ⟨g1, g2, g3, g4, g5⟩ := c3 hf
      obtain ⟨hno, v, hv1, hv2⟩ := v5 hf
      have hcne : cs ≠ [] := fun e => by rw [e] at hv2; exact CE_ne hv2
      generalize hs : sG tp 59 (a', 0) = s
      have os : okS tp s := by rw [← hs]; exact ok_G ht ⟨g4, by show 0 < 2 ^ 20; decide⟩ _
      have is : s.2 = 0 → s = (enN tp a', 0) := fun z => by rw [← hs] at z ⊢; exact (sG_0 z).2.2
      refine tot_mo (k_G ht hN (AL.rc g1 g4) (show 59 < 2 ^ 31 by omega)) (fun W hW => ?_)
      rw [hs] at hW
      refine ⟨s, (D.q, v, (D.b.1, D.b.2.1, D.b.2.2.1, true), cs), ⟨os.1, os.2, fun z => ⟨⟨g.1, g.2.1, (fun z2 => absurd (show true = false from z2) (by decide)), fun _ => ⟨hcne, hv2⟩⟩, ?_⟩⟩, hW.1, fun z => ?_, DF5.trans (hW.2.d T), fun Vm h1 h2 => mdl s _ _ Vm rfl (fun z => absurd hf z) (fun _ => hs.symm) h1 h2⟩
      · rw [is z]
        have q9 : a' ≤ enN tp a' := Nat.le_trans (pl_le (a := a') g4).1 (en_le (a := a') g4).1
        show a < enN tp a'
        omega
      · refine DrC.rw hT ?_ hW.2
        obtain ⟨⟨d1, d2, d3, d4, d5⟩, d6, sl, d7, d8⟩ := hD
        have fT : ∀ j, V5.F T j = if j = 10 then nI (stC (D.b.1, D.b.2.1, D.b.2.2.1, true)) else V.F T j := fun j => by rw [P5.2.2 T j (by omega) (by omega), x10]
        refine ⟨⟨?_, ?_, ?_, ?_, ?_⟩, fun m hm => ?_, ps, ?_, hv1⟩
        · rw [fT, if_neg (by omega)]
          exact d1
        · rw [fT, if_neg (by omega)]
          exact d2
        · rw [fT, if_neg (by omega)]
          exact d3
        · rw [fT, if_neg (by omega)]
          exact d4
        · rw [fT, if_pos rfl]
          rfl
        · rw [P5.2.1 (T + 2) (by omega), P5.2.1 (T + 3) (by omega), P5.2.1 (T + 4) (by omega), P5.2.1 (T + 5) (by omega), P5.1, xA, xL]
          exact d6 m hm
        · exact g2
    · have hD5 := c2 hf
      rw [d_tSign hD5]
      exact tot_some ⟨(enN tp a, f), D, ⟨o0.1, hD5.2.2, fun z => absurd z hf⟩, AL.rd hD5 o0.1, fun z => absurd z hf, DF5, fun Vm h1 h2 => tot_mo (mdl (enN tp a, f) D.b D.v Vm rfl (fun _ => rfl) (fun z => absurd z hf) h1 h2) (fun r hr => ⟨hr.1, fun z => absurd z hf, hr.2.2⟩)⟩
/-- nothing that may stand there -/
theorem t_bad (ht : GoodT tp) (ha : a ≤ tp.length) : ∃ s D', Stm tp T a D s D' (fun V => (gX6_fail (nI 1) V).bind fun V1 => gX6_takeSign N (nI 59) V1) (fun V => gX10_fails (nI 1) V) := by
  have of := ok_f ht ha (show 1 < 16 by omega)
  have hne : (a, 1 + 16 * plN tp a).2 ≠ 0 := by show 1 + 16 * plN tp a ≠ 0; omega
  refine ⟨(a, 1 + 16 * plN tp a), D, ⟨of.1, of.2, fun z => absurd z hne⟩, fun V hC hD => ?_, fun V hC hD => ?_⟩
  · refine tot_bd (c_fail (k := 1) hC (by omega) ha ht) (fun W hW => ?_)
    rw [d_tSign hW.1]
    exact tot_some ⟨AL.rd hW.1 ha, fun z => absurd z hne, hW.2.d T⟩
  · dsimp only
    rw [m_fails hC]
    exact tot_some ⟨fun _ => ⟨rfl, by rw [wF_F, if_pos ⟨rfl, rfl⟩]⟩, fun z => absurd z hne, dmf_F _ (by omega)⟩
/-- the model, statement by statement -/
def PstM (tp : List Nat) (N a f : Nat) (D D' : DST) : Prop := ∀ (V : VT) (w : Nat), MC V tp a → DrM V D → tp.length - a < w → tot (gX10_readsAll_b39 N w V) (fun u => (f ≠ 0 → u.1 = nI 0 ∧ u.2.F 137 9 = nI f) ∧ (f = 0 → u.1 = nI 1 ∧ DrM u.2 D') ∧ dmf V u.2)
theorem t_past (ht : GoodT tp) (hN : 1000 < N) (hT : T = 6 ∨ T = 15) : ∀ (w i a : Nat) (V : VT) (D : DST), RC V tp a 0 → a ≤ tp.length → DrC V T D → GoodD D → i ≤ a → tp.length - a < w → tot (gX4_readPast_b13 N w T (nI i) V) (fun r => ∃ (f : Nat) (D' : DST), r.1 = nI f ∧ f < 2 ^ 20 ∧ (f = 0 → GoodD D' ∧ DrC r.2 T D') ∧ dfr T V r.2 ∧ r.2.F 3 1 = nI 0 ∧ PstM tp N a f D D') := by
  have hl := ht.1
  have hg0 : ∀ i, i < tp.length → tp.getD i 0 ≠ 0 := fun i hi => by
    have := ht.2 i hi
    unfold gch at this
    omega
  have cl : ∀ (V : VT) (f : Nat) (Q : Int32 × VT → Prop), V.F 3 8 = nI f → (∀ W, dfr T V W → rwe V W → W.F 3 1 = nI 0 → Q (nI f, W)) → tot (gX4_readPast_b146 N V) Q := by
    intro V f Q h8 hQ
    unfold gX4_readPast_b146 gX6_close
    rw [Option.bind_some, Option.bind_some]
    dsimp only
    have e8 : (wF V 3 1 0).F 3 8 = nI f := by rw [wF_F, if_neg (by omega)]; exact h8
    rw [e8]
    exact tot_some (hQ _ ((rwe_F 1 0).d T) (rwe_F 1 0) (by rw [wF_F, if_pos ⟨rfl, rfl⟩]; rfl))
  intro w
  induction w with
  | zero => intro i a V D _ _ _ _ _ h; omega
  | succ w ih =>
    intro i a V D hC ha hD g hi hw
    unfold gX4_readPast_b13
    rw [if_neg (show ¬ (1000 : Int32) < nI i from nI_nlt (a := 1000) (by omega) (by omega)), hC.2.2.2.2.2.2, if_pos (by rfl), hC.2.2.2.1]
    have hy := ty_lt (tp := tp) (a := a) ht
    by_cases h0 : tyN tp a = 0
    · rw [if_pos (by rw [h0]; rfl)]
      refine cl V 0 _ hC.2.2.2.2.2.2 (fun W w1 w2 w3 => ⟨0, D, rfl, by decide, fun _ => ⟨g, hD.rw hT w2⟩, w1, w3, fun Vm wm hM hDm hwm => ?_⟩)
      obtain ⟨wm, rfl⟩ : ∃ i, wm = i + 1 := ⟨wm - 1, by omega⟩
      unfold gX10_readsAll_b39
      rw [hM.2.2.2.1, if_pos (by rw [(mty_0 _).mpr h0]; rfl)]
      exact tot_some ⟨fun z => absurd rfl z, fun _ => ⟨rfl, hDm⟩, dmf.rf⟩
    rw [if_neg (nI_ne0 (by omega) (by omega)), c_kH hC ht, Option.bind_some]
    dsimp only
    have hk := kN_le tp a
    -- a statement, then the rest
    have it : ∀ (fc : VT → Option VT) (fm : VT → Option (Int32 × VT)), Stn tp T a D fc fm → (∀ (Vm : VT) (wm : Nat), MC Vm tp a → gX10_readsAll_b39 N (wm + 1) Vm = (fm Vm).bind fun p => gX10_readsAll_b166 N (gX10_readsAll_b39 N wm) p.1 p.2) → tot ((fc V).bind fun V1 => gX4_readPast_b13 N w T (nI i + 1) V1) (fun r => ∃ (f : Nat) (D' : DST), r.1 = nI f ∧ f < 2 ^ 20 ∧ (f = 0 → GoodD D' ∧ DrC r.2 T D') ∧ dfr T V r.2 ∧ r.2.F 3 1 = nI 0 ∧ PstM tp N a f D D') := by
      intro fc fm hS hM
      refine tot_bd (hS V hC hD) (fun W hW => ?_)
      obtain ⟨s, D1, ⟨b1, b2, b3⟩, A1, c1, d1, m1⟩ := hW
      by_cases z : s.2 = 0
      · have b3 := b3 z
        have es : s = (s.1, 0) := by
          obtain ⟨x, y⟩ := s
          have z : y = 0 := z
          rw [z]
        rw [show nI i + 1 = nI (i + 1) from nI_1 i]
        refine tot_mo (ih (i + 1) s.1 W D1 (A1.2.1 z) b1 (c1 z) b3.1 (by omega) (by omega)) (fun r hr => ?_)
        obtain ⟨f, D2, r1, r2, r3, r4, r5, r6⟩ := hr
        refine ⟨f, D2, r1, r2, r3, d1.trans r4, r5, fun Vm wm hMm hDm hwm => ?_⟩
        obtain ⟨wm, rfl⟩ : ∃ i, wm = i + 1 := ⟨wm - 1, by omega⟩
        rw [hM Vm wm hMm]
        refine tot_bd (m1 Vm hMm hDm) (fun u hu => ?_)
        obtain ⟨u1, u2, u3⟩ := hu.2.1 z
        unfold gX10_readsAll_b166
        rw [u1, if_neg (by decide)]
        exact tot_mo (r6 u.2 wm u2 u3 (by omega)) (fun x hx => ⟨hx.1, hx.2.1, hu.2.2.trans hx.2.2⟩)
      · have hDd := A1.2.2 z
        have fin : ∀ w, 0 < w → tot (gX4_readPast_b13 N w T (nI i + 1) W) (fun r => ∃ (f : Nat) (D' : DST), r.1 = nI f ∧ f < 2 ^ 20 ∧ (f = 0 → GoodD D' ∧ DrC r.2 T D') ∧ dfr T V r.2 ∧ r.2.F 3 1 = nI 0 ∧ PstM tp N a f D D') := by
          intro w hw0
          obtain ⟨w, rfl⟩ : ∃ i, w = i + 1 := ⟨w - 1, by omega⟩
          have last : tot (gX4_readPast_b146 N W) (fun r => ∃ (f : Nat) (D' : DST), r.1 = nI f ∧ f < 2 ^ 20 ∧ (f = 0 → GoodD D' ∧ DrC r.2 T D') ∧ dfr T V r.2 ∧ r.2.F 3 1 = nI 0 ∧ PstM tp N a f D D') := by
            refine cl W s.2 _ hDd.1 (fun X x1 x2 x3 => ⟨s.2, D, rfl, b2, fun z2 => absurd z2 z, d1.trans x1, x3, fun Vm wm hMm hDm hwm => ?_⟩)
            obtain ⟨wm, rfl⟩ : ∃ i, wm = i + 1 := ⟨wm - 1, by omega⟩
            rw [hM Vm wm hMm]
            refine tot_bd (m1 Vm hMm hDm) (fun u hu => ?_)
            obtain ⟨u1, u2⟩ := hu.1 z
            unfold gX10_readsAll_b166
            rw [u1, if_pos (by rfl)]
            exact tot_some ⟨fun _ => ⟨rfl, u2⟩, fun z2 => absurd z2 z, hu.2.2⟩
          unfold gX4_readPast_b13
          by_cases h9 : (1000 : Int32) < nI i + 1
          · rw [if_pos h9]
            exact last
          · rw [if_neg h9, hDd.1, if_neg (nI_ne0 hDd.2.1 (by have := hDd.2.2; omega))]
            exact last
        have he := en_lt h0
        have hp := pl_le ha
        exact fin w (by omega)
    -- the model's choice
    have pick : ∀ (Vm : VT) (wm : Nat), MC Vm tp a → gX10_readsAll_b39 N (wm + 1) Vm = (if kN tp a = 0 then (gX10_readsMatter N Vm).bind fun p => gX10_readsAll_b166 N (gX10_readsAll_b39 N wm) p.1 p.2 else if kN tp a = 3 then (gX10_readsLed N Vm).bind fun p => gX10_readsAll_b166 N (gX10_readsAll_b39 N wm) p.1 p.2 else if kN tp a = 4 then (gX10_readsOne N (nI 1) (nI 1) (nI 9) Vm).bind fun p => gX10_readsAll_b166 N (gX10_readsAll_b39 N wm) p.1 p.2 else if kN tp a = 5 then (gX10_readsOne N (nI 3) (nI 0) (nI 200) Vm).bind fun p => gX10_readsAll_b166 N (gX10_readsAll_b39 N wm) p.1 p.2 else if kN tp a = 6 then (gX10_readsOne N (nI 2) (nI 0) (nI 20) Vm).bind fun p => gX10_readsAll_b166 N (gX10_readsAll_b39 N wm) p.1 p.2 else if kN tp a = 7 then (gX10_readsTakes N Vm).bind fun p => gX10_readsAll_b166 N (gX10_readsAll_b39 N wm) p.1 p.2 else (gX10_fails (nI 1) Vm).bind fun p => gX10_readsAll_b166 N (gX10_readsAll_b39 N wm) p.1 p.2) := by
      intro Vm wm hM
      have hm := mty_lt (tyN tp a)
      unfold gX10_readsAll_b39
      rw [hM.2.2.2.1, if_neg (show ¬ nI (mty (tyN tp a)) = 0 from nI_ne (b := 0) (fun z => h0 ((mty_0 _).mp z)) (by omega) (by omega)), m_isW (k := 0) hM ha (by omega) (show (187475625 : Int64) = lN (c27L.getD 0 0) from rfl), Option.bind_some]
      dsimp only
      by_cases k0 : kN tp a = 0
      · rw [if_pos k0, if_neg (by decide), if_pos k0]
      rw [if_neg k0, if_pos (by rfl), if_neg k0, m_isW (k := 3) hM ha (by omega) (show (8887 : Int64) = lN (c27L.getD 3 0) from rfl), Option.bind_some]
      dsimp only
      by_cases k3 : kN tp a = 3
      · rw [if_pos k3, if_neg (by decide), if_pos k3]
      rw [if_neg k3, if_pos (by rfl), if_neg k3, m_isW (k := 4) hM ha (by omega) (show (6128141 : Int64) = lN (c27L.getD 4 0) from rfl), Option.bind_some]
      dsimp only
      by_cases k4 : kN tp a = 4
      · rw [if_pos k4, if_neg (by decide), if_pos k4]
        rfl
      rw [if_neg k4, if_pos (by rfl), if_neg k4, m_isW (k := 5) hM ha (by omega) (show (12089 : Int64) = lN (c27L.getD 5 0) from rfl), Option.bind_some]
      dsimp only
      by_cases k5 : kN tp a = 5
      · rw [if_pos k5, if_neg (by decide), if_pos k5]
        rfl
      rw [if_neg k5, if_pos (by rfl), if_neg k5, m_isW (k := 6) hM ha (by omega) (show (22726 : Int64) = lN (c27L.getD 6 0) from rfl), Option.bind_some]
      dsimp only
      by_cases k6 : kN tp a = 6
      · rw [if_pos k6, if_neg (by decide), if_pos k6]
        rfl
      rw [if_neg k6, if_pos (by rfl), if_neg k6, m_isW (k := 7) hM ha (by omega) (show (10656676 : Int64) = lN (c27L.getD 7 0) from rfl), Option.bind_some]
      dsimp only
      by_cases k7 : kN tp a = 7
      · rw [if_pos k7, if_neg (by decide), if_pos k7]
      · rw [if_neg k7, if_pos (by rfl), if_neg k7]
        rfl
    have bad : (kN tp a ≠ 0 ∧ kN tp a ≠ 3 ∧ kN tp a ≠ 4 ∧ kN tp a ≠ 5 ∧ kN tp a ≠ 6 ∧ kN tp a ≠ 7) → tot (gX4_readPast_b123 N (gX4_readPast_b13 N w) T (nI i) V) (fun r => ∃ (f : Nat) (D' : DST), r.1 = nI f ∧ f < 2 ^ 20 ∧ (f = 0 → GoodD D' ∧ DrC r.2 T D') ∧ dfr T V r.2 ∧ r.2.F 3 1 = nI 0 ∧ PstM tp N a f D D') := by
      intro hn
      unfold gX4_readPast_b123 gX4_readPast_b131
      rw [← Option.bind_assoc]
      refine it _ _ (Stm.n (t_bad (N := N) ht ha)) (fun Vm wm hM => ?_)
      rw [pick Vm wm hM, if_neg hn.1, if_neg hn.2.1, if_neg hn.2.2.1, if_neg hn.2.2.2.1, if_neg hn.2.2.2.2.1, if_neg hn.2.2.2.2.2]
    have b108 : ∀ k, kN tp a = k → k < 22 → gX4_readPast_b108 N (gX4_readPast_b13 N w) T (nI i) V = (((gX4_readSetting N T (nI k) V).bind fun V2 => gX6_takeSign N (nI 59) V2).bind fun V1 => gX4_readPast_b13 N w T (nI i + 1) V1) := by
      intro k ek hk
      unfold gX4_readPast_b108 gX4_readPast_b131
      rw [c_kH hC ht, Option.bind_some, ek, Option.bind_assoc]
      rfl
    by_cases k0 : kN tp a = 0
    · rw [if_pos (by rw [k0]; rfl)]
      unfold gX4_readPast_b131
      rw [← Option.bind_assoc]
      refine it _ _ (Stm.n (t_matter ht hN hT ha g h0)) (fun Vm wm hM => ?_)
      rw [pick Vm wm hM, if_pos k0]
    rw [if_neg (show ¬ nI (kN tp a) = 0 from nI_ne (b := 0) k0 (by omega) (by omega))]
    by_cases k1 : kN tp a = 1
    · rw [if_pos (by rw [k1]; rfl)]
      exact bad (by omega)
    rw [if_neg (show ¬ nI (kN tp a) = 1 from nI_ne (b := 1) k1 (by omega) (by omega))]
    by_cases k2 : kN tp a = 2
    · rw [if_pos (by rw [k2]; rfl)]
      exact bad (by omega)
    rw [if_neg (show ¬ nI (kN tp a) = 2 from nI_ne (b := 2) k2 (by omega) (by omega))]
    by_cases k3 : kN tp a = 3
    · rw [if_pos (by rw [k3]; rfl)]
      unfold gX4_readPast_b131
      rw [← Option.bind_assoc]
      refine it _ _ (Stm.n (t_led ht hN hT ha g h0)) (fun Vm wm hM => ?_)
      rw [pick Vm wm hM, if_neg k0, if_pos k3]
    rw [if_neg (show ¬ nI (kN tp a) = 3 from nI_ne (b := 3) k3 (by omega) (by omega))]
    by_cases k4 : kN tp a = 4
    · rw [if_pos (by rw [k4]; rfl), b108 4 k4 (by omega)]
      refine it _ _ (Stm.n (t_knife ht hN hT ha g h0)) (fun Vm wm hM => ?_)
      rw [pick Vm wm hM, if_neg k0, if_neg k3, if_pos k4]
    rw [if_neg (show ¬ nI (kN tp a) = 4 from nI_ne (b := 4) k4 (by omega) (by omega))]
    by_cases k5 : kN tp a = 5
    · rw [if_pos (by rw [k5]; rfl), b108 5 k5 (by omega)]
      refine it _ _ (Stm.n (t_pot ht hN hT ha g h0)) (fun Vm wm hM => ?_)
      rw [pick Vm wm hM, if_neg k0, if_neg k3, if_neg k4, if_pos k5]
    rw [if_neg (show ¬ nI (kN tp a) = 5 from nI_ne (b := 5) k5 (by omega) (by omega))]
    by_cases k6 : kN tp a = 6
    · rw [if_pos (by rw [k6]; rfl), b108 6 k6 (by omega)]
      refine it _ _ (Stm.n (t_adds ht hN hT ha g h0)) (fun Vm wm hM => ?_)
      rw [pick Vm wm hM, if_neg k0, if_neg k3, if_neg k4, if_neg k5, if_pos k6]
    rw [if_neg (show ¬ nI (kN tp a) = 6 from nI_ne (b := 6) k6 (by omega) (by omega))]
    by_cases k7 : kN tp a = 7
    · rw [if_pos (by rw [k7]; rfl), b108 7 k7 (by omega)]
      refine it _ _ (t_takes ht hN hT ha g h0) (fun Vm wm hM => ?_)
      rw [pick Vm wm hM, if_neg k0, if_neg k3, if_neg k4, if_neg k5, if_neg k6, if_pos k7]
    · rw [if_neg (show ¬ nI (kN tp a) = 7 from nI_ne (b := 7) k7 (by omega) (by omega))]
      exact bad (by omega)
end PTakes
