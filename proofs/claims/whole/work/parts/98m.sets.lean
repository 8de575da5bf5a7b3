/-! PURE: the statements of a PAST: knife, pot, adds, takes. -/
def fldC (q : PP) (j : Nat) : Nat := if j = 7 then q.kn else if j = 8 then q.fu else q.ad
def fldM (q : PP) (i : Nat) : Nat := if i = 5 then q.kn else if i = 6 then q.ad else q.fu
theorem st_lt (b : Bool × Bool × Bool × Bool) : stC b < 256 ∧ stM b < 16 := by
  obtain ⟨b1, b2, b3, b4⟩ := b
  cases b1 <;> cases b2 <;> cases b3 <;> cases b4 <;> decide
section PSets
variable {tp : List Nat} {T a N : Nat} {D : DST}
theorem t_one (ht : GoodT tp) (hN : 1000 < N) (hT : T = 6 ∨ T = 15) (ha : a ≤ tp.length) (g : GoodD D) (h0 : tyN tp a ≠ 0) (k w lo hi fc : Nat) (set : PP → Nat → PP) (fl : (Bool × Bool × Bool × Bool) → Bool) (up : (Bool × Bool × Bool × Bool) → (Bool × Bool × Bool × Bool)) (hk : k < 8) (hw : 1 ≤ w ∧ w ≤ 3) (hlo : lo < 2 ^ 31) (hhi : hi < 2 ^ 31) (hfc : 7 ≤ fc ∧ fc ≤ 9)
    (hbC : ∀ b, (stC b).testBit k = fl b) (hbC2 : ∀ b, fl b = false → stC b ||| 2 ^ k = stC (up b)) (hbM : ∀ b, (stM b).testBit w = fl b) (hbM2 : ∀ b, fl b = false → stM b ||| 2 ^ w = stM (up b)) (hup : ∀ b, (up b).2.2.2 = b.2.2.2)
    (hs : ∀ q x, (set q x).n = q.n ∧ (set q x).kd = q.kd ∧ (set q x).bi = q.bi ∧ (set q x).to = q.to ∧ (set q x).le = q.le ∧ (set q x).nm = q.nm) (hsC : ∀ q x j, 7 ≤ j → j ≤ 9 → fldC (set q x) j = if j = fc then x else fldC q j) (hsM : ∀ q x i, 5 ≤ i → i ≤ 7 → fldM (set q x) i = if i = 4 + w then x else fldM q i) (hsg : ∀ q x, GoodP q → lo ≤ x → x ≤ hi → GoodP (set q x))
    (hK : ∀ V, gX4_readSetting N T (nI k) V = ((gX9_bit (V.F T 10) (nI k) V).bind fun p1 => if p1.1 = 1 then (gX6_fail 3 p1.2).bind fun V12 => some V12 else (some (wF p1.2 T 10 ((p1.2.F T 10) ||| ((1 : Int32) <<< (nI k &&& 31))))).bind fun V2 => (gX6_advance N V2).bind fun V3 => (gX6_takeNumber N (nI lo) (nI hi) V3).bind fun p4 => (some (wF p4.2 T fc p4.1)).bind fun V5 => some V5)) :
    ∃ s D', Stm tp T a D s D' (fun V => (gX4_readSetting N T (nI k) V).bind fun V2 => gX6_takeSign N (nI 59) V2) (fun V => gX10_readsOne N (nI w) (nI lo) (nI hi) V) := by
  have hst := st_lt D.b
  have o0 : okS tp (enN tp a, 0) := ok_e ha
  have l0 := en_lt2 ha h0
  cases hb : fl D.b with
  | true =>
    have of := ok_f ht ha (show 3 < 16 by omega)
    have hne : (a, 3 + 16 * plN tp a).2 ≠ 0 := by show 3 + 16 * plN tp a ≠ 0; omega
    refine ⟨(a, 3 + 16 * plN tp a), D, ⟨of.1, of.2, fun z => absurd z hne⟩, fun V hC hD => ?_, fun V hC hD => ?_⟩
    · dsimp only
      refine tot_bd (R := fun W => RD W (3 + 16 * plN tp a) ∧ rwe V W) ?_ (fun W hW => ?_)
      · rw [hK, hD.1.2.2.2.2]
        unfold gX9_bit
        rw [Option.bind_some]
        dsimp only
        rw [if_pos (by try simp (disch := omega) only [fa_lit, ne_le, ne_lt, ne_eq', nI_add, pk_mul, pk_sub, rdA_n, wrA_n, rdL_n, wrL_n, nI_one, nI_bit1, nI_bit0, fa_or, fa_and, nI_df, nat31, Option.bind_some, m1_le0, m1_lt0, m1_eq, eq_m1, ite_nI, sub_m, pk_m1', not_lt0]; rw [hbC]; exact hb), show (3 : Int32) = nI 3 from rfl]
        exact tot_bd (c_fail (k := 3) hC (by omega) ha ht) (fun W hW => tot_some hW)
      · rw [d_tSign hW.1]
        exact tot_some ⟨AL.rd hW.1 ha, fun z => absurd z hne, hW.2.d T⟩
    · dsimp only
      unfold gX10_readsOne
      rw [hD.2.1, if_pos (by try simp (disch := omega) only [fa_lit, ne_le, ne_lt, ne_eq', nI_add, pk_mul, pk_sub, rdA_n, wrA_n, rdL_n, wrL_n, nI_one, nI_bit1, nI_bit0, fa_or, fa_and, nI_df, nat31, Option.bind_some, m1_le0, m1_lt0, m1_eq, eq_m1, ite_nI, sub_m, pk_m1', not_lt0]; rw [hbM]; exact hb), show (3 : Int32) = nI 3 from rfl]
      exact tot_mo (MO.bad (k := 3) hC ha (by omega) rfl) (fun r hr => ⟨fun z => hr.2.1 z, fun z => absurd z hne, hr.2.2.2.d⟩)
  | false =>
    generalize hs1 : sN tp lo hi (enN tp a, 0) = s1
    generalize hs2 : sG tp 59 s1 = s2
    have o1 : okS tp s1 := by rw [← hs1]; exact ok_N ht o0 _ _
    have o2 : okS tp s2 := by rw [← hs2]; exact ok_G ht o1 _
    have i2 : s2.2 = 0 → s1.2 = 0 ∧ s2 = (enN tp s1.1, 0) := fun z => by rw [← hs2] at z ⊢; exact ⟨(sG_0 z).1, (sG_0 z).2.2⟩
    have i1 : s1.2 = 0 → (lo ≤ nuN tp (enN tp a) ∧ nuN tp (enN tp a) ≤ hi) ∧ s1 = (enN tp (enN tp a), 0) := fun z => by rw [← hs1] at z ⊢; exact ⟨(sN_0 z).2.1.2, (sN_0 z).2.2⟩
    obtain ⟨q1, q2, q3, q4, q5, q6⟩ := hs D.q (nuN tp (enN tp a))
    have sC := hsC D.q (nuN tp (enN tp a))
    have sM := hsM D.q (nuN tp (enN tp a))
    refine ⟨s2, (set D.q (nuN tp (enN tp a)), D.v, up D.b, D.cs), ⟨o2.1, o2.2, fun z => ⟨?_, ?_⟩⟩, fun V hC hD => ?_, fun V hC hD => ?_⟩
    · have z1 := (i2 z).1
      refine ⟨hsg _ _ g.1 (i1 z1).1.1 (i1 z1).1.2, fun m hm => ?_, ?_, ?_⟩
      · show (∀ d, d ∈ (set D.q (nuN tp (enN tp a))).nm m → _) ∧ ((set D.q (nuN tp (enN tp a))).nm m).length ≤ 8
        rw [q6]
        have hm : m < (set D.q (nuN tp (enN tp a))).n := hm
        rw [q1] at hm
        exact g.2.1 m hm
      · show (up D.b).2.2.2 = false → _
        rw [hup]
        exact g.2.2.1
      · show (up D.b).2.2.2 = true → _
        rw [hup]
        exact g.2.2.2
    · obtain ⟨z1, e2⟩ := i2 z
      have e1 := (i1 z1).2
      have le : ∀ b, b ≤ tp.length → b ≤ enN tp b := fun b hb => Nat.le_trans (pl_le hb).1 (en_le hb).1
      have l1 := le (enN tp a) o0.1
      have l2 := le s1.1 o1.1
      have r1 : s1.1 = enN tp (enN tp a) := by rw [e1]
      have r2 : s2.1 = enN tp s1.1 := by rw [e2]
      omega
    · dsimp only
      refine tot_bd (R := fun W => AL W tp s1 ∧ dfr T V W ∧ (s1.2 = 0 → DrC W T (set D.q (nuN tp (enN tp a)), D.v, up D.b, D.cs))) ?_ (fun W hW => ?_)
      · rw [hK, hD.1.2.2.2.2]
        unfold gX9_bit
        rw [Option.bind_some]
        dsimp only
        rw [if_neg (by try simp (disch := omega) only [fa_lit, ne_le, ne_lt, ne_eq', nI_add, pk_mul, pk_sub, rdA_n, wrA_n, rdL_n, wrL_n, nI_one, nI_bit1, nI_bit0, fa_or, fa_and, nI_df, nat31, Option.bind_some, m1_le0, m1_lt0, m1_eq, eq_m1, ite_nI, sub_m, pk_m1', not_lt0]; rw [hbC, hb]; decide), hD.1.2.2.2.2, show nI (stC D.b) ||| ((1 : Int32) <<< (nI k &&& 31)) = nI (stC (up D.b)) by try simp (disch := omega) only [fa_lit, ne_le, ne_lt, ne_eq', nI_add, pk_mul, pk_sub, rdA_n, wrA_n, rdL_n, wrL_n, nI_one, nI_bit1, nI_bit0, fa_or, fa_and, nI_df, nat31, Option.bind_some, m1_le0, m1_lt0, m1_eq, eq_m1, ite_nI, sub_m, pk_m1', not_lt0]; rw [hbC2 _ hb], Option.bind_some]
        have C2 : RC (wF V T 10 (nI (stC (up D.b)))) tp a 0 := hC.cg rfl (by funext j; rw [wF_F, if_neg (by omega)]) rfl
        refine tot_bd (c_adv ht hN ha C2) (fun V3 h3 => ?_)
        have A3 : AL V3 tp (enN tp a, 0) := AL.rc h3.1 o0.1
        refine tot_bd (k_N ht hN A3 hlo hhi) (fun r4 h4 => ?_)
        rw [hs1] at h4
        obtain ⟨A4, x4, f4⟩ := h4
        rw [Option.bind_some]
        have F5 := rwe_wF (h3.2.e.trans f4) (show T ≠ 3 by omega) fc r4.1
        have A5 : AL (wF r4.2 T fc r4.1) tp s1 := A4.cg rfl (by funext j; rw [wF_F, if_neg (by omega)]) rfl
        generalize wF r4.2 T fc r4.1 = V5 at F5 A5
        refine tot_some ⟨A5, ((dfr_F _ _ (by omega)).trans (dfr_F _ _ (by omega))).trans (F5.d T), fun z => ?_⟩
        rw [x4 z] at F5
        obtain ⟨f1, f2, f3⟩ := F5
        obtain ⟨⟨d1, d2, d3, d4, d5⟩, d6, sl, d7, d8⟩ := hD
        have fT : ∀ j, V5.F T j = if j = fc then nI (nuN tp (enN tp a)) else if j = 10 then nI (stC (up D.b)) else V.F T j := by
          intro j
          rw [f3 T (by omega), wF_F]
          by_cases e : j = fc
          · rw [if_pos ⟨rfl, e⟩, if_pos e]
          · rw [if_neg (fun z => e z.2), if_neg e, wF_F]
            by_cases e2 : j = 10
            · rw [if_pos ⟨rfl, e2⟩, if_pos e2]
            · rw [if_neg (fun z => e2 z.2), if_neg e2]
        have fv : ∀ j, 7 ≤ j → j ≤ 9 → V.F T j = nI (fldC D.q j) → V5.F T j = nI (fldC (set D.q (nuN tp (enN tp a))) j) := by
          intro j h1 h2 e
          rw [fT, sC j h1 h2]
          by_cases e2 : j = fc
          · rw [if_pos e2, if_pos e2]
          · rw [if_neg e2, if_neg e2, if_neg (by omega)]
            exact e
        refine ⟨⟨?_, fv 7 (by omega) (by omega) d2, fv 8 (by omega) (by omega) d3, fv 9 (by omega) (by omega) d4, ?_⟩, fun m hm => ?_, sl, ⟨d7.1, ?_, fun i hi => ?_⟩, d8⟩
        · show _ = nI (set D.q (nuN tp (enN tp a))).n
          rw [fT, if_neg (by omega), if_neg (by omega), q1]
          exact d1
        · show _ = nI (stC (up D.b))
          rw [fT, if_neg (by omega), if_pos rfl]
        · show _ = nI ((set D.q (nuN tp (enN tp a))).kd m) ∧ _ = nI ((set D.q (nuN tp (enN tp a))).bi m) ∧ _ = nI ((set D.q (nuN tp (enN tp a))).to m) ∧ _ = nI ((set D.q (nuN tp (enN tp a))).le m) ∧ _ = lN (e32 ((set D.q (nuN tp (enN tp a))).nm m))
          have hm : m < (set D.q (nuN tp (enN tp a))).n := hm
          rw [q1] at hm
          rw [q2, q3, q4, q5, q6, f1, f2]
          exact d6 m hm
        · rw [f3 (T + 6) (by omega), wF_F, if_neg (by omega), wF_F, if_neg (by omega)]
          exact d7.2.1
        · rw [f1]
          exact d7.2.2 i hi
      · refine tot_mo (k_G ht hN hW.1 (by omega)) (fun X hX => ?_)
        rw [hs2] at hX
        exact ⟨hX.1, fun z => (hW.2.2 (i2 z).1).rw hT hX.2, hW.2.1.trans (hX.2.d T)⟩
    · dsimp only
      unfold gX10_readsOne
      rw [hD.2.1, if_neg (by try simp (disch := omega) only [fa_lit, ne_le, ne_lt, ne_eq', nI_add, pk_mul, pk_sub, rdA_n, wrA_n, rdL_n, wrL_n, nI_one, nI_bit1, nI_bit0, fa_or, fa_and, nI_df, nat31, Option.bind_some, m1_le0, m1_lt0, m1_eq, eq_m1, ite_nI, sub_m, pk_m1', not_lt0]; rw [hbM, hb]; decide), show nI (stM D.b) ||| ((1 : Int32) <<< (nI w &&& 31)) = nI (stM (up D.b)) by try simp (disch := omega) only [fa_lit, ne_le, ne_lt, ne_eq', nI_add, pk_mul, pk_sub, rdA_n, wrA_n, rdL_n, wrL_n, nI_one, nI_bit1, nI_bit0, fa_or, fa_and, nI_df, nat31, Option.bind_some, m1_le0, m1_lt0, m1_eq, eq_m1, ite_nI, sub_m, pk_m1', not_lt0]; rw [hbM2 _ hb], Option.bind_some]
      have C2 : MC (wF V 137 20 (nI (stM (up D.b)))) tp a := hC.cg rfl (fun j h1 h2 => by rw [wF_F, if_neg (by omega)]) rfl
      have D2 : dmf V (wF V 137 20 (nI (stM (up D.b)))) := dmf_F _ (by omega)
      have e20 : (wF V 137 20 (nI (stM (up D.b)))).F 137 20 = nI (stM (up D.b)) := by rw [wF_F, if_pos ⟨rfl, rfl⟩]
      have eF : ∀ j, j ≠ 20 → (wF V 137 20 (nI (stM (up D.b)))).F 137 j = V.F 137 j := fun j hj => by rw [wF_F, if_neg (by omega)]
      have eA : (wF V 137 20 (nI (stM (up D.b)))).A = V.A := rfl
      have eL : (wF V 137 20 (nI (stM (up D.b)))).L = V.L := rfl
      generalize wF V 137 20 (nI (stM (up D.b))) = V2 at C2 D2 e20 eF eA eL
      refine tot_bd (m_next ht hN ha C2) (fun V3 h3 => ?_)
      refine tot_bd (mo_num ht hN h3.1 o0.1 hlo hhi) (fun r4 h4 => ?_)
      rw [hs1] at h4
      by_cases z1 : s1.2 = 0
      · obtain ⟨x1, x2⟩ := h4.1.2.2.1 z1
        have x3 := h4.2 z1
        have e1 : s1 = (s1.1, 0) := by rw [(i1 z1).2]
        rw [x1, if_neg (by decide), show (4 : Int32) + nI w = nI (4 + w) from nI_add 4 w, wrA_n (by omega) (by omega), Option.bind_some, x3]
        have F5 := mwn_wA (h3.2.n.trans h4.1.2.2.2) 139 (4 + w) (nI (nuN tp (enN tp a)))
        have M5 : MC (wA r4.2 139 (4 + w) (nI (nuN tp (enN tp a)))) tp s1.1 := x2.cg (wA_n _ _ _ (by omega)) (fun _ _ _ => rfl) rfl
        generalize wA r4.2 139 (4 + w) (nI (nuN tp (enN tp a))) = V5 at F5 M5
        refine tot_bd (mo_closes ht hN M5 o1.1) (fun r6 h6 => ?_)
        rw [h6.b, Option.bind_some]
        rw [← e1, hs2] at h6
        refine tot_some ⟨h6.2.1, fun z => ⟨(h6.2.2.1 z).1, (h6.2.2.1 z).2, ?_⟩, ((D2.trans (dmf_A _ (by omega))).trans F5.d).trans h6.2.2.2.d⟩
        obtain ⟨f1, f2, f3⟩ := F5.trans h6.2.2.2
        obtain ⟨⟨c1, c2, c3, c4⟩, c5, c6, c7, c8, c9⟩ := hD
        have fA : ∀ i j, r6.2.A i j = if i = 139 ∧ j = 4 + w then nI (nuN tp (enN tp a)) else V.A i j := by
          intro i j
          rw [f1, wA_A, eA]
        have fO : ∀ i j, ¬ (i = 139 ∧ j = 4 + w) → r6.2.A i j = V.A i j := fun i j h => by rw [fA, if_neg h]
        have fv : ∀ i, 5 ≤ i → i ≤ 7 → V.A 139 i = nI (fldM D.q i) → r6.2.A 139 i = nI (fldM (set D.q (nuN tp (enN tp a))) i) := by
          intro i h1 h2 e
          rw [fA, sM i h1 h2]
          by_cases e2 : i = 4 + w
          · rw [if_pos ⟨rfl, e2⟩, if_pos e2]
          · rw [if_neg (fun z => e2 z.2), if_neg e2]
            exact e
        refine ⟨⟨?_, fv 5 (by omega) (by omega) c2, fv 6 (by omega) (by omega) c3, fv 7 (by omega) (by omega) c4⟩, ?_, fun m hm => ?_, ?_, ?_, ⟨?_, fun i hi => ?_⟩⟩
        · show _ = nI (set D.q (nuN tp (enN tp a))).n
          rw [fO _ _ (by omega), q1]
          exact c1
        · rw [f3 137 20 (by omega)]
          exact e20
        · show _ = nI ((set D.q (nuN tp (enN tp a))).kd m) ∧ _ = nI ((set D.q (nuN tp (enN tp a))).bi m) ∧ _ = nI ((set D.q (nuN tp (enN tp a))).to m) ∧ _ = nI ((set D.q (nuN tp (enN tp a))).le m) ∧ _ = lN (e27 ((set D.q (nuN tp (enN tp a))).nm m))
          have hm : m < (set D.q (nuN tp (enN tp a))).n := hm
          rw [q1] at hm
          rw [q2, q3, q4, q5, q6, f2, wA_L, eL, fO _ _ (by omega), fO _ _ (by omega), fO _ _ (by omega), fO _ _ (by omega)]
          exact c6 m hm
        · rw [fO _ _ (by omega)]
          exact c7
        · rw [fO _ _ (by omega)]
          exact c8
        · rw [f3 137 19 (by omega), wA_F, eF 19 (by omega)]
          exact c9.1
        · rw [fO _ _ (by omega)]
          exact c9.2 i hi
      · rw [(h4.1.2.1 z1).1, if_pos (by rfl)]
        have e21 : s2 = s1 := by rw [← hs2]; exact (s_dead (tp := tp) (k := 0) (lo := 0) (hi := 0) (q := D.q) z1 59).1
        refine tot_some ⟨fun z => ⟨rfl, by rw [e21]; exact (h4.1.2.1 z1).2⟩, fun z => ?_, (D2.trans h3.2.n.d).trans h4.1.2.2.2.d⟩
        rw [e21] at z
        exact absurd z z1
def setKn (q : PP) (x : Nat) : PP := (q.n, q.kd, q.bi, q.to, q.le, x, q.ad, q.fu, q.tk, q.nm)
def setAd (q : PP) (x : Nat) : PP := (q.n, q.kd, q.bi, q.to, q.le, q.kn, x, q.fu, q.tk, q.nm)
def setFu (q : PP) (x : Nat) : PP := (q.n, q.kd, q.bi, q.to, q.le, q.kn, q.ad, x, q.tk, q.nm)
theorem t_knife (ht : GoodT tp) (hN : 1000 < N) (hT : T = 6 ∨ T = 15) (ha : a ≤ tp.length) (g : GoodD D) (h0 : tyN tp a ≠ 0) : ∃ s D', Stm tp T a D s D' (fun V => (gX4_readSetting N T (nI 4) V).bind fun V2 => gX6_takeSign N (nI 59) V2) (fun V => gX10_readsOne N (nI 1) (nI 1) (nI 9) V) := by
  refine t_one ht hN hT ha g h0 4 1 1 9 7 setKn (fun b => b.1) (fun b => (true, b.2)) (by omega) (by omega) (by omega) (by omega) (by omega) ?_ ?_ ?_ ?_ (fun b => rfl) (fun q x => ⟨rfl, rfl, rfl, rfl, rfl, rfl⟩) ?_ ?_ (fun q x g h1 h2 => ⟨g.1, g.2.1, g.2.2.1, ⟨h1, h2, g.2.2.2.1.2.2⟩, g.2.2.2.2⟩) (fun V => rfl)
  · rintro ⟨b1, b2, b3, b4⟩
    cases b1 <;> cases b2 <;> cases b3 <;> cases b4 <;> decide
  · rintro ⟨b1, b2, b3, b4⟩ h
    cases b1 <;> cases b2 <;> cases b3 <;> cases b4 <;> revert h <;> decide
  · rintro ⟨b1, b2, b3, b4⟩
    cases b1 <;> cases b2 <;> cases b3 <;> cases b4 <;> decide
  · rintro ⟨b1, b2, b3, b4⟩ h
    cases b1 <;> cases b2 <;> cases b3 <;> cases b4 <;> revert h <;> decide
  · intro q x j h1 h2
    have : j = 7 ∨ j = 8 ∨ j = 9 := by omega
    rcases this with e | e | e <;> subst e <;> rfl
  · intro q x j h1 h2
    have : j = 5 ∨ j = 6 ∨ j = 7 := by omega
    rcases this with e | e | e <;> subst e <;> rfl
theorem t_pot (ht : GoodT tp) (hN : 1000 < N) (hT : T = 6 ∨ T = 15) (ha : a ≤ tp.length) (g : GoodD D) (h0 : tyN tp a ≠ 0) : ∃ s D', Stm tp T a D s D' (fun V => (gX4_readSetting N T (nI 5) V).bind fun V2 => gX6_takeSign N (nI 59) V2) (fun V => gX10_readsOne N (nI 3) (nI 0) (nI 200) V) := by
  refine t_one ht hN hT ha g h0 5 3 0 200 8 setFu (fun b => b.2.1) (fun b => (b.1, true, b.2.2)) (by omega) (by omega) (by omega) (by omega) (by omega) ?_ ?_ ?_ ?_ (fun b => rfl) (fun q x => ⟨rfl, rfl, rfl, rfl, rfl, rfl⟩) ?_ ?_ (fun q x g h1 h2 => ⟨g.1, g.2.1, g.2.2.1, ⟨g.2.2.2.1.1, g.2.2.2.1.2.1, g.2.2.2.1.2.2.1, h2⟩, g.2.2.2.2⟩) (fun V => rfl)
  · rintro ⟨b1, b2, b3, b4⟩
    cases b1 <;> cases b2 <;> cases b3 <;> cases b4 <;> decide
  · rintro ⟨b1, b2, b3, b4⟩ h
    cases b1 <;> cases b2 <;> cases b3 <;> cases b4 <;> revert h <;> decide
  · rintro ⟨b1, b2, b3, b4⟩
    cases b1 <;> cases b2 <;> cases b3 <;> cases b4 <;> decide
  · rintro ⟨b1, b2, b3, b4⟩ h
    cases b1 <;> cases b2 <;> cases b3 <;> cases b4 <;> revert h <;> decide
  · intro q x j h1 h2
    have : j = 7 ∨ j = 8 ∨ j = 9 := by omega
    rcases this with e | e | e <;> subst e <;> rfl
  · intro q x j h1 h2
    have : j = 5 ∨ j = 6 ∨ j = 7 := by omega
    rcases this with e | e | e <;> subst e <;> rfl
theorem t_adds (ht : GoodT tp) (hN : 1000 < N) (hT : T = 6 ∨ T = 15) (ha : a ≤ tp.length) (g : GoodD D) (h0 : tyN tp a ≠ 0) : ∃ s D', Stm tp T a D s D' (fun V => (gX4_readSetting N T (nI 6) V).bind fun V2 => gX6_takeSign N (nI 59) V2) (fun V => gX10_readsOne N (nI 2) (nI 0) (nI 20) V) := by
  refine t_one ht hN hT ha g h0 6 2 0 20 9 setAd (fun b => b.2.2.1) (fun b => (b.1, b.2.1, true, b.2.2.2)) (by omega) (by omega) (by omega) (by omega) (by omega) ?_ ?_ ?_ ?_ (fun b => rfl) (fun q x => ⟨rfl, rfl, rfl, rfl, rfl, rfl⟩) ?_ ?_ (fun q x g h1 h2 => ⟨g.1, g.2.1, g.2.2.1, ⟨g.2.2.2.1.1, g.2.2.2.1.2.1, h2, g.2.2.2.1.2.2.2⟩, g.2.2.2.2⟩) (fun V => rfl)
  · rintro ⟨b1, b2, b3, b4⟩
    cases b1 <;> cases b2 <;> cases b3 <;> cases b4 <;> decide
  · rintro ⟨b1, b2, b3, b4⟩ h
    cases b1 <;> cases b2 <;> cases b3 <;> cases b4 <;> revert h <;> decide
  · rintro ⟨b1, b2, b3, b4⟩
    cases b1 <;> cases b2 <;> cases b3 <;> cases b4 <;> decide
  · rintro ⟨b1, b2, b3, b4⟩ h
    cases b1 <;> cases b2 <;> cases b3 <;> cases b4 <;> revert h <;> decide
  · intro q x j h1 h2
    have : j = 7 ∨ j = 8 ∨ j = 9 := by omega
    rcases this with e | e | e <;> subst e <;> rfl
  · intro q x j h1 h2
    have : j = 5 ∨ j = 6 ∨ j = 7 := by omega
    rcases this with e | e | e <;> subst e <;> rfl
end PSets
