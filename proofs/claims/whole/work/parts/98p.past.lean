/-! PURE: past, the call. -/
def q0 : PP := (0, fun _ => 0, fun _ => 0, fun _ => 0, fun _ => 0, 3, 4, 50, fun _ _ _ => 0, fun _ => [])
def D0 : DST := (q0, thV, (false, false, false, false), [])
theorem D0_good : GoodD D0 := by
  refine ⟨⟨by decide, fun m hm => absurd hm (Nat.not_lt_zero _), fun m o hm => absurd hm (Nat.not_lt_zero _), by decide, fun _ _ _ => Nat.zero_le _⟩, fun m hm => absurd hm (Nat.not_lt_zero _), fun _ => ⟨rfl, rfl⟩, fun z => absurd (show false = true from z) (by decide)⟩
/-- the past that was read -/
def finP (D : DST) : PP := (D.q.n, D.q.kd, D.q.bi, D.q.to, D.q.le, D.q.kn, D.q.ad, D.q.fu, fun l c a => clN (D.v (nI l) (nI c) (nI a) (nI D.q.kn)), D.q.nm)
theorem fin_good {D : DST} (g : GoodD D) : GoodP (finP D) ∧ GoodN (finP D) := ⟨⟨g.1.1, g.1.2.1, g.1.2.2.1, g.1.2.2.2.1, fun _ _ _ => clN_le _⟩, g.2.1⟩
theorem cl_kn {k : Nat} (h : k ≤ 9) : clN (nI k) = k := by
  have : ∀ k, k ≤ 9 → clN (nI k) = k := by decide +kernel
  exact this k h
section PPast
variable {E : VE} {V W : VT} {tp : List Nat} {T N c : Nat} {D : DST} {A : AB}
theorem DrC.fin (h : DrC V T D) (g : GoodD D) : PastC V T (finP D) := by
  obtain ⟨⟨d1, d2, d3, d4, d5⟩, d6, sl, d7, d8⟩ := h
  refine ⟨(fin_good g).1, ⟨d1, d2, d3, d4⟩, d6, sl, d7.1, d7.2.1, d7.2.2, fun l c a => ?_⟩
  show clN (evP sl (nI l) (nI c) (nI a) (nI D.q.kn)) = clN (D.v (nI l) (nI c) (nI a) (nI D.q.kn))
  unfold evP
  rw [d8 _ _ _ _ [] (Nat.le_refl _)]
  rfl
theorem c_clear (hT : T = 6 ∨ T = 15) : tot (gX5_clear T V) (fun W => DrC W T D0 ∧ W.A 4 = V.A 4 ∧ W.F 3 = V.F 3 ∧ W.G = V.G ∧ dfr T V W) := by
  unfold gX5_clear gX1_clear
  simp only [Option.bind_some]
  generalize hX : wF (wF (wF (wF (wF (wF V T 6 0) T 7 3) T 8 50) T 9 4) T 10 0) (T + 6) 2 0 = X
  have fX : dfr T V X := by
    rw [← hX]
    exact (((((dfr_F _ _ (by omega)).trans (dfr_F _ _ (by omega))).trans (dfr_F _ _ (by omega))).trans (dfr_F _ _ (by omega))).trans (dfr_F _ _ (by omega))).trans (dfr_F _ _ (by omega))
  have xA : X.A = V.A := by rw [← hX]; rfl
  have xG : X.G = V.G := by rw [← hX]; rfl
  have xF3 : X.F 3 = V.F 3 := by
    funext k
    rw [← hX, wF_F, if_neg (by omega), wF_F, if_neg (by omega), wF_F, if_neg (by omega), wF_F, if_neg (by omega), wF_F, if_neg (by omega), wF_F, if_neg (by omega)]
  have x6 : X.F T 6 = nI 0 ∧ X.F T 7 = nI 3 ∧ X.F T 8 = nI 50 ∧ X.F T 9 = nI 4 ∧ X.F T 10 = nI 0 := by
    rw [← hX]
    refine ⟨?_, ?_, ?_, ?_, ?_⟩
    · try simp (disch := omega) only [wA_A, wF_F, wA_F, wF_A, wA_L, wF_L, wA_G, wF_G, true_and, and_true, and_self, if_true, if_false, if_pos, if_neg]
      rfl
    · try simp (disch := omega) only [wA_A, wF_F, wA_F, wF_A, wA_L, wF_L, wA_G, wF_G, true_and, and_true, and_self, if_true, if_false, if_pos, if_neg]
      rfl
    · try simp (disch := omega) only [wA_A, wF_F, wA_F, wF_A, wA_L, wF_L, wA_G, wF_G, true_and, and_true, and_self, if_true, if_false, if_pos, if_neg]
      rfl
    · try simp (disch := omega) only [wA_A, wF_F, wA_F, wF_A, wA_L, wF_L, wA_G, wF_G, true_and, and_true, and_self, if_true, if_false, if_pos, if_neg]
      rfl
    · try simp (disch := omega) only [wA_A, wF_F, wA_F, wF_A, wA_L, wF_L, wA_G, wF_G, true_and, and_true, and_self, if_true, if_false, if_pos, if_neg]
      rfl
  have L : LwS X (T + 6) [] := ⟨by simp, by rw [← hX, wF_F, if_pos ⟨rfl, rfl⟩]; rfl, fun i hi => by simp at hi⟩
  refine tot_bd (c_add (by omega) L (10021 : Int32)) (fun W hW => ?_)
  obtain ⟨k1, k2, k3, k4, k5, k6⟩ := hW
  have k2 := k2 (by simp)
  have fT : ∀ j, W.F T j = X.F T j := fun j => k6.2.2 T j (by omega) (by omega)
  refine tot_some ⟨⟨⟨by rw [fT]; exact x6.1, by rw [fT]; exact x6.2.1, by rw [fT]; exact x6.2.2.1, by rw [fT]; exact x6.2.2.2.1, by rw [fT]; exact x6.2.2.2.2⟩, fun m hm => absurd hm (Nat.not_lt_zero _), [10021], k2, PV_fact (k := 21) (by omega) (by omega)⟩, by rw [k3, xA], by rw [k4, xF3], by rw [k5, xG], fX.trans k6.d⟩
/-- the class: beginAnew -/
theorem c_anew {p : PP} (hE : E.1 = 6 ∨ E.1 = 15) (h : PastC V E.1 p) (hN : 1000 < N) : tot (gX9_beginAnew E N V) (fun W => PastC W E.1 p ∧ StC W 24 p.n (freshS p) ∧ HisC W p.n [] ∧ LinC W 80 [] ∧ SeenC W 86 [] ∧ MkC W p.n (fun _ => none) ∧ eqs V W 3 ∧ eqs V W 4 ∧ lo V W) := by
  unfold gX9_beginAnew gX2_clear gX0_clear
  refine tot_bd (c_begin (o := 24) h hN (by omega)) (fun V1 h1 => ?_)
  simp only [Option.bind_some]
  generalize hX : wF (wF (wF (wF V1 80 2 0) 86 3 0) 30 1 0) 30 2 0 = X
  have fX : fr (fun _ => False) (fun i k => i = 80 ∨ i = 86 ∨ i = 30) V1 X := by
    rw [← hX]
    exact (((fr_F _ (by omega)).trans (fr_F _ (by omega))).trans (fr_F _ (by omega))).trans (fr_F _ (by omega))
  have x1 : X.F 80 2 = nI 0 ∧ X.F 86 3 = nI 0 ∧ X.F 30 1 = nI 0 ∧ X.F 30 2 = nI 0 := by
    rw [← hX]
    refine ⟨?_, ?_, ?_, ?_⟩
    · try simp (disch := omega) only [wA_A, wF_F, wA_F, wF_A, wA_L, wF_L, wA_G, wF_G, true_and, and_true, and_self, if_true, if_false, if_pos, if_neg]
      rfl
    · try simp (disch := omega) only [wA_A, wF_F, wA_F, wF_A, wA_L, wF_L, wA_G, wF_G, true_and, and_true, and_self, if_true, if_false, if_pos, if_neg]
      rfl
    · try simp (disch := omega) only [wA_A, wF_F, wA_F, wF_A, wA_L, wF_L, wA_G, wF_G, true_and, and_true, and_self, if_true, if_false, if_pos, if_neg]
      rfl
    · try simp (disch := omega) only [wA_A, wF_F, wA_F, wF_A, wA_L, wF_L, wA_G, wF_G, true_and, and_true, and_self, if_true, if_false, if_pos, if_neg]
      rfl
  refine loop_T (F := fun w (_ : Unit) k V => gX9_beginAnew_b35 E N w (nI k) V) 4 (fun k _ W => (∀ j, j < k → W.F (93 + 11 * j) 3 = nI 0) ∧ fr (fun _ => False) (fun i _ => 93 ≤ i ∧ i ≤ 136) X W) ?_ ?_ N 0 () X (by omega) (by omega) ⟨fun j hj => by omega, fr.rf⟩
  · intro w k _ W hk hI hK
    show tot (gX9_beginAnew_b35 E N (w + 1) (nI k) W) _
    unfold gX9_beginAnew_b35
    rw [if_neg (show ¬ (4 : Int32) ≤ nI k from nI_ge (b := 4) hk (by omega)), rd90_n hk, Option.bind_some, Option.bind_some, show nI k + 1 = nI (k + 1) from nI_1 k]
    refine hK () _ ⟨fun j hj => ?_, hI.2.trans (fr_F _ (by omega))⟩
    rw [wF_F]
    by_cases e : j = k
    · rw [if_pos ⟨by omega, rfl⟩]
      rfl
    · rw [if_neg (by omega)]
      exact hI.1 j (by omega)
  · intro w _ W hI
    obtain ⟨i1, i2⟩ := hI
    show tot (gX9_beginAnew_b35 E N (w + 1) (nI 4) W) _
    unfold gX9_beginAnew_b35
    rw [if_pos (by decide)]
    have e1 : ∀ a, ¬ (24 ≤ a ∧ a ≤ 26) → a ≠ 30 → a ≠ 80 → a ≠ 86 → ¬ (93 ≤ a ∧ a ≤ 136) → eqs V W a := fun a h1' h2 h3 h4 h5 => ((fr_eqs h1.2 (by unfold soA; omega) (fun k => by unfold soF; omega)).trans (fr_eqs fX (fun q => q) (fun k => by omega))).trans (fr_eqs i2 (fun q => q) (fun k => by omega))
    have e2 : ∀ a, a ≠ 30 → a ≠ 80 → a ≠ 86 → ¬ (93 ≤ a ∧ a ≤ 136) → eqs V1 W a := fun a h2 h3 h4 h5 => (fr_eqs fX (fun q => q) (fun k => by omega)).trans (fr_eqs i2 (fun q => q) (fun k => by omega))
    have eF : ∀ a k, ¬ (93 ≤ a ∧ a ≤ 136) → W.F a k = X.F a k := fun a k h => i2.2.2.2 a k h
    exact tot_some ⟨h.cg (fun a _ _ => e1 a (by omega) (by omega) (by omega) (by omega) (by omega)), h1.1.cg (fun a _ _ => e2 a (by omega) (by omega) (by omega) (by omega)), ⟨0, by omega, by rw [eF 30 1 (by omega)]; exact x1.2.2.1, by rw [eF 30 2 (by omega)]; exact x1.2.2.2, fun j hj => by simp at hj⟩, ⟨by rw [eF 80 2 (by omega)]; exact x1.1, fun i hi => by simp at hi⟩, ⟨by rw [eF 86 3 (by omega)]; exact x1.2.1, fun i hi => by simp at hi⟩, fun k hk => ⟨fun _ => i1 k hk, fun T hT => by cases hT⟩, e1 3 (by omega) (by omega) (by omega) (by omega) (by omega), e1 4 (by omega) (by omega) (by omega) (by omega) (by omega), fun a ha => e1 a (by omega) (by omega) (by omega) (by omega) (by omega)⟩
/-- past, over the views: the told past may change its place -/
def gP (E : VE) (N : Nat) (V : VT) : Option (Int32 × VE × VT) := (gX4_readPast N (21 - E.1) V).bind fun p1 => if p1.1 = 0 then (gX9_beginAnew ((21 - E.1, E.2) : VE) N p1.2).bind fun W => some (p1.1, ((21 - E.1, E.2) : VE), W) else some (p1.1, E, p1.2)
/-- the model is as it was but for the tape -/
theorem MR.dm {B : AB} (h : MR V B) (f : ∀ a, ¬ (137 ≤ a ∧ a ≤ 149) → eqs V W a) (f1 : W.F 137 1 = nI 0) (f47 : W.F 137 47 = V.F 137 47) (f139 : ∀ i, i < 4 → W.A 139 i = V.A 139 i) (fm : ∀ i, i < 7 → W.L 140 i = V.L 140 i ∧ W.A 141 i = V.A 141 i ∧ W.A 142 i = V.A 142 i ∧ W.A 143 i = V.A 143 i ∧ W.A 144 i = V.A 144 i) (fl : W.A 145 0 = V.A 145 0 ∧ W.A 146 0 = V.A 146 0) (fc : ∀ i, i < 1000 → W.A 147 i = V.A 147 i) : MR W (B.p, B.S, B.H, B.ls, B.es, B.mk, []) := by
  obtain ⟨h1, h2, h3, h4, h5, h6, h7⟩ := h
  obtain ⟨g, y, x, s0, cl, s1, s2, s3, s4, s5⟩ := h1
  have hn := g.1
  refine ⟨⟨g, ?_, fun m hm => ?_, ?_, cl, s1, ?_, fun i hi => ?_, s4, s5⟩, h2.at (f 167 (by omega)).1, h3.at f47 (f 171 (by omega)).1, h4.at (f 160 (by omega)).1 (f 161 (by omega)).1 (f 162 (by omega)).1, h5.at (f 163 (by omega)).1 (f 164 (by omega)).1 (f 165 (by omega)).1 (f 166 (by omega)).1, h6.at (fun a _ _ => (f a (by omega)).1) (f 170 (by omega)).1 (f 172 (by omega)).1, ⟨f1, fun i hi => by simp [AB.tp] at hi⟩⟩
  · rw [f139 0 (by omega), f139 1 (by omega), f139 2 (by omega), f139 3 (by omega)]
    exact y
  · obtain ⟨a1, a2, a3, a4, a5⟩ := fm m (by have hm : m < B.p.n := hm; omega)
    rw [a1, a2, a3, a4, a5, (f 173 (by omega)).1]
    exact x m hm
  · rw [fl.1]
    exact s0
  · rw [fl.2]
    exact s2
  · rw [fc i (by omega)]
    exact s3 i hi
theorem s_past (hE : E.1 = 6 ∨ E.1 = 15) (hg : GoodA c A) (hN : 2000 < N) (hC : CR E V A) : tot (gP E N V) (fun r => ∃ A' : AB, GoodA (c + 1) A' ∧ (r.2.1.1 = 6 ∨ r.2.1.1 = 15) ∧ r.2.1.2 = E.2 ∧ CR r.2.1 r.2.2 A' ∧ lo V r.2.2 ∧ ∀ Vm, MR Vm A → tot (gX10_past N Vm) (fun u => u.1 = r.1 ∧ MR u.2 A' ∧ hi Vm u.2)) := by
  obtain ⟨h1, h2, h3, h4, h5, h6, h7, h8⟩ := id hC
  have gt := hg.2.2.2.2.2.2.1
  have hl := gt.1
  generalize hT' : 21 - E.1 = T
  have hT : T = 6 ∨ T = 15 := by omega
  have hTE : T + E.1 = 21 := by omega
  unfold gP gX4_readPast
  rw [hT', Option.bind_assoc]
  refine tot_bd (c_clear hT) (fun V1 g1 => ?_)
  obtain ⟨a1, a2, a3, a4, a5⟩ := g1
  rw [Option.bind_assoc]
  unfold gX6_open
  rw [Option.bind_some, Option.bind_some]
  generalize hV2 : wF (wF V1 3 2 0) 3 8 0 = V2
  have f2 : rwe V1 V2 := by
    rw [← hV2]
    exact (rwe_F _ _).trans (rwe_F _ _)
  have T2 : TpC V2 A.tp := by
    have e : V2.F 3 1 = V.F 3 1 := by rw [← hV2, wF_F, if_neg (by omega), wF_F, if_neg (by omega), a3]
    unfold TpC
    rw [e, f2.1, a2]
    exact h8
  have z2 : V2.F 3 2 = nI 0 := by rw [← hV2, wF_F, if_neg (by omega), wF_F, if_pos ⟨rfl, rfl⟩]; rfl
  have z8 : V2.F 3 8 = nI 0 := by rw [← hV2, wF_F, if_pos ⟨rfl, rfl⟩]; rfl
  refine tot_bd (R := fun W => RC W A.tp 0 0 ∧ rwe V2 W) (tot_bd (c_adv0 gt (show 1000 < N by omega) T2 (Nat.zero_le _) z2 z8) (fun W hW => tot_some ⟨hW.1, hW.2.e⟩)) (fun V3 g3 => ?_)
  refine tot_bd (t_past gt (show 1000 < N by omega) hT N 0 0 V3 D0 g3.1 (Nat.zero_le _) ((a1.rw hT f2).rw hT g3.2) D0_good (Nat.le_refl _) (by omega)) (fun r hr => ?_)
  obtain ⟨f, D', r1, r2, r3, r4, r5, r6⟩ := hr
  have DF : dfr T V r.2 := ((a5.trans (f2.d T)).trans (g3.2.d T)).trans r4
  have LO : lo V r.2 := fun a ha => DF a (by omega) (by omega)
  -- the model's run
  have mdl : ∀ Vm, MR Vm A → tot (gX10_readsAll N Vm) (fun u => (f ≠ 0 → u.1 = nI 0 ∧ u.2.F 137 9 = nI f) ∧ (f = 0 → u.1 = nI 1 ∧ DrM u.2 D') ∧ (∀ a, ¬ (137 ≤ a ∧ a ≤ 149) → eqs Vm u.2 a) ∧ (u.2.F 137 0 = Vm.F 137 0 ∧ u.2.F 137 1 = nI 0 ∧ u.2.F 137 47 = Vm.F 137 47) ∧ (∀ i, i < 4 → u.2.A 139 i = Vm.A 139 i) ∧ (∀ i, i < 7 → u.2.L 140 i = Vm.L 140 i ∧ u.2.A 141 i = Vm.A 141 i ∧ u.2.A 142 i = Vm.A 142 i ∧ u.2.A 143 i = Vm.A 143 i ∧ u.2.A 144 i = Vm.A 144 i) ∧ (u.2.A 145 0 = Vm.A 145 0 ∧ u.2.A 146 0 = Vm.A 146 0) ∧ ∀ i, i < 1000 → u.2.A 147 i = Vm.A 147 i) := by
    intro Vm hM
    have tM := hM.2.2.2.2.2.2
    unfold gX10_readsAll gX10_usual gX10_begins
    rw [show (4 : Int32) * 1 + 0 = nI 4 from rfl, show (4 : Int32) * 1 + 1 = nI 5 from rfl, show (4 : Int32) * 1 + 2 = nI 6 from rfl, show (4 : Int32) * 1 + 3 = nI 7 from rfl]
    rw [wrA_n (by omega) (by omega), Option.bind_some, wrA_n (by omega) (by omega), Option.bind_some, wrA_n (by omega) (by omega), Option.bind_some, wrA_n (by omega) (by omega), Option.bind_some]
    simp only [Option.bind_some]
    generalize hU : wA (wA (wA (wA (wA (wA Vm 139 4 0) 139 5 3) 139 6 4) 139 7 50) 145 1 1000) 146 1 1000 = U
    have uA : ∀ i j, ¬ (i = 139 ∧ 4 ≤ j) → ¬ (i = 145 ∧ j = 1) → ¬ (i = 146 ∧ j = 1) → U.A i j = Vm.A i j := by
      intro i j h1 h2 h3
      rw [← hU, wA_A, if_neg h3, wA_A, if_neg h2, wA_A, if_neg (by omega), wA_A, if_neg (by omega), wA_A, if_neg (by omega), wA_A, if_neg (by omega)]
    have uv : U.A 139 4 = nI 0 ∧ U.A 139 5 = nI 3 ∧ U.A 139 6 = nI 4 ∧ U.A 139 7 = nI 50 ∧ U.A 145 1 = nI 1000 ∧ U.A 146 1 = nI 1000 := by
      rw [← hU]
      refine ⟨?_, ?_, ?_, ?_, ?_, ?_⟩
      · try simp (disch := omega) only [wA_A, wF_F, wA_F, wF_A, wA_L, wF_L, wA_G, wF_G, true_and, and_true, and_self, if_true, if_false, if_pos, if_neg]
        rfl
      · try simp (disch := omega) only [wA_A, wF_F, wA_F, wF_A, wA_L, wF_L, wA_G, wF_G, true_and, and_true, and_self, if_true, if_false, if_pos, if_neg]
        rfl
      · try simp (disch := omega) only [wA_A, wF_F, wA_F, wF_A, wA_L, wF_L, wA_G, wF_G, true_and, and_true, and_self, if_true, if_false, if_pos, if_neg]
        rfl
      · try simp (disch := omega) only [wA_A, wF_F, wA_F, wF_A, wA_L, wF_L, wA_G, wF_G, true_and, and_true, and_self, if_true, if_false, if_pos, if_neg]
        rfl
      · try simp (disch := omega) only [wA_A, wF_F, wA_F, wF_A, wA_L, wF_L, wA_G, wF_G, true_and, and_true, and_self, if_true, if_false, if_pos, if_neg]
        rfl
      · try simp (disch := omega) only [wA_A, wF_F, wA_F, wF_A, wA_L, wF_L, wA_G, wF_G, true_and, and_true, and_self, if_true, if_false, if_pos, if_neg]
        rfl
    have uF : U.F = Vm.F := by rw [← hU]; rfl
    have uL : U.L = Vm.L := by rw [← hU]; rfl
    generalize hX : wF (wF (wF (wF (wF U 137 20 0) 137 19 1000) 137 3 ((wF (wF U 137 20 0) 137 19 1000).F 137 1)) 137 1 0) 137 4 0 = X
    have xA : X.A = U.A := by rw [← hX]; rfl
    have xL : X.L = U.L := by rw [← hX]; rfl
    have xF : ∀ i k, ¬ (i = 137 ∧ (k = 20 ∨ k = 19 ∨ k = 3 ∨ k = 1 ∨ k = 4)) → X.F i k = U.F i k := by
      intro i k h
      rw [← hX, wF_F, if_neg (by omega), wF_F, if_neg (by omega), wF_F, if_neg (by omega), wF_F, if_neg (by omega), wF_F, if_neg (by omega)]
    have x20 : X.F 137 20 = nI 0 ∧ X.F 137 19 = nI 1000 ∧ X.F 137 3 = Vm.F 137 1 ∧ X.F 137 1 = nI 0 ∧ X.F 137 4 = nI 0 := by
      rw [← hX]
      refine ⟨?_, ?_, ?_, ?_, ?_⟩
      · try simp (disch := omega) only [wA_A, wF_F, wA_F, wF_A, wA_L, wF_L, wA_G, wF_G, true_and, and_true, and_self, if_true, if_false, if_pos, if_neg]
        rfl
      · try simp (disch := omega) only [wA_A, wF_F, wA_F, wF_A, wA_L, wF_L, wA_G, wF_G, true_and, and_true, and_self, if_true, if_false, if_pos, if_neg]
        rfl
      · rw [wF_F, if_neg (by omega), wF_F, if_neg (by omega), wF_F, if_pos ⟨rfl, rfl⟩, wF_F, if_neg (by omega), wF_F, if_neg (by omega), uF]
      · try simp (disch := omega) only [wA_A, wF_F, wA_F, wF_A, wA_L, wF_L, wA_G, wF_G, true_and, and_true, and_self, if_true, if_false, if_pos, if_neg]
        rfl
      · try simp (disch := omega) only [wA_A, wF_F, wA_F, wF_A, wA_L, wF_L, wA_G, wF_G, true_and, and_true, and_self, if_true, if_false, if_pos, if_neg]
        rfl
    have eA : ∀ i, i ≠ 139 → i ≠ 145 → i ≠ 146 → X.A i = Vm.A i := fun i h1 h2 h3 => by
      rw [xA]
      funext j
      exact uA i j (by omega) (by omega) (by omega)
    have SX : SzM X A.tp := ⟨by rw [x20.2.2.1]; exact tM.1, fun i hi => by rw [eA 138 (by omega) (by omega) (by omega)]; exact tM.2 i hi⟩
    refine tot_bd (R := fun W => MC W A.tp 0 ∧ mwf X W) (tot_bd (m_next0 gt (show 1000 < N by omega) SX (Nat.zero_le _) x20.2.2.2.2) (fun W hW => tot_some hW)) (fun Y hY => ?_)
    have yF : ∀ i k, ¬ (i = 137 ∧ 4 ≤ k ∧ k ≤ 8) → Y.F i k = X.F i k := hY.2.2.2
    have yA : Y.A = X.A := hY.2.1
    have yL : Y.L = X.L := hY.2.2.1
    have DY : DrM Y D0 := by
      refine ⟨?_, ?_, fun m hm => absurd hm (Nat.not_lt_zero _), ?_, ⟨?_, ?_⟩, ⟨?_, fun i hi => by simp [D0, DST.cs] at hi⟩⟩
      · rw [yA, xA]
        exact ⟨uv.1, uv.2.1, uv.2.2.1, uv.2.2.2.1⟩
      · rw [yF 137 20 (by omega)]
        exact x20.1
      · rw [yA, xA]
        exact uv.2.2.2.2.1
      · rw [yA, xA]
        exact uv.2.2.2.2.2
      · simp [D0, DST.cs]
      · rw [yF 137 19 (by omega)]
        exact x20.2.1
    refine tot_mo (r6 Y N hY.1 DY (by omega)) (fun u hu => ⟨hu.1, hu.2.1, fun a ha => ?_, ⟨?_, ?_, ?_⟩, fun i hi => ?_, fun i hi => ?_, ⟨?_, ?_⟩, fun i hi => ?_⟩)
    · refine (show eqs Vm Y a from ⟨by rw [yA]; exact eA a (by omega) (by omega) (by omega), by rw [yL, xL, uL], funext (fun k => ?_)⟩).trans (hu.2.2.1 a ha)
      rw [yF a k (by omega), xF a k (by omega), uF]
    · rw [hu.2.2.2.2.1.1, yF 137 0 (by omega), xF 137 0 (by omega), uF]
    · rw [hu.2.2.2.2.1.2.1, yF 137 1 (by omega)]
      exact x20.2.2.2.1
    · rw [hu.2.2.2.2.1.2.2, yF 137 47 (by omega), xF 137 47 (by omega), uF]
    · rw [hu.2.2.2.2.2.1 i hi, yA, xA, uA 139 i (by omega) (by omega) (by omega)]
    · obtain ⟨b1, b2, b3, b4, b5⟩ := hu.2.2.2.2.2.2.1 i hi
      rw [b1, b2, b3, b4, b5, yL, xL, uL, yA, xA, uA 141 i (by omega) (by omega) (by omega), uA 142 i (by omega) (by omega) (by omega), uA 143 i (by omega) (by omega) (by omega), uA 144 i (by omega) (by omega) (by omega)]
      exact ⟨rfl, rfl, rfl, rfl, rfl⟩
    · rw [hu.2.2.2.2.2.2.2.1.1, yA, xA, uA 145 0 (by omega) (by omega) (by omega)]
    · rw [hu.2.2.2.2.2.2.2.1.2, yA, xA, uA 146 0 (by omega) (by omega) (by omega)]
    · rw [hu.2.2.2.2.2.2.2.2 i hi, yA, xA, uA 147 i (by omega) (by omega) (by omega)]
  by_cases hf : f = 0
  · subst hf
    obtain ⟨gD, rD⟩ := r3 rfl
    rw [r1, if_pos (by rfl)]
    have gf := fin_good gD
    have PC := rD.fin gD
    refine tot_bd (c_anew (E := ((T, E.2) : VE)) hT PC (show 1000 < N by omega)) (fun W hW => ?_)
    obtain ⟨w1, w2, w3, w4, w5, w6, w7, w8, w9⟩ := hW
    have gs := GoodS.fresh (c := c + 1) gf.1
    refine tot_some ⟨(finP D', freshS (finP D'), [], [], [], fun _ => none, []), ⟨gf.1, gs, ⟨by simp [AB.H], fun i hi => by simp [AB.H] at hi⟩, ⟨by simp [AB.ls], fun i hi => by simp [AB.ls] at hi⟩, ⟨by simp [AB.es], fun i hi => by simp [AB.es] at hi⟩, (fun k T hk hT => absurd (show none = some T from hT) (by simp)), ⟨by simp [AB.tp], fun i hi => by simp [AB.tp] at hi⟩, gf.2⟩, hT, rfl, ⟨hT, w1, w2, w3, w4, w5, w6, ⟨by rw [w7.2.2]; exact r5, fun i hi => by simp [AB.tp] at hi⟩⟩, LO.trans w9, fun Vm hM => ?_⟩
    unfold gX10_past
    obtain ⟨t1, t2⟩ := hM.th
    rw [Option.bind_some]
    refine tot_bd (mdl _ t1) (fun u hu => ?_)
    obtain ⟨-, u2, u3, u4, u5, u6, u7, u8⟩ := hu
    obtain ⟨u1, uD⟩ := u2 rfl
    rw [u1, if_neg (by decide)]
    refine tot_bd (m_lays' hN) (fun V3 l3 => ?_)
    obtain ⟨l1, l2, l3, l4, l5, l6, l7, l8⟩ := l3
    obtain ⟨⟨c1, c2, c3, c4⟩, c5, c6, c7, ⟨c8, c8'⟩, c9⟩ := uD
    have hn := gf.1.1
    have n0 : V3.A 139 0 = nI (finP D').n := by rw [l1 0 (by omega)]; exact c1
    have ll : ∀ m, m < (finP D').n → V3.A 144 m = nI ((finP D').le m) := fun m hm => by
      rw [(l2 m (by omega)).2.2.2.2]
      exact (c6 m hm).2.2.2.1
    refine tot_bd (m_causes gf.1 (show 1000 < N by omega) n0 ll) (fun V4 k4 => ?_)
    have kA : ∀ a, a ≠ 173 → V4.A a = V3.A a := fun a ha => k4.2.2.2.1 a ha
    have PM : PastM V4 (finP D') := by
      refine ⟨gf.1, ?_, fun m hm => ?_, ?_, D'.cs, c8', ?_, fun i hi => ?_, fun hz l c a => ?_, fun hz l c a vl X hvl => ?_⟩
      · rw [kA 139 (by omega), l1 0 (by omega), l1 1 (by omega), l1 2 (by omega), l1 3 (by omega)]
        exact ⟨c1, c2, c3, c4⟩
      · obtain ⟨b1, b2, b3, b4, b5⟩ := l2 m (by omega)
        rw [kA 141 (by omega), kA 142 (by omega), kA 143 (by omega), kA 144 (by omega), k4.2.1, b1, b2, b3, b4, b5, k4.1 m hm]
        obtain ⟨d1, d2, d3, d4, d5⟩ := c6 m hm
        exact ⟨d1, d2, d3, d4, rfl, d5⟩
      · rw [kA 145 (by omega), l4, c7]
        rfl
      · rw [kA 146 (by omega), l5, c8, show (1000 : Int32) = nI 1000 from rfl, pk_sub (by omega), show 1000 + D'.cs.length - 1000 = D'.cs.length by omega]
      · rw [kA 147 (by omega), l3 i (by omega)]
        exact c9.2 i hi
      · have hb : D'.b.2.2.2 = false := by
          cases hb : D'.b.2.2.2 with
          | false => rfl
          | true => exact absurd (List.length_eq_zero_iff.mp hz) (gD.2.2.2 hb).1
        show clN (D'.v (nI l) (nI c) (nI a) (nI D'.q.kn)) = D'.q.kn
        rw [(gD.2.2.1 hb).2]
        exact cl_kn gD.1.2.2.2.1.2.1
      · have hb : D'.b.2.2.2 = true := by
          cases hb : D'.b.2.2.2 with
          | true => rfl
          | false =>
            rw [(gD.2.2.1 hb).1] at hz
            simp at hz
        have o := op_all X 0
        obtain ⟨X', x1, -, -, x4⟩ := (gD.2.2.2 hb).2 (nI l) (nI c) (nI a) (nI D'.q.kn) vl (opX 0 X) hvl (Or.inl rfl) o.1 o.2.1 o.2.2.1 o.2.2.2.1 o.2.2.2.2
        exact ⟨(0, X'), x1, by rw [x4]; rfl⟩
    refine tot_bd (m_fresh PM (show 1000 < N by omega)) (fun V5 k5 => ?_)
    simp only [Option.bind_some]
    generalize hX : wF (wA (wA V5 160 0 0) 163 0 0) 137 47 0 = X
    have xA : ∀ a, a ≠ 160 → a ≠ 163 → X.A a = V5.A a := fun a h1 h2 => by rw [← hX, wF_A, wA_n _ _ _ h2, wA_n _ _ _ h1]
    have xL : X.L = V5.L := by rw [← hX]; rfl
    have x160 : X.A 160 0 = nI 0 := by rw [← hX, wF_A, wA_n _ _ _ (by omega), wA_A, if_pos ⟨rfl, rfl⟩]; rfl
    have x163 : X.A 163 0 = nI 0 := by rw [← hX, wF_A, wA_A, if_pos ⟨rfl, rfl⟩]; rfl
    have xF : ∀ i k, ¬ (i = 137 ∧ k = 47) → X.F i k = V5.F i k := fun i k h => by rw [← hX, wF_F, if_neg h]; rfl
    have x47 : X.F 137 47 = nI 0 := by rw [← hX, wF_F, if_pos ⟨rfl, rfl⟩]; rfl
    refine loop_T (F := fun w (_ : Unit) k V => gX10_past_b50 N w (nI k) V) 4 (fun k _ W => (∀ j, j < k → W.A 172 j = nI 0) ∧ fr (fun a => a = 172) nof X W) ?_ ?_ N 0 () X (by omega) (by omega) ⟨fun j hj => by omega, fr.rf⟩
    · intro w k _ W hk hI hK
      show tot (gX10_past_b50 N (w + 1) (nI k) W) _
      unfold gX10_past_b50
      rw [if_neg (show ¬ (4 : Int32) ≤ nI k from nI_ge (b := 4) hk (by omega)), wrA_n (by omega) (by omega), Option.bind_some, show qnar .boolean 0 = nI 0 by decide, show nI k + 1 = nI (k + 1) from nI_1 k]
      refine hK () _ ⟨fun j hj => ?_, hI.2.trans (fr_A _ _ rfl)⟩
      rw [wA_A]
      by_cases e : j = k
      · rw [if_pos ⟨rfl, e⟩]
      · rw [if_neg (fun q => e q.2)]
        exact hI.1 j (by omega)
    · intro w _ W hI
      obtain ⟨i1, i2⟩ := hI
      show tot (gX10_past_b50 N (w + 1) (nI 4) W) _
      unfold gX10_past_b50
      rw [if_pos (by decide)]
      have wA' : ∀ a, a ≠ 172 → a ≠ 160 → a ≠ 163 → W.A a = V5.A a := fun a h1 h2 h3 => by rw [i2.2.2.1 a h1, xA a h2 h3]
      have wF' : ∀ i k, ¬ (i = 137 ∧ k = 47) → W.F i k = V5.F i k := fun i k h => by rw [i2.2.2.2 i k (fun q => q), xF i k h]
      have vA : ∀ a, ¬ (137 ≤ a ∧ a ≤ 149) → a ≠ 160 → a ≠ 163 → a ≠ 167 → a ≠ 172 → a ≠ 173 → W.A a = Vm.A a := fun a h1 h2 h3 h4 h5 h6 => by rw [wA' a h5 h2 h3, k5.2.2.2.1 a (by unfold s7; omega), kA a h6, l7 a (by omega), (u3 a h1).1, wF_A]
      have vF : ∀ a k, a < 137 → W.F a k = Vm.F a k := fun a k h1 => by rw [wF' a k (by omega), k5.2.2.2.2 a k (fun q => q), k4.2.2.2.2 a k (fun q => q), l6, (u3 a (by omega)).2.2, wF_F, if_neg (by omega)]
      refine tot_some ⟨rfl, ⟨?_, k5.1.at (wA' 167 (by omega) (by omega) (by omega)), ⟨by rw [i2.2.2.2 137 47 (fun q => q)]; exact x47, fun j hj => by simp [AB.H] at hj⟩, ⟨by rw [i2.2.2.1 160 (by omega)]; exact x160, fun i hi => by simp [AB.ls] at hi⟩, ⟨by rw [i2.2.2.1 163 (by omega)]; exact x163, fun i hi => by simp [AB.es] at hi⟩, fun k hk => ⟨fun _ => i1 k hk, fun T hT => by cases hT⟩, ⟨?_, fun i hi => by simp [AB.tp] at hi⟩⟩, fun a ha => ?_⟩
      · exact PM.cg (fun a q1 q2 q3 => ⟨by rw [wA' a (by omega) (by omega) (by omega), k5.2.2.2.1 a (by unfold s7; omega)], by rw [i2.1, xL, k5.2.1], funext (fun k => by rw [wF' a k (by omega), k5.2.2.2.2 a k (fun q => q)])⟩)
      · rw [wF' 137 1 (by omega), k5.2.2.2.2 137 1 (fun q => q), k4.2.2.2.2 137 1 (fun q => q), l6]
        exact u4.2.1
      · refine ⟨vA a (by omega) (by omega) (by omega) (by omega) (by omega) (by omega), ?_, funext (fun k => vF a k ha)⟩
        rw [i2.1, xL, k5.2.1, k4.2.1, l8 a (by omega), (u3 a (by omega)).2.1]
        rfl
  · rw [r1, if_neg (nI_ne0 (by omega) (by omega))]
    have e : ∀ a, a ≠ 3 → ¬ (T ≤ a ∧ a ≤ T + 8) → eqs V r.2 a := DF
    refine tot_some ⟨(A.p, A.S, A.H, A.ls, A.es, A.mk, []), ⟨hg.1, hg.2.1.mono (by omega), hg.2.2.1.mono (by omega), hg.2.2.2.1, hg.2.2.2.2.1, hg.2.2.2.2.2.1.mono (by omega), ⟨by simp [AB.tp], fun i hi => by simp [AB.tp] at hi⟩, hg.2.2.2.2.2.2.2⟩, hE, rfl, ⟨h1, h2.cg (fun a _ _ => e a (by omega) (by omega)), h3.cg (fun a _ _ => e a (by omega) (by omega)), h4.cg (fun a _ _ => e a (by omega) (by omega)), h5.cg (fun a _ _ => e a (by omega) (by omega)), h6.cg (fun a _ _ => e a (by omega) (by omega)), h7.cg (fun a _ _ => e a (by omega) (by omega)), ⟨r5, fun i hi => by simp [AB.tp] at hi⟩⟩, LO, fun Vm hM => ?_⟩
    unfold gX10_past
    obtain ⟨t1, t2⟩ := hM.th
    rw [Option.bind_some]
    refine tot_bd (mdl _ t1) (fun u hu => ?_)
    obtain ⟨u1, -, u3, u4, u5, u6, u7, u8⟩ := hu
    obtain ⟨u1, u9⟩ := u1 hf
    rw [u1, if_pos (by rfl), u9]
    refine tot_some ⟨rfl, t1.dm u3 u4.2.1 u4.2.2 u5 u6 u7 u8, (mf_hi t2).trans (fun a ha => u3 a (by omega))⟩
end PPast
