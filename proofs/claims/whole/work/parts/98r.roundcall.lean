/-! PURE: round, all of it. -/
section PRoundC
variable {E : VE} {V W : VT} {tp : List Nat} {T a N c : Nat} {p : PP} {ls : LN} {A : AB}
def RndM (tp : List Nat) (N a f : Nat) (p : PP) (ls ls' : LN) : Prop := ∀ (V : VT) (w : Nat), MC V tp a → LinM V 5 ls → NmM V 0 p → tp.length - a < w → tot (gX10_round_b16 N w V) (fun u => u.1 = nI f ∧ (f ≠ 0 → lmf V u.2) ∧ (f = 0 → ∃ X, lmf V X ∧ LinM X 5 ls' ∧ llE X u.2 5 0))
theorem r_loop (ht : GoodT tp) (hN : 1000 < N) (hT : T = 6 ∨ T = 15) (gp : GoodP p) (gn : GoodN p) : ∀ (w i a : Nat) (V : VT) (ls : LN), RC V tp a 0 → a ≤ tp.length → LinC V 83 ls → NmC V T p → GoodL p ls → i ≤ a → tp.length - a < w → tot (gX4_readRound_b13 N w 83 T (nI i) V) (fun r => ∃ (f : Nat) (ls' : LN), r.1 = nI f ∧ f < 2 ^ 20 ∧ (f = 0 → GoodL p ls' ∧ LinC r.2 83 ls') ∧ lfr V r.2 ∧ r.2.F 3 1 = nI 0 ∧ RndM tp N a f p ls ls') := by
  have hl := ht.1
  have cl : ∀ (V : VT) (f : Nat) (Q : Int32 × VT → Prop), V.F 3 8 = nI f → (∀ W, lfr V W → rwe V W → W.F 3 1 = nI 0 → Q (nI f, W)) → tot (gX4_readRound_b61 N V) Q := by
    intro V f Q h8 hQ
    unfold gX4_readRound_b61 gX6_close
    rw [Option.bind_some, Option.bind_some]
    dsimp only
    have e8 : (wF V 3 1 0).F 3 8 = nI f := by rw [wF_F, if_neg (by omega)]; exact h8
    rw [e8]
    exact tot_some (hQ _ (rwe_F 1 0).l (rwe_F 1 0) (by rw [wF_F, if_pos ⟨rfl, rfl⟩]; rfl))
  intro w
  induction w with
  | zero => intro i a V ls _ _ _ _ _ _ h; omega
  | succ w ih =>
    intro i a V ls hC ha hL hNm g hi hw
    unfold gX4_readRound_b13
    rw [if_neg (show ¬ (1000 : Int32) < nI i from nI_nlt (a := 1000) (by omega) (by omega)), hC.2.2.2.2.2.2, if_pos (by rfl), hC.2.2.2.1]
    have hy := ty_lt (tp := tp) (a := a) ht
    by_cases h0 : tyN tp a = 0
    · rw [if_pos (by rw [h0]; rfl)]
      refine cl V 0 _ hC.2.2.2.2.2.2 (fun W w1 w2 w3 => ⟨0, ls, rfl, by decide, fun _ => ⟨g, hL.rw (by omega) w2⟩, w1, w3, fun Vm wm hM hDm hNM hwm => ?_⟩)
      obtain ⟨wm, rfl⟩ : ∃ i, wm = i + 1 := ⟨wm - 1, by omega⟩
      unfold gX10_round_b16
      rw [hM.2.2.2.1, if_pos (by rw [(mty_0 _).mpr h0]; rfl)]
      refine tot_bd (m_llay (V := Vm) (f := 5) (t := 0) (by omega) (by omega) (by omega) hN) (fun U hU => ?_)
      exact tot_some ⟨rfl, fun z => absurd rfl z, fun _ => ⟨Vm, lmf.rf, hDm, hU⟩⟩
    rw [if_neg (nI_ne0 (by omega) (by omega))]
    obtain ⟨s, ls1, ⟨b1, b2, b3⟩, c1, m1⟩ := r_line (N := N) ht hN hT ha gp gn g h0
    have nx : ∀ (Vm : VT) (wm : Nat), MC Vm tp a → gX10_round_b16 N (wm + 1) Vm = (gX10_readsLine N Vm).bind fun p2 => if p2.1 = 0 then some (p2.2.F 137 9, p2.2) else gX10_round_b16 N wm p2.2 := fun Vm wm hM => by
      have hm := mty_lt (tyN tp a)
      rw [gX10_round_b16, hM.2.2.2.1, if_neg (show ¬ nI (mty (tyN tp a)) = 0 from nI_ne (b := 0) (fun z => h0 ((mty_0 _).mp z)) (by omega) (by omega))]
    have hb : ∀ (x : Option VT) (f : VT → Option VT) (g : VT → Option (Int32 × VT)), (x.bind fun V1 => (f V1).bind fun V2 => g V2) = (x.bind fun V1 => f V1).bind g := fun x f g => by cases x <;> rfl
    rw [hb]
    refine tot_bd (c1 V hC hL hNm) (fun W hW => ?_)
    obtain ⟨A1, k1, d1⟩ := hW
    by_cases z : s.2 = 0
    · have b3 := b3 z
      rw [show nI i + 1 = nI (i + 1) from nI_1 i]
      refine tot_mo (ih (i + 1) s.1 W ls1 (A1.2.1 z) b1 (k1 z) (hNm.lf hT d1) b3.1 (by omega) (by omega)) (fun r hr => ?_)
      obtain ⟨f, D2, r1, r2, r3, r4, r5, r6⟩ := hr
      refine ⟨f, D2, r1, r2, r3, d1.trans r4, r5, fun Vm wm hMm hDm hNM hwm => ?_⟩
      obtain ⟨wm, rfl⟩ : ∃ i, wm = i + 1 := ⟨wm - 1, by omega⟩
      rw [nx Vm wm hMm]
      refine tot_bd (m1 Vm hMm hDm hNM) (fun u hu => ?_)
      obtain ⟨u1, u2, u3⟩ := hu.2.1 z
      rw [u1, if_neg (by decide)]
      refine tot_mo (r6 u.2 wm u2 u3 (hNM.lm hu.2.2) (by omega)) (fun x hx => ⟨hx.1, fun q => hu.2.2.trans (hx.2.1 q), fun q => ?_⟩)
      obtain ⟨X, x1, x2, x3⟩ := hx.2.2 q
      exact ⟨X, hu.2.2.trans x1, x2, x3⟩
    · have hDd := A1.2.2 z
      have last : tot (gX4_readRound_b61 N W) (fun r => ∃ (f : Nat) (ls' : LN), r.1 = nI f ∧ f < 2 ^ 20 ∧ (f = 0 → GoodL p ls' ∧ LinC r.2 83 ls') ∧ lfr V r.2 ∧ r.2.F 3 1 = nI 0 ∧ RndM tp N a f p ls ls') := by
        refine cl W s.2 _ hDd.1 (fun X x1 x2 x3 => ⟨s.2, ls, rfl, b2, fun z2 => absurd z2 z, d1.trans x1, x3, fun Vm wm hMm hDm hNM hwm => ?_⟩)
        obtain ⟨wm, rfl⟩ : ∃ i, wm = i + 1 := ⟨wm - 1, by omega⟩
        rw [nx Vm wm hMm]
        refine tot_bd (m1 Vm hMm hDm hNM) (fun u hu => ?_)
        obtain ⟨u1, u2⟩ := hu.1 z
        rw [u1, if_pos (by rfl), u2]
        exact tot_some ⟨rfl, fun _ => hu.2.2, fun z2 => absurd z2 z⟩
      have he := en_lt h0
      have hp := pl_le ha
      obtain ⟨w, rfl⟩ : ∃ i, w = i + 1 := ⟨w - 1, by omega⟩
      unfold gX4_readRound_b13
      by_cases h9 : (1000 : Int32) < nI i + 1
      · rw [if_pos h9]
        exact last
      · rw [if_neg h9, hDd.1, if_neg (nI_ne0 hDd.2.1 (by have := hDd.2.2; omega))]
        exact last
def lmk (V W : VT) : Prop := (∀ a, a ≠ 137 → ¬ (160 ≤ a ∧ a ≤ 162) → eqs V W a) ∧ W.F 137 47 = V.F 137 47 ∧ (∀ j, j ≠ 5 → W.A 160 j = V.A 160 j) ∧ ∀ j, j < 200 → W.A 161 j = V.A 161 j ∧ W.A 162 j = V.A 162 j
theorem lmf.k (h : lmf V W) : lmk V W := ⟨h.1, h.2.1 47 (by omega), h.2.2⟩
theorem lmk.trans {X : VT} (h : lmk V W) (k : lmk W X) : lmk V X := ⟨fun a h1 h2 => (h.1 a h1 h2).trans (k.1 a h1 h2), k.2.1.trans h.2.1, fun j hj => (k.2.2.1 j hj).trans (h.2.2.1 j hj), fun j hj => ⟨(k.2.2.2 j hj).1.trans (h.2.2.2 j hj).1, (k.2.2.2 j hj).2.trans (h.2.2.2 j hj).2⟩⟩
theorem lmk_F {k : Nat} (x : Int32) (h : k ≠ 47) : lmk V (wF V 137 k x) := ⟨fun a h1 _ => ⟨rfl, rfl, funext (fun j => by rw [wF_F, if_neg (by omega)])⟩, by rw [wF_F, if_neg (by omega)], fun _ _ => rfl, fun _ _ => ⟨rfl, rfl⟩⟩
theorem MR.rd {B : AB} (h : MR V B) (hg : GoodA c B) (f : lmk V W) (f1 : W.F 137 1 = nI 0) : MR W (B.p, B.S, B.H, B.ls, B.es, B.mk, []) := by
  obtain ⟨h1, h2, h3, h4, h5, h6, h7⟩ := h
  have ln : ∀ (r : Nat) (ls : LN), r < 5 → ls.length ≤ 40 → LinM V r ls → LinM W r ls := fun r ls hr hl k => ⟨by rw [f.2.2.1 r (by omega)]; exact k.1, fun i hi => by
    rw [(f.2.2.2 (40 * r + i) (by omega)).1, (f.2.2.2 (40 * r + i) (by omega)).2]
    exact k.2 i hi⟩
  refine ⟨h1.cg (fun a _ _ _ => f.1 a (by omega) (by omega)), h2.at (f.1 167 (by omega) (by omega)).1, h3.at f.2.1 (f.1 171 (by omega) (by omega)).1, ln 0 _ (by omega) hg.2.2.2.1.1 h4, h5.at (f.1 163 (by omega) (by omega)).1 (f.1 164 (by omega) (by omega)).1 (f.1 165 (by omega) (by omega)).1 (f.1 166 (by omega) (by omega)).1, fun k hk => ?_, ⟨f1, fun i hi => by simp [AB.tp] at hi⟩⟩
  obtain ⟨k1, k2⟩ := h6 k hk
  rw [(f.1 172 (by omega) (by omega)).1]
  refine ⟨k1, fun T hT => ?_⟩
  obtain ⟨q1, q2, q3, q4⟩ := k2 T hT
  have gm := hg.2.2.2.2.2.1 k T hk hT
  exact ⟨q1, q2.at (f.1 170 (by omega) (by omega)).1, ln (1 + k) _ (by omega) gm.2.1.1 q3, q4.at (f.1 163 (by omega) (by omega)).1 (f.1 164 (by omega) (by omega)).1 (f.1 165 (by omega) (by omega)).1 (f.1 166 (by omega) (by omega)).1⟩
theorem MR.ll {B : AB} {ls' : LN} (h : MR V B) (hg : GoodA c B) (hl : ls'.length ≤ 40) (h5 : LinM V 5 ls') (f : llE V W 5 0) : MR W (B.p, B.S, B.H, ls', B.es, B.mk, B.tp) := by
  obtain ⟨h1, h2, h3, h4, h5', h6, h7⟩ := h
  obtain ⟨g1, g2, g3, g4⟩ := id f
  have e : ∀ a, ¬ (160 ≤ a ∧ a ≤ 162) → W.A a = V.A a := g4.2.2.1
  have eq : ∀ a, ¬ (160 ≤ a ∧ a ≤ 162) → eqs V W a := fun a ha => ⟨e a ha, by rw [g4.1], funext (fun k => g4.2.2.2 a k (fun q => q))⟩
  refine ⟨h1.cg (fun a _ _ _ => eq a (by omega)), h2.at (e 167 (by omega)), h3.at (g4.2.2.2 137 47 (fun q => q)) (e 171 (by omega)), h5.lay hl f, h5'.at (e 163 (by omega)) (e 164 (by omega)) (e 165 (by omega)) (e 166 (by omega)), fun k hk => ?_, h7.at (g4.2.2.2 137 1 (fun q => q)) (e 138 (by omega))⟩
  obtain ⟨k1, k2⟩ := h6 k hk
  rw [e 172 (by omega)]
  refine ⟨k1, fun T hT => ?_⟩
  obtain ⟨q1, q2, q3, q4⟩ := k2 T hT
  have gm := hg.2.2.2.2.2.1 k T hk hT
  exact ⟨q1, q2.at (e 170 (by omega)), q3.oth gm.2.1.1 (by omega) f, q4.at (e 163 (by omega)) (e 164 (by omega)) (e 165 (by omega)) (e 166 (by omega))⟩
theorem s_round (hg : GoodA c A) (hN : 1000 < N) (hC : CR E V A) : tot (gX9_round E N V) (fun r => ∃ A' : AB, GoodA (c + 1) A' ∧ CR E r.2 A' ∧ lo V r.2 ∧ ∀ Vm, MR Vm A → tot (gX10_round N Vm) (fun u => u.1 = r.1 ∧ MR u.2 A' ∧ hi Vm u.2)) := by
  obtain ⟨hE, h2, h3, h4, h5, h6, h7, h8⟩ := id hC
  have gt := hg.2.2.2.2.2.2.1
  have gn := hg.2.2.2.2.2.2.2
  have hl := gt.1
  have hn := hg.1.1
  have gT0 : GoodT ([] : List Nat) := ⟨by simp, fun i hi => by simp at hi⟩
  unfold gX9_round gX4_readRound gX2_clear
  rw [Option.bind_some, Option.bind_some]
  unfold gX6_open
  rw [Option.bind_some, Option.bind_some]
  generalize hV2 : wF (wF (wF V 83 2 0) 3 2 0) 3 8 0 = V2
  have f2 : lfr V V2 := by
    rw [← hV2]
    exact ((lfr_F _ _ (by omega)).trans (rwe_F _ _).l).trans (rwe_F _ _).l
  have T2 : TpC V2 A.tp := by
    have e : V2.F 3 1 = V.F 3 1 := by rw [← hV2, wF_F, if_neg (by omega), wF_F, if_neg (by omega), wF_F, if_neg (by omega)]
    have e2 : V2.A = V.A := by rw [← hV2]; rfl
    unfold TpC
    rw [e, e2]
    exact h8
  have z2 : V2.F 3 2 = nI 0 := by rw [← hV2, wF_F, if_neg (by omega), wF_F, if_pos ⟨rfl, rfl⟩]; rfl
  have z8 : V2.F 3 8 = nI 0 := by rw [← hV2, wF_F, if_pos ⟨rfl, rfl⟩]; rfl
  have L2 : LinC V2 83 [] := ⟨by rw [← hV2, wF_F, if_neg (by omega), wF_F, if_neg (by omega), wF_F, if_pos ⟨rfl, rfl⟩]; rfl, fun i hi => by simp at hi⟩
  have N2 : NmC V2 E.1 A.p := NmC.lf ⟨hn, h2.2.1.1, fun m hm => (h2.2.2.1 m hm).2.2.2.2⟩ hE f2
  rw [Option.bind_assoc]
  refine tot_bd (R := fun W => RC W A.tp 0 0 ∧ rwe V2 W) (tot_bd (c_adv0 gt hN T2 (Nat.zero_le _) z2 z8) (fun W hW => tot_some ⟨hW.1, hW.2.e⟩)) (fun V3 g3 => ?_)
  refine tot_bd (r_loop gt hN hE hg.1 gn N 0 0 V3 [] g3.1 (Nat.zero_le _) (L2.rw (by omega) g3.2) (N2.lf hE g3.2.l) ⟨by simp, fun i hi => by simp at hi⟩ (Nat.le_refl _) (by omega)) (fun r hr => ?_)
  obtain ⟨f, ls', r1, r2, r3, r4, r5, r6⟩ := hr
  have DF : lfr V r.2 := (f2.trans g3.2.l).trans r4
  -- the model's run
  have mdl : ∀ Vm, MR Vm A → tot (gX10_round N Vm) (fun u => u.1 = nI f ∧ ∃ X, MR X (A.p, A.S, A.H, A.ls, A.es, A.mk, []) ∧ hi Vm X ∧ (f ≠ 0 → u.2 = X) ∧ (f = 0 → LinM X 5 ls' ∧ llE X u.2 5 0)) := by
    intro Vm hM
    have tM := hM.2.2.2.2.2.2
    unfold gX10_round gX10_begins
    simp only [Option.bind_some, Option.bind_assoc]
    generalize hU : wA (wF Vm 137 0 0) 160 5 0 = U
    have kU : lmk Vm U := by
      rw [← hU]
      exact (lmk_F 0 (by omega)).trans (lmf_A _ (by omega)).k
    generalize hX : wF (wF (wF U 137 3 (U.F 137 1)) 137 1 0) 137 4 0 = X
    have kX : lmk Vm X := by
      rw [← hX]
      exact ((kU.trans (lmk_F _ (by omega))).trans (lmk_F _ (by omega))).trans (lmk_F _ (by omega))
    have x1 : X.F 137 1 = nI 0 := by
      rw [← hX, wF_F, if_neg (by omega), wF_F, if_pos ⟨rfl, rfl⟩]
      rfl
    have x4 : X.F 137 4 = nI 0 := by
      rw [← hX, wF_F, if_pos ⟨rfl, rfl⟩]
      rfl
    have x5 : X.A 160 5 = nI 0 := by
      rw [← hX, wF_A, wF_A, wF_A, ← hU, wA_A, if_pos ⟨rfl, rfl⟩]
      rfl
    have u1 : U.F 137 1 = Vm.F 137 1 := by
      rw [← hU, wA_F, wF_F, if_neg (by omega)]
    have x3 : X.F 137 3 = Vm.F 137 1 := by
      rw [← hX, wF_F, if_neg (by omega), wF_F, if_neg (by omega), wF_F, if_pos ⟨rfl, rfl⟩, u1]
    have SX : SzM X A.tp := ⟨by rw [x3]; exact tM.1, fun i hi => by rw [(kX.1 138 (by omega) (by omega)).1]; exact tM.2 i hi⟩
    refine tot_bd (m_next0 gt hN SX (Nat.zero_le _) x4) (fun Y hY => ?_)
    have kY := kX.trans hY.2.n.l.k
    have NY : NmM Y 0 A.p := ⟨hn, by rw [(kY.1 139 (by omega) (by omega)).1]; exact hM.1.2.1.1, fun m hm => by
      rw [(kY.1 140 (by omega) (by omega)).2.1]
      have q := (hM.1.2.2.1 m hm).2.2.2.2.2
      rw [show 7 * 0 + m = m by omega]
      exact q⟩
    have LY : LinM Y 5 [] := ⟨by rw [hY.2.1]; exact x5, fun i hi => by simp at hi⟩
    have y1 : Y.F 137 1 = nI 0 := by rw [hY.2.2.2 137 1 (by omega)]; exact x1
    have hk : ∀ Z, lmk Vm Z → hi Vm Z := fun Z hZ a ha => hZ.1 a (by omega) (by omega)
    refine tot_mo (r6 Y N hY.1 LY NY (by omega)) (fun u hu => ⟨hu.1, ?_⟩)
    by_cases z : f = 0
    · obtain ⟨Z, z1, z2, z3⟩ := hu.2.2 z
      have kZ := kY.trans z1.k
      exact ⟨Z, hM.rd hg kZ (by rw [z1.2.1 1 (by omega)]; exact y1), hk Z kZ, fun q => absurd z q, fun _ => ⟨z2, z3⟩⟩
    · have z1 := hu.2.1 z
      have kZ := kY.trans z1.k
      exact ⟨u.2, hM.rd hg kZ (by rw [z1.2.1 1 (by omega)]; exact y1), hk _ kZ, fun _ => rfl, fun q => absurd q z⟩
  have e : ∀ a, a ≠ 3 → ¬ (83 ≤ a ∧ a ≤ 85) → eqs V r.2 a := DF
  have gA : GoodA (c + 1) (A.p, A.S, A.H, A.ls, A.es, A.mk, []) := ⟨hg.1, hg.2.1.mono (by omega), hg.2.2.1.mono (by omega), hg.2.2.2.1, hg.2.2.2.2.1, hg.2.2.2.2.2.1.mono (by omega), gT0, gn⟩
  have CA : CR E r.2 (A.p, A.S, A.H, A.ls, A.es, A.mk, []) := ⟨hE, h2.cg (fun a _ _ => e a (by omega) (by omega)), h3.cg (fun a _ _ => e a (by omega) (by omega)), h4.cg (fun a _ _ => e a (by omega) (by omega)), h5.cg (fun a _ _ => e a (by omega) (by omega)), h6.cg (fun a _ _ => e a (by omega) (by omega)), h7.cg (fun a _ _ => e a (by omega) (by omega)), ⟨r5, fun i hi => by simp [AB.tp] at hi⟩⟩
  have LO : lo V r.2 := fun a ha => DF a (by omega) (by omega)
  by_cases z : f = 0
  · subst z
    obtain ⟨gl, L⟩ := r3 rfl
    rw [r1, if_pos (by rfl)]
    refine tot_bd (c_lcopy (o := 80) L gl.1 hN (by omega)) (fun W hW => ?_)
    have eW : ∀ a, ¬ (80 ≤ a ∧ a ≤ 82) → eqs r.2 W a := fun a ha => fr_eqs hW.2 (by omega) (fun k => by omega)
    obtain ⟨-, b2, b3, b4, b5, b6, b7, b8⟩ := CA
    refine tot_some ⟨(A.p, A.S, A.H, ls', A.es, A.mk, []), ⟨gA.1, gA.2.1, gA.2.2.1, gl, gA.2.2.2.2⟩, ⟨hE, b2.cg (fun a _ _ => eW a (by omega)), b3.cg (fun a _ _ => eW a (by omega)), b4.cg (fun a _ _ => eW a (by omega)), hW.1, b6.cg (fun a _ _ => eW a (by omega)), b7.cg (fun a _ _ => eW a (by omega)), b8.cg (fun a _ _ => eW a (by omega))⟩, LO.trans (fun a ha => eW a (by omega)), fun Vm hM => tot_mo (mdl Vm hM) (fun u hu => ?_)⟩
    obtain ⟨u1, X, m1, m2, -, m3⟩ := hu
    obtain ⟨m4, m5⟩ := m3 rfl
    exact ⟨u1, m1.ll gA gl.1 m4 m5, m2.trans (fun a ha => ⟨m5.2.2.2.2.2.1 a (by omega), by rw [m5.2.2.2.1], funext (fun k => m5.2.2.2.2.2.2 a k (fun q => q))⟩)⟩
  · rw [r1, if_neg (nI_ne0 (by omega) (by omega))]
    refine tot_some ⟨_, gA, CA, LO, fun Vm hM => tot_mo (mdl Vm hM) (fun u hu => ?_)⟩
    obtain ⟨u1, X, m1, m2, m3, -⟩ := hu
    rw [m3 z]
    exact ⟨u1, m1, m2⟩
end PRoundC
