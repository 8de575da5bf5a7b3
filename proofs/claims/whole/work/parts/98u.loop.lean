/-! PURE: the law's loop. -/
section PLoop
variable {E : VE} {V W : VT} {N c : Nat} {A : AB}
theorem lg_self (x : Int64) : lg_cmp x x = 0 := by
  unfold lg_cmp
  simp
theorem sc_aI {L k : Nat} {xs : Nat → Int32} (h1 : E.2.2.2.1 = L) (h2 : E.2.2.2.2.1 = xs) (hk : k < L) (hL : L ≤ 3584) : aI .int (hpV E V) 0 (nI k) = some (xs k) := by
  subst h1 h2
  have e : (hpV E V).1 0 = some (.inl (.int, E.2.2.2.1, .inl E.2.2.2.2.1)) := rfl
  have h := rdA_at (f := E.2.2.2.2.1) hk (show k < 2 ^ 31 by omega)
  unfold rdA at h
  unfold aI
  rw [e]
  simpa using h
theorem sc_aN {L : Nat} (h1 : E.2.2.2.1 = L) : aN (hpV E V) 0 = some (nI L) := by
  subst h1
  rfl
theorem sc_end {L i : Nat} (hL : L ≤ 3584) (hi : i ≤ 4000) : (nI L - 7 < nI i) ↔ L < i + 7 := by
  by_cases h : 7 ≤ L
  · rw [show nI L - 7 = nI (L - 7) from pk_sub (b := 7) h]
    constructor
    · intro q
      by_cases z : L < i + 7
      · exact z
      · exact absurd q (nI_nlt (by omega) (by omega))
    · intro q
      exact nI_lt (by omega) (by omega)
  · refine ⟨fun _ => by omega, fun _ => ?_⟩
    have h0 : nI L - 7 < 0 := by
      have : L = 0 ∨ L = 1 ∨ L = 2 ∨ L = 3 ∨ L = 4 ∨ L = 5 ∨ L = 6 := by omega
      rcases this with q | q | q | q | q | q | q <;> subst q <;> decide
    exact Int32.lt_of_lt_of_le h0 (nI_pos' (by omega))
theorem lw_step {R : Option (Int32 × qH) → Prop} {Fc : Option (Int32 × qH)} {K : Int32 × qH → Option (Int32 × qH)} {G : qH → Option (Int32 × qH)} {gc gm : VT → Option (Int32 × VT)} (st : Stq E A c gc gm) (hC : CR E V A) (hM : MR V A) (hc : Fc = (gc V).map (fun p => (p.1, hpV E p.2))) (hm : ∀ (V1 : VT) (v : Int32), K (v, hpV E V1) = ((gm V1).map (fun p => (p.1, hpV E p.2))).bind fun q => if v = q.1 then G q.2 else some (0, q.2)) (go : ∀ V' A', GoodA (c + 1) A' → CR E V' A' → MR V' A' → R (G (hpV E V'))) : R (Fc.bind K) := by
  obtain ⟨v, A', g', f1, f2⟩ := st
  obtain ⟨r, e1, r1, r2, r3⟩ := f1 V hC
  obtain ⟨u, e2, u1, u2, u3⟩ := f2 r.2 (hM.lo r3)
  rw [hc, e1, Option.map_some, Option.bind_some, hm, e2, Option.map_some, Option.bind_some]
  dsimp only
  rw [if_pos (r1.trans u1.symm)]
  exact go u.2 A' g' (r2.hi u3) u2
set_option maxHeartbeats 2000000 in
set_option maxRecDepth 10000 in
theorem law_body {R : Option (Int32 × qH) → Prop} {L i w : Nat} {xs : Nat → Int32} (hT : E.1 = 6 ∨ E.1 = 15) (e1 : E.2.2.2.1 = L) (e2 : E.2.2.2.2.1 = xs) (hL : L ≤ 3584) (hi : i + 7 ≤ L) (hN2 : 2000 < N) (hcb : c ≤ 512) (hg : GoodA c A) (hC : CR E V A) (hM : MR V A) (go : ∀ (E' : VE) V' A', E'.1 = 6 ∨ E'.1 = 15 → E'.2.2.2 = E.2.2.2 → E'.2.1 ≤ E.2.1 + 1 → E'.2.2.1 ≤ E.2.2.1 + 6 → GoodA (c + 1) A' → CR E' V' A' → MR V' A' → R (fL_law_b23 N w 0 2 137 177 (nI i + 7) (hpV E' V'))) : R (fL_law_b23 N (w + 1) 0 2 137 177 (nI i) (hpV E V)) := by
  have hN : 1000 < N := by omega
  have hn : A.p.n ≤ 7 := hg.1.1
  have gl := hg.2.2.2.1
  have ge := hg.2.2.2.2.1
  have rr : ∀ (j : Nat) (E' : VE) (V : VT), E'.2.2.2 = E.2.2.2 → j < 7 → aI .int (hpV E' V) 0 (nI i + nI j) = some (xs (i + j)) := fun j E' V q hj => by
    rw [nI_add]
    exact sc_aI (by rw [q]; exact e1) (by rw [q]; exact e2) (by omega) hL
  have r0 : aI .int (hpV E V) 0 (nI i) = some (xs i) := sc_aI e1 e2 (by omega) hL
  have r1 : ∀ {V : VT}, aI .int (hpV E V) 0 (nI i + 1) = some (xs (i + 1)) := fun {V} => rr 1 E V rfl (by omega)
  have r2 : ∀ {V : VT}, aI .int (hpV E V) 0 (nI i + 2) = some (xs (i + 2)) := fun {V} => rr 2 E V rfl (by omega)
  have r3 : ∀ {V : VT}, aI .int (hpV E V) 0 (nI i + 3) = some (xs (i + 3)) := fun {V} => rr 3 E V rfl (by omega)
  have r4 : ∀ {V : VT}, aI .int (hpV E V) 0 (nI i + 4) = some (xs (i + 4)) := fun {V} => rr 4 E V rfl (by omega)
  have r5 : ∀ {V : VT}, aI .int (hpV E V) 0 (nI i + 5) = some (xs (i + 5)) := fun {V} => rr 5 E V rfl (by omega)
  have r6 : ∀ {V : VT}, aI .int (hpV E V) 0 (nI i + 6) = some (xs (i + 6)) := fun {V} => rr 6 E V rfl (by omega)
  have r1' : ∀ (E' : VE) {V : VT}, E'.2.2.2 = E.2.2.2 → aI .int (hpV E' V) 0 (nI i + 1) = some (xs (i + 1)) := fun E' V q => rr 1 E' V q (by omega)
  have r2' : ∀ (E' : VE) {V : VT}, E'.2.2.2 = E.2.2.2 → aI .int (hpV E' V) 0 (nI i + 2) = some (xs (i + 2)) := fun E' V q => rr 2 E' V q (by omega)
  have r3' : ∀ (E' : VE) {V : VT}, E'.2.2.2 = E.2.2.2 → aI .int (hpV E' V) 0 (nI i + 3) = some (xs (i + 3)) := fun E' V q => rr 3 E' V q (by omega)
  have r4' : ∀ (E' : VE) {V : VT}, E'.2.2.2 = E.2.2.2 → aI .int (hpV E' V) 0 (nI i + 4) = some (xs (i + 4)) := fun E' V q => rr 4 E' V q (by omega)
  have go1 : ∀ V' A', GoodA (c + 1) A' → CR E V' A' → MR V' A' → R (fL_law_b23 N w 0 2 137 177 (nI i + 7) (hpV E V')) := fun V' A' g1 g2 g3 => go E V' A' hT rfl (by omega) (by omega) g1 g2 g3
  unfold fL_law_b23
  rw [sc_aN e1, Option.bind_some, if_neg (show ¬ nI L - 7 < nI i from fun q => by have := (sc_end hL (by omega)).mp q; omega), r0, Option.bind_some]
  by_cases h0 : xs i &&& 63 = 0
  · rw [if_pos h0, r1, Option.bind_some, r2, Option.bind_some, r3, Option.bind_some, r4, Option.bind_some, r5, Option.bind_some, r6, Option.bind_some]
    refine lw_step (R := R) (G := fun h => fL_law_b23 N w 0 2 137 177 (nI i + 7) h) (s_feed hg hN _ _ _) hC hM (smX9_feed hT) (fun V1 v => ?_) go1
    dsimp only
    rw [r1, Option.bind_some, r2, Option.bind_some, r3, Option.bind_some, r4, Option.bind_some, r5, Option.bind_some, r6, Option.bind_some, smX10_feed]
  rw [if_neg h0]
  by_cases h1 : xs i &&& 63 = 1
  · rw [if_pos h1, f_past hT]
    obtain ⟨r, e1, A', g', hT', eE, C', lo', m'⟩ := s_past hT hg hN2 hC
    rw [e1, Option.map_some, Option.bind_some]
    dsimp only
    obtain ⟨u, e2, u1, u2, u3⟩ := m' r.2.2 (hM.lo lo')
    rw [smX10_past, e2, Option.map_some, Option.bind_some]
    dsimp only
    rw [if_pos u1.symm]
    exact go r.2.1 u.2 A' hT' (by rw [eE]) (by rw [eE]; omega) (by rw [eE]; omega) g' (C'.hi u3) u2
  rw [if_neg h1]
  by_cases h2 : xs i &&& 63 = 2
  · rw [if_pos h2, smX9_round hT]
    obtain ⟨r, e1, A', g', C', lo', m'⟩ := s_round hg hN hC
    rw [e1, Option.map_some, Option.bind_some]
    dsimp only
    obtain ⟨u, e2, u1, u2, u3⟩ := m' r.2 (hM.lo lo')
    rw [smX10_round, e2, Option.map_some, Option.bind_some]
    dsimp only
    rw [if_pos u1.symm]
    exact go E u.2 A' hT rfl (by omega) (by omega) g' (C'.hi u3) u2
  rw [if_neg h2]
  by_cases h3 : xs i &&& 63 = 3
  · rw [if_pos h3, r1, Option.bind_some, r2, Option.bind_some]
    refine lw_step (R := R) (G := fun h => fL_law_b23 N w 0 2 137 177 (nI i + 7) h) (st_q hg (by omega) (q_matter hg.1 hN _ _)) hC hM (smX9_matter hT) (fun V1 v => ?_) go1
    dsimp only
    rw [r1, Option.bind_some, r2, Option.bind_some, smX10_matter]
  rw [if_neg h3]
  by_cases h4 : xs i &&& 63 = 4
  · rw [if_pos h4, r1, Option.bind_some]
    refine lw_step (R := R) (G := fun h => fL_law_b23 N w 0 2 137 177 (nI i + 7) h) (s_spread hg (by omega) hN _) hC hM (smX9_spread hT) (fun V1 v => ?_) go1
    dsimp only
    rw [r1, Option.bind_some, smX10_spread]
  rw [if_neg h4]
  by_cases h5 : xs i &&& 63 = 5
  · rw [if_pos h5, r1, Option.bind_some]
    refine lw_step (R := R) (G := fun h => fL_law_b23 N w 0 2 137 177 (nI i + 7) h) (s_eat hg (by omega) hN _) hC hM (smX9_eat hT) (fun V1 v => ?_) go1
    dsimp only
    rw [r1, Option.bind_some, smX10_eat]
  rw [if_neg h5]
  by_cases h6 : xs i &&& 63 = 6
  · rw [if_pos h6]
    refine lw_step (R := R) (G := fun h => fL_law_b23 N w 0 2 137 177 (nI i + 7) h) (s_year hg (by omega) hN) hC hM (smX9_year hT) (fun V1 v => ?_) go1
    dsimp only
    rw [smX10_year]
  rw [if_neg h6]
  by_cases h7 : xs i &&& 63 = 7
  · rw [if_pos h7]
    refine lw_step (R := R) (G := fun h => fL_law_b23 N w 0 2 137 177 (nI i + 7) h) (s_undo hg (by omega) hN) hC hM (smX9_undo hT) (fun V1 v => ?_) go1
    dsimp only
    rw [smX10_undo]
  rw [if_neg h7]
  by_cases h8 : xs i &&& 63 = 8
  · rw [if_pos h8, r1, Option.bind_some]
    refine lw_step (R := R) (G := fun h => fL_law_b23 N w 0 2 137 177 (nI i + 7) h) (st_qL hg (by omega) (q_judged hg.1 gl hN _)) hC hM (smX9_judged hT) (fun V1 v => ?_) go1
    dsimp only
    rw [r1, Option.bind_some, smX10_judged]
  rw [if_neg h8]
  by_cases h9 : xs i &&& 63 = 9
  · rw [if_pos h9]
    refine lw_step (R := R) (G := fun h => fL_law_b23 N w 0 2 137 177 (nI i + 7) h) (st_q hg (by omega) (q_meant hN)) hC hM (smX9_meant hT) (fun V1 v => ?_) go1
    dsimp only
    rw [smX10_meant]
  rw [if_neg h9]
  by_cases h10 : xs i &&& 63 = 10
  · rw [if_pos h10]
    refine lw_step (R := R) (G := fun h => fL_law_b23 N w 0 2 137 177 (nI i + 7) h) (st_q hg (by omega) (q_right hN)) hC hM (smX9_right hT) (fun V1 v => ?_) go1
    dsimp only
    rw [smX10_right]
  rw [if_neg h10]
  by_cases h11 : xs i &&& 63 = 11
  · rw [if_pos h11, r1, Option.bind_some]
    refine lw_step (R := R) (G := fun h => fL_law_b23 N w 0 2 137 177 (nI i + 7) h) (st_q hg (by omega) (q_wants hn hN _)) hC hM (smX9_wants hT) (fun V1 v => ?_) go1
    dsimp only
    rw [r1, Option.bind_some, smX10_wants]
  rw [if_neg h11]
  by_cases h12 : xs i &&& 63 = 12
  · rw [if_pos h12, r1, Option.bind_some]
    refine lw_step (R := R) (G := fun h => fL_law_b23 N w 0 2 137 177 (nI i + 7) h) (st_q hg (by omega) (q_cost hn hN hg.1 _)) hC hM (smX9_cost hT) (fun V1 v => ?_) go1
    dsimp only
    rw [r1, Option.bind_some, smX10_cost]
  rw [if_neg h12]
  by_cases h13 : xs i &&& 63 = 13
  · rw [if_pos h13, r1, Option.bind_some, r2, Option.bind_some]
    refine lw_step (R := R) (G := fun h => fL_law_b23 N w 0 2 137 177 (nI i + 7) h) (st_q hg (by omega) (q_cheap hn hN _ _)) hC hM (smX9_cheap hT) (fun V1 v => ?_) go1
    dsimp only
    rw [r1, Option.bind_some, r2, Option.bind_some, smX10_cheap]
  rw [if_neg h13]
  by_cases h14 : xs i &&& 63 = 14
  · rw [if_pos h14, r1, Option.bind_some, r2, Option.bind_some]
    refine lw_step (R := R) (G := fun h => fL_law_b23 N w 0 2 137 177 (nI i + 7) h) (st_q hg (by omega) (q_most hg.1 hN _ _)) hC hM (smX9_most hT) (fun V1 v => ?_) go1
    dsimp only
    rw [r1, Option.bind_some, r2, Option.bind_some, smX10_most]
  rw [if_neg h14]
  by_cases h15 : xs i &&& 63 = 15
  · rw [if_pos h15]
    refine lw_step (R := R) (G := fun h => fL_law_b23 N w 0 2 137 177 (nI i + 7) h) (st_q hg (by omega) (q_all hN)) hC hM (smX9_all hT) (fun V1 v => ?_) go1
    dsimp only
    rw [smX10_all]
  rw [if_neg h15]
  by_cases h16 : xs i &&& 63 = 16
  · rw [if_pos h16]
    refine lw_step (R := R) (G := fun h => fL_law_b23 N w 0 2 137 177 (nI i + 7) h) (st_q hg (by omega) (q_lacks hN)) hC hM (smX9_lacks hT) (fun V1 v => ?_) go1
    dsimp only
    rw [smX10_lacks]
  rw [if_neg h16]
  by_cases h17 : xs i &&& 63 = 17
  · rw [if_pos h17]
    refine lw_step (R := R) (G := fun h => fL_law_b23 N w 0 2 137 177 (nI i + 7) h) (st_q hg (by omega) (q_easiest hg.1 hN)) hC hM (smX9_easiest hT) (fun V1 v => ?_) go1
    dsimp only
    rw [smX10_easiest]
  rw [if_neg h17]
  by_cases h18 : xs i &&& 63 = 18
  · rw [if_pos h18, r1, Option.bind_some, r2, Option.bind_some]
    refine lw_step (R := R) (G := fun h => fL_law_b23 N w 0 2 137 177 (nI i + 7) h) (st_q hg (by omega) (q_later hg.1 hN _ _)) hC hM (smX9_later hT) (fun V1 v => ?_) go1
    dsimp only
    rw [r1, Option.bind_some, r2, Option.bind_some, smX10_later]
  rw [if_neg h18]
  by_cases h19 : xs i &&& 63 = 19
  · rw [if_pos h19, r1, Option.bind_some]
    refine lw_step (R := R) (G := fun h => fL_law_b23 N w 0 2 137 177 (nI i + 7) h) (st_q hg (by omega) (q_again hg.1 hN _)) hC hM (smX9_again hT) (fun V1 v => ?_) go1
    dsimp only
    rw [r1, Option.bind_some, smX10_again]
  rw [if_neg h19]
  by_cases h20 : xs i &&& 63 = 20
  · rw [if_pos h20, r1, Option.bind_some]
    refine lw_step (R := R) (G := fun h => fL_law_b23 N w 0 2 137 177 (nI i + 7) h) (st_q hg (by omega) (q_heals hg.1 hN _)) hC hM (smX9_heals hT) (fun V1 v => ?_) go1
    dsimp only
    rw [r1, Option.bind_some, smX10_heals]
  rw [if_neg h20]
  by_cases h21 : xs i &&& 63 = 21
  · rw [if_pos h21, r1, Option.bind_some]
    refine lw_step (R := R) (G := fun h => fL_law_b23 N w 0 2 137 177 (nI i + 7) h) (st_q hg (by omega) (q_fills hg.1 hN _)) hC hM (smX9_fills hT) (fun V1 v => ?_) go1
    dsimp only
    rw [r1, Option.bind_some, smX10_fills]
  rw [if_neg h21]
  by_cases h22 : xs i &&& 63 = 22
  · rw [if_pos h22, r1, Option.bind_some]
    refine lw_step (R := R) (G := fun h => fL_law_b23 N w 0 2 137 177 (nI i + 7) h) (st_q hg (by omega) (q_dinners hg.1 hN _)) hC hM (smX9_dinners hT) (fun V1 v => ?_) go1
    dsimp only
    rw [r1, Option.bind_some, smX10_dinners]
  rw [if_neg h22]
  by_cases h23 : xs i &&& 63 = 23
  · rw [if_pos h23, r1, Option.bind_some]
    refine lw_step (R := R) (G := fun h => fL_law_b23 N w 0 2 137 177 (nI i + 7) h) (st_q hg (by omega) (q_causes hg.1 hN _)) hC hM (smX9_causes hT) (fun V1 v => ?_) go1
    dsimp only
    rw [r1, Option.bind_some, smX10_causes]
  rw [if_neg h23]
  by_cases h24 : xs i &&& 63 = 24
  · rw [if_pos h24, r1, Option.bind_some]
    refine lw_step (R := R) (G := fun h => fL_law_b23 N w 0 2 137 177 (nI i + 7) h) (st_q hg (by omega) (q_fruits hg.1 hN _)) hC hM (smX9_fruits hT) (fun V1 v => ?_) go1
    dsimp only
    rw [r1, Option.bind_some, smX10_fruits]
  rw [if_neg h24]
  by_cases h25 : xs i &&& 63 = 25
  · rw [if_pos h25, r1, Option.bind_some, r2, Option.bind_some]
    refine lw_step (R := R) (G := fun h => fL_law_b23 N w 0 2 137 177 (nI i + 7) h) (st_q hg (by omega) (q_ways hg.1 hN _ _)) hC hM (smX9_ways hT) (fun V1 v => ?_) go1
    dsimp only
    rw [r1, Option.bind_some, r2, Option.bind_some, smX10_ways]
  rw [if_neg h25]
  by_cases h26 : xs i &&& 63 = 26
  · rw [if_pos h26]
    refine lw_step (R := R) (G := fun h => fL_law_b23 N w 0 2 137 177 (nI i + 7) h) (st_q hg (by omega) (q_story hg.1 hN)) hC hM (smX9_story hT) (fun V1 v => ?_) go1
    dsimp only
    rw [smX10_story]
  rw [if_neg h26]
  by_cases h27 : xs i &&& 63 = 27
  · rw [if_pos h27]
    refine lw_step (R := R) (G := fun h => fL_law_b23 N w 0 2 137 177 (nI i + 7) h) (st_q hg (by omega) (q_roots hg.1 hN)) hC hM (smX9_roots hT) (fun V1 v => ?_) go1
    dsimp only
    rw [smX10_roots]
  rw [if_neg h27]
  by_cases h28 : xs i &&& 63 = 28
  · rw [if_pos h28, r1, Option.bind_some]
    refine lw_step (R := R) (G := fun h => fL_law_b23 N w 0 2 137 177 (nI i + 7) h) (st_q hg (by omega) (q_elders hg.1 hN _)) hC hM (smX9_elders hT) (fun V1 v => ?_) go1
    dsimp only
    rw [r1, Option.bind_some, smX10_elders]
  rw [if_neg h28]
  by_cases h29 : xs i &&& 63 = 29
  · rw [if_pos h29]
    refine lw_step (R := R) (G := fun h => fL_law_b23 N w 0 2 137 177 (nI i + 7) h) (st_q hg (by omega) (q_redeems hg.1 hN)) hC hM (smX9_redeems hT) (fun V1 v => ?_) go1
    dsimp only
    rw [smX10_redeems]
  rw [if_neg h29]
  by_cases h30 : xs i &&& 63 = 30
  · rw [if_pos h30]
    refine lw_step (R := R) (G := fun h => fL_law_b23 N w 0 2 137 177 (nI i + 7) h) (st_q hg (by omega) (q_gap hg.1 hN)) hC hM (smX9_gap hT) (fun V1 v => ?_) go1
    dsimp only
    rw [smX10_gap]
  rw [if_neg h30]
  by_cases h31 : xs i &&& 63 = 31
  · rw [if_pos h31]
    refine lw_step (R := R) (G := fun h => fL_law_b23 N w 0 2 137 177 (nI i + 7) h) (st_q hg (by omega) (q_bare hg.1 hN)) hC hM (smX9_bare hT) (fun V1 v => ?_) go1
    dsimp only
    rw [smX10_bare]
  rw [if_neg h31]
  by_cases h32 : xs i &&& 63 = 32
  · rw [if_pos h32]
    refine lw_step (R := R) (G := fun h => fL_law_b23 N w 0 2 137 177 (nI i + 7) h) (st_q hg (by omega) (q_sourest hg.1 hN)) hC hM (smX9_sourest hT) (fun V1 v => ?_) go1
    dsimp only
    rw [smX10_sourest]
  rw [if_neg h32]
  by_cases h33 : xs i &&& 63 = 33
  · rw [if_pos h33]
    refine lw_step (R := R) (G := fun h => fL_law_b23 N w 0 2 137 177 (nI i + 7) h) (st_q hg (by omega) (q_lost hn hN)) hC hM (smX9_lost hT) (fun V1 v => ?_) go1
    dsimp only
    rw [smX10_lost]
  rw [if_neg h33]
  by_cases h34 : xs i &&& 63 = 34
  · rw [if_pos h34, r1, Option.bind_some, r2, Option.bind_some, r3, Option.bind_some]
    by_cases z : xs (i + 3) = 0
    · rw [if_pos z]
      unfold fL_law_b1091 fL_law_b1121
      refine lw_step (R := R) (G := fun h => fL_law_b23 N w 0 2 137 177 (nI i + 7) h) (show Stq E A c (fun V => gX9_see E (xs (i + 1)) (xs (i + 2)) 0 V) (fun V => gX10_see (xs (i + 1)) (xs (i + 2)) 0 V) from s_see hg _ _ false) hC hM (smX9_see hT) (fun V1 v => ?_) go1
      dsimp only
      rw [r1, Option.bind_some, r2, Option.bind_some, r3, Option.bind_some, if_pos z, smX10_see]
    · rw [if_neg z]
      unfold fL_law_b1091 fL_law_b1121
      refine lw_step (R := R) (G := fun h => fL_law_b23 N w 0 2 137 177 (nI i + 7) h) (show Stq E A c (fun V => gX9_see E (xs (i + 1)) (xs (i + 2)) 1 V) (fun V => gX10_see (xs (i + 1)) (xs (i + 2)) 1 V) from s_see hg _ _ true) hC hM (smX9_see hT) (fun V1 v => ?_) go1
      dsimp only
      rw [r1, Option.bind_some, r2, Option.bind_some, r3, Option.bind_some, if_neg z, smX10_see]
  rw [if_neg h34]
  by_cases h35 : xs i &&& 63 = 35
  · rw [if_pos h35]
    refine lw_step (R := R) (G := fun h => fL_law_b23 N w 0 2 137 177 (nI i + 7) h) (st_qS hg (by omega) (q_who ge hN)) hC hM (smX9_who hT) (fun V1 v => ?_) go1
    dsimp only
    rw [smX10_who]
  rw [if_neg h35]
  by_cases h36 : xs i &&& 63 = 36
  · rw [if_pos h36]
    refine lw_step (R := R) (G := fun h => fL_law_b23 N w 0 2 137 177 (nI i + 7) h) (st_qS hg (by omega) (q_taste hn ge hN)) hC hM (smX9_taste hT) (fun V1 v => ?_) go1
    dsimp only
    rw [smX10_taste]
  rw [if_neg h36]
  by_cases h37 : xs i &&& 63 = 37
  · rw [if_pos h37, r1, Option.bind_some, r2, Option.bind_some, r3, Option.bind_some]
    refine lw_step (R := R) (G := fun h => fL_law_b23 N w 0 2 137 177 (nI i + 7) h) (st_q hg (by omega) (q_chance hg.1 hN _ _ _)) hC hM (smX9_chance hT) (fun V1 v => ?_) go1
    dsimp only
    rw [r1, Option.bind_some, r2, Option.bind_some, r3, Option.bind_some, smX10_chance]
  rw [if_neg h37]
  by_cases h38 : xs i &&& 63 = 38
  · rw [if_pos h38, r1, Option.bind_some, r2, Option.bind_some, r3, Option.bind_some, r4, Option.bind_some]
    rcases s_rests (E := E) (V := V) hN (xs (i + 1)) (xs (i + 2)) (xs (i + 3)) (xs (i + 4)) with ⟨v, k1, k2⟩ | ⟨k1, k2⟩
    · rw [k1, Option.bind_some]
      dsimp only
      rw [r1, Option.bind_some, r2, Option.bind_some, r3, Option.bind_some, r4, Option.bind_some, smX10_rests]
      obtain ⟨W, w1, w2, w3⟩ := k2 (wL V 177 0 v.toInt64)
      rw [w1, Option.map_some, Option.bind_some]
      dsimp only
      rw [smX10_thrown, show gX10_thrown W = some (W.F 137 0, W) from rfl, w2, Option.map_some, Option.bind_some]
      dsimp only
      rw [if_pos rfl, if_pos rfl, s_aL (n := 1) rfl, show (0 : Int32) = nI 0 from rfl, rdL_at (by omega) (by omega), w3.2.1, Option.bind_some, wL_s, show vp_updL (V.L 177) 0 v.toInt64 0 = v.toInt64 from if_pos rfl, if_pos (show lg_cmp v.toInt64 v.toInt64 = nI 0 from lg_self _)]
      have M1 : MR (wL V 177 0 v.toInt64) A := hM.cg (fun a h1 h2 => ⟨rfl, wL_n _ _ _ (by omega), rfl⟩)
      obtain ⟨m1, m2⟩ := M1.thf w3
      have C1 : CR E (wL V 177 0 v.toInt64) A := hC.hi (fun a ha => ⟨rfl, wL_n _ _ _ (by omega), rfl⟩)
      exact go E W A hT rfl (by omega) (by omega) (hg.mono (by omega)) (C1.hi m2) m1
    · rw [k1, Option.bind_some]
      dsimp only
      rw [show hpV (bmp E) V = hpV (bmp E) V from rfl, r1' (bmp E) rfl, Option.bind_some, r2' (bmp E) rfl, Option.bind_some, r3' (bmp E) rfl, Option.bind_some, r4' (bmp E) rfl, Option.bind_some, smX10_rests]
      obtain ⟨x, W, w1, w2, w3⟩ := k2 V
      rw [w1, Option.map_some, Option.bind_some]
      dsimp only
      rw [smX10_thrown, show gX10_thrown W = some (W.F 137 0, W) from rfl, w2, Option.map_some, Option.bind_some]
      dsimp only
      rw [if_pos rfl, if_neg (by decide)]
      obtain ⟨m1, m2⟩ := hM.thf w3
      exact go (bmp E) W A hT rfl (Nat.le_refl _) (Nat.le_refl _) (hg.mono (by omega)) (show CR E W A from hC.hi m2) m1
  rw [if_neg h38]
  by_cases h39 : xs i &&& 63 = 39
  · rw [if_pos h39, r1, Option.bind_some, r2, Option.bind_some, r3, Option.bind_some]
    refine lw_step (R := R) (G := fun h => fL_law_b23 N w 0 2 137 177 (nI i + 7) h) (st_q hg (by omega) (q_years hg.1 hN _ _ _)) hC hM (smX9_years hT) (fun V1 v => ?_) go1
    dsimp only
    rw [r1, Option.bind_some, r2, Option.bind_some, r3, Option.bind_some, smX10_years]
  rw [if_neg h39]
  by_cases h40 : xs i &&& 63 = 40
  · rw [if_pos h40, r1, Option.bind_some, r2, Option.bind_some]
    by_cases z : xs (i + 2) = 0
    · rw [if_pos z]
      unfold fL_law_b1366 fL_law_b1390
      refine lw_step (R := R) (G := fun h => fL_law_b23 N w 0 2 137 177 (nI i + 7) h) (show Stq E A c (fun V => gX9_mark E N (xs (i + 1)) 0 V) (fun V => gX10_mark N (xs (i + 1)) 0 V) from s_mark hg hN _ false) hC hM (smX9_mark hT) (fun V1 v => ?_) go1
      dsimp only
      rw [r1, Option.bind_some, r2, Option.bind_some, if_pos z, smX10_mark]
    · rw [if_neg z]
      unfold fL_law_b1366 fL_law_b1390
      refine lw_step (R := R) (G := fun h => fL_law_b23 N w 0 2 137 177 (nI i + 7) h) (show Stq E A c (fun V => gX9_mark E N (xs (i + 1)) 1 V) (fun V => gX10_mark N (xs (i + 1)) 1 V) from s_mark hg hN _ true) hC hM (smX9_mark hT) (fun V1 v => ?_) go1
      dsimp only
      rw [r1, Option.bind_some, r2, Option.bind_some, if_neg z, smX10_mark]
  rw [if_neg h40]
  by_cases h41 : xs i &&& 63 = 41
  · rw [if_pos h41, r1, Option.bind_some]
    refine lw_step (R := R) (G := fun h => fL_law_b23 N w 0 2 137 177 (nI i + 7) h) (s_count hg (by omega) hN _) hC hM (smX9_count hT) (fun V1 v => ?_) go1
    dsimp only
    rw [r1, Option.bind_some, smX10_count]
  rw [if_neg h41]
  exact go E V A hT rfl (by omega) (by omega) (hg.mono (by omega)) hC hM
/-- the law's loop comes to its end with 1 -/
theorem law_loop {L : Nat} {xs : Nat → Int32} (hL : L ≤ 3584) (hN2 : 2000 < N) : ∀ (w i c : Nat) (E : VE) (V : VT) (A : AB), i = 7 * c → i ≤ L → L - i < 7 * w → E.1 = 6 ∨ E.1 = 15 → E.2.2.2.1 = L → E.2.2.2.2.1 = xs → GoodA c A → CR E V A → MR V A → ∃ h', fL_law_b23 N w 0 2 137 177 (nI i) (hpV E V) = some (1, h') ∧ h'.2.1 ≤ E.2.1 + (L - i) ∧ h'.2.2 ≤ E.2.2.1 + 6 * (L - i) := by
  intro w
  induction w with
  | zero => intro i c E V A _ _ h; omega
  | succ w ih =>
    intro i c E V A hic hi hw hT e1 e2 hg hC hM
    by_cases z : L < i + 7
    · refine ⟨hpV E V, ?_, by show E.2.1 ≤ _; omega, by show E.2.2.1 ≤ _; omega⟩
      unfold fL_law_b23
      rw [sc_aN e1, Option.bind_some, if_pos ((sc_end hL (by omega)).mpr z)]
    · refine law_body (R := fun X => ∃ h', X = some (1, h') ∧ h'.2.1 ≤ E.2.1 + (L - i) ∧ h'.2.2 ≤ E.2.2.1 + 6 * (L - i)) hT e1 e2 hL (by omega) hN2 (by omega) hg hC hM (fun E' V' A' q1 q2 q3 q4 q5 q6 q7 => ?_)
      rw [show nI i + 7 = nI (i + 7) from nI_add i 7]
      obtain ⟨h', k1, k2, k3⟩ := ih (i + 7) (c + 1) E' V' A' (by omega) (by omega) (by omega) q1 (by rw [q2]; exact e1) (by rw [q2]; exact e2) q5 q6 q7
      exact ⟨h', k1, by omega, by omega⟩
end PLoop
