/-! PURE: the law, for every script. -/
def C7 (V : VT) : Prop := (V.F 6 6 = nI 0 ∧ V.F 6 7 = nI 3 ∧ V.F 6 8 = nI 50 ∧ V.F 6 9 = nI 4 ∧ V.F 6 10 = nI 0) ∧ (V.F 12 2 = nI 1 ∧ V.A 13 0 = 10021) ∧ (V.F 24 2 = nI 50 ∧ V.F 24 3 = nI 0) ∧ (V.F 30 1 = nI 0 ∧ V.F 30 2 = nI 0) ∧ V.F 80 2 = nI 0 ∧ V.F 86 3 = nI 0 ∧ (∀ k, k < 4 → V.F (93 + 11 * k) 3 = nI 0) ∧ V.F 3 1 = nI 0
def M7 (V : VT) : Prop := (V.A 139 0 = nI 0 ∧ V.A 139 1 = nI 3 ∧ V.A 139 2 = nI 4 ∧ V.A 139 3 = nI 50) ∧ V.A 145 0 = nI 0 ∧ V.A 146 0 = nI 0 ∧ (V.A 167 0 = nI 0 ∧ V.A 167 1 = nI 50 ∧ ∀ m, m < 7 → V.A 167 (2 + m) = nI 0 ∧ V.A 167 (9 + m) = nI 0) ∧ V.F 137 47 = nI 0 ∧ V.A 160 0 = nI 0 ∧ V.A 163 0 = nI 0 ∧ (∀ k, k < 4 → V.A 172 k = nI 0) ∧ V.F 137 1 = nI 0
theorem c7 : C7 V7 := by
  unfold C7
  decide +kernel
theorem m7 : M7 V7 := by
  unfold M7
  decide +kernel
def A00 : AB := (finP D0, freshS (finP D0), [], [], [], fun _ => none, [])
theorem A00_good : GoodA 0 A00 := by
  have gf := fin_good D0_good
  have gs := GoodS.fresh (c := 0) gf.1
  exact ⟨gf.1, gs, ⟨by simp [A00, AB.H], fun i hi => by simp [A00, AB.H] at hi⟩, ⟨by simp [A00, AB.ls], fun i hi => by simp [A00, AB.ls] at hi⟩, ⟨by simp [A00, AB.es], fun i hi => by simp [A00, AB.es] at hi⟩, (fun k T hk hT => absurd (show none = some T from hT) (by simp)), ⟨by simp [A00, AB.tp], fun i hi => by simp [A00, AB.tp] at hi⟩, gf.2⟩
theorem A00_C {E : VE} {V : VT} (hE : E.1 = 6) (c7 : C7 V) : CR E V A00 := by
  obtain ⟨⟨a1, a2, a3, a4, a5⟩, ⟨b1, b2⟩, ⟨d1, d2⟩, ⟨e1, e2⟩, f1, g1, i1, j1⟩ := c7
  have hD : DrC V 6 D0 := by
    refine ⟨⟨a1, a2, a3, a4, a5⟩, fun m hm => absurd hm (Nat.not_lt_zero _), [10021], ⟨by simp, b1, fun i hi => ?_⟩, PV_fact (k := 21) (by omega) (by omega)⟩
    have : i = 0 := by
      simp at hi
      exact hi
    subst this
    exact b2
  refine ⟨Or.inl hE, by rw [hE]; exact hD.fin D0_good, ⟨fun m hm => absurd hm (Nat.not_lt_zero _), d1, d2⟩, ⟨0, by omega, e1, e2, fun j hj => absurd hj (Nat.not_lt_zero _)⟩, ⟨f1, fun i hi => absurd hi (Nat.not_lt_zero _)⟩, ⟨g1, fun i hi => absurd hi (Nat.not_lt_zero _)⟩, fun k hk => ⟨fun _ => i1 k hk, fun T hT => absurd (show none = some T from hT) (by simp)⟩, ⟨j1, fun i hi => absurd hi (Nat.not_lt_zero _)⟩⟩
theorem A00_M {V : VT} (m7 : M7 V) : MR V A00 := by
  obtain ⟨⟨a1, a2, a3, a4⟩, b1, b2, ⟨d1, d2, d3⟩, e1, f1, g1, i1, j1⟩ := m7
  refine ⟨⟨(fin_good D0_good).1, ⟨a1, a2, a3, a4⟩, fun m hm => absurd hm (Nat.not_lt_zero _), b1, [], by simp, b2, fun i hi => absurd hi (Nat.not_lt_zero _), fun _ l c a => ?_, fun hz => absurd hz (Nat.not_lt_zero _)⟩, ⟨d1, d2, fun m hm => ?_⟩, ⟨e1, fun j hj => absurd hj (Nat.not_lt_zero _)⟩, ⟨f1, fun i hi => absurd hi (Nat.not_lt_zero _)⟩, ⟨g1, fun i hi => absurd hi (Nat.not_lt_zero _)⟩, fun k hk => ⟨fun _ => i1 k hk, fun T hT => absurd (show none = some T from hT) (by simp)⟩, ⟨j1, fun i hi => absurd hi (Nat.not_lt_zero _)⟩⟩
  · show clN (nI 3) = 3
    decide
  · have hn : ¬ m < A00.p.n := Nat.not_lt_zero _
    rw [if_neg hn, if_neg hn]
    exact d3 m hm
theorem pure_law (L : Nat) (xs : Nat → Int32) (hL : L ≤ 3584) : ∃ (n : Nat) (h' : qH), fL_law n 0 (h_init L xs) = some (1, h') ∧ h'.2.1 ≤ 601026 ∧ h'.2.2 ≤ 7293034 := by
  obtain ⟨k3, k6, -⟩ := H_all (L := L) (xs := xs)
  obtain ⟨h', l1, l2, l3⟩ := law_loop (N := 5000) (xs := xs) hL (by omega) 5000 0 0 (E7 L xs) V7 A00 rfl (Nat.zero_le _) (by omega) (Or.inl rfl) rfl rfl A00_good (A00_C rfl c7) (A00_M m7)
  refine ⟨5000, h', ?_, ?_, ?_⟩
  · have e1 : nwE (.inr (9, [.null, .null, .null, .null, .null, .null, .null, .null, .null, .null, .null, .null, .null])) 13 (h_init L xs) = ph L xs H1 := by
      rw [init_ph]
      exact (Option.some.inj (Mh_nw (L := L) (xs := xs) ok00 okc_r H1 rfl).1)
    have kk : okh H3 ∧ okh H6 := by
      have k1 : okh H1 := (Mh_nw (L := L) (xs := xs) ok00 okc_r _ rfl).2
      have q3 := (Mo_X9_init (L := L) (xs := xs) k1 H3 (of_is h00 H3_is)).2
      have k4 : okh H4 := (Mh_nw (L := L) (xs := xs) q3 okc_r _ rfl).2
      exact ⟨q3, (Mo_X10_init (L := L) (xs := xs) k4 H6 (of_is h00 H6_is)).2⟩
    have e4 : nwE (.inr (10, dfX10)) 53 (ph L xs H3) = ph L xs H4 := Option.some.inj (Mh_nw (L := L) (xs := xs) kk.1 okc_r H4 rfl).1
    have e7 : nwE (.inl (.long, 1, .inr (.inl (fun _ => 0)))) 1 (ph L xs H6) = ph L xs H7 := Option.some.inj (Mh_nw (L := L) (xs := xs) kk.2 okc_l H7 rfl).1
    have p2 : ∀ h : qH, (ph L xs h).2.1 = h.2.1 := fun _ => rfl
    have n3 : (ph L xs H3).2.1 = 137 := (p2 H3).trans H3_n
    have n6 : (ph L xs H6).2.1 = 177 := (p2 H6).trans H6_n
    have n0 : (h_init L xs).2.1 = 2 := rfl
    unfold fL_law
    rw [Option.bind_some, e1, n0, k3, Option.bind_some, Option.bind_some, e4, n3, k6, Option.bind_some, Option.bind_some, e7, n6, H7_hp]
    exact l1
  · have q : (E7 L xs).2.1 = 178 := rfl
    omega
  · have q : (E7 L xs).2.2.1 ≤ 100000 := H7_n.2
    omega
