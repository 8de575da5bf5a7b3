/-! PURE: a PART, read by both. -/
section PPart
variable {o : Nat} {tp : List Nat} {N d : Nat} {RE RP : RdF}
theorem Cls.dead {W : VT} {f a : Nat} {sl : List Int32} (h : ∃ s2, LwS W o s2) (hD : RD W f) : Cls o tp W f a a sl [] := ⟨h, fun _ => hD, fun z => by have := hD.2.1; omega⟩
theorem x_b65 (ho : o = 12 ∨ o = 21) (ht : GoodT tp) (hN : 1000 < N) (hd : d ≤ 5) (hE : d < 5 → ExprR o tp N (d + 1) RE) (hP : d < 5 → PartR o tp N (d + 1) RP) {V : VT} {a : Nat} {sl : List Int32} (hC : RC V tp a 0) (ha : a ≤ tp.length) (hL : LwS V o sl) (hs : sl.length ≤ a) (hpt : ptB tp a) : tot (gX4_readPart_b65 RE RP N o (nI d) (nI (if 18 ≤ kN tp a ∧ kN tp a ≤ 21 then 1 else 0)) V) (fun W => pwf o V W ∧ ∃ f a' ps cs, Cls o tp W f a a' sl ps ∧ MdP tp N d a f a' cs ∧ (f = 0 → True ∧ ∃ v, PV (4 * d + 4) ps v ∧ CP d cs v)) := by
  have hl := ht.1
  have h0 := pt_ne hpt
  have he := en_lt h0
  have hp := pl_le ha
  have hel := (en_le ha).2
  unfold gX4_readPart_b65
  by_cases h5 : d < 5
  · rw [if_pos (show nI d < 5 from nI_lt (b := 5) h5 (by omega)), show (40 : Int32) = nI 40 from rfl, c_isT hC ht (by omega), Option.bind_some]
    dsimp only
    by_cases e40 : tyN tp a = 40
    · rw [if_pos e40, if_neg (by decide), show nI d + 1 = nI (d + 1) from nI_1 d]
      refine tot_bd (c_adv ht hN ha hC) (fun V2 h2 => ?_)
      refine tot_bd (hE h5 V2 (enN tp a) sl h2.1 hel (hL.rw (by omega) h2.2.e) (by omega)) (fun V3 h3 => ?_)
      obtain ⟨p3, f, a1, ps1, cs1, ⟨⟨s3, c1⟩, c2, c3⟩, m3, v3⟩ := h3
      have q3 := (h2.2.e.p o).trans p3
      have opn : ∀ (Vm : VT) (cs0 : List Nat) (wm : Nat) (Q : Int32 × VT → Prop), MB Vm tp a cs0 → tp.length - a < wm → (f ≠ 0 → Bad Vm f Q) → (f = 0 → ∀ w2 W, tp.length - a1 < w2 → MB W tp a1 (cs0 ++ [28] ++ cs1) → sam Vm W d → (tyN tp a1 = 60 ∨ tyN tp a1 = 61 → W.A 149 (d + 1) ≠ nI 0) → mwp Vm W → tot (gX10_reads_b11 N w2 (nI (d + 1)) (nI 0) W) Q) → tot (gX10_reads_b11 N wm (nI d) (nI 1) Vm) Q := by
        intro Vm cs0 wm Q hB hwm hbad hgo
        refine a_open (c := 28) (o := 2) ht hN hB hwm h5 (Or.inr ⟨e40, rfl, rfl⟩) (fun w2 W2 b1 b2 b3 b4 b5 b6 => ?_)
        refine m3 W2 _ w2 Q b2 b1 ?_ b5 (fun z => (hbad z).tr b6) (fun z w3 W3 d1 d2 d3 d4 => ?_)
        · rw [popV, if_neg (by rw [b4]; decide)]
        · exact hgo z w3 W3 d1 d2 ⟨fun i hi => by rw [d3.1 i (by omega), b3.1 i hi], fun i hi => by rw [d3.2.1 i (by omega), b3.2 i hi]⟩ d3.2.2 (b6.trans d4)
      by_cases hf : f = 0
      · subst hf
        obtain ⟨g1, g2, g3, g4, g5⟩ := c3 rfl
        obtain ⟨hn, v, hv1, hv2⟩ := v3 rfl
        have hp1 := pl_le g4
        have hs1 : ∀ W : VT, (tyN tp a1 = 60 ∨ tyN tp a1 = 61 → W.A 149 (d + 1) ≠ nI 0) → stopB W tp a1 (d + 1) := fun W q => ⟨hn.1.1, hn.1.2.1, hn.1.2.2, hn.2.1, hn.2.2, q⟩
        rw [show (41 : Int32) = nI 41 from rfl]
        refine tot_bd (c_tSign g1 ht g4 hN (by omega)) (fun V4 h4 => ?_)
        have q4 := q3.trans (h4.2.p o)
        have L4 := g2.rw (by omega) h4.2
        by_cases e41 : tyN tp a1 = 41
        · have he1 := en_lt (tp := tp) (a := a1) (by omega)
          have h41 := h4.1
          rw [if_pos e41] at h41
          refine tot_some ⟨q4, 0, enN tp a1, ps1, [28] ++ cs1 ++ [29], ⟨⟨_, L4⟩, fun z => absurd rfl z, fun _ => ⟨h41, L4, by omega, (en_le g4).2, by omega⟩⟩, ?_, fun _ => ⟨trivial, v, hv1.mono (by omega), CP_par (by omega) hv2⟩⟩
          intro Vm cs0 wm Q hB hwm hbad hgo
          refine opn Vm cs0 wm Q hB hwm (fun z => absurd rfl z) (fun _ w2 W b1 b2 b3 b4 b5 => ?_)
          refine a_close ht hN b2 b1 (by omega) (hs1 W b4) e41 (fun w3 W3 d1 d2 d3 d4 => ?_)
          rw [Nat.add_sub_cancel, popV_cg (V := Vm) (fun i hi => b3.1 i hi)]
          refine hgo rfl w3 W3 d1 ?_ ⟨fun i hi => by rw [d3.1 i (by omega), b3.1 i hi], fun i hi => by rw [d3.2 i (by omega), b3.2 i hi]⟩ (b5.trans d4)
          rw [← List.append_assoc, ← List.append_assoc]
          exact d2
        · have h41 := h4.1
          rw [if_neg e41] at h41
          refine tot_some ⟨q4, 1 + 16 * plN tp a1, a, [], [], Cls.dead ⟨_, L4⟩ h41, ?_, fun z => by omega⟩
          intro Vm cs0 wm Q hB hwm hbad hgo
          refine opn Vm cs0 wm Q hB hwm (fun z => absurd rfl z) (fun _ w2 W b1 b2 b3 b4 b5 => ?_)
          exact a_bad0 ht b2.1 g4 (by omega) (by omega) (hs1 W b4) ⟨fun _ => e41, fun q => by omega⟩ ((hbad (by omega)).tr b5)
      · have hD := c2 hf
        rw [d_tSign hD, Option.bind_some]
        exact tot_some ⟨q3, f, a, [], [], Cls.dead ⟨s3, c1⟩ hD, fun Vm cs0 wm Q hB hwm hbad hgo => opn Vm cs0 wm Q hB hwm hbad (fun z => absurd z hf), fun z => absurd z hf⟩
    rw [if_neg e40, if_pos (by rfl), show (15 : Int32) = nI 15 from rfl, c_isK hC ht (by omega), Option.bind_some]
    dsimp only
    by_cases e15 : kN tp a = 15
    · rw [if_pos e15, if_neg (by decide), show nI d + 1 = nI (d + 1) from nI_1 d]
      refine tot_bd (c_adv ht hN ha hC) (fun V2 h2 => ?_)
      refine tot_bd (hP h5 V2 (enN tp a) sl h2.1 hel (hL.rw (by omega) h2.2.e) (by omega)) (fun V3 h3 => ?_)
      obtain ⟨p3, f, a1, ps1, cs1, ⟨⟨s3, c1⟩, c2, c3⟩, m3, v3⟩ := h3
      have q3 := (h2.2.e.p o).trans p3
      have mm : MdP tp N d a f a1 ([30] ++ cs1) := by
        intro Vm cs0 wm Q hB hwm hbad hgo
        refine a_open (c := 30) (o := 1) ht hN hB hwm h5 (Or.inl ⟨e15, rfl, rfl⟩) (fun w2 W2 b1 b2 b3 b4 b5 b6 => ?_)
        refine m3 W2 _ w2 Q b2 b1 (fun z => (hbad z).tr b6) (fun z w3 W3 d1 d2 d3 d4 => ?_)
        rw [popV, if_pos b4, popV_cg (V := Vm) (fun i hi => b3.1 i hi)]
        refine hgo z w3 W3 d1 ?_ ⟨fun i hi => by rw [d3.1 i (by omega), b3.1 i hi], fun i hi => by rw [d3.2 i (by omega), b3.2 i hi]⟩ (b6.trans d4)
        rw [← List.append_assoc]
        exact d2
      by_cases hf : f = 0
      · subst hf
        obtain ⟨g1, g2, g3, g4, g5⟩ := c3 rfl
        obtain ⟨-, v, hv1, hv2⟩ := v3 rfl
        have hlen : (sl ++ ps1).length < 1000 := by simp; omega
        refine tot_bd (c_add ho g2 (10015 : Int32)) (fun V4 h4 => ?_)
        obtain ⟨k1, k2, k3, k4, k5, k6⟩ := h4
        have k2 := k2 hlen
        exact tot_some ⟨q3.trans k6, 0, a1, ps1 ++ [10015], [30] ++ cs1, ⟨k1, fun z => absurd rfl z, fun _ => ⟨g1.cg k3 k4 (by rw [k5]), by rw [← List.append_assoc]; exact k2, by omega, g4, by simp; omega⟩⟩, mm, fun _ => ⟨trivial, notV v, PV_not (by omega) (hv1.mono (by omega)), CP_not (by omega) hv2⟩⟩
      · have hD := c2 hf
        refine tot_bd (c_add ho c1 (10015 : Int32)) (fun V4 h4 => ?_)
        obtain ⟨k1, k2, k3, k4, k5, k6⟩ := h4
        exact tot_some ⟨q3.trans k6, f, a1, [], _, ⟨k1, fun _ => hD.ad k4, fun z => absurd z hf⟩, mm, fun z => absurd z hf⟩
    rw [if_neg e15, if_pos (by rfl)]
    have hlen : sl.length < 1000 := by omega
    have atom : ∀ (x : Int32) (c : Nat) (v : Vf), ((18 ≤ kN tp a ∧ kN tp a ≤ 21) ∧ c = kN tp a - 17 ∨ tyN tp a = 3 ∧ c = 100 + nuN tp a) → PV (4 * d + 4) [x] v → CP d [c] v → tot (gX4_readPart_b183 RE RP N x o V) (fun W => pwf o V W ∧ ∃ f a' ps cs, Cls o tp W f a a' sl ps ∧ MdP tp N d a f a' cs ∧ (f = 0 → True ∧ ∃ v, PV (4 * d + 4) ps v ∧ CP d cs v)) := by
      intro x c v hc hv1 hv2
      unfold gX4_readPart_b183
      refine tot_bd (c_add ho hL x) (fun V4 h4 => ?_)
      obtain ⟨k1, k2, k3, k4, k5, k6⟩ := h4
      have k2 := k2 hlen
      refine tot_bd (c_adv ht hN ha (hC.cg k3 k4 (by rw [k5]))) (fun V5 h5' => ?_)
      have L5 := k2.rw (by omega) h5'.2.e
      refine tot_some ⟨k6.trans (h5'.2.e.p o), 0, enN tp a, [x], [c], ⟨⟨_, L5⟩, fun z => absurd rfl z, fun _ => ⟨h5'.1, L5, by omega, hel, by simp; omega⟩⟩, ?_, fun _ => ⟨trivial, v, hv1, hv2⟩⟩
      intro Vm cs0 wm Q hB hwm hbad hgo
      exact a_atom ht hN hB hwm h5 hc (fun w2 W b1 b2 b3 b4 => hgo rfl w2 W b1 b2 b3 b4)
    by_cases ef : 18 ≤ kN tp a ∧ kN tp a ≤ 21
    · have t2 : tyN tp a = 2 := kN_2 (k := kN tp a) (by omega) rfl
      have e7 : kyW (woN tp a) = kN tp a := by
        unfold kN
        rw [if_pos t2]
      rw [if_pos ef, if_neg (by decide), (hC.2.2.2.2.2.1 t2).2, e7]
      exact atom _ _ _ (Or.inl ⟨ef, rfl⟩) (PV_fact (by omega) ef) (CP_fact ef d)
    · have e3 : tyN tp a = 3 := by
        rcases hpt with q | q | q | q
        · exact absurd q ef
        · exact q
        · exact absurd q e15
        · exact absurd q e40
      rw [if_neg ef, if_pos (by rfl), hC.2.2.2.2.1 e3]
      exact atom _ _ _ (Or.inr ⟨e3, rfl⟩) (PV_num (by omega) (nu_lt e3 ha ht)) (CP_num d)
  · have hd5 : d = 5 := by omega
    subst hd5
    rw [if_neg (by decide), show (5 : Int32) = nI 5 from rfl]
    refine tot_bd (c_fail (k := 5) hC (by omega) ha ht) (fun W hW => ?_)
    refine tot_some ⟨hW.2.p o, 5 + 16 * plN tp a, a, [], [], Cls.dead ⟨_, hL.rw (by omega) hW.2⟩ hW.1, ?_, fun z => by omega⟩
    intro Vm cs0 wm Q hB hwm hbad hgo
    exact a_deep ht hB.1 ha (by omega) hpt (hbad (by omega))
theorem x_part (ho : o = 12 ∨ o = 21) (ht : GoodT tp) (hN : 1000 < N) (hd : d ≤ 5) (hE : d < 5 → ExprR o tp N (d + 1) RE) (hP : d < 5 → PartR o tp N (d + 1) RP) : PartR o tp N d (fun v1 v2 V => gX4_readPart_g RE RP N v1 v2 V) := by
  intro V a sl hC ha hL hs
  have hk := kN_le tp a
  show tot (gX4_readPart_g RE RP N o (nI d) V) _
  unfold gX4_readPart_g
  rw [c_kH hC ht, Option.bind_some]
  dsimp only
  rw [show (18 : Int32) = nI 18 from rfl, show (21 : Int32) = nI 21 from rfl, c_wi, wiB_n (by omega) (by omega) (by omega), Option.bind_some]
  dsimp only
  have ed : (if decide (18 ≤ kN tp a ∧ kN tp a ≤ 21) = true then 1 else 0) = (if 18 ≤ kN tp a ∧ kN tp a ≤ 21 then 1 else 0) := by
    by_cases q : 18 ≤ kN tp a ∧ kN tp a ≤ 21
    · rw [decide_eq_true q, if_pos q]
      rfl
    · rw [decide_eq_false q, if_neg q]
      rfl
  rw [ed]
  have b65 := fun (hpt : ptB tp a) => x_b65 (RE := RE) (RP := RP) ho ht hN hd hE hP hC ha hL hs hpt
  by_cases ef : 18 ≤ kN tp a ∧ kN tp a ≤ 21
  · have b := b65 (Or.inl ef)
    rw [if_pos ef] at b ⊢
    rw [if_neg (by decide)]
    exact b
  rw [if_neg ef] at b65 ⊢
  rw [if_pos (by rfl), show (3 : Int32) = nI 3 from rfl, c_isT hC ht (by omega), Option.bind_some]
  dsimp only
  by_cases e3 : tyN tp a = 3
  · rw [if_pos e3, if_neg (by decide)]
    exact b65 (Or.inr (Or.inl e3))
  rw [if_neg e3, if_pos (by rfl), show (15 : Int32) = nI 15 from rfl, c_isK hC ht (by omega), Option.bind_some]
  dsimp only
  by_cases e15 : kN tp a = 15
  · rw [if_pos e15, if_neg (by decide)]
    exact b65 (Or.inr (Or.inr (Or.inl e15)))
  rw [if_neg e15, if_pos (by rfl), show (40 : Int32) = nI 40 from rfl, c_isT hC ht (by omega), Option.bind_some]
  dsimp only
  by_cases e40 : tyN tp a = 40
  · rw [if_pos e40, if_neg (by decide)]
    exact b65 (Or.inr (Or.inr (Or.inr e40)))
  · rw [if_neg e40, if_pos (by rfl), show (1 : Int32) = nI 1 from rfl]
    refine tot_bd (c_fail (k := 1) hC (by omega) ha ht) (fun W hW => ?_)
    refine tot_some ⟨hW.2.p o, 1 + 16 * plN tp a, a, [], [], Cls.dead ⟨_, hL.rw (by omega) hW.2⟩ hW.1, ?_, fun z => by omega⟩
    intro Vm cs0 wm Q hB hwm hbad hgo
    refine a_bad1 ht hB.1 ha (by omega) ?_ (hbad (by omega))
    unfold ptB
    omega
theorem x_all (ho : o = 12 ∨ o = 21) (ht : GoodT tp) (hN : 1000 < N) : ∀ k d, d ≤ 5 → d + k = 7 → PartR o tp N d (gX4_part N k) := by
  intro k
  induction k with
  | zero => intro d h1 h2; omega
  | succ k ih =>
    intro d h1 h2
    exact x_part ho ht hN h1 (fun h5 => x_e ho ht hN (by omega) (ih (d + 1) (by omega) (by omega))) (fun h5 => ih (d + 1) (by omega) (by omega))
/-- E of takes -/
theorem x_E (ho : o = 12 ∨ o = 21) (ht : GoodT tp) (hN : 1000 < N) : ExprR o tp N 0 (gX4_readE N) := x_e ho ht hN (by omega) (x_all ho ht hN 7 0 (by omega) (by omega))
end PPart
