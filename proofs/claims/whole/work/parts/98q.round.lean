/-! PURE: round, the call. -/
def lfr (V W : VT) : Prop := ∀ a, a ≠ 3 → ¬ (83 ≤ a ∧ a ≤ 85) → eqs V W a
theorem lfr.rf {V : VT} : lfr V V := fun _ _ _ => ⟨rfl, rfl, rfl⟩
theorem lfr.trans {V W X : VT} (h : lfr V W) (k : lfr W X) : lfr V X := fun a h1 h2 => (h a h1 h2).trans (k a h1 h2)
theorem rwe.l {V W : VT} (h : rwe V W) : lfr V W := fun a h1 _ => ⟨by rw [h.1], by rw [h.2.1], h.2.2 a h1⟩
def lmf (V W : VT) : Prop := (∀ a, a ≠ 137 → ¬ (160 ≤ a ∧ a ≤ 162) → eqs V W a) ∧ (∀ k, ¬ (4 ≤ k ∧ k ≤ 9 ∨ k = 33) → W.F 137 k = V.F 137 k) ∧ (∀ j, j ≠ 5 → W.A 160 j = V.A 160 j) ∧ ∀ j, j < 200 → W.A 161 j = V.A 161 j ∧ W.A 162 j = V.A 162 j
theorem lmf.rf {V : VT} : lmf V V := ⟨fun _ _ _ => ⟨rfl, rfl, rfl⟩, fun _ _ => rfl, fun _ _ => rfl, fun _ _ => ⟨rfl, rfl⟩⟩
theorem lmf.trans {V W X : VT} (h : lmf V W) (k : lmf W X) : lmf V X := ⟨fun a h1 h2 => (h.1 a h1 h2).trans (k.1 a h1 h2), fun j hj => (k.2.1 j hj).trans (h.2.1 j hj), fun j hj => (k.2.2.1 j hj).trans (h.2.2.1 j hj), fun j hj => ⟨(k.2.2.2 j hj).1.trans (h.2.2.2 j hj).1, (k.2.2.2 j hj).2.trans (h.2.2.2 j hj).2⟩⟩
theorem mwn.l {V W : VT} (h : mwn V W) : lmf V W := ⟨fun a h1 _ => ⟨by rw [h.1], by rw [h.2.1], funext (fun k => h.2.2 a k (by omega))⟩, fun k hk => h.2.2 137 k (by omega), fun j _ => by rw [h.1], fun j _ => by rw [h.1]; exact ⟨rfl, rfl⟩⟩
theorem lmf_A {V : VT} {a k : Nat} (x : Int32) (h : a = 160 ∧ k = 5 ∨ (a = 161 ∨ a = 162) ∧ 200 ≤ k) : lmf V (wA V a k x) := ⟨fun b h1 h2 => ⟨wA_n V k x (by omega), rfl, rfl⟩, fun _ _ => rfl, fun j hj => by rw [wA_A, if_neg (by omega)], fun j hj => ⟨by rw [wA_A, if_neg (by omega)], by rw [wA_A, if_neg (by omega)]⟩⟩
theorem lfr_A {V : VT} {a : Nat} (k : Nat) (x : Int32) (h : 83 ≤ a ∧ a ≤ 85) : lfr V (wA V a k x) := fun b _ h2 => ⟨wA_n V k x (fun e => h2 (by omega)), rfl, rfl⟩
theorem lfr_F {V : VT} {a : Nat} (k : Nat) (x : Int32) (h : 83 ≤ a ∧ a ≤ 85) : lfr V (wF V a k x) := fun b _ h2 => ⟨rfl, rfl, funext (fun j => by rw [wF_F, if_neg (fun e => h2 (by omega))])⟩
section PRound
variable {E : VE} {V W : VT} {tp : List Nat} {T a N c : Nat} {p : PP} {ls : LN} {A : AB}
theorem LinC.rw {o : Nat} (ho : o ≠ 3) (h : LinC V o ls) (f : rwe V W) : LinC W o ls := h.at (by rw [f.2.2 o ho]) (by rw [f.1]) (by rw [f.1])
theorem LinM.mw {r : Nat} (h : LinM V r ls) (f : mwn V W) : LinM W r ls := h.at (by rw [f.1]) (by rw [f.1]) (by rw [f.1])
theorem NmC.lf {q : PP} (h : NmC V T q) (hT : T = 6 ∨ T = 15) (f : lfr V W) : NmC W T q := ⟨h.1, by rw [(f T (by omega) (by omega)).2.2]; exact h.2.1, fun m hm => by rw [(f (T + 1) (by omega) (by omega)).2.1]; exact h.2.2 m hm⟩
theorem NmM.lm {q : PP} (h : NmM V 0 q) (f : lmf V W) : NmM W 0 q := ⟨h.1, by rw [(f.1 139 (by omega) (by omega)).1]; exact h.2.1, fun m hm => by rw [(f.1 140 (by omega) (by omega)).2.1]; exact h.2.2 m hm⟩
theorem GoodL.app {v m : Nat} (h : GoodL p ls) (hl : ls.length < 40) (hv : v ≤ 2) (hm : v = 2 ∨ m < p.n) : GoodL p (ls ++ [(v, m)]) := by
  refine ⟨by simp; omega, fun i hi => ?_⟩
  rw [gd_app]
  split
  · exact ⟨hv, hm⟩
  · simp at hi
    exact h.2 i (by omega)
theorem c_addL {v m : Nat} {y : Int32} (h : LinC V 83 ls) (hl : ls.length < 40) (hy : v = 2 ∨ y = nI m) : tot (gX2_add 83 (nI (8 + v)) y V) (fun W => LinC W 83 (ls ++ [(v, m)]) ∧ W.A 4 = V.A 4 ∧ W.F 3 = V.F 3 ∧ W.G = V.G ∧ lfr V W) := by
  unfold gX2_add
  rw [h.1, if_neg (show ¬ (40 : Int32) ≤ nI ls.length from nI_ge (b := 40) hl (by omega)), wrA_n (by omega) (by omega), Option.bind_some, wA_F, h.1, wrA_n (by omega) (by omega), Option.bind_some, wA_F, wA_F, h.1, show nI ls.length + 1 = nI (ls.length + 1) from nI_1 _, Option.bind_some]
  refine tot_some ⟨⟨?_, fun i hi => ?_⟩, ?_, ?_, rfl, ((lfr_A _ _ (by omega)).trans (lfr_A _ _ (by omega))).trans (lfr_F _ _ (by omega))⟩
  · rw [wF_F, if_pos ⟨rfl, rfl⟩]
    simp
  · rw [gd_app]
    simp at hi
    by_cases e : i = ls.length
    · rw [if_pos e, e]
      refine ⟨?_, ?_⟩
      · rw [wF_A, wA_A, if_neg (by omega), wA_A, if_pos ⟨rfl, rfl⟩]
      · rcases hy with q | q
        · exact Or.inl q
        · refine Or.inr ?_
          rw [wF_A, wA_A, if_pos ⟨rfl, rfl⟩, q]
    · rw [if_neg e]
      have := h.2 i (by omega)
      rw [wF_A, wA_A, if_neg (by omega), wA_A, if_neg (by omega), wA_A, if_neg (by omega), wA_A, if_neg (by omega)]
      exact this
  · rw [wF_A, wA_n _ _ _ (by omega), wA_n _ _ _ (by omega)]
  · funext k
    rw [wF_F, if_neg (by omega)]
    rfl
/-- a line: both go the same way -/
def Rln (tp : List Nat) (T a : Nat) (p : PP) (ls : LN) (s : PS) (ls' : LN) (fc : VT → Option VT) (fm : VT → Option (Int32 × VT)) : Prop := (s.1 ≤ tp.length ∧ s.2 < 2 ^ 20 ∧ (s.2 = 0 → GoodL p ls' ∧ a < s.1)) ∧ (∀ V, RC V tp a 0 → LinC V 83 ls → NmC V T p → tot (fc V) (fun W => AL W tp s ∧ (s.2 = 0 → LinC W 83 ls') ∧ lfr V W)) ∧ ∀ V, MC V tp a → LinM V 5 ls → NmM V 0 p → tot (fm V) (fun r => (s.2 ≠ 0 → r.1 = nI 0 ∧ r.2.F 137 9 = nI s.2) ∧ (s.2 = 0 → r.1 = nI 1 ∧ MC r.2 tp s.1 ∧ LinM r.2 5 ls') ∧ lmf V r.2)
theorem m_pick (h : MC V tp a) (ha : a ≤ tp.length) : gX10_readsLine N V = gX10_readsLine_b43 N (if kN tp a = 8 then nI 0 else if kN tp a = 9 then nI 1 else if kN tp a = 10 then nI 2 else -1) V := by
  unfold gX10_readsLine
  rw [m_isW (k := 8) h ha (by omega) (show (281490259 : Int64) = lN (c27L.getD 8 0) from rfl), Option.bind_some]
  dsimp only
  by_cases k8 : kN tp a = 8
  · rw [if_pos k8, if_neg (by decide), if_pos k8]
    rfl
  rw [if_neg k8, if_pos (by rfl), if_neg k8, m_isW (k := 9) h ha (by omega) (show (3692 : Int64) = lN (c27L.getD 9 0) from rfl), Option.bind_some]
  dsimp only
  by_cases k9 : kN tp a = 9
  · rw [if_pos k9, if_neg (by decide), if_pos k9]
    rfl
  rw [if_neg k9, if_pos (by rfl), if_neg k9, m_isW (k := 10) h ha (by omega) (show (495765 : Int64) = lN (c27L.getD 10 0) from rfl), Option.bind_some]
  dsimp only
  by_cases k10 : kN tp a = 10
  · rw [if_pos k10, if_neg (by decide), if_pos k10]
    rfl
  · rw [if_neg k10, if_pos (by rfl), if_neg k10]
theorem r_line (ht : GoodT tp) (hN : 1000 < N) (hT : T = 6 ∨ T = 15) (ha : a ≤ tp.length) (gp : GoodP p) (gn : GoodN p) (gl : GoodL p ls) (h0 : tyN tp a ≠ 0) : ∃ s ls', Rln tp T a p ls s ls' (fun V => (gX4_readRoundLine N 83 T V).bind fun V1 => gX6_takeSign N (nI 59) V1) (fun V => gX10_readsLine N V) := by
  have hn := gp.1
  have hk := kN_le tp a
  have hll := gl.1
  by_cases hv : 8 ≤ kN tp a ∧ kN tp a ≤ 10
  · obtain ⟨v, ev, hv2⟩ : ∃ v, kN tp a = 8 + v ∧ v ≤ 2 := ⟨kN tp a - 8, by omega, by omega⟩
    have pk : (if kN tp a = 8 then nI 0 else if kN tp a = 9 then nI 1 else if kN tp a = 10 then nI 2 else -1) = nI v := by
      have : v = 0 ∨ v = 1 ∨ v = 2 := by omega
      rcases this with q | q | q <;> subst q <;> rw [ev] <;> rfl
    have cw : ∀ V, gX9_within (nI (8 + v)) 8 10 V = some (nI 1, V) := fun V => by
      rw [show (8 : Int32) = nI 8 from rfl, show (10 : Int32) = nI 10 from rfl, c_wi, wiB_n (by omega) (by omega) (by omega), decide_eq_true (show 8 ≤ 8 + v ∧ 8 + v ≤ 10 by omega)]
      rfl
    by_cases h40 : ls.length < 40
    · have o0 : okS tp (enN tp a, 0) := ok_e ha
      have l0 := en_lt2 ha h0
      by_cases e2 : v = 2
      · generalize hs : sG tp 59 (enN tp a, 0) = s
        have os : okS tp s := by rw [← hs]; exact ok_G ht o0 _
        have is : s.2 = 0 → s = (enN tp (enN tp a), 0) := fun z => by rw [← hs] at z ⊢; exact (sG_0 z).2.2
        refine ⟨s, ls ++ [(2, 0)], ⟨os.1, os.2, fun z => ⟨gl.app h40 (by omega) (Or.inl rfl), ?_⟩⟩, fun V hC hL hNm => ?_, fun V hC hL hNm => ?_⟩
        · rw [is z]
          have q9 : enN tp a ≤ enN tp (enN tp a) := Nat.le_trans (pl_le (a := enN tp a) o0.1).1 (en_le (a := enN tp a) o0.1).1
          show a < enN tp (enN tp a)
          omega
        · dsimp only
          unfold gX4_readRoundLine
          rw [c_kH hC ht, Option.bind_some]
          dsimp only
          rw [ev, cw, Option.bind_some]
          dsimp only
          rw [if_neg (by decide), hL.1, if_pos (show nI ls.length < 40 from nI_lt (b := 40) h40 (by omega)), Option.bind_assoc]
          refine tot_bd (c_adv ht hN ha hC) (fun V3 h3 => ?_)
          rw [if_pos (by rw [e2]; rfl), Option.bind_assoc]
          refine tot_bd (c_addL (v := v) (m := 0) (hL.rw (by omega) h3.2.e) h40 (Or.inl e2)) (fun V7 h7 => ?_)
          rw [Option.bind_some]
          refine tot_mo (k_G ht hN (AL.rc (h3.1.cg h7.2.1 h7.2.2.1 (by rw [h7.2.2.2.1])) o0.1) (by omega)) (fun X hX => ?_)
          rw [hs] at hX
          rw [e2] at h7
          exact ⟨hX.1, fun _ => h7.1.rw (by omega) hX.2, (h3.2.e.l.trans h7.2.2.2.2).trans hX.2.l⟩
        · dsimp only
          rw [m_pick hC ha, pk]
          unfold gX10_readsLine_b43
          rw [if_pos (show (0 : Int32) ≤ nI v from nI_pos' (by omega)), hL.1, if_neg (show ¬ nI ls.length = 40 from nI_ne (b := 40) (by omega) (by omega) (by omega))]
          refine tot_bd (m_next ht hN ha hC) (fun V2 h2 => ?_)
          have L2 := hL.mw h2.2.n
          rw [L2.1, show (200 : Int32) + nI ls.length = nI (200 + ls.length) from nI_add 200 _, wrA_n (by omega) (by omega), Option.bind_some, if_pos (by rw [e2]; rfl)]
          unfold gX10_readsLine_b122
          have e160 : (wA V2 161 (200 + ls.length) (nI v)).A 160 5 = nI ls.length := by rw [wA_n _ _ _ (by omega)]; exact L2.1
          rw [e160, show nI ls.length + 1 = nI (ls.length + 1) from nI_1 _, Option.bind_some]
          generalize hX : wA (wA V2 161 (200 + ls.length) (nI v)) 160 5 (nI (ls.length + 1)) = X
          have MX : MC X tp (enN tp a) := by
            rw [← hX]
            exact h2.1.cg (by rw [wA_n _ _ _ (by omega), wA_n _ _ _ (by omega)]) (fun _ _ _ => rfl) rfl
          have FX : lmf V2 X := by
            rw [← hX]
            exact (lmf_A _ (by omega)).trans (lmf_A _ (by omega))
          have LX : LinM X 5 (ls ++ [(2, 0)]) := by
            refine ⟨?_, fun i hi => ?_⟩
            · rw [← hX, wA_A, if_pos ⟨rfl, rfl⟩]
              simp
            · rw [gd_app]
              simp at hi
              by_cases e : i = ls.length
              · rw [if_pos e]
                refine ⟨?_, Or.inl rfl⟩
                rw [← hX, wA_A, if_neg (by omega), wA_A, if_pos ⟨rfl, by omega⟩, e2]
              · rw [if_neg e]
                have := L2.2 i (by omega)
                rw [← hX, wA_A, if_neg (by omega), wA_A, if_neg (by omega), wA_A, if_neg (by omega), wA_A, if_neg (by omega)]
                exact this
          refine tot_bd (mo_closes ht hN MX o0.1) (fun r hr => ?_)
          rw [hr.b, Option.bind_some]
          rw [hs] at hr
          exact tot_some ⟨hr.2.1, fun z => ⟨(hr.2.2.1 z).1, (hr.2.2.1 z).2, LX.mw hr.2.2.2⟩, (h2.2.n.l.trans FX).trans hr.2.2.2.l⟩
      · have nv10 : ¬ nI (8 + v) = 10 := nI_ne (b := 10) (by omega) (by omega) (by omega)
        have nv2 : ¬ nI v = 2 := nI_ne (b := 2) e2 (by omega) (by omega)
        generalize hs1 : sMat tp p (enN tp a, 0) = s1
        have o1 : okS tp s1 := by rw [← hs1]; exact okM ht o0.1 _
        -- up to the name
        have cls : ∀ {V : VT} {Q : VT → Prop}, RC V tp a 0 → LinC V 83 ls → NmC V T p → (∀ r4 : Int32 × VT, AL r4.2 tp s1 → r4.1 = (if s1.2 = 0 then oI (nmF p (woN tp (enN tp a))) else -1) → (s1.2 = 0 → nmF p (woN tp (enN tp a)) ≠ none) → rwe V r4.2 → tot (if r4.1 = -1 then gX6_takeSign N (nI 59) r4.2 else ((gX2_add 83 (nI (8 + v)) r4.1 r4.2).bind fun V5 => (gX6_advance N V5).bind fun V6 => some V6).bind fun V1 => gX6_takeSign N (nI 59) V1) Q) → tot ((gX4_readRoundLine N 83 T V).bind fun V1 => gX6_takeSign N (nI 59) V1) Q := by
          intro V Q hC hL hNm hQ
          unfold gX4_readRoundLine
          rw [c_kH hC ht, Option.bind_some]
          dsimp only
          rw [ev, cw, Option.bind_some]
          dsimp only
          rw [if_neg (by decide), hL.1, if_pos (show nI ls.length < 40 from nI_lt (b := 40) h40 (by omega)), Option.bind_assoc]
          refine tot_bd (c_adv ht hN ha hC) (fun V3 h3 => ?_)
          rw [if_neg nv10, Option.bind_assoc]
          refine tot_bd (k_Mat ht hN (AL.rc h3.1 o0.1) rfl (hNm.rw hT h3.2.e) gn) (fun r4 h4 => ?_)
          rw [hs1] at h4
          have hq := hQ r4 h4.1 h4.2.1 h4.2.2.1 (h3.2.e.trans h4.2.2.2)
          by_cases e : r4.1 = -1
          · rw [if_pos e] at hq ⊢
            exact hq
          · rw [if_neg e] at hq ⊢
            exact hq
        have mdl : ∀ {V : VT} {Q : Int32 × VT → Prop}, MC V tp a → LinM V 5 ls → NmM V 0 p → (∀ (V4 : VT) (r5 : Int32 × VT), MO V4 tp s1 r5 → (s1.2 = 0 → r5.2.F 137 33 = oI (nmF p (woN tp (enN tp a))) ∧ nmF p (woN tp (enN tp a)) ≠ none) → V4.A 161 (200 + ls.length) = nI v → LinM V4 5 ls → lmf V V4 → tot (if r5.1 = 0 then some (0, r5.2) else (wrA r5.2 162 240 (nI (200 + ls.length)) (r5.2.F 137 33)).bind fun V6 => (gX10_nextToken N V6).bind fun V7 => gX10_readsLine_b122 N V7) Q) → tot (gX10_readsLine N V) Q := by
          intro V Q hC hL hNm hQ
          rw [m_pick hC ha, pk]
          unfold gX10_readsLine_b43
          rw [if_pos (show (0 : Int32) ≤ nI v from nI_pos' (by omega)), hL.1, if_neg (show ¬ nI ls.length = 40 from nI_ne (b := 40) (by omega) (by omega) (by omega))]
          refine tot_bd (m_next ht hN ha hC) (fun V2 h2 => ?_)
          have L2 := hL.mw h2.2.n
          rw [L2.1, show (200 : Int32) + nI ls.length = nI (200 + ls.length) from nI_add 200 _, wrA_n (by omega) (by omega), Option.bind_some, if_neg nv2]
          have MX : MC (wA V2 161 (200 + ls.length) (nI v)) tp (enN tp a) := h2.1.cg (wA_n _ _ _ (by omega)) (fun _ _ _ => rfl) rfl
          have FX : lmf V2 (wA V2 161 (200 + ls.length) (nI v)) := lmf_A _ (by omega)
          have LX : LinM (wA V2 161 (200 + ls.length) (nI v)) 5 ls := by
            refine ⟨by rw [wA_n _ _ _ (by omega)]; exact L2.1, fun i hi => ?_⟩
            rw [wA_n _ _ _ (show 162 ≠ 161 by omega), wA_A, if_neg (by omega)]
            exact L2.2 i hi
          have v161 : (wA V2 161 (200 + ls.length) (nI v)).A 161 (200 + ls.length) = nI v := by rw [wA_A, if_pos ⟨rfl, rfl⟩]
          generalize wA V2 161 (200 + ls.length) (nI v) = V4 at MX FX LX v161
          have FV := h2.2.n.l.trans FX
          rw [show (0 : Int32) = nI 0 from rfl]
          refine tot_bd (mo_mat ht hN MX o0.1 (by omega) (hNm.lm FV) gn) (fun r5 h5 => ?_)
          rw [hs1] at h5
          exact hQ V4 r5 h5.1 h5.2 v161 LX FV
        by_cases z1 : s1.2 = 0
        · obtain ⟨t1, e1⟩ : tyN tp (enN tp a) = 2 ∧ s1 = (enN tp a, 0) := by rw [← hs1] at z1 ⊢; exact sM_0 z1
          cases hm : nmF p (woN tp (enN tp a)) with
          | none =>
            exfalso
            rw [← hs1] at z1
            unfold sMat at z1
            rw [if_pos rfl] at z1
            dsimp only at z1
            rw [hm, if_pos rfl] at z1
            split at z1
            · have z1 : 2 + 16 * plN tp (enN tp a) = 0 := z1
              omega
            · have z1 : 1 + 16 * plN tp (enN tp a) = 0 := z1
              omega
          | some m =>
            have nm := nmF_lt hm
            have o2 : okS tp (enN tp (enN tp a), 0) := ok_e o0.1
            have l1 := en_lt2 (a := enN tp a) o0.1 (by omega)
            generalize hs : sG tp 59 (enN tp (enN tp a), 0) = s
            have os : okS tp s := by rw [← hs]; exact ok_G ht o2 _
            have is : s.2 = 0 → s = (enN tp (enN tp (enN tp a)), 0) := fun z => by rw [← hs] at z ⊢; exact (sG_0 z).2.2
            refine ⟨s, ls ++ [(v, m)], ⟨os.1, os.2, fun z => ⟨gl.app h40 hv2 (Or.inr nm), ?_⟩⟩, fun V hC hL hNm => ?_, fun V hC hL hNm => ?_⟩
            · rw [is z]
              have q9 : enN tp (enN tp a) ≤ enN tp (enN tp (enN tp a)) := Nat.le_trans (pl_le (a := enN tp (enN tp a)) o2.1).1 (en_le (a := enN tp (enN tp a)) o2.1).1
              show a < enN tp (enN tp (enN tp a))
              omega
            · dsimp only
              refine cls hC hL hNm (fun r4 A4 x4 _ F4 => ?_)
              rw [if_pos z1, hm] at x4
              have x4 : r4.1 = nI m := x4
              have C4 := A4.2.1 z1
              rw [e1] at C4
              rw [x4, if_neg (by rw [show (-1 : Int32) = -nI 1 from rfl, eq_m1 (by omega)]; exact fun z => z), Option.bind_assoc]
              refine tot_bd (c_addL (v := v) (m := m) (hL.rw (by omega) F4) h40 (Or.inr rfl)) (fun V5 h5 => ?_)
              rw [Option.bind_assoc]
              refine tot_bd (c_adv ht hN o0.1 (C4.cg h5.2.1 h5.2.2.1 (by rw [h5.2.2.2.1]))) (fun V6 h6 => ?_)
              rw [Option.bind_some]
              refine tot_mo (k_G ht hN (AL.rc h6.1 o2.1) (by omega)) (fun X hX => ?_)
              rw [hs] at hX
              exact ⟨hX.1, fun _ => (h5.1.rw (by omega) h6.2.e).rw (by omega) hX.2, ((F4.l.trans h5.2.2.2.2).trans h6.2.e.l).trans hX.2.l⟩
            · dsimp only
              refine mdl hC hL hNm (fun V4 r5 h5 x5 v161 L4 F4 => ?_)
              obtain ⟨y1, y2⟩ := h5.2.2.1 z1
              have y3 := (x5 z1).1
              rw [hm] at y3
              have y3 : r5.2.F 137 33 = nI m := y3
              rw [e1] at y2
              rw [y1, if_neg (by decide), y3, wrA_n (by omega) (by omega), Option.bind_some]
              have M6 : MC (wA r5.2 162 (200 + ls.length) (nI m)) tp (enN tp a) := y2.cg (wA_n _ _ _ (by omega)) (fun _ _ _ => rfl) rfl
              have L5 := L4.mw h5.2.2.2
              have v5 : r5.2.A 161 (200 + ls.length) = nI v := by rw [h5.2.2.2.1]; exact v161
              refine tot_bd (m_next ht hN o0.1 M6) (fun V7 h7 => ?_)
              unfold gX10_readsLine_b122
              have e160 : V7.A 160 5 = nI ls.length := by rw [h7.2.1, wA_n _ _ _ (by omega)]; exact L5.1
              rw [e160, show nI ls.length + 1 = nI (ls.length + 1) from nI_1 _, Option.bind_some]
              generalize hX : wA V7 160 5 (nI (ls.length + 1)) = X
              have MX : MC X tp (enN tp (enN tp a)) := by
                rw [← hX]
                exact h7.1.cg (wA_n _ _ _ (by omega)) (fun _ _ _ => rfl) rfl
              have FX : lmf r5.2 X := by
                rw [← hX]
                exact ((lmf_A _ (by omega)).trans h7.2.n.l).trans (lmf_A _ (by omega))
              have LX : LinM X 5 (ls ++ [(v, m)]) := by
                refine ⟨?_, fun i hi => ?_⟩
                · rw [← hX, wA_A, if_pos ⟨rfl, rfl⟩]
                  simp
                · rw [gd_app]
                  simp at hi
                  have xA : ∀ b, b ≠ 160 → X.A b = (wA r5.2 162 (200 + ls.length) (nI m)).A b := fun b hb => by rw [← hX, wA_n _ _ _ hb, h7.2.1]
                  rw [xA 161 (by omega), xA 162 (by omega), wA_n _ _ _ (show 161 ≠ 162 by omega), wA_A]
                  by_cases e : i = ls.length
                  · rw [if_pos e, if_pos ⟨rfl, by omega⟩, e]
                    exact ⟨v5, Or.inr rfl⟩
                  · rw [if_neg e, if_neg (by omega)]
                    exact L5.2 i (by omega)
              refine tot_bd (mo_closes ht hN MX o2.1) (fun r hr => ?_)
              rw [hr.b, Option.bind_some]
              rw [hs] at hr
              exact tot_some ⟨hr.2.1, fun z => ⟨(hr.2.2.1 z).1, (hr.2.2.1 z).2, LX.mw hr.2.2.2⟩, ((F4.trans h5.2.2.2.l).trans FX).trans hr.2.2.2.l⟩
        · refine ⟨s1, ls, ⟨o1.1, o1.2, fun z => absurd z z1⟩, fun V hC hL hNm => ?_, fun V hC hL hNm => ?_⟩
          · dsimp only
            refine cls hC hL hNm (fun r4 A4 x4 _ F4 => ?_)
            rw [if_neg z1] at x4
            rw [if_pos x4, d_tSign (A4.2.2 z1)]
            exact tot_some ⟨A4, fun z => absurd z z1, F4.l⟩
          · dsimp only
            refine mdl hC hL hNm (fun V4 r5 h5 x5 v161 L4 F4 => ?_)
            rw [(h5.2.1 z1).1, if_pos (by rfl)]
            exact tot_some ⟨fun _ => ⟨rfl, (h5.2.1 z1).2⟩, fun z => absurd z z1, F4.trans h5.2.2.2.l⟩
    · have h40' : ls.length = 40 := by omega
      have of := ok_f ht ha (show 5 < 16 by omega)
      have hne : (a, 5 + 16 * plN tp a).2 ≠ 0 := by show 5 + 16 * plN tp a ≠ 0; omega
      refine ⟨(a, 5 + 16 * plN tp a), ls, ⟨of.1, of.2, fun z => absurd z hne⟩, fun V hC hL hNm => ?_, fun V hC hL hNm => ?_⟩
      · dsimp only
        unfold gX4_readRoundLine
        rw [c_kH hC ht, Option.bind_some]
        dsimp only
        rw [ev, cw, Option.bind_some]
        dsimp only
        rw [if_neg (by decide), hL.1, h40', if_neg (by decide), show (5 : Int32) = nI 5 from rfl, Option.bind_assoc]
        refine tot_bd (c_fail (k := 5) hC (by omega) ha ht) (fun W hW => ?_)
        rw [Option.bind_some, d_tSign hW.1]
        exact tot_some ⟨AL.rd hW.1 ha, fun z => absurd z hne, hW.2.l⟩
      · dsimp only
        rw [m_pick hC ha, pk]
        unfold gX10_readsLine_b43
        rw [if_pos (show (0 : Int32) ≤ nI v from nI_pos' (by omega)), hL.1, h40', if_pos (by decide), show (5 : Int32) = nI 5 from rfl]
        exact tot_mo (MO.bad (k := 5) hC ha (by omega) rfl) (fun r hr => ⟨fun z => hr.2.1 z, fun z => absurd z hne, hr.2.2.2.l⟩)
  · have of := ok_f ht ha (show 1 < 16 by omega)
    have hne : (a, 1 + 16 * plN tp a).2 ≠ 0 := by show 1 + 16 * plN tp a ≠ 0; omega
    refine ⟨(a, 1 + 16 * plN tp a), ls, ⟨of.1, of.2, fun z => absurd z hne⟩, fun V hC hL hNm => ?_, fun V hC hL hNm => ?_⟩
    · dsimp only
      unfold gX4_readRoundLine
      rw [c_kH hC ht, Option.bind_some]
      dsimp only
      rw [show (8 : Int32) = nI 8 from rfl, show (10 : Int32) = nI 10 from rfl, c_wi, wiB_n (by omega) (by omega) (by omega), decide_eq_false hv, Option.bind_some]
      dsimp only
      rw [if_pos (by decide), show (1 : Int32) = nI 1 from rfl, Option.bind_assoc]
      refine tot_bd (c_fail (k := 1) hC (by omega) ha ht) (fun W hW => ?_)
      rw [Option.bind_some, d_tSign hW.1]
      exact tot_some ⟨AL.rd hW.1 ha, fun z => absurd z hne, hW.2.l⟩
    · dsimp only
      rw [m_pick hC ha, if_neg (by omega), if_neg (by omega), if_neg (by omega)]
      unfold gX10_readsLine_b43
      rw [if_neg (by decide), show (1 : Int32) = nI 1 from rfl]
      exact tot_mo (MO.bad (k := 1) hC ha (by omega) rfl) (fun r hr => ⟨fun z => hr.2.1 z, fun z => absurd z hne, hr.2.2.2.l⟩)
end PRound
