/-! PURE: lines of a round; judged. -/
abbrev LN : Type := List (Nat × Nat)
def z2 : Nat × Nat := (0, 0)
def GoodL (p : PP) (ls : LN) : Prop := ls.length ≤ 40 ∧ ∀ i, i < ls.length → (ls.getD i z2).1 ≤ 2 ∧ ((ls.getD i z2).1 = 2 ∨ (ls.getD i z2).2 < p.n)
def LinC (V : VT) (o : Nat) (ls : LN) : Prop := V.F o 2 = nI ls.length ∧ ∀ i, i < ls.length → V.A (o + 1) i = nI (8 + (ls.getD i z2).1) ∧ ((ls.getD i z2).1 = 2 ∨ V.A (o + 2) i = nI (ls.getD i z2).2)
def LinM (V : VT) (r : Nat) (ls : LN) : Prop := V.A 160 r = nI ls.length ∧ ∀ i, i < ls.length → V.A 161 (40 * r + i) = nI (ls.getD i z2).1 ∧ ((ls.getD i z2).1 = 2 ∨ V.A 162 (40 * r + i) = nI (ls.getD i z2).2)
theorem LinC.at {V W : VT} {o : Nat} {ls : LN} (h : LinC V o ls) (h1 : W.F o 2 = V.F o 2) (h2 : W.A (o + 1) = V.A (o + 1)) (h3 : W.A (o + 2) = V.A (o + 2)) : LinC W o ls := by
  unfold LinC
  rw [h1, h2, h3]
  exact h
theorem LinM.at {V W : VT} {r : Nat} {ls : LN} (h : LinM V r ls) (h1 : W.A 160 = V.A 160) (h2 : W.A 161 = V.A 161) (h3 : W.A 162 = V.A 162) : LinM W r ls := by
  unfold LinM
  rw [h1, h2, h3]
  exact h
section PFresh
variable {E : VE} {V : VT} {p : PP} {S : ST} {c N : Nat} {ls : LN}
theorem m_fresh (h : PastM V p) (hN : 1000 < N) : tot (gX10_fresh0 N V) (fun W => MSt W p.n (freshS p) ∧ fr s7 nof V W) := by
  have hn := h.1.1
  have toM : ∀ {W : VT}, fr s7 nof V W → PastM W p := fun f => h.fr (A := s7) (F := nof) f.1 f.2.2.1 (fun a ha => by unfold s7 at ha; omega)
  unfold gX10_fresh0
  refine loop_T (F := fun w (_ : Unit) k V => gX10_fresh0_b2 N w (nI k) V) 16 (fun k _ W => (∀ j, j < k → W.A 167 j = nI 0) ∧ fr s7 nof V W) ?_ ?_ N 0 () V (by omega) (by omega) ⟨fun j hj => by omega, fr.rf⟩
  · intro w k _ W hk hI hK
    show tot (gX10_fresh0_b2 N (w + 1) (nI k) W) _
    unfold gX10_fresh0_b2
    try simp (disch := omega) only [fa_lit, ne_le, ne_lt, ne_eq', nI_add, pk_mul, pk_sub, rdA_n, wrA_n, rdL_n, wrL_n, nI_one, nI_bit1, nI_bit0, fa_or, fa_and, nI_df, nat31, Option.bind_some, m1_le0, m1_lt0, m1_eq, eq_m1, ite_nI, sub_m, pk_m1', not_lt0]
    rw [if_neg (by omega)]
    refine hK () _ ⟨fun j hj => ?_, hI.2.trans (fr_A _ _ rfl)⟩
    by_cases e : j = k
    · subst e
      try simp (disch := omega) only [wA_A, wF_F, wA_F, wF_A, wA_L, wF_L, wA_G, wF_G, true_and, and_true, and_self, if_true, if_false, if_pos, if_neg]
    · try simp (disch := omega) only [wA_A, wF_F, wA_F, wF_A, wA_L, wF_L, wA_G, wF_G, true_and, and_true, and_self, if_true, if_false, if_pos, if_neg]
      exact hI.1 j (by omega)
  · intro w _ W hI
    show tot (gX10_fresh0_b2 N (w + 1) (nI 16) W) _
    unfold gX10_fresh0_b2
    try simp (disch := omega) only [fa_lit, ne_le, ne_lt, ne_eq', nI_add, pk_mul, pk_sub, rdA_n, wrA_n, rdL_n, wrL_n, nI_one, nI_bit1, nI_bit0, fa_or, fa_and, nI_df, nat31, Option.bind_some, m1_le0, m1_lt0, m1_eq, eq_m1, ite_nI, sub_m, pk_m1', not_lt0]
    rw [if_pos (Nat.le_refl _), (toM hI.2).2.1.2.2.2]
    have f1 : fr s7 nof V (wA W 167 1 (nI p.fu)) := hI.2.trans (fr_A _ _ rfl)
    refine loop_T (F := fun w (_ : Unit) k V => gX10_fresh0_b35 N w (nI k) V) p.n (fun k _ W => fr s7 nof V W ∧ W.A 167 0 = nI 0 ∧ W.A 167 1 = nI p.fu ∧ ∀ m, m < 7 → W.A 167 (2 + m) = nI (if m < k then p.to m else 0) ∧ W.A 167 (9 + m) = nI 0) ?_ ?_ N 0 () _ (by omega) (by omega) ⟨f1, ?_, ?_, fun m hm => ⟨?_, ?_⟩⟩
    · intro w k _ X hk hJ hK
      obtain ⟨j1, j2, j3, j4⟩ := hJ
      have PX := toM j1
      show tot (gX10_fresh0_b35 N (w + 1) (nI k) X) _
      unfold gX10_fresh0_b35
      rw [PX.2.1.1]
      try simp (disch := omega) only [fa_lit, ne_le, ne_lt, ne_eq', nI_add, pk_mul, pk_sub, rdA_n, wrA_n, rdL_n, wrL_n, nI_one, nI_bit1, nI_bit0, fa_or, fa_and, nI_df, nat31, Option.bind_some, m1_le0, m1_lt0, m1_eq, eq_m1, ite_nI, sub_m, pk_m1', not_lt0]
      rw [if_neg (by omega), (PX.2.2.1 k hk).2.2.1]
      refine hK () _ ⟨j1.trans (fr_A _ _ rfl), ?_, ?_, fun m hm => ⟨?_, ?_⟩⟩
      · try simp (disch := omega) only [wA_A, wF_F, wA_F, wF_A, wA_L, wF_L, wA_G, wF_G, true_and, and_true, and_self, if_true, if_false, if_pos, if_neg]
        exact j2
      · try simp (disch := omega) only [wA_A, wF_F, wA_F, wF_A, wA_L, wF_L, wA_G, wF_G, true_and, and_true, and_self, if_true, if_false, if_pos, if_neg]
        exact j3
      · by_cases e : m = k
        · subst e
          try simp (disch := omega) only [wA_A, wF_F, wA_F, wF_A, wA_L, wF_L, wA_G, wF_G, true_and, and_true, and_self, if_true, if_false, if_pos, if_neg]
        · have j5 := (j4 m hm).1
          by_cases e2 : m < k
          · rw [if_pos e2] at j5
            try simp (disch := omega) only [wA_A, wF_F, wA_F, wF_A, wA_L, wF_L, wA_G, wF_G, true_and, and_true, and_self, if_true, if_false, if_pos, if_neg, j5]
          · rw [if_neg e2] at j5
            try simp (disch := omega) only [wA_A, wF_F, wA_F, wF_A, wA_L, wF_L, wA_G, wF_G, true_and, and_true, and_self, if_true, if_false, if_pos, if_neg, j5]
      · try simp (disch := omega) only [wA_A, wF_F, wA_F, wF_A, wA_L, wF_L, wA_G, wF_G, true_and, and_true, and_self, if_true, if_false, if_pos, if_neg]
        exact (j4 m hm).2
    · intro w _ X hJ
      obtain ⟨j1, j2, j3, j4⟩ := hJ
      have PX := toM j1
      show tot (gX10_fresh0_b35 N (w + 1) (nI p.n) X) _
      unfold gX10_fresh0_b35
      rw [PX.2.1.1]
      try simp (disch := omega) only [fa_lit, ne_le, ne_lt, ne_eq', nI_add, pk_mul, pk_sub, rdA_n, wrA_n, rdL_n, wrL_n, nI_one, nI_bit1, nI_bit0, fa_or, fa_and, nI_df, nat31, Option.bind_some, m1_le0, m1_lt0, m1_eq, eq_m1, ite_nI, sub_m, pk_m1', not_lt0]
      rw [if_pos (Nat.le_refl _)]
      refine tot_some ⟨⟨j2, j3, fun m hm => ⟨(j4 m hm).1, ?_⟩⟩, j1⟩
      rw [(j4 m hm).2]
      show nI 0 = nI (if m < p.n then 0 else 0)
      split <;> rfl
    · try simp (disch := omega) only [wA_A, wF_F, wA_F, wF_A, wA_L, wF_L, wA_G, wF_G, true_and, and_true, and_self, if_true, if_false, if_pos, if_neg]
      exact hI.1 0 (by omega)
    · try simp (disch := omega) only [wA_A, wF_F, wA_F, wF_A, wA_L, wF_L, wA_G, wF_G, true_and, and_true, and_self, if_true, if_false, if_pos, if_neg]
    · try simp (disch := omega) only [wA_A, wF_F, wA_F, wF_A, wA_L, wF_L, wA_G, wF_G, true_and, and_true, and_self, if_true, if_false, if_pos, if_neg]
      exact hI.1 (2 + m) (by omega)
    · try simp (disch := omega) only [wA_A, wF_F, wA_F, wF_A, wA_L, wF_L, wA_G, wF_G, true_and, and_true, and_self, if_true, if_false, if_pos, if_neg]
      exact hI.1 (9 + m) (by omega)
/-- how it is behind so many lines -/
def jS (p : PP) (ls : LN) : Nat → ST
  | 0 => freshS p
  | k + 1 => folS p (jS p ls k) (ls.getD k z2).1 (ls.getD k z2).2
def jB (p : PP) (ls : LN) : Nat → Option Nat
  | 0 => none
  | k + 1 => if jB p ls k = none ∧ folB p (jS p ls k) (ls.getD k z2).1 (ls.getD k z2).2 = false then some k else jB p ls k
def jF (p : PP) (ls : LN) : Nat → Option Nat
  | 0 => none
  | k + 1 => if jF p ls k = none ∧ rightN p (meantN p (jS p ls (k + 1))) = 2 ^ p.n - 1 then some k else jF p ls k
theorem jB_lt (p : PP) (ls : LN) : ∀ k j, jB p ls k = some j → j < k
  | 0, j, h => by cases h
  | k + 1, j, h => by
    rw [jB] at h
    split at h
    · cases h
      omega
    · have := jB_lt p ls k j h
      omega
theorem jF_lt (p : PP) (ls : LN) : ∀ k j, jF p ls k = some j → j < k
  | 0, j, h => by cases h
  | k + 1, j, h => by
    rw [jF] at h
    split at h
    · cases h
      omega
    · have := jF_lt p ls k j h
      omega
theorem GoodS.js (g : GoodP p) : ∀ k, GoodS p k (jS p ls k)
  | 0 => GoodS.fresh g
  | k + 1 => (GoodS.js g k).fol g _ _
def QcL (E : VE) (p : PP) (S : ST) (c : Nat) (ls : LN) (o : VT → Option (Int32 × VT)) (v : Int32) : Prop := ∀ V, CQ E V p S c → LinC V 80 ls → tot (o V) (fun r => r.1 = v ∧ fr scA scF V r.2)
def QmL (p : PP) (S : ST) (c : Nat) (ls : LN) (o : VT → Option (Int32 × VT)) (v : Int32) : Prop := ∀ V, MQn V p S c → LinM V 0 ls → tot (o V) (fun r => r.1 = v ∧ MSt r.2 p.n S ∧ mf V r.2)
theorem LinM.mf {W : VT} {r : Nat} (h : LinM V r ls) (f : mf V W) : LinM W r ls := h.at (f.2.1 160 (by unfold mxA; omega)) (f.2.1 161 (by unfold mxA; omega)) (f.2.1 162 (by unfold mxA; omega))
theorem th0L {v : Int32} {o : VT → Option (Int32 × VT)} (h : MQn V p S c) (hS : LinM V 0 ls) (k : ∀ V1, MQn V1 p S c → LinM V1 0 ls → tot (o V1) (fun r => r.1 = v ∧ MSt r.2 p.n S ∧ mf V1 r.2)) : tot ((some (wF V 137 0 0)).bind o) (fun r => r.1 = v ∧ MSt r.2 p.n S ∧ mf V r.2) := by
  have f : mf V (wF V 137 0 0) := ⟨rfl, fun _ _ => rfl, fun i j hij => by rw [wF_F]; exact if_neg hij⟩
  rw [Option.bind_some]
  exact tot_mo (k _ (h.mk f h.2.1) (hS.mf f)) (fun r hr => ⟨hr.1, hr.2.1, f.trans hr.2.2⟩)
theorem q_judged (g : GoodP p) (gl : GoodL p ls) (hN : 1000 < N) (x : Int32) : ∃ v, QcL E p S c ls (fun V => gX9_judged E N x V) v ∧ QmL p S c ls (fun V => gX10_judged N x V) v := by
  have hn := g.1
  have hl := gl.1
  have hp := pw_lt g
  cases hw : wiB x 0 2 with
  | false =>
    refine ⟨-2, fun V h _ => ?_, fun V h _ => ?_⟩
    · dsimp only
      unfold gX9_judged
      rw [show (0 : Int32) = nI 0 from rfl, show (2 : Int32) = nI 2 from rfl, c_wi, hw, Option.bind_some]
      exact tot_some ⟨rfl, fr.rf⟩
    · dsimp only
      unfold gX10_judged
      refine th0 h (fun V1 h1 => ?_)
      rw [show (0 : Int32) = nI 0 from rfl, show (2 : Int32) = nI 2 from rfl, m_wi, hw, Option.bind_some]
      exact tot_some ⟨rfl, h1.2.1, mf.rf⟩
  | true =>
    obtain ⟨z, _, hz, rfl⟩ := wi_of (by omega) (by omega) hw
    refine ⟨if z = 0 then oI (jB p ls ls.length) else if z = 1 then oI (jF p ls ls.length) else nI (pcN (meantN p (jS p ls ls.length))), fun V h hL => ?_, fun V h hL => ?_⟩
    · have hE := h.1
      have sub : ∀ {X Y : VT}, fr (soA 27) (soF 27) X Y → fr scA scF X Y := fun q => q.mono (fun a ha => by unfold soA at ha; unfold scA; omega) (fun i k hik => by unfold soF at hik; unfold scF; omega)
      dsimp only
      unfold gX9_judged
      rw [show (0 : Int32) = nI 0 from rfl, show (2 : Int32) = nI 2 from rfl, c_wi, hw, Option.bind_some]
      dsimp only
      rw [if_neg (by decide)]
      refine tot_bd (c_begin (o := 27) h.2.1 hN (by omega)) (fun W hW => ?_)
      refine loop_T (F := fun w (_ : Unit) k V => gX9_judged_b30 E N w (nI z) (oI (jB p ls k)) (oI (jF p ls k)) (nI k) V) ls.length (fun k _ W => StC W 27 p.n (jS p ls k) ∧ fr scA scF V W) ?_ ?_ N 0 () W (by omega) (by omega) ⟨hW.1, sub hW.2⟩
      · intro w k _ W hk hI hK
        obtain ⟨i1, i2⟩ := hI
        have h1 := h.fr i2
        have L1 : LinC W 80 ls := hL.at (i2.2.2.2 80 2 (by unfold scF; omega)) (i2.2.2.1 81 (by unfold scA; omega)) (i2.2.2.1 82 (by unfold scA; omega))
        have gk := GoodS.js (p := p) (ls := ls) g k
        have lk := L1.2 k hk
        have glk := gl.2 k hk
        show tot (gX9_judged_b30 E N (w + 1) (nI z) (oI (jB p ls k)) (oI (jF p ls k)) (nI k) W) _
        unfold gX9_judged_b30
        rw [L1.1, if_neg (nI_ge hk (by omega)), rdA_n (by omega) (by omega), rdA_n (by omega) (by omega), Option.bind_some, Option.bind_some, lk.1]
        refine tot_bd (c_follow (o := 27) (v := (ls.getD k z2).1) (m := (ls.getD k z2).2) hN h1.2.1 i1 gk (by omega) (by omega) glk.1 (by
          by_cases e : (ls.getD k z2).1 = 2
          · exact Or.inl e
          · exact Or.inr ⟨by omega, by rcases lk.2 with q | q; exact absurd q e; exact q⟩)) (fun r hr => ?_)
        have f2 := i2.trans (put_sc hE hr.2.2)
        have h2 := h.fr f2
        have s2 : StC r.2 27 p.n (jS p ls (k + 1)) := hr.2.1
        have b84 : tot (gX9_judged_b84 E N (gX9_judged_b30 E N w) (nI z) (oI (jB p ls (k + 1))) (oI (jF p ls k)) (nI k) r.2) (fun r => r.1 = (if z = 0 then oI (jB p ls ls.length) else if z = 1 then oI (jF p ls ls.length) else nI (pcN (meantN p (jS p ls ls.length)))) ∧ fr scA scF V r.2) := by
          have nx := hK () r.2 ⟨s2, f2⟩
          unfold gX9_judged_b84
          have m1 := oI_m1 (b := jF p ls k) (fun j hj => by have := jF_lt p ls k j hj; omega)
          rw [show nI k + 1 = nI (k + 1) from nI_1 k]
          by_cases e1 : jF p ls k = none
          · rw [if_pos (m1.mpr e1), c_meant (o := 27) (S := jS p ls (k + 1)) hN h2.2.1 s2 (GoodS.js g (k + 1)), Option.bind_some]
            dsimp only
            rw [c_right h2.2.1 (mnt_lt p _) hN, Option.bind_some]
            dsimp only
            rw [c_every h2.2.1, Option.bind_some]
            dsimp only
            have hr1 := right_lt p (meantN p (jS p ls (k + 1)))
            have m2 := ne_eq' (a := rightN p (meantN p (jS p ls (k + 1)))) (b := 2 ^ p.n - 1) (by omega) (by omega)
            rw [jF] at nx
            by_cases e2 : rightN p (meantN p (jS p ls (k + 1))) = 2 ^ p.n - 1
            · rw [if_pos ⟨e1, e2⟩] at nx
              rw [if_pos (m2.mpr e2)]
              exact nx
            · rw [if_neg (fun q => e2 q.2)] at nx
              rw [if_neg (fun q => e2 (m2.mp q))]
              exact nx
          · rw [if_neg (fun q => e1 (m1.mp q))]
            rw [jF, if_neg (fun q => e1 q.1)] at nx
            exact nx
        rw [hr.1]
        rw [jB] at b84
        cases hb : folB p (jS p ls k) (ls.getD k z2).1 (ls.getD k z2).2 with
        | true =>
          rw [hb, if_neg (fun q => by cases q.2)] at b84
          rw [if_neg (by decide)]
          exact b84
        | false =>
          have m1 := oI_m1 (b := jB p ls k) (fun j hj => by have := jB_lt p ls k j hj; omega)
          rw [if_pos (by decide)]
          by_cases e1 : jB p ls k = none
          · rw [if_pos ⟨e1, hb⟩] at b84
            rw [if_pos (m1.mpr e1)]
            exact b84
          · rw [if_neg (fun q => e1 q.1)] at b84
            rw [if_neg (fun q => e1 (m1.mp q))]
            exact b84
      · intro w _ W hI
        obtain ⟨i1, i2⟩ := hI
        have h1 := h.fr i2
        have L1 : LinC W 80 ls := hL.at (i2.2.2.2 80 2 (by unfold scF; omega)) (i2.2.2.1 81 (by unfold scA; omega)) (i2.2.2.1 82 (by unfold scA; omega))
        have hml := mnt_lt p (jS p ls ls.length)
        show tot (gX9_judged_b30 E N (w + 1) (nI z) (oI (jB p ls ls.length)) (oI (jF p ls ls.length)) (nI ls.length) W) _
        unfold gX9_judged_b30
        rw [L1.1, if_pos (nI_le (Nat.le_refl _) (by omega))]
        by_cases z0 : z = 0
        · rw [if_pos (by rw [z0]; rfl), if_pos z0]
          exact tot_some ⟨rfl, i2⟩
        · rw [if_neg (show ¬ nI z = 0 from nI_ne (b := 0) z0 (by omega) (by omega)), if_neg z0]
          by_cases z1 : z = 1
          · rw [if_pos (by rw [z1]; rfl), if_pos z1]
            exact tot_some ⟨rfl, i2⟩
          · rw [if_neg (show ¬ nI z = 1 from nI_ne (b := 1) z1 (by omega) (by omega)), if_neg z1, c_meant (o := 27) (S := jS p ls ls.length) hN h1.2.1 i1 (GoodS.js g ls.length), Option.bind_some]
            dsimp only
            rw [c_bc (by omega), Option.bind_some]
            exact tot_some ⟨rfl, i2⟩
    · dsimp only
      unfold gX10_judged
      refine th0L h hL (fun V h hL => ?_)
      have hcc := h.2.2.2
      rw [show (0 : Int32) = nI 0 from rfl, show (2 : Int32) = nI 2 from rfl, m_wi, hw, Option.bind_some]
      dsimp only
      rw [if_neg (by decide)]
      refine tot_bd (m_copies (V := V) (a1 := 167) (a2 := 168) (x := 0) (y := 0) (by omega) (by omega) (by omega) (by omega) (by omega) hN) (fun W hW => ?_)
      have fW : mf V W := fr_mf hW.2.2 (fun a ha => by unfold mxA; omega) (fun i k q => False.elim q)
      have rW : Row W 168 0 p.n S := h.2.1.row.cp hW.1
      refine tot_bd (m_fresh (h.1.mf fW) hN) (fun X hX => ?_)
      refine loop_T (F := fun w (_ : Unit) k V => gX10_judged_b41 N w (nI z) (oI (jB p ls k)) (oI (jF p ls k)) (nI k) V) ls.length (fun k _ W => MSt W p.n (jS p ls k) ∧ Row W 168 0 p.n S ∧ mf V W) ?_ ?_ N 0 () X (by omega) (by omega) ⟨hX.1, rW.fr hX.2 (by unfold s7; omega), fW.trans (s7_mf hX.2)⟩
      · intro w k _ W hk hI hK
        obtain ⟨i1, i2, i3⟩ := hI
        have P1 := h.1.mf i3
        have L1 : LinM W 0 ls := hL.mf i3
        have gk := GoodS.js (p := p) (ls := ls) g k
        have lk := L1.2 k hk
        rw [Nat.mul_zero, Nat.zero_add] at lk
        have glk := gl.2 k hk
        show tot (gX10_judged_b41 N (w + 1) (nI z) (oI (jB p ls k)) (oI (jF p ls k)) (nI k) W) _
        unfold gX10_judged_b41
        rw [L1.1, if_neg (nI_ge hk (by omega))]
        refine tot_bd (m_done (v := (ls.getD k z2).1) (m := (ls.getD k z2).2) hN P1 i1 gk (by omega) (by omega) glk.1 lk.1 (by
          by_cases e : (ls.getD k z2).1 = 2
          · exact Or.inl e
          · exact Or.inr ⟨by omega, by rcases lk.2 with q | q; exact absurd q e; exact q⟩)) (fun r hr => ?_)
        have f2 := i3.trans (ws_mf hr.2.2)
        have P2 := h.1.mf f2
        have s2 : MSt r.2 p.n (jS p ls (k + 1)) := hr.2.1
        have b68 : tot (gX10_judged_b68 N (gX10_judged_b41 N w) (nI z) (oI (jB p ls (k + 1))) (oI (jF p ls k)) (nI k) r.2) (fun r => r.1 = (if z = 0 then oI (jB p ls ls.length) else if z = 1 then oI (jF p ls ls.length) else nI (pcN (meantN p (jS p ls ls.length)))) ∧ MSt r.2 p.n S ∧ mf V r.2) := by
          have nx := hK () r.2 ⟨s2, i2.fr hr.2.2 (by unfold wkB s7; omega), f2⟩
          unfold gX10_judged_b68
          rw [m_meant (S := jS p ls (k + 1)) P2 (fun m hm => ⟨(s2.so hn hm).1, by have := ((GoodS.js (p := p) (ls := ls) g (k + 1)).1 m hm).1; omega⟩) hN, Option.bind_some]
          dsimp only
          rw [m_right P2 (mnt_lt p _) hN, Option.bind_some]
          dsimp only
          rw [m_every P2, Option.bind_some]
          dsimp only
          have hr1 := right_lt p (meantN p (jS p ls (k + 1)))
          have m1 := oI_0 (b := jF p ls k) (fun j hj => by have := jF_lt p ls k j hj; omega)
          have m2 := ne_eq' (a := rightN p (meantN p (jS p ls (k + 1)))) (b := 2 ^ p.n - 1) (by omega) (by omega)
          rw [show nI k + 1 = nI (k + 1) from nI_1 k]
          rw [jF] at nx
          by_cases e2 : rightN p (meantN p (jS p ls (k + 1))) = 2 ^ p.n - 1
          · rw [if_pos (m2.mpr e2)]
            by_cases e1 : jF p ls k = none
            · rw [if_pos ⟨e1, e2⟩] at nx
              rw [if_neg (fun q => m1.mp q e1)]
              exact nx
            · rw [if_neg (fun q => e1 q.1)] at nx
              rw [if_pos (m1.mpr e1)]
              exact nx
          · rw [if_neg (fun q => e2 q.2)] at nx
            rw [if_neg (fun q => e2 (m2.mp q))]
            exact nx
        rw [hr.1]
        rw [jB] at b68
        cases hb : folB p (jS p ls k) (ls.getD k z2).1 (ls.getD k z2).2 with
        | true =>
          rw [hb, if_neg (fun q => by cases q.2)] at b68
          rw [if_neg (by decide)]
          exact b68
        | false =>
          have m1 := oI_0 (b := jB p ls k) (fun j hj => by have := jB_lt p ls k j hj; omega)
          rw [if_pos (by decide)]
          by_cases e1 : jB p ls k = none
          · rw [if_pos ⟨e1, hb⟩] at b68
            rw [if_neg (fun q => m1.mp q e1)]
            exact b68
          · rw [if_neg (fun q => e1 q.1)] at b68
            rw [if_pos (m1.mpr e1)]
            exact b68
      · intro w _ W hI
        obtain ⟨i1, i2, i3⟩ := hI
        have P1 := h.1.mf i3
        have L1 : LinM W 0 ls := hL.mf i3
        have hml := mnt_lt p (jS p ls ls.length)
        show tot (gX10_judged_b41 N (w + 1) (nI z) (oI (jB p ls ls.length)) (oI (jF p ls ls.length)) (nI ls.length) W) _
        unfold gX10_judged_b41
        rw [L1.1, if_pos (nI_le (Nat.le_refl _) (by omega)), m_meant (S := jS p ls ls.length) P1 (fun m hm => ⟨(i1.so hn hm).1, by have := ((GoodS.js (p := p) (ls := ls) g ls.length).1 m hm).1; omega⟩) hN, Option.bind_some]
        dsimp only
        rw [m_bits (by omega) hN, Option.bind_some]
        dsimp only
        rw [show (0 : Int32) = nI 0 from rfl]
        refine tot_bd (m_copies (V := W) (a1 := 168) (a2 := 167) (x := 0) (y := 0) (by omega) (by omega) (by omega) (by omega) (by omega) hN) (fun X hX => ?_)
        have fX : mf V X := i3.trans (fr_mf hX.2.2 (fun a ha => by unfold mxA; omega) (fun i k q => False.elim q))
        have sX : MSt X p.n S := (i2.cp hX.1).st
        by_cases z0 : z = 0
        · rw [if_pos (by rw [z0]), if_pos z0]
          exact tot_some ⟨rfl, sX, fX⟩
        · rw [if_neg (show ¬ nI z = nI 0 from nI_ne (b := 0) z0 (by omega) (by omega)), if_neg z0]
          by_cases z1 : z = 1
          · rw [if_pos (by rw [z1]; rfl), if_pos z1]
            exact tot_some ⟨rfl, sX, fX⟩
          · rw [if_neg (show ¬ nI z = 1 from nI_ne (b := 1) z1 (by omega) (by omega)), if_neg z1]
            exact tot_some ⟨rfl, sX, fX⟩
end PFresh
