/-! PURE: steps of reading a told text: a place and a fault. -/
abbrev PS : Type := Nat × Nat
def sAd (tp : List Nat) (s : PS) : PS := if s.2 = 0 then (enN tp s.1, 0) else s
def sK (tp : List Nat) (k : Nat) (s : PS) : PS := if s.2 = 0 then (if kN tp s.1 = k then (enN tp s.1, 0) else (s.1, 1 + 16 * plN tp s.1)) else s
def sG (tp : List Nat) (t : Nat) (s : PS) : PS := if s.2 = 0 then (if tyN tp s.1 = t then (enN tp s.1, 0) else (s.1, 1 + 16 * plN tp s.1)) else s
def sN (tp : List Nat) (lo hi : Nat) (s : PS) : PS := if s.2 = 0 then (if nwB tp s.1 lo hi = 0 then (enN tp s.1, 0) else (s.1, nwB tp s.1 lo hi + 16 * plN tp s.1)) else s
/-- the matter of a name -/
def nmF (q : PP) (ls : List Nat) : Option Nat := if fst0 (fun m => decide (q.nm m = ls)) q.n 0 = q.n then none else some (fst0 (fun m => decide (q.nm m = ls)) q.n 0)
def sNew (tp : List Nat) (q : PP) (s : PS) : PS := if s.2 = 0 then (if nmB tp s.1 = true then (if nmF q (woN tp s.1) = none then (enN tp s.1, 0) else (s.1, 3 + 16 * plN tp s.1)) else (s.1, 1 + 16 * plN tp s.1)) else s
def sMat (tp : List Nat) (q : PP) (s : PS) : PS := if s.2 = 0 then (if nmB tp s.1 = true then (if nmF q (woN tp s.1) = none then (s.1, 2 + 16 * plN tp s.1) else s) else (s.1, 1 + 16 * plN tp s.1)) else s
def sKd (tp : List Nat) (s : PS) : PS := if s.2 = 0 then (if 11 ≤ kN tp s.1 ∧ kN tp s.1 ≤ 14 then (enN tp s.1, 0) else (s.1, 1 + 16 * plN tp s.1)) else s
theorem nmF_lt {q : PP} {ls : List Nat} {m : Nat} (h : nmF q ls = some m) : m < q.n := by
  unfold nmF at h
  split at h
  · cases h
  · cases h
    have := fst0_le (fun m => decide (q.nm m = ls)) q.n 0
    omega
/-- the class: alive there, or dead -/
def AL (V : VT) (tp : List Nat) (s : PS) : Prop := s.1 ≤ tp.length ∧ (s.2 = 0 → RC V tp s.1 0) ∧ (s.2 ≠ 0 → RD V s.2)
section POps
variable {V W : VT} {tp : List Nat} {s : PS} {k N T : Nat} {q : PP}
theorem AL.rc {a : Nat} (h : RC V tp a 0) (ha : a ≤ tp.length) : AL V tp (a, 0) := ⟨ha, fun _ => h, fun z => absurd rfl z⟩
theorem AL.rd {a f : Nat} (h : RD V f) (ha : a ≤ tp.length) : AL V tp (a, f) := ⟨ha, fun z => by have := h.2.1; have z : f = 0 := z; omega, fun _ => h⟩
theorem AL.cg (h : AL V tp s) (eA : W.A 4 = V.A 4) (eF : W.F 3 = V.F 3) (eG : W.G 3 = V.G 3) : AL W tp s := ⟨h.1, fun z => (h.2.1 z).cg eA eF eG, fun z => (h.2.2 z).cg (by rw [eF])⟩
theorem k_Ad (ht : GoodT tp) (hN : 1000 < N) (h : AL V tp s) (h0 : s.2 = 0) : tot (gX6_advance N V) (fun W => AL W tp (sAd tp s) ∧ rwe V W) := by
  unfold sAd
  rw [if_pos h0]
  exact tot_mo (c_adv ht hN h.1 (h.2.1 h0)) (fun W hW => ⟨AL.rc hW.1 (en_le h.1).2, hW.2.e⟩)
theorem k_K (ht : GoodT tp) (hN : 1000 < N) (h : AL V tp s) (hk : k < 22) : tot (gX6_takeKey N (nI k) V) (fun W => AL W tp (sK tp k s) ∧ rwe V W) := by
  unfold sK
  by_cases h0 : s.2 = 0
  · rw [if_pos h0]
    refine tot_mo (c_tKey (h.2.1 h0) ht h.1 hN hk) (fun W hW => ⟨?_, hW.2⟩)
    have h1 := hW.1
    split at h1
    · rename_i e
      rw [if_pos e]
      exact AL.rc h1 (en_le h.1).2
    · rename_i e
      rw [if_neg e]
      exact AL.rd h1 h.1
  · rw [if_neg h0, d_tKey (h.2.2 h0)]
    exact tot_some ⟨h, rwe.rf⟩
theorem k_G (ht : GoodT tp) (hN : 1000 < N) (h : AL V tp s) {t : Nat} (hk : t < 2 ^ 31) : tot (gX6_takeSign N (nI t) V) (fun W => AL W tp (sG tp t s) ∧ rwe V W) := by
  unfold sG
  by_cases h0 : s.2 = 0
  · rw [if_pos h0]
    refine tot_mo (c_tSign (h.2.1 h0) ht h.1 hN hk) (fun W hW => ⟨?_, hW.2⟩)
    have h1 := hW.1
    split at h1
    · rename_i e
      rw [if_pos e]
      exact AL.rc h1 (en_le h.1).2
    · rename_i e
      rw [if_neg e]
      exact AL.rd h1 h.1
  · rw [if_neg h0, d_tSign (h.2.2 h0)]
    exact tot_some ⟨h, rwe.rf⟩
theorem k_N (ht : GoodT tp) (hN : 1000 < N) (h : AL V tp s) {lo hi : Nat} (h1 : lo < 2 ^ 31) (h2 : hi < 2 ^ 31) : tot (gX6_takeNumber N (nI lo) (nI hi) V) (fun r => AL r.2 tp (sN tp lo hi s) ∧ ((sN tp lo hi s).2 = 0 → r.1 = nI (nuN tp s.1)) ∧ rwe V r.2) := by
  unfold sN
  by_cases h0 : s.2 = 0
  · rw [if_pos h0]
    refine tot_mo (c_tNum (h.2.1 h0) ht h.1 hN h1 h2) (fun r hr => ?_)
    have h3 := hr.1
    split at h3
    · rename_i e
      rw [if_pos e]
      exact ⟨AL.rc h3.2 (en_le h.1).2, fun _ => h3.1, hr.2⟩
    · rename_i e
      rw [if_neg e]
      exact ⟨AL.rd h3 h.1, fun z => by have := h3.2.1; have z : nwB tp s.1 lo hi + 16 * plN tp s.1 = 0 := z; omega, hr.2⟩
  · rw [if_neg h0, d_tNum (h.2.2 h0)]
    exact tot_some ⟨h, fun z => absurd z h0, rwe.rf⟩
/-- names of a past of the class -/
def NmC (V : VT) (T : Nat) (q : PP) : Prop := q.n ≤ 7 ∧ V.F T 6 = nI q.n ∧ ∀ m, m < q.n → V.L (T + 1) m = lN (e32 (q.nm m))
theorem c_find (hN : 1000 < N) (h : NmC V T q) (gn : GoodN q) {ls : List Nat} (hw' : isW ls ∧ ls.length ≤ 8) : gX5_find N T (lN (e32 ls)) V = some (oI (nmF q ls), V) := by
  obtain ⟨hn, h1, h2⟩ := h
  have hb := e32_b hw'.1 hw'.2
  have key : ∀ w k, k ≤ q.n → q.n - k < w → gX5_find_b2 N w T (lN (e32 ls)) (nI k) V = some (oI (if fst0 (fun m => decide (q.nm m = ls)) (q.n - k) k = q.n then none else some (fst0 (fun m => decide (q.nm m = ls)) (q.n - k) k)), V) := by
    intro w
    induction w with
    | zero => intro k _ h; omega
    | succ w ih =>
      intro k hk hw
      unfold gX5_find_b2
      rw [h1]
      by_cases hc : k = q.n
      · subst hc
        rw [if_pos (nI_le (Nat.le_refl _) (by omega)), Nat.sub_self, if_pos (show fst0 (fun m => decide (q.nm m = ls)) 0 q.n = q.n from rfl)]
        rfl
      · have gk := gn k (by omega)
        have hbk := e32_b gk.1 gk.2
        have ef : fst0 (fun m => decide (q.nm m = ls)) (q.n - k) k = if q.nm k = ls then k else fst0 (fun m => decide (q.nm m = ls)) (q.n - (k + 1)) (k + 1) := by
          rw [show q.n - k = (q.n - (k + 1)) + 1 by omega, fst0]
          by_cases z : q.nm k = ls <;> simp [z]
        rw [if_neg (nI_ge (by omega) (by omega)), rdL_n (by omega) (by omega), Option.bind_some, h2 k (by omega), ef]
        by_cases e : q.nm k = ls
        · rw [if_pos ((lg_cmp_eq _ _).mpr (by rw [e])), if_pos e, if_neg hc]
          rfl
        · rw [if_neg (fun z => e (e32_inj (q.nm k).length _ _ rfl gk.1 hw'.1 ((pk_lEQ (by omega) (by omega)).mp ((lg_cmp_eq _ _).mp z)))), if_neg e, show nI k + 1 = nI (k + 1) from nI_1 k]
          exact ih (k + 1) (by omega) (by omega)
  unfold gX5_find nmF
  exact key N 0 (by omega) (by omega)
theorem k_New (ht : GoodT tp) (hN : 1000 < N) (h : AL V tp s) (hq : NmC V T q) (gn : GoodN q) : tot (gX4_takeNewName N T V) (fun r => AL r.2 tp (sNew tp q s) ∧ ((sNew tp q s).2 = 0 → r.1 = lN (e32 (woN tp s.1))) ∧ rwe V r.2) := by
  unfold sNew gX4_takeNewName
  by_cases h0 : s.2 = 0
  · have hC := h.2.1 h0
    rw [if_pos h0, c_isN hC ht, Option.bind_some]
    dsimp only
    by_cases e : nmB tp s.1 = true
    · have t2 : tyN tp s.1 = 2 := (of_decide_eq_true e).1
      have hw := wo_W t2 h.1
      rw [if_pos e, if_pos e, if_neg (by decide), (hC.2.2.2.2.2.1 t2).1, c_find hN hq gn hw, Option.bind_some]
      dsimp only
      have hn := hq.1
      have m1 := oI_m1 (b := nmF q (woN tp s.1)) (fun j hj => by have := nmF_lt hj; omega)
      by_cases e2 : nmF q (woN tp s.1) = none
      · rw [if_pos (m1.mpr e2), if_pos e2]
        exact tot_bd (c_adv ht hN h.1 hC) (fun W hW => tot_some ⟨AL.rc hW.1 (en_le h.1).2, fun _ => rfl, hW.2.e⟩)
      · rw [if_neg (fun z => e2 (m1.mp z)), if_neg e2, show (3 : Int32) = nI 3 from rfl]
        exact tot_bd (c_fail (k := 3) hC (by omega) h.1 ht) (fun W hW => tot_some ⟨AL.rd hW.1 h.1, fun z => by have z : 3 + 16 * plN tp s.1 = 0 := z; omega, hW.2⟩)
    · rw [if_neg e, if_neg e, if_pos (by decide), show (1 : Int32) = nI 1 from rfl]
      exact tot_bd (c_fail (k := 1) hC (by omega) h.1 ht) (fun W hW => tot_some ⟨AL.rd hW.1 h.1, fun z => by have z : 1 + 16 * plN tp s.1 = 0 := z; omega, hW.2⟩)
  · rw [if_neg h0, d_isN (h.2.2 h0), Option.bind_some, if_pos (by rfl), d_fail (h.2.2 h0), Option.bind_some]
    exact tot_some ⟨h, fun z => absurd z h0, rwe.rf⟩
theorem k_Mat (ht : GoodT tp) (hN : 1000 < N) (h : AL V tp s) (h0 : s.2 = 0) (hq : NmC V T q) (gn : GoodN q) : tot (gX4_matterHere N T V) (fun r => AL r.2 tp (sMat tp q s) ∧ r.1 = (if (sMat tp q s).2 = 0 then oI (nmF q (woN tp s.1)) else -1) ∧ ((sMat tp q s).2 = 0 → nmF q (woN tp s.1) ≠ none) ∧ rwe V r.2) := by
  unfold sMat gX4_matterHere
  have hC := h.2.1 h0
  rw [if_pos h0, c_isN hC ht, Option.bind_some]
  dsimp only
  by_cases e : nmB tp s.1 = true
  · have t2 : tyN tp s.1 = 2 := (of_decide_eq_true e).1
    have hw := wo_W t2 h.1
    rw [if_pos e, if_pos e, if_neg (by decide), (hC.2.2.2.2.2.1 t2).1, c_find hN hq gn hw, Option.bind_some]
    dsimp only
    have hn := hq.1
    have m1 := oI_m1 (b := nmF q (woN tp s.1)) (fun j hj => by have := nmF_lt hj; omega)
    by_cases e2 : nmF q (woN tp s.1) = none
    · rw [if_pos (m1.mpr e2), if_pos e2, show (2 : Int32) = nI 2 from rfl]
      refine tot_bd (c_fail (k := 2) hC (by omega) h.1 ht) (fun W hW => tot_some ⟨AL.rd hW.1 h.1, ?_, fun z => ?_, hW.2⟩)
      · rw [if_neg (show ¬ 2 + 16 * plN tp s.1 = 0 by omega), e2]
        rfl
      · have z : 2 + 16 * plN tp s.1 = 0 := z
        omega
    · rw [if_neg (fun z => e2 (m1.mp z)), if_neg e2]
      refine tot_some ⟨h, ?_, fun _ => e2, rwe.rf⟩
      rw [if_pos h0]
  · rw [if_neg e, if_neg e, if_pos (by decide), show (1 : Int32) = nI 1 from rfl]
    refine tot_bd (c_fail (k := 1) hC (by omega) h.1 ht) (fun W hW => tot_some ⟨AL.rd hW.1 h.1, ?_, fun z => ?_, hW.2⟩)
    · rw [if_neg (show ¬ 1 + 16 * plN tp s.1 = 0 by omega)]
    · have z : 1 + 16 * plN tp s.1 = 0 := z
      omega
theorem k_Kd (ht : GoodT tp) (hN : 1000 < N) (h : AL V tp s) : tot (gX4_takeKind N V) (fun r => AL r.2 tp (sKd tp s) ∧ ((sKd tp s).2 = 0 → r.1 = nI (kN tp s.1 - 11)) ∧ rwe V r.2) := by
  unfold sKd gX4_takeKind
  by_cases h0 : s.2 = 0
  · have hC := h.2.1 h0
    have hk := kN_le tp s.1
    rw [if_pos h0, c_kH hC ht, Option.bind_some]
    dsimp only
    by_cases e : 11 ≤ kN tp s.1 ∧ kN tp s.1 ≤ 14
    · rw [if_pos e, show (11 : Int32) = nI 11 from rfl, pk_sub e.1, show (0 : Int32) = nI 0 from rfl, show (3 : Int32) = nI 3 from rfl, c_wi, wiB_n (by omega) (by omega) (by omega), decide_eq_true (show 0 ≤ kN tp s.1 - 11 ∧ kN tp s.1 - 11 ≤ 3 by omega), Option.bind_some]
      dsimp only
      rw [if_neg (by decide)]
      exact tot_bd (c_adv ht hN h.1 hC) (fun W hW => tot_some ⟨AL.rc hW.1 (en_le h.1).2, fun _ => rfl, hW.2.e⟩)
    · have hw : gX9_within (nI (kN tp s.1) - 11) 0 3 V = some (nI 0, V) := by
        by_cases e11 : 11 ≤ kN tp s.1
        · rw [show (11 : Int32) = nI 11 from rfl, pk_sub e11, show (0 : Int32) = nI 0 from rfl, show (3 : Int32) = nI 3 from rfl, c_wi, wiB_n (by omega) (by omega) (by omega), decide_eq_false (show ¬ (0 ≤ kN tp s.1 - 11 ∧ kN tp s.1 - 11 ≤ 3) by omega)]
          rfl
        · unfold gX9_within
          rw [if_pos (show nI (kN tp s.1) - 11 < 0 from pk_sneg (b := 11) (by omega) (by omega))]
          rfl
      rw [if_neg e, hw, Option.bind_some]
      dsimp only
      rw [if_pos (by rfl), show (1 : Int32) = nI 1 from rfl]
      exact tot_bd (c_fail (k := 1) hC (by omega) h.1 ht) (fun W hW => tot_some ⟨AL.rd hW.1 h.1, fun z => by have z : 1 + 16 * plN tp s.1 = 0 := z; omega, hW.2⟩)
  · rw [if_neg h0, d_kH (h.2.2 h0), Option.bind_some]
    dsimp only
    rw [show gX9_within ((22 : Int32) - 11) 0 3 V = some (nI 0, V) from rfl, Option.bind_some]
    dsimp only
    rw [if_pos (by rfl), d_fail (h.2.2 h0), Option.bind_some]
    exact tot_some ⟨h, fun z => absurd z h0, rwe.rf⟩
theorem k_fail (ht : GoodT tp) (h : AL V tp s) (h0 : s.2 = 0) (hk : 0 < k ∧ k < 16) : tot (gX6_fail (nI k) V) (fun W => AL W tp (s.1, k + 16 * plN tp s.1) ∧ rwe V W) := tot_mo (c_fail (h.2.1 h0) hk h.1 ht) (fun W hW => ⟨AL.rd hW.1 h.1, hW.2⟩)
end POps
/-! the model's -/
def mwn (V W : VT) : Prop := W.A = V.A ∧ W.L = V.L ∧ ∀ i k, ¬ (i = 137 ∧ (4 ≤ k ∧ k ≤ 9 ∨ k = 33)) → W.F i k = V.F i k
theorem mwn.rf {V : VT} : mwn V V := ⟨rfl, rfl, fun _ _ _ => rfl⟩
theorem mwn.trans {V W X : VT} (h : mwn V W) (k : mwn W X) : mwn V X := ⟨k.1.trans h.1, k.2.1.trans h.2.1, fun i j hij => (k.2.2 i j hij).trans (h.2.2 i j hij)⟩
theorem mwf.n {V W : VT} (h : mwf V W) : mwn V W := ⟨h.1, h.2.1, fun i k hik => h.2.2 i k (by omega)⟩
theorem mwn_F {V : VT} {k : Nat} (x : Int32) (h : 4 ≤ k ∧ k ≤ 9 ∨ k = 33) : mwn V (wF V 137 k x) := ⟨rfl, rfl, fun i j hij => by rw [wF_F, if_neg (fun q => hij (by omega))]⟩
/-- what the model answers: a fault, or it goes on there -/
def MO (V : VT) (tp : List Nat) (s : PS) (r : Int32 × VT) : Prop := s.1 ≤ tp.length ∧ (s.2 ≠ 0 → r.1 = nI 0 ∧ r.2.F 137 9 = nI s.2) ∧ (s.2 = 0 → r.1 = nI 1 ∧ MC r.2 tp s.1) ∧ mwn V r.2
section POpsM
variable {V W : VT} {tp : List Nat} {a k N : Nat} {q : PP}
theorem MO.bad {f : Nat} (h : MC V tp a) (ha : a ≤ tp.length) (hk : 0 < k) (hf : f = k + 16 * plN tp a) : tot ((gX10_fails (nI k) V).bind fun p1 => (qB p1.1).bind fun _ => some (p1.1, p1.2)) (MO V tp (a, f)) := by
  rw [m_fails h, Option.bind_some]
  dsimp only
  rw [show qB (nI 0) = some () from rfl, Option.bind_some]
  exact tot_some ⟨ha, fun _ => ⟨rfl, by rw [wF_F, if_pos ⟨rfl, rfl⟩, hf]⟩, fun z => by have z : f = 0 := z; omega, mwn_F _ (by omega)⟩
theorem mo_next (ht : GoodT tp) (hN : 1000 < N) (h : MC V tp a) (ha : a ≤ tp.length) : tot ((gX10_nextToken N V).bind fun V2 => some (1, V2)) (MO V tp (enN tp a, 0)) := tot_bd (m_next ht hN ha h) (fun W hW => tot_some ⟨(en_le ha).2, fun z => absurd rfl z, fun _ => ⟨rfl, hW.1⟩, hW.2.n⟩)
theorem mo_closes (ht : GoodT tp) (hN : 1000 < N) (h : MC V tp a) (ha : a ≤ tp.length) : tot (gX10_closes N V) (MO V tp (sG tp 59 (a, 0))) := by
  unfold gX10_closes sG
  rw [if_pos rfl, show (59 : Int32) = nI 59 from rfl, m_isS h ht ha (by omega) (by omega), Option.bind_some]
  dsimp only
  by_cases e : tyN tp a = 59
  · rw [if_pos e, if_pos e, if_neg (by decide)]
    exact mo_next ht hN h ha
  · rw [if_neg e, if_neg e, if_pos (by rfl)]
    exact MO.bad (k := 1) h ha (by omega) rfl
theorem mo_num (ht : GoodT tp) (hN : 1000 < N) (h : MC V tp a) (ha : a ≤ tp.length) {lo hi : Nat} (h1 : lo < 2 ^ 31) (h2 : hi < 2 ^ 31) : tot (gX10_needsNumber N (nI lo) (nI hi) V) (fun r => MO V tp (sN tp lo hi (a, 0)) r ∧ ((sN tp lo hi (a, 0)).2 = 0 → r.2.F 137 33 = nI (nuN tp a))) := by
  have hm := mty_lt (tyN tp a)
  unfold gX10_needsNumber sN nwB
  rw [if_pos rfl, h.2.2.2.1]
  dsimp only
  by_cases e : tyN tp a = 3
  · have hn := nu_lt e ha ht
    rw [if_pos (by rw [(mty_2 _).mpr e]; rfl), if_pos e, h.2.2.2.2.1 e, m_wi, wiB_n (by omega) h1 h2, Option.bind_some]
    dsimp only
    by_cases e2 : lo ≤ nuN tp a ∧ nuN tp a ≤ hi
    · rw [decide_eq_true e2, if_neg (by decide), if_pos e2, if_pos rfl, h.2.2.2.2.1 e, Option.bind_some]
      have f1 : mwn V (wF V 137 33 (nI (nuN tp a))) := mwn_F _ (by omega)
      have h1 : MC (wF V 137 33 (nI (nuN tp a))) tp a := h.cg rfl (fun k _ _ => by rw [wF_F, if_neg (by omega)]) rfl
      refine tot_bd (m_next ht hN ha h1) (fun W hW => tot_some ⟨⟨(en_le ha).2, fun z => absurd rfl z, fun _ => ⟨rfl, hW.1⟩, f1.trans hW.2.n⟩, fun _ => ?_⟩)
      rw [hW.2.2.2 137 33 (by omega), wF_F, if_pos ⟨rfl, rfl⟩]
    · rw [decide_eq_false e2, if_pos (by decide), if_neg e2, if_neg (by omega)]
      exact tot_mo (MO.bad (k := 4) h ha (by omega) rfl) (fun r hr => ⟨hr, fun z => by have z : 4 + 16 * plN tp a = 0 := z; omega⟩)
  · rw [if_neg (show ¬ nI (mty (tyN tp a)) = 2 from nI_ne (b := 2) (fun z => e ((mty_2 _).mp z)) (by omega) (by omega)), if_neg e, if_neg (by omega)]
    exact tot_mo (MO.bad (k := 1) h ha (by omega) rfl) (fun r hr => ⟨hr, fun z => by have z : 1 + 16 * plN tp a = 0 := z; omega⟩)
theorem qB01 {x : Int32} (h : x = nI 0 ∨ x = nI 1) : qB x = some () := by
  rcases h with h | h
  · rw [h]
    rfl
  · rw [h]
    rfl
theorem MO.b {s : PS} {r : Int32 × VT} (h : MO V tp s r) : qB r.1 = some () := by
  by_cases e : s.2 = 0
  · exact qB01 (Or.inr (h.2.2.1 e).1)
  · exact qB01 (Or.inl (h.2.1 e).1)
theorem mo_both (ht : GoodT tp) (hN : 1000 < N) (h : MC V tp a) (ha : a ≤ tp.length) (hk : k < 22) {x : Int64} (hx : x = lN (c27L.getD k 0)) {lo hi : Nat} (h1 : lo < 2 ^ 31) (h2 : hi < 2 ^ 31) : tot (gX10_needsBoth N x (nI lo) (nI hi) V) (fun r => MO V tp (sN tp lo hi (sK tp k (a, 0))) r ∧ ((sN tp lo hi (sK tp k (a, 0))).2 = 0 → r.2.F 137 33 = nI (nuN tp (enN tp a)))) := by
  unfold gX10_needsBoth
  rw [m_isW h ha hk hx, Option.bind_some]
  dsimp only
  by_cases e : kN tp a = k
  · have es : sK tp k (a, 0) = (enN tp a, 0) := by
      unfold sK
      rw [if_pos rfl, if_pos e]
    rw [if_pos e, if_neg (by decide), es]
    refine tot_bd (m_next ht hN ha h) (fun W hW => ?_)
    refine tot_bd (mo_num ht hN hW.1 (en_le ha).2 h1 h2) (fun r hr => ?_)
    rw [hr.1.b, Option.bind_some]
    exact tot_some ⟨⟨hr.1.1, hr.1.2.1, hr.1.2.2.1, hW.2.n.trans hr.1.2.2.2⟩, hr.2⟩
  · have es : sK tp k (a, 0) = (a, 1 + 16 * plN tp a) := by
      unfold sK
      rw [if_pos rfl, if_neg e]
    have es2 : sN tp lo hi (sK tp k (a, 0)) = (a, 1 + 16 * plN tp a) := by
      rw [es]
      exact if_neg (show ¬ 1 + 16 * plN tp a = 0 by omega)
    rw [if_neg e, if_pos (by rfl), es2]
    exact tot_mo (MO.bad (k := 1) h ha (by omega) rfl) (fun r hr => ⟨hr, fun z => by have z : 1 + 16 * plN tp a = 0 := z; omega⟩)
/-- names of a past of the model, the one told or the one that is read -/
def NmM (V : VT) (r : Nat) (q : PP) : Prop := q.n ≤ 7 ∧ V.A 139 (4 * r) = nI q.n ∧ ∀ m, m < q.n → V.L 140 (7 * r + m) = lN (e27 (q.nm m))
theorem m_find (hN : 1000 < N) {r : Nat} (hr : r ≤ 1) (h : NmM V r q) (gn : GoodN q) {ls : List Nat} (hw' : isW ls ∧ ls.length ≤ 8) (hG : V.G 137 7 = lN (e27 ls)) : gX10_matterNamed N (nI r) V = some (oI (nmF q ls), V) := by
  obtain ⟨hn, h1, h2⟩ := h
  have hb := e27_b hw'.1 hw'.2
  have key : ∀ w k, k ≤ q.n → q.n - k < w → gX10_matterNamed_b5 N w (nI r) (nI (7 * r + k)) V = some (oI (if fst0 (fun m => decide (q.nm m = ls)) (q.n - k) k = q.n then none else some (fst0 (fun m => decide (q.nm m = ls)) (q.n - k) k)), V) := by
    intro w
    induction w with
    | zero => intro k _ h; omega
    | succ w ih =>
      intro k hk hw
      unfold gX10_matterNamed_b5
      rw [show (4 : Int32) * nI r + 0 = nI (4 * r) by rw [show (4 : Int32) = nI 4 from rfl, pk_mul, show (0 : Int32) = nI 0 from rfl, nI_add, Nat.add_zero], rdA_n (by omega) (by omega), Option.bind_some, h1, show (7 : Int32) * nI r = nI (7 * r) from pk_mul 7 r, nI_add]
      by_cases hc : k = q.n
      · subst hc
        rw [if_pos (nI_le (Nat.le_refl _) (by omega)), Nat.sub_self, if_pos (show fst0 (fun m => decide (q.nm m = ls)) 0 q.n = q.n from rfl)]
        rfl
      · have gk := gn k (by omega)
        have hbk := e27_b gk.1 gk.2
        have ef : fst0 (fun m => decide (q.nm m = ls)) (q.n - k) k = if q.nm k = ls then k else fst0 (fun m => decide (q.nm m = ls)) (q.n - (k + 1)) (k + 1) := by
          rw [show q.n - k = (q.n - (k + 1)) + 1 by omega, fst0]
          by_cases z : q.nm k = ls <;> simp [z]
        rw [if_neg (nI_ge (by omega) (by omega)), rdL_n (by omega) (by omega), Option.bind_some, h2 k (by omega), hG, ef]
        by_cases e : q.nm k = ls
        · rw [if_pos ((lg_cmp_eq _ _).mpr (by rw [e])), if_pos e, if_neg hc, pk_sub (by omega), show 7 * r + k - 7 * r = k by omega]
          rfl
        · rw [if_neg (fun z => e (e27_inj (q.nm k).length _ _ rfl gk.1 hw'.1 ((pk_lEQ (by omega) (by omega)).mp ((lg_cmp_eq _ _).mp z)))), if_neg e, show nI (7 * r + k) + 1 = nI (7 * r + (k + 1)) from nI_1 _]
          exact ih (k + 1) (by omega) (by omega)
  unfold gX10_matterNamed nmF
  rw [show (7 : Int32) * nI r = nI (7 * r + 0) from pk_mul 7 r]
  exact key N 0 (by omega) (by omega)
theorem oI_lt {b : Option Nat} (h : ∀ j, b = some j → j < 2 ^ 31) : (oI b < 0) ↔ b = none := by
  cases b with
  | none => exact ⟨fun _ => rfl, fun _ => by decide⟩
  | some j => exact ⟨fun z => absurd z (nI_pos (h j rfl)), fun z => by cases z⟩
theorem mo_mat (ht : GoodT tp) (hN : 1000 < N) (h : MC V tp a) (ha : a ≤ tp.length) {r : Nat} (hr : r ≤ 1) (hq : NmM V r q) (gn : GoodN q) : tot (gX10_needsMatter N (nI r) V) (fun u => MO V tp (sMat tp q (a, 0)) u ∧ ((sMat tp q (a, 0)).2 = 0 → u.2.F 137 33 = oI (nmF q (woN tp a)) ∧ nmF q (woN tp a) ≠ none)) := by
  unfold gX10_needsMatter sMat
  rw [if_pos rfl, m_kept h ha, Option.bind_some]
  dsimp only
  have hn := hq.1
  by_cases e : nmB tp a = true
  · have t2 : tyN tp a = 2 := (of_decide_eq_true e).1
    have hw := wo_W t2 ha
    rw [if_pos e, if_pos e, if_pos (by rfl), m_find hN hr hq gn hw (h.2.2.2.2.2 t2), Option.bind_some]
    dsimp only
    rw [Option.bind_some, show (wF V 137 33 (oI (nmF q (woN tp a)))).F 137 33 = oI (nmF q (woN tp a)) by rw [wF_F, if_pos ⟨rfl, rfl⟩]]
    have f1 : mwn V (wF V 137 33 (oI (nmF q (woN tp a)))) := mwn_F _ (by omega)
    have h1 : MC (wF V 137 33 (oI (nmF q (woN tp a)))) tp a := h.cg rfl (fun k _ _ => by rw [wF_F, if_neg (by omega)]) rfl
    have m0 := oI_0 (b := nmF q (woN tp a)) (fun j hj => by have := nmF_lt hj; omega)
    by_cases e2 : nmF q (woN tp a) = none
    · rw [if_neg (fun z => m0.mp z e2), if_pos e2, show (2 : Int32) = nI 2 from rfl, m_fails h1, Option.bind_some]
      dsimp only
      rw [if_pos (by rfl)]
      refine tot_some ⟨⟨ha, fun _ => ⟨rfl, by rw [wF_F, if_pos ⟨rfl, rfl⟩]⟩, fun z => ?_, f1.trans (mwn_F _ (by omega))⟩, fun z => ?_⟩
      · have z : 2 + 16 * plN tp a = 0 := z
        omega
      · have z : 2 + 16 * plN tp a = 0 := z
        omega
    · rw [if_pos (m0.mpr e2), if_neg e2]
      exact tot_some ⟨⟨ha, fun z => absurd rfl z, fun _ => ⟨rfl, h1⟩, f1⟩, fun _ => ⟨by rw [wF_F, if_pos ⟨rfl, rfl⟩], e2⟩⟩
  · rw [if_neg e, if_neg e, if_neg (by decide)]
    exact tot_mo (MO.bad (k := 1) h ha (by omega) rfl) (fun r hr => ⟨hr, fun z => by have z : 1 + 16 * plN tp a = 0 := z; omega⟩)
end POpsM
