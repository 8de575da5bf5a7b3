/-! PURE: the model's tokens. -/
def mty (t : Nat) : Nat := if t = 0 then 0 else if t = 1 then 4 else if t = 2 then 1 else if t = 3 then 2 else 3
def SzM (V : VT) (tp : List Nat) : Prop := V.F 137 3 = nI tp.length ∧ ∀ i, i < tp.length → V.A 138 i = nI (tp.getD i 0)
/-- the model looks at the token found from a on -/
def MC (V : VT) (tp : List Nat) (a : Nat) : Prop := SzM V tp ∧ V.F 137 4 = nI (enN tp a) ∧ V.F 137 5 = nI (plN tp a) ∧ V.F 137 6 = nI (mty (tyN tp a)) ∧ (tyN tp a = 3 → V.F 137 8 = nI (nuN tp a)) ∧ (tyN tp a = 2 → V.G 137 7 = lN (e27 (woN tp a)))
def mwf (V W : VT) : Prop := W.A = V.A ∧ W.L = V.L ∧ ∀ i k, ¬ (i = 137 ∧ 4 ≤ k ∧ k ≤ 8) → W.F i k = V.F i k
theorem mwf.rf {V : VT} : mwf V V := ⟨rfl, rfl, fun _ _ _ => rfl⟩
theorem mwf.trans {V W X : VT} (h : mwf V W) (k : mwf W X) : mwf V X := ⟨k.1.trans h.1, k.2.1.trans h.2.1, fun i j hij => (k.2.2 i j hij).trans (h.2.2 i j hij)⟩
theorem mwf_F {V : VT} {k : Nat} (x : Int32) (h : 4 ≤ k ∧ k ≤ 8) : mwf V (wF V 137 k x) := ⟨rfl, rfl, fun i j hij => by rw [wF_F, if_neg (fun q => hij (by omega))]⟩
theorem mwf_G {V : VT} (x : Int64) : mwf V (wG V 137 7 x) := ⟨rfl, rfl, fun _ _ _ => rfl⟩
theorem SzM.mw {V W : VT} {tp : List Nat} (h : SzM V tp) (f : mwf V W) : SzM W tp := by
  unfold SzM
  rw [f.1, f.2.2 137 3 (by omega)]
  exact h
section PLexM
variable {V W : VT} {tp : List Nat} {a b c N : Nat}
theorem m_sg (h : SzM V tp) (ht : GoodT tp) {i : Nat} (hi : i ≤ 1000) : gX10_signAt (nI i) V = some (nI (tp.getD i 0), V) := by
  have hl := ht.1
  unfold gX10_signAt
  rw [h.1]
  by_cases hc : tp.length ≤ i
  · rw [if_pos (nI_le hc (by omega)), List.getD_eq_getElem?_getD, List.getElem?_eq_none hc]
    rfl
  · rw [if_neg (nI_ge (by omega) (by omega)), rdA_n (by omega) (by omega), Option.bind_some, h.2 i (by omega)]
theorem lt_in {f : Nat → Bool} {j : Nat} (hf : f 0 = false) (e : f (tp.getD j 0) = true) : j < tp.length := by
  refine Classical.byContradiction (fun q => ?_)
  rw [List.getD_eq_getElem?_getD, List.getElem?_eq_none (by omega)] at e
  have e : f 0 = true := e
  rw [hf] at e
  cases e
theorem m_word (ht : GoodT tp) (hN : 1000 < N) (hb : b ≤ tp.length) : ∀ (w j : Nat) (V : VT), b ≤ j → j ≤ tp.length → tp.length - j < w → SzM V tp → V.F 137 4 = nI j → V.F 137 5 = nI b → (j - b ≤ 8 → V.G 137 7 = lN (e27 (ltN tp b j))) →
    tot (gX10_nextToken_b109 N w V) (fun W => W.F 137 4 = nI (rn lB tp j) ∧ W.F 137 5 = nI b ∧ W.F 137 6 = nI (if rn lB tp j - b ≤ 8 then 1 else 4) ∧ (rn lB tp j - b ≤ 8 → W.G 137 7 = lN (e27 (ltN tp b (rn lB tp j)))) ∧ mwf V W) := by
  have hl := ht.1
  intro w
  induction w with
  | zero => intro j V _ _ h; omega
  | succ w ih =>
    intro j V hbj hj hw hT h2 h3 hG
    have fin : rn lB tp j = j → tot (gX10_nextToken_b188 N V) (fun W => W.F 137 4 = nI (rn lB tp j) ∧ W.F 137 5 = nI b ∧ W.F 137 6 = nI (if rn lB tp j - b ≤ 8 then 1 else 4) ∧ (rn lB tp j - b ≤ 8 → W.G 137 7 = lN (e27 (ltN tp b (rn lB tp j)))) ∧ mwf V W) := by
      intro e
      rw [e]
      have b91 : ∀ x : Nat, x = (if j - b ≤ 8 then 1 else 4) → tot (gX10_nextToken_b208 N (nI x) V) (fun W => W.F 137 4 = nI j ∧ W.F 137 5 = nI b ∧ W.F 137 6 = nI (if j - b ≤ 8 then 1 else 4) ∧ (j - b ≤ 8 → W.G 137 7 = lN (e27 (ltN tp b j))) ∧ mwf V W) := by
        intro x hx
        unfold gX10_nextToken_b208
        rw [Option.bind_some]
        refine tot_some ⟨?_, ?_, ?_, ?_, mwf_F _ (by omega)⟩
        · try simp (disch := omega) only [wA_A, wF_F, wA_F, wF_A, wA_L, wF_L, wA_G, wF_G, true_and, and_true, and_self, if_true, if_false, if_pos, if_neg]
          exact h2
        · try simp (disch := omega) only [wA_A, wF_F, wA_F, wF_A, wA_L, wF_L, wA_G, wF_G, true_and, and_true, and_self, if_true, if_false, if_pos, if_neg]
          exact h3
        · rw [← hx]
          try simp (disch := omega) only [wA_A, wF_F, wA_F, wF_A, wA_L, wF_L, wA_G, wF_G, true_and, and_true, and_self, if_true, if_false, if_pos, if_neg]
        · exact hG
      unfold gX10_nextToken_b188
      rw [h2, h3, pk_sub hbj]
      by_cases h8 : j - b ≤ 8
      · rw [if_pos (show nI (j - b) ≤ 8 from nI_le (b := 8) h8 (by omega))]
        exact b91 1 (by rw [if_pos h8])
      · rw [if_neg (show ¬ nI (j - b) ≤ 8 from nI_ge (a := 8) (by omega) (by omega))]
        exact b91 4 (by rw [if_neg h8])
    unfold gX10_nextToken_b109
    have hx := gt_lt ht j
    rw [h2, m_sg hT ht (by omega), Option.bind_some]
    dsimp only
    by_cases c1 : tp.getD j 0 < 97
    · rw [if_pos (show nI (tp.getD j 0) < 97 from nI_lt (b := 97) c1 (by omega))]
      exact fin (rn_f (fun q => by have := of_decide_eq_true q; omega))
    rw [if_neg (show ¬ nI (tp.getD j 0) < 97 from nI_nlt (b := 97) (by omega) (by omega)), h2, m_sg hT ht (by omega), Option.bind_some]
    dsimp only
    by_cases c2 : 122 < tp.getD j 0
    · rw [if_pos (show (122 : Int32) < nI (tp.getD j 0) from nI_lt (a := 122) c2 (by omega))]
      exact fin (rn_f (fun q => by have := of_decide_eq_true q; omega))
    rw [if_neg (show ¬ (122 : Int32) < nI (tp.getD j 0) from nI_nlt (a := 122) (by omega) (by omega)), h2, h3, pk_sub hbj]
    have e : lB (tp.getD j 0) = true := decide_eq_true (by omega)
    have hjl : j < tp.length := lt_in (by decide) e
    rw [rn_t hjl e]
    have go : ∀ (X : VT), mwf V X → X.F 137 4 = nI j → X.F 137 5 = nI b → (j + 1 - b ≤ 8 → X.G 137 7 = lN (e27 (ltN tp b (j + 1)))) → tot (gX10_nextToken_b175 N (gX10_nextToken_b109 N w) X) (fun W => W.F 137 4 = nI (rn lB tp (j + 1)) ∧ W.F 137 5 = nI b ∧ W.F 137 6 = nI (if rn lB tp (j + 1) - b ≤ 8 then 1 else 4) ∧ (rn lB tp (j + 1) - b ≤ 8 → W.G 137 7 = lN (e27 (ltN tp b (rn lB tp (j + 1))))) ∧ mwf V W) := by
      intro X fX x4 x5 xG
      unfold gX10_nextToken_b175
      rw [x4, Option.bind_some, show nI j + 1 = nI (j + 1) from nI_1 j]
      have f2 : mwf V (wF X 137 4 (nI (j + 1))) := fX.trans (mwf_F _ (by omega))
      refine tot_mo (ih (j + 1) _ (by omega) (by omega) (by omega) (hT.mw f2) (by rw [wF_F, if_pos ⟨rfl, rfl⟩]) ?_ xG) (fun W hW => ⟨hW.1, hW.2.1, hW.2.2.1, hW.2.2.2.1, f2.trans hW.2.2.2.2⟩)
      rw [wF_F, if_neg (by omega)]
      exact x5
    by_cases c8 : 8 ≤ j - b
    · rw [if_pos (show (8 : Int32) ≤ nI (j - b) from nI_le (a := 8) c8 (by omega))]
      exact go V mwf.rf h2 h3 (fun q => by omega)
    · rw [if_neg (show ¬ (8 : Int32) ≤ nI (j - b) from nI_ge (b := 8) (by omega) (by omega)), m_sg hT ht (by omega), Option.bind_some, Option.bind_some]
      dsimp only
      rw [hG (by omega), nI_l (by omega), show (27 : Int64) = lN 27 from rfl, show (96 : Int64) = lN 96 from rfl, lN_mul, lN_add, lN_sub (by omega), show e27 (ltN tp b j) * 27 + tp.getD j 0 - 96 = e27 (ltN tp b j) * 27 + (tp.getD j 0 - 96) by omega, ← e27_app, ← ltN_s hbj hjl]
      exact go _ (mwf_G _) h2 h3 (fun _ => wG_G _ _ _ _)
theorem m_num (ht : GoodT tp) (hN : 1000 < N) (hb : b ≤ tp.length) : ∀ (w j : Nat) (V : VT), b ≤ j → j ≤ tp.length → tp.length - j < w → SzM V tp → V.F 137 4 = nI j → V.F 137 5 = nI b → (j - b ≤ 4 → V.F 137 8 = nI (dvN (sbN tp b j))) →
    tot (gX10_nextToken_b224 N w V) (fun W => W.F 137 4 = nI (rn dgB tp j) ∧ W.F 137 5 = nI b ∧ W.F 137 6 = nI (if rn dgB tp j - b ≤ 4 then 2 else 4) ∧ (rn dgB tp j - b ≤ 4 → W.F 137 8 = nI (dvN (sbN tp b (rn dgB tp j)))) ∧ mwf V W) := by
  have hl := ht.1
  intro w
  induction w with
  | zero => intro j V _ _ h; omega
  | succ w ih =>
    intro j V hbj hj hw hT h2 h3 hG
    have fin : rn dgB tp j = j → tot (gX10_nextToken_b299 N V) (fun W => W.F 137 4 = nI (rn dgB tp j) ∧ W.F 137 5 = nI b ∧ W.F 137 6 = nI (if rn dgB tp j - b ≤ 4 then 2 else 4) ∧ (rn dgB tp j - b ≤ 4 → W.F 137 8 = nI (dvN (sbN tp b (rn dgB tp j)))) ∧ mwf V W) := by
      intro e
      rw [e]
      have b91 : ∀ x : Nat, x = (if j - b ≤ 4 then 2 else 4) → tot (gX10_nextToken_b318 N (nI x) V) (fun W => W.F 137 4 = nI j ∧ W.F 137 5 = nI b ∧ W.F 137 6 = nI (if j - b ≤ 4 then 2 else 4) ∧ (j - b ≤ 4 → W.F 137 8 = nI (dvN (sbN tp b j))) ∧ mwf V W) := by
        intro x hx
        unfold gX10_nextToken_b318
        rw [Option.bind_some]
        refine tot_some ⟨?_, ?_, ?_, fun q => ?_, mwf_F _ (by omega)⟩
        · try simp (disch := omega) only [wA_A, wF_F, wA_F, wF_A, wA_L, wF_L, wA_G, wF_G, true_and, and_true, and_self, if_true, if_false, if_pos, if_neg]
          exact h2
        · try simp (disch := omega) only [wA_A, wF_F, wA_F, wF_A, wA_L, wF_L, wA_G, wF_G, true_and, and_true, and_self, if_true, if_false, if_pos, if_neg]
          exact h3
        · rw [← hx]
          try simp (disch := omega) only [wA_A, wF_F, wA_F, wF_A, wA_L, wF_L, wA_G, wF_G, true_and, and_true, and_self, if_true, if_false, if_pos, if_neg]
        · try simp (disch := omega) only [wA_A, wF_F, wA_F, wF_A, wA_L, wF_L, wA_G, wF_G, true_and, and_true, and_self, if_true, if_false, if_pos, if_neg]
          exact hG q
      unfold gX10_nextToken_b299
      rw [h2, h3, pk_sub hbj]
      by_cases h8 : j - b ≤ 4
      · rw [if_pos (show nI (j - b) ≤ 4 from nI_le (b := 4) h8 (by omega))]
        exact b91 2 (by rw [if_pos h8])
      · rw [if_neg (show ¬ nI (j - b) ≤ 4 from nI_ge (a := 4) (by omega) (by omega))]
        exact b91 4 (by rw [if_neg h8])
    unfold gX10_nextToken_b224
    have hx := gt_lt ht j
    rw [h2, m_sg hT ht (by omega), Option.bind_some]
    dsimp only
    by_cases c1 : tp.getD j 0 < 48
    · rw [if_pos (show nI (tp.getD j 0) < 48 from nI_lt (b := 48) c1 (by omega))]
      exact fin (rn_f (fun q => by have := of_decide_eq_true q; omega))
    rw [if_neg (show ¬ nI (tp.getD j 0) < 48 from nI_nlt (b := 48) (by omega) (by omega)), h2, m_sg hT ht (by omega), Option.bind_some]
    dsimp only
    by_cases c2 : 57 < tp.getD j 0
    · rw [if_pos (show (57 : Int32) < nI (tp.getD j 0) from nI_lt (a := 57) c2 (by omega))]
      exact fin (rn_f (fun q => by have := of_decide_eq_true q; omega))
    rw [if_neg (show ¬ (57 : Int32) < nI (tp.getD j 0) from nI_nlt (a := 57) (by omega) (by omega)), h2, h3, pk_sub hbj]
    have e : dgB (tp.getD j 0) = true := decide_eq_true (by omega)
    have hjl : j < tp.length := lt_in (by decide) e
    rw [rn_t hjl e]
    have go : ∀ (X : VT), mwf V X → X.F 137 4 = nI j → X.F 137 5 = nI b → (j + 1 - b ≤ 4 → X.F 137 8 = nI (dvN (sbN tp b (j + 1)))) → tot (gX10_nextToken_b286 N (gX10_nextToken_b224 N w) X) (fun W => W.F 137 4 = nI (rn dgB tp (j + 1)) ∧ W.F 137 5 = nI b ∧ W.F 137 6 = nI (if rn dgB tp (j + 1) - b ≤ 4 then 2 else 4) ∧ (rn dgB tp (j + 1) - b ≤ 4 → W.F 137 8 = nI (dvN (sbN tp b (rn dgB tp (j + 1))))) ∧ mwf V W) := by
      intro X fX x4 x5 xG
      unfold gX10_nextToken_b286
      rw [x4, Option.bind_some, show nI j + 1 = nI (j + 1) from nI_1 j]
      have f2 : mwf V (wF X 137 4 (nI (j + 1))) := fX.trans (mwf_F _ (by omega))
      refine tot_mo (ih (j + 1) _ (by omega) (by omega) (by omega) (hT.mw f2) (by rw [wF_F, if_pos ⟨rfl, rfl⟩]) ?_ ?_) (fun W hW => ⟨hW.1, hW.2.1, hW.2.2.1, hW.2.2.2.1, f2.trans hW.2.2.2.2⟩)
      · rw [wF_F, if_neg (by omega)]
        exact x5
      · intro q
        rw [wF_F, if_neg (by omega)]
        exact xG q
    by_cases c8 : 4 ≤ j - b
    · rw [if_pos (show (4 : Int32) ≤ nI (j - b) from nI_le (a := 4) c8 (by omega))]
      exact go V mwf.rf h2 h3 (fun q => by omega)
    · rw [if_neg (show ¬ (4 : Int32) ≤ nI (j - b) from nI_ge (b := 4) (by omega) (by omega)), m_sg hT ht (by omega), Option.bind_some, Option.bind_some]
      dsimp only
      rw [hG (by omega), show (10 : Int32) = nI 10 from rfl, show (48 : Int32) = nI 48 from rfl, pk_mul, nI_add, pk_sub (by omega), show dvN (sbN tp b j) * 10 + tp.getD j 0 - 48 = dvN (sbN tp b j) * 10 + (tp.getD j 0 - 48) by omega, ← dv_s hbj hjl]
      exact go _ (mwf_F _ (by omega)) (by rw [wF_F, if_neg (by omega)]; exact h2) (by rw [wF_F, if_neg (by omega)]; exact h3) (fun _ => by rw [wF_F, if_pos ⟨rfl, rfl⟩])
theorem m_next0 (ht : GoodT tp) (hN : 1000 < N) (hT : SzM V tp) (ha : a ≤ tp.length) (h2 : V.F 137 4 = nI a) : tot (gX10_nextToken N V) (fun W => MC W tp a ∧ mwf V W) := by
  have hl := ht.1
  have main : ∀ (V1 : VT), SzM V1 tp → V1.F 137 4 = nI (plN tp a) → tot (gX10_nextToken_b52 N V1) (fun W => MC W tp a ∧ mwf V1 W) := by
    intro V1 hT1 h21
    have hp := pl_le ha
    generalize hb : plN tp a = b at h21 hp
    have ety : tyN tp a = tyB tp b := by unfold tyN; rw [hb]
    have een : enN tp a = enB tp b := by unfold enN; rw [hb]
    have ewo : woN tp a = ltN tp b (enB tp b) := by unfold woN; rw [hb, een]
    have enu : nuN tp a = dvN (sbN tp b (enB tp b)) := by unfold nuN; rw [hb, een]
    unfold gX10_nextToken_b52
    rw [Option.bind_some, Option.bind_some, Option.bind_some]
    generalize hV2 : wF (wG (wF V1 137 5 (V1.F 137 4)) 137 7 0) 137 8 0 = V2
    have f2 : mwf V1 V2 := by
      rw [← hV2]
      exact ((mwf_F _ (by omega)).trans (mwf_G _)).trans (mwf_F _ (by omega))
    have hT2 := hT1.mw f2
    have e2 : V2.F 137 4 = nI b := by
      rw [← hV2, wF_F, if_neg (by omega)]
      show (wF V1 137 5 (V1.F 137 4)).F 137 4 = nI b
      rw [wF_F, if_neg (by omega)]
      exact h21
    have e3 : V2.F 137 5 = nI b := by
      rw [← hV2, wF_F, if_neg (by omega)]
      show (wF V1 137 5 (V1.F 137 4)).F 137 5 = nI b
      rw [wF_F, if_pos ⟨rfl, rfl⟩]
      exact h21
    have e7 : V2.G 137 7 = lN 0 := by
      rw [← hV2, wF_G]
      exact wG_G _ _ _ _
    have e8 : V2.F 137 8 = nI 0 := by rw [← hV2, wF_F, if_pos ⟨rfl, rfl⟩]; rfl
    rw [e2, hT2.1]
    by_cases hc : tp.length ≤ b
    · have t0 : tyB tp b = 0 := if_pos hc
      have n0 : enB tp b = b := if_pos hc
      rw [if_pos (by rw [show b = tp.length by omega]), Option.bind_some]
      refine tot_some ⟨⟨hT2.mw (mwf_F _ (by omega)), ?_, ?_, ?_, fun q => ?_, fun q => ?_⟩, f2.trans (mwf_F _ (by omega))⟩
      · rw [een, n0]
        try simp (disch := omega) only [wA_A, wF_F, wA_F, wF_A, wA_L, wF_L, wA_G, wF_G, true_and, and_true, and_self, if_true, if_false, if_pos, if_neg]
        exact e2
      · rw [hb]
        try simp (disch := omega) only [wA_A, wF_F, wA_F, wF_A, wA_L, wF_L, wA_G, wF_G, true_and, and_true, and_self, if_true, if_false, if_pos, if_neg]
        exact e3
      · rw [ety, t0]
        try simp (disch := omega) only [wA_A, wF_F, wA_F, wF_A, wA_L, wF_L, wA_G, wF_G, true_and, and_true, and_self, if_true, if_false, if_pos, if_neg]
        rfl
      · rw [ety, t0] at q
        omega
      · rw [ety, t0] at q
        omega
    have hx := gt_lt ht b
    rw [if_neg (show ¬ nI b = nI tp.length from nI_ne (by omega) (by omega) (by omega)), rdA_n (by omega) (by omega), Option.bind_some, hT2.2 b (by omega)]
    have nol : lB (tp.getD b 0) ≠ true → tot (gX10_nextToken_b212 N (nI (tp.getD b 0)) V2) (fun W => MC W tp a ∧ mwf V1 W) := by
      intro hL
      have nod : dgB (tp.getD b 0) ≠ true → tot (gX10_nextToken_b322 N (nI (tp.getD b 0)) V2) (fun W => MC W tp a ∧ mwf V1 W) := by
        intro hD
        have n0 : enB tp b = b + 1 := by unfold enB; rw [if_neg hc, if_neg hL, if_neg hD]
        unfold gX10_nextToken_b322
        rw [e2, Option.bind_some, show nI b + 1 = nI (b + 1) from nI_1 b]
        have f3 : mwf V1 (wF V2 137 4 (nI (b + 1))) := f2.trans (mwf_F _ (by omega))
        have fin : ∀ x t : Nat, tyB tp b = t → mty t = x → t ≠ 2 → t ≠ 3 → tot (gX10_nextToken_b368 N (nI x) (wF V2 137 4 (nI (b + 1)))) (fun W => MC W tp a ∧ mwf V1 W) := by
          intro x t t0 t1 t2 t3
          unfold gX10_nextToken_b368
          rw [Option.bind_some]
          refine tot_some ⟨⟨hT1.mw (f3.trans (mwf_F _ (by omega))), ?_, ?_, ?_, fun q => ?_, fun q => ?_⟩, f3.trans (mwf_F _ (by omega))⟩
          · rw [een, n0]
            try simp (disch := omega) only [wA_A, wF_F, wA_F, wF_A, wA_L, wF_L, wA_G, wF_G, true_and, and_true, and_self, if_true, if_false, if_pos, if_neg]
          · rw [hb]
            try simp (disch := omega) only [wA_A, wF_F, wA_F, wF_A, wA_L, wF_L, wA_G, wF_G, true_and, and_true, and_self, if_true, if_false, if_pos, if_neg]
            exact e3
          · rw [ety, t0, t1]
            try simp (disch := omega) only [wA_A, wF_F, wA_F, wF_A, wA_L, wF_L, wA_G, wF_G, true_and, and_true, and_self, if_true, if_false, if_pos, if_neg]
          · rw [ety, t0] at q
            omega
          · rw [ety, t0] at q
            omega
        have yes : gB (tp.getD b 0) = true → tot (gX10_nextToken_b363 N (wF V2 137 4 (nI (b + 1)))) (fun W => MC W tp a ∧ mwf V1 W) := by
          intro hG
          have hG2 := of_decide_eq_true hG
          unfold gX10_nextToken_b363
          refine fin 3 (tp.getD b 0) (by unfold tyB; rw [if_neg hc, if_neg hL, if_neg hD, if_pos hG]) ?_ (by omega) (by omega)
          unfold mty
          rw [if_neg (by omega), if_neg (by omega), if_neg (by omega), if_neg (by omega)]
        have no : gB (tp.getD b 0) ≠ true → tot (gX10_nextToken_b367 N (wF V2 137 4 (nI (b + 1)))) (fun W => MC W tp a ∧ mwf V1 W) := by
          intro hG
          unfold gX10_nextToken_b367
          exact fin 4 1 (by unfold tyB; rw [if_neg hc, if_neg hL, if_neg hD, if_neg hG]) rfl (by omega) (by omega)
        have gi : gB (tp.getD b 0) = true ↔ (tp.getD b 0 = 40 ∨ tp.getD b 0 = 41 ∨ tp.getD b 0 = 42 ∨ tp.getD b 0 = 43 ∨ tp.getD b 0 = 45 ∨ tp.getD b 0 = 59 ∨ tp.getD b 0 = 60 ∨ tp.getD b 0 = 61) := decide_eq_true_iff
        generalize tp.getD b 0 = x at *
        have b345 : (x < 40 ∨ 43 < x) → tot (gX10_nextToken_b345 N (nI x) (wF V2 137 4 (nI (b + 1)))) (fun W => MC W tp a ∧ mwf V1 W) := by
          intro hx2
          unfold gX10_nextToken_b345
          by_cases c1 : x = 45
          · rw [if_pos (by rw [c1]; rfl)]
            exact yes (gi.mpr (by omega))
          rw [if_neg (show ¬ nI x = 45 from nI_ne (b := 45) c1 (by omega) (by omega))]
          by_cases c2 : x < 59
          · rw [if_pos (show nI x < 59 from nI_lt (b := 59) c2 (by omega))]
            exact no (fun q => by have := gi.mp q; omega)
          rw [if_neg (show ¬ nI x < 59 from nI_nlt (b := 59) (by omega) (by omega))]
          by_cases c3 : 61 < x
          · rw [if_pos (show (61 : Int32) < nI x from nI_lt (a := 61) c3 (by omega))]
            exact no (fun q => by have := gi.mp q; omega)
          · rw [if_neg (show ¬ (61 : Int32) < nI x from nI_nlt (a := 61) (by omega) (by omega))]
            exact yes (gi.mpr (by omega))
        by_cases c1 : x < 40
        · rw [if_pos (show nI x < 40 from nI_lt (b := 40) c1 (by omega))]
          exact b345 (by omega)
        rw [if_neg (show ¬ nI x < 40 from nI_nlt (b := 40) (by omega) (by omega))]
        by_cases c2 : x ≤ 43
        · rw [if_pos (show nI x ≤ 43 from nI_le (b := 43) c2 (by omega))]
          exact yes (gi.mpr (by omega))
        · rw [if_neg (show ¬ nI x ≤ 43 from nI_ge (a := 43) (by omega) (by omega))]
          exact b345 (by omega)
      unfold gX10_nextToken_b212
      by_cases c1 : tp.getD b 0 < 48
      · rw [if_pos (show nI (tp.getD b 0) < 48 from nI_lt (b := 48) c1 (by omega))]
        exact nod (fun q => by have := of_decide_eq_true q; omega)
      rw [if_neg (show ¬ nI (tp.getD b 0) < 48 from nI_nlt (b := 48) (by omega) (by omega))]
      by_cases c2 : 57 < tp.getD b 0
      · rw [if_pos (show (57 : Int32) < nI (tp.getD b 0) from nI_lt (a := 57) c2 (by omega))]
        exact nod (fun q => by have := of_decide_eq_true q; omega)
      rw [if_neg (show ¬ (57 : Int32) < nI (tp.getD b 0) from nI_nlt (a := 57) (by omega) (by omega))]
      have hD : dgB (tp.getD b 0) = true := decide_eq_true (by omega)
      have t0 : tyB tp b = if rn dgB tp b - b ≤ 4 then 3 else 1 := by unfold tyB; rw [if_neg hc, if_neg hL, if_pos hD]
      have n0 : enB tp b = rn dgB tp b := by unfold enB; rw [if_neg hc, if_neg hL, if_pos hD]
      refine tot_mo (m_num ht hN hp.2 N b V2 (Nat.le_refl _) hp.2 (by omega) hT2 e2 e3 (fun _ => by rw [sb_0]; exact e8)) (fun W hW => ?_)
      obtain ⟨w1, w2, w3, w4, w6⟩ := hW
      refine ⟨⟨hT2.mw w6, by rw [een, n0]; exact w1, by rw [hb]; exact w2, ?_, fun q => ?_, fun q => ?_⟩, f2.trans w6⟩
      · rw [ety, t0, w3]
        split <;> rfl
      · rw [enu, n0]
        refine w4 ?_
        rw [ety, t0] at q
        split at q <;> omega
      · rw [ety, t0] at q
        split at q <;> omega
    by_cases c1 : tp.getD b 0 < 97
    · rw [if_pos (show nI (tp.getD b 0) < 97 from nI_lt (b := 97) c1 (by omega))]
      exact nol (fun q => by have := of_decide_eq_true q; omega)
    rw [if_neg (show ¬ nI (tp.getD b 0) < 97 from nI_nlt (b := 97) (by omega) (by omega))]
    by_cases c2 : 122 < tp.getD b 0
    · rw [if_pos (show (122 : Int32) < nI (tp.getD b 0) from nI_lt (a := 122) c2 (by omega))]
      exact nol (fun q => by have := of_decide_eq_true q; omega)
    rw [if_neg (show ¬ (122 : Int32) < nI (tp.getD b 0) from nI_nlt (a := 122) (by omega) (by omega))]
    have hL : lB (tp.getD b 0) = true := decide_eq_true (by omega)
    have t0 : tyB tp b = if rn lB tp b - b ≤ 8 then 2 else 1 := by unfold tyB; rw [if_neg hc, if_pos hL]
    have n0 : enB tp b = rn lB tp b := by unfold enB; rw [if_neg hc, if_pos hL]
    refine tot_mo (m_word ht hN hp.2 N b V2 (Nat.le_refl _) hp.2 (by omega) hT2 e2 e3 (fun _ => by unfold ltN; rw [sb_0]; exact e7)) (fun W hW => ?_)
    obtain ⟨w1, w2, w3, w4, w6⟩ := hW
    refine ⟨⟨hT2.mw w6, by rw [een, n0]; exact w1, by rw [hb]; exact w2, ?_, fun q => ?_, fun q => ?_⟩, f2.trans w6⟩
    · rw [ety, t0, w3]
      split <;> rfl
    · rw [ety, t0] at q
      split at q <;> omega
    · rw [ewo, n0]
      refine w4 ?_
      rw [ety, t0] at q
      split at q <;> omega
  have key : ∀ (w j : Nat) (V1 : VT), j ≤ tp.length → tp.length - j < w → plN tp j = plN tp a → SzM V1 tp → V1.F 137 4 = nI j → tot (gX10_nextToken_b0 N w V1) (fun W => MC W tp a ∧ mwf V1 W) := by
    intro w
    induction w with
    | zero => intro j V1 _ h; omega
    | succ w ih =>
      intro j V1 hj hw hpl hT1 h21
      unfold gX10_nextToken_b0
      rw [hT1.1, h21]
      by_cases hc : tp.length ≤ j
      · rw [if_pos (nI_le hc (by omega))]
        refine main V1 hT1 ?_
        rw [← hpl, h21, show plN tp j = j from rn_e hc]
      · have hx := gt_lt ht j
        rw [if_neg (nI_ge (by omega) (by omega)), rdA_n (by omega) (by omega), Option.bind_some, Option.bind_some, hT1.2 j (by omega)]
        have go : bB (tp.getD j 0) = true → tot (gX10_nextToken_b39 N (gX10_nextToken_b0 N w) V1) (fun W => MC W tp a ∧ mwf V1 W) := by
          intro q
          unfold gX10_nextToken_b39
          rw [h21, Option.bind_some, show nI j + 1 = nI (j + 1) from nI_1 j]
          have f1 : mwf V1 (wF V1 137 4 (nI (j + 1))) := mwf_F _ (by omega)
          refine tot_mo (ih (j + 1) _ (by omega) (by omega) ?_ (hT1.mw f1) (by rw [wF_F, if_pos ⟨rfl, rfl⟩])) (fun W hW => ⟨hW.1, f1.trans hW.2⟩)
          rw [← hpl]
          exact (rn_t (by omega) q).symm
        by_cases e32 : tp.getD j 0 = 32
        · rw [if_pos (by rw [e32]; rfl)]
          exact go (by rw [e32]; decide)
        rw [if_neg (show ¬ nI (tp.getD j 0) = 32 from nI_ne (b := 32) e32 (by omega) (by omega))]
        by_cases e10 : tp.getD j 0 = 10
        · rw [if_pos (by rw [e10]; rfl)]
          exact go (by rw [e10]; decide)
        · rw [if_neg (show ¬ nI (tp.getD j 0) = 10 from nI_ne (b := 10) e10 (by omega) (by omega))]
          refine main V1 hT1 ?_
          rw [← hpl, h21, show plN tp j = j from rn_f (fun q => by have := of_decide_eq_true q; omega)]
  unfold gX10_nextToken
  exact key N a V ha (by omega) rfl hT h2
theorem m_next (ht : GoodT tp) (hN : 1000 < N) (ha : a ≤ tp.length) (h : MC V tp a) : tot (gX10_nextToken N V) (fun W => MC W tp (enN tp a) ∧ mwf V W) := m_next0 ht hN h.1 (en_le ha).2 h.2.1
end PLexM
