/-! PURE: the token that is found from a place on. -/
def rnk (f : Nat → Bool) (tp : List Nat) : Nat → Nat → Nat
  | 0, a => a
  | k + 1, a => if f (tp.getD a 0) = true then rnk f tp k (a + 1) else a
def rn (f : Nat → Bool) (tp : List Nat) (a : Nat) : Nat := rnk f tp (tp.length - a) a
section PRun
variable {f : Nat → Bool} {tp : List Nat} {a b j : Nat}
theorem rn_t (h : a < tp.length) (hf : f (tp.getD a 0) = true) : rn f tp a = rn f tp (a + 1) := by
  unfold rn
  rw [show tp.length - a = (tp.length - (a + 1)) + 1 by omega, rnk, if_pos hf]
theorem rn_f (hf : ¬ f (tp.getD a 0) = true) : rn f tp a = a := by
  unfold rn
  cases tp.length - a with
  | zero => rfl
  | succ k => rw [rnk, if_neg hf]
theorem rn_e (h : tp.length ≤ a) : rn f tp a = a := by
  unfold rn
  rw [show tp.length - a = 0 by omega]
  rfl
theorem rnk_b : ∀ k a, a ≤ rnk f tp k a ∧ rnk f tp k a ≤ a + k
  | 0, a => ⟨Nat.le_refl _, Nat.le_refl _⟩
  | k + 1, a => by
    have := rnk_b k (a + 1)
    rw [rnk]
    split <;> omega
theorem rn_ge : a ≤ rn f tp a := (rnk_b _ _).1
theorem rn_le (h : a ≤ tp.length) : rn f tp a ≤ tp.length := by
  have := (rnk_b (f := f) (tp := tp) (tp.length - a) a).2
  unfold rn
  omega
def bB (x : Nat) : Bool := decide (x = 32 ∨ x = 10)
def lB (x : Nat) : Bool := decide (97 ≤ x ∧ x ≤ 122)
def dgB (x : Nat) : Bool := decide (48 ≤ x ∧ x ≤ 57)
def gB (x : Nat) : Bool := decide (x = 40 ∨ x = 41 ∨ x = 42 ∨ x = 43 ∨ x = 45 ∨ x = 59 ∨ x = 60 ∨ x = 61)
def plN (tp : List Nat) (a : Nat) : Nat := rn bB tp a
def tyB (tp : List Nat) (b : Nat) : Nat := if tp.length ≤ b then 0 else if lB (tp.getD b 0) = true then (if rn lB tp b - b ≤ 8 then 2 else 1) else if dgB (tp.getD b 0) = true then (if rn dgB tp b - b ≤ 4 then 3 else 1) else if gB (tp.getD b 0) = true then tp.getD b 0 else 1
def enB (tp : List Nat) (b : Nat) : Nat := if tp.length ≤ b then b else if lB (tp.getD b 0) = true then rn lB tp b else if dgB (tp.getD b 0) = true then rn dgB tp b else b + 1
def tyN (tp : List Nat) (a : Nat) : Nat := tyB tp (plN tp a)
def enN (tp : List Nat) (a : Nat) : Nat := enB tp (plN tp a)
def sbN (tp : List Nat) (b e : Nat) : List Nat := (tp.drop b).take (e - b)
def ltN (tp : List Nat) (b e : Nat) : List Nat := (sbN tp b e).map (fun x => x - 96)
def dvN (l : List Nat) : Nat := l.foldl (fun x d => x * 10 + (d - 48)) 0
def woN (tp : List Nat) (a : Nat) : List Nat := ltN tp (plN tp a) (enN tp a)
def nuN (tp : List Nat) (a : Nat) : Nat := dvN (sbN tp (plN tp a) (enN tp a))
theorem sb_0 : sbN tp b b = [] := by
  unfold sbN
  rw [Nat.sub_self]
  rfl
theorem sb_s (h : b ≤ j) (hj : j < tp.length) : sbN tp b (j + 1) = sbN tp b j ++ [tp.getD j 0] := by
  unfold sbN
  rw [show j + 1 - b = (j - b) + 1 by omega, List.take_succ, List.getElem?_drop, show b + (j - b) = j by omega, List.getD_eq_getElem?_getD, List.getElem?_eq_getElem hj]
  rfl
theorem ltN_s (h : b ≤ j) (hj : j < tp.length) : ltN tp b (j + 1) = ltN tp b j ++ [tp.getD j 0 - 96] := by
  unfold ltN
  rw [sb_s h hj, List.map_append]
  rfl
theorem dv_s (h : b ≤ j) (hj : j < tp.length) : dvN (sbN tp b (j + 1)) = dvN (sbN tp b j) * 10 + (tp.getD j 0 - 48) := by
  rw [sb_s h hj]
  unfold dvN
  rw [List.foldl_append]
  rfl
theorem sb_len (h : b ≤ j) (hj : j ≤ tp.length) : (sbN tp b j).length = j - b := by
  unfold sbN
  rw [List.length_take, List.length_drop]
  omega
theorem pl_le (h : a ≤ tp.length) : a ≤ plN tp a ∧ plN tp a ≤ tp.length := ⟨rn_ge, rn_le h⟩
theorem en_le (h : a ≤ tp.length) : plN tp a ≤ enN tp a ∧ enN tp a ≤ tp.length := by
  have h1 := pl_le h
  unfold enN enB
  split
  · omega
  · split
    · exact ⟨rn_ge, rn_le h1.2⟩
    · split
      · exact ⟨rn_ge, rn_le h1.2⟩
      · omega
/-- a token but the end takes a sign at least -/
theorem en_lt (ht : tyN tp a ≠ 0) : plN tp a < enN tp a ∧ plN tp a < tp.length := by
  unfold tyN tyB at ht
  by_cases h : tp.length ≤ plN tp a
  · rw [if_pos h] at ht
    exact absurd rfl ht
  · refine ⟨?_, by omega⟩
    unfold enN enB
    rw [if_neg h]
    split
    · rename_i q
      rw [rn_t (by omega) q]
      exact rn_ge
    · split
      · rename_i q
        rw [rn_t (by omega) q]
        exact rn_ge
      · omega
theorem en_0 (ht : tyN tp a = 0) (ha : a ≤ tp.length) (hg : ∀ i, i < tp.length → tp.getD i 0 ≠ 0) : plN tp a = tp.length ∧ enN tp a = tp.length := by
  have h1 := pl_le ha
  by_cases h : tp.length ≤ plN tp a
  · refine ⟨by omega, ?_⟩
    unfold enN enB
    rw [if_pos h]
    omega
  · unfold tyN tyB at ht
    rw [if_neg h] at ht
    have := hg (plN tp a) (by omega)
    repeat' split at ht
    all_goals omega
/-- letters of a run are letters -/
theorem run_f : ∀ k a i, a ≤ i → i < rnk f tp k a → f (tp.getD i 0) = true
  | 0, a, i, h1, h2 => by
    unfold rnk at h2
    omega
  | k + 1, a, i, h1, h2 => by
    rw [rnk] at h2
    by_cases e : f (tp.getD a 0) = true
    · rw [if_pos e] at h2
      by_cases e2 : i = a
      · rw [e2]
        exact e
      · exact run_f k (a + 1) i (by omega) h2
    · rw [if_neg e] at h2
      omega
theorem wo_W (ht : tyN tp a = 2) (ha : a ≤ tp.length) : isW (woN tp a) ∧ (woN tp a).length ≤ 8 := by
  have h0 := en_lt (tp := tp) (a := a) (by omega)
  have hp := pl_le ha
  have he := en_le ha
  unfold tyN tyB at ht
  rw [if_neg (by omega)] at ht
  by_cases hl : lB (tp.getD (plN tp a) 0) = true
  · rw [if_pos hl] at ht
    have ee : enN tp a = rn lB tp (plN tp a) := by
      unfold enN enB
      rw [if_neg (by omega), if_pos hl]
    constructor
    · intro d hd
      unfold woN ltN sbN at hd
      rw [List.mem_map] at hd
      obtain ⟨x, hx, rfl⟩ := hd
      rw [List.mem_iff_getElem?] at hx
      obtain ⟨i, hi⟩ := hx
      rw [List.getElem?_take] at hi
      split at hi
      · rw [List.getElem?_drop] at hi
        have hz : lB (tp.getD (plN tp a + i) 0) = true := run_f _ _ _ (by omega) (show plN tp a + i < rn lB tp (plN tp a) by omega)
        rw [List.getD_eq_getElem?_getD, hi] at hz
        unfold lB at hz
        have hz := of_decide_eq_true hz
        simp at hz
        omega
      · cases hi
    · unfold woN ltN
      rw [List.length_map, sb_len he.1 he.2, ee]
      split at ht <;> omega
  · rw [if_neg hl] at ht
    split at ht
    · split at ht <;> omega
    · split at ht
      · rename_i q
        unfold gB at q
        have q := of_decide_eq_true q
        omega
      · omega
theorem ty_sg (h4 : 4 ≤ tyN tp a) : gB (tyN tp a) = true ∧ tp.getD (plN tp a) 0 = tyN tp a := by
  unfold tyN tyB at h4 ⊢
  by_cases h1 : tp.length ≤ plN tp a
  · rw [if_pos h1] at h4
    omega
  rw [if_neg h1] at h4 ⊢
  by_cases h2 : lB (tp.getD (plN tp a) 0) = true
  · rw [if_pos h2] at h4
    split at h4 <;> omega
  rw [if_neg h2] at h4 ⊢
  by_cases h3 : dgB (tp.getD (plN tp a) 0) = true
  · rw [if_pos h3] at h4
    split at h4 <;> omega
  rw [if_neg h3] at h4 ⊢
  by_cases h5 : gB (tp.getD (plN tp a) 0) = true
  · rw [if_pos h5]
    exact ⟨h5, rfl⟩
  · rw [if_neg h5] at h4
    omega
theorem ty_lt (ht : GoodT tp) : tyN tp a ≤ 126 := by
  unfold tyN tyB
  split
  · omega
  · split
    · split <;> omega
    · split
      · split <;> omega
      · split
        · have := ht.2 (plN tp a) (by omega)
          unfold gch at this
          omega
        · omega
end PRun
/-- but for the reader's own fields all is as it was -/
def rwf (V W : VT) : Prop := W.A = V.A ∧ W.L = V.L ∧ ∀ i k, ¬ (i = 3 ∧ 2 ≤ k ∧ k ≤ 7) → W.F i k = V.F i k
theorem rwf.rf {V : VT} : rwf V V := ⟨rfl, rfl, fun _ _ _ => rfl⟩
theorem rwf.trans {V W X : VT} (h : rwf V W) (k : rwf W X) : rwf V X := ⟨k.1.trans h.1, k.2.1.trans h.2.1, fun i j hij => (k.2.2 i j hij).trans (h.2.2 i j hij)⟩
theorem rwf_F {V : VT} {k : Nat} (x : Int32) (h : 2 ≤ k ∧ k ≤ 7) : rwf V (wF V 3 k x) := ⟨rfl, rfl, fun i j hij => by rw [wF_F, if_neg (fun q => hij (by omega))]⟩
theorem rwf_G {V : VT} (x : Int64) : rwf V (wG V 3 6 x) := ⟨rfl, rfl, fun _ _ _ => rfl⟩
theorem TpC.rw {V W : VT} {tp : List Nat} (h : TpC V tp) (f : rwf V W) : TpC W tp := by
  unfold TpC
  rw [f.1, f.2.2 3 1 (by omega)]
  exact h
section PLexC
variable {V W : VT} {tp : List Nat} {a b c N : Nat}
theorem c_sg (h : TpC V tp) (ht : GoodT tp) {i : Nat} (hi : i ≤ 1000) : gX6_signAt (nI i) V = some (nI (tp.getD i 0), V) := by
  have hl := ht.1
  unfold gX6_signAt
  rw [if_neg (nI_pos (by omega)), h.1]
  by_cases hc : tp.length ≤ i
  · rw [if_pos (nI_le hc (by omega)), List.getD_eq_getElem?_getD, List.getElem?_eq_none hc]
    rfl
  · rw [if_neg (nI_ge (by omega) (by omega)), if_neg (show ¬ (1000 : Int32) ≤ nI i from nI_ge (b := 1000) (by omega) (by omega)), rdA_n (by omega) (by omega), Option.bind_some, h.2 i (by omega)]
theorem gt_lt (ht : GoodT tp) (i : Nat) : tp.getD i 0 ≤ 126 := by
  by_cases h : i < tp.length
  · have := ht.2 i h
    unfold gch at this
    omega
  · rw [List.getD_eq_getElem?_getD, List.getElem?_eq_none (by omega)]
    simp
theorem c_isL {x : Nat} (hx : x ≤ 126) : gX6_isLetter (nI x) V = some (nI (if lB x = true then 1 else 0), V) := by
  unfold gX6_isLetter lB
  by_cases h1 : x < 97
  · rw [if_pos (show nI x < 97 from nI_lt (b := 97) h1 (by omega)), if_neg (by simp; omega)]
    rfl
  · rw [if_neg (show ¬ nI x < 97 from nI_nlt (b := 97) (by omega) (by omega))]
    by_cases h2 : 122 < x
    · rw [if_pos (show (122 : Int32) < nI x from nI_lt (a := 122) h2 (by omega)), if_neg (by simp; omega)]
      rfl
    · rw [if_neg (show ¬ (122 : Int32) < nI x from nI_nlt (a := 122) (by omega) (by omega)), if_pos (by simp; omega)]
      rfl
theorem c_isD {x : Nat} (hx : x ≤ 126) : gX6_isDigit (nI x) V = some (nI (if dgB x = true then 1 else 0), V) := by
  unfold gX6_isDigit dgB
  by_cases h1 : x < 48
  · rw [if_pos (show nI x < 48 from nI_lt (b := 48) h1 (by omega)), if_neg (by simp; omega)]
    rfl
  · rw [if_neg (show ¬ nI x < 48 from nI_nlt (b := 48) (by omega) (by omega))]
    by_cases h2 : 57 < x
    · rw [if_pos (show (57 : Int32) < nI x from nI_lt (a := 57) h2 (by omega)), if_neg (by simp; omega)]
      rfl
    · rw [if_neg (show ¬ (57 : Int32) < nI x from nI_nlt (a := 57) (by omega) (by omega)), if_pos (by simp; omega)]
      rfl
def gsI (v : Int32) : Int32 := ((gX6_isSign v bcV).map Prod.fst).getD 0
theorem it_pr {c : Prop} [Decidable c] {a b : Int32} {V : VT} : (if c then some (a, V) else some (b, V)) = some (if c then a else b, V) := by split <;> rfl
theorem gs_eq (v : Int32) (V : VT) : gX6_isSign v V = some (gsI v, V) := by
  unfold gsI gX6_isSign
  simp only [it_pr, Option.map_some, Option.getD_some]
theorem gs_key : ∀ x, x < 128 → gsI (nI x) = nI (if gB x = true then 1 else 0) := by decide +kernel
theorem c_isG {x : Nat} (hx : x ≤ 126) : gX6_isSign (nI x) V = some (nI (if gB x = true then 1 else 0), V) := by rw [gs_eq, gs_key x (by omega)]
theorem dr_c (l : List Nat) (i : Nat) (h : i < l.length) : l.drop i = l.getD i 0 :: l.drop (i + 1) := by
  rw [List.drop_eq_getElem_cons h, List.getD_eq_getElem?_getD, List.getElem?_eq_getElem h]
  rfl
theorem c_key (x : Int64) (hN : 1000 < N) : gX6_keyOf N x V = some (nI (kyI x), V) := by
  have hq : q_bytes.length = 116 := by decide +kernel
  have hs : sLen = nI 116 := by decide +kernel
  have ht : txtL.length = 116 := by decide +kernel
  have hb : ∀ i, i < 116 → txtL.getD i 0 ≤ 122 ∧ (txtL.getD i 0 = 32 ∨ 97 ≤ txtL.getD i 0) := by decide +kernel
  have hg : ∀ i, i < 116 → q_bytes.getD i 0 = nI (txtL.getD i 0) := by
    intro i hi
    rw [txt_ok, List.getD_eq_getElem?_getD, List.getElem?_map, List.getD_eq_getElem?_getD, List.getElem?_eq_getElem (by omega)]
    rfl
  have key : ∀ w i pl l, i ≤ 116 → 116 - i < w → gX6_keyOf_b7 N w x (nI pl) (lN l) (nI i) V = some (nI (kfI x (txtL.drop i) pl l), V) := by
    intro w
    induction w with
    | zero => intro i pl l _ h; omega
    | succ w ih =>
      intro i pl l hi hw
      unfold gX6_keyOf_b7
      rw [hs]
      by_cases hc : i = 116
      · subst hc
        rw [if_pos (nI_le (Nat.le_refl _) (by omega)), List.drop_eq_nil_of_le (by omega)]
        rfl
      · have hd : txtL.drop i = txtL.getD i 0 :: txtL.drop (i + 1) := by
          exact dr_c _ _ (by omega)
        have hbi := hb i (by omega)
        rw [if_neg (nI_ge (by omega) (by omega)), hd, kfI]
        unfold sAt
        rw [nI_clamp (by omega), hq, if_pos ⟨nI_pos (by omega), by omega⟩, Option.bind_some, hg i (by omega), show nI i + 1 = nI (i + 1) from nI_1 i]
        by_cases e : txtL.getD i 0 = 32
        · rw [if_pos (by rw [e]; rfl), if_pos e]
          by_cases e2 : lN l = x
          · rw [if_pos ((lg_cmp_eq _ _).mpr e2), if_pos e2]
          · rw [if_neg (fun q => e2 ((lg_cmp_eq _ _).mp q)), if_neg e2, show nI pl + 1 = nI (pl + 1) from nI_1 pl]
            exact ih (i + 1) (pl + 1) 0 (by omega) (by omega)
        · rw [if_neg (show ¬ nI (txtL.getD i 0) = 32 from nI_ne (b := 32) e (by omega) (by omega)), if_neg e, show (97 : Int32) = nI 97 from rfl, pk_sub (by omega), show nI (txtL.getD i 0 - 97) + 1 = nI (txtL.getD i 0 - 97 + 1) from nI_1 _, nI_l (by omega), show (32 : Int64) = lN 32 from rfl, lN_mul, lN_add, show txtL.getD i 0 - 97 + 1 = txtL.getD i 0 - 96 by omega]
          exact ih (i + 1) pl _ (by omega) (by omega)
  unfold gX6_keyOf
  have := key N 0 0 0 (by omega) (by omega)
  rw [List.drop_zero, kf_I] at this
  exact this
/-- the class looks at the token found from a on; the fault -/
def RC (V : VT) (tp : List Nat) (a f : Nat) : Prop := TpC V tp ∧ V.F 3 2 = nI (enN tp a) ∧ V.F 3 3 = nI (plN tp a) ∧ V.F 3 4 = nI (tyN tp a) ∧ (tyN tp a = 3 → V.F 3 5 = nI (nuN tp a)) ∧ (tyN tp a = 2 → V.G 3 6 = lN (e32 (woN tp a)) ∧ V.F 3 7 = nI (kyW (woN tp a))) ∧ V.F 3 8 = nI f
theorem c_word (ht : GoodT tp) (hN : 1000 < N) (hb : b ≤ tp.length) : ∀ (w j : Nat) (V : VT), b ≤ j → j ≤ tp.length → tp.length - j < w → TpC V tp → V.F 3 2 = nI j → V.F 3 3 = nI b → V.G 3 6 = lN (e32 (ltN tp b j)) →
    tot (gX6_readWord_b7 N w (nI (j - b)) V) (fun W => W.F 3 2 = nI (rn lB tp j) ∧ W.F 3 3 = nI b ∧ W.F 3 4 = nI (if rn lB tp j - b ≤ 8 then 2 else 1) ∧ W.G 3 6 = lN (e32 (ltN tp b (rn lB tp j))) ∧ W.F 3 7 = nI (kyI (lN (e32 (ltN tp b (rn lB tp j))))) ∧ rwf V W) := by
  have hl := ht.1
  intro w
  induction w with
  | zero => intro j V _ _ h; omega
  | succ w ih =>
    intro j V hbj hj hw hT h2 h3 hG
    have fin : rn lB tp j = j → tot (gX6_readWord_b71 N V) (fun W => W.F 3 2 = nI (rn lB tp j) ∧ W.F 3 3 = nI b ∧ W.F 3 4 = nI (if rn lB tp j - b ≤ 8 then 2 else 1) ∧ W.G 3 6 = lN (e32 (ltN tp b (rn lB tp j))) ∧ W.F 3 7 = nI (kyI (lN (e32 (ltN tp b (rn lB tp j))))) ∧ rwf V W) := by
      intro e
      rw [e]
      have b91 : ∀ x : Nat, x = (if j - b ≤ 8 then 2 else 1) → tot (gX6_readWord_b91 N (nI x) V) (fun W => W.F 3 2 = nI j ∧ W.F 3 3 = nI b ∧ W.F 3 4 = nI (if j - b ≤ 8 then 2 else 1) ∧ W.G 3 6 = lN (e32 (ltN tp b j)) ∧ W.F 3 7 = nI (kyI (lN (e32 (ltN tp b j)))) ∧ rwf V W) := by
        intro x hx
        unfold gX6_readWord_b91
        rw [Option.bind_some, wF_G, hG, c_key _ hN, Option.bind_some, Option.bind_some]
        refine tot_some ⟨?_, ?_, ?_, ?_, ?_, (rwf_F _ (by omega)).trans (rwf_F _ (by omega))⟩
        · try simp (disch := omega) only [wA_A, wF_F, wA_F, wF_A, wA_L, wF_L, wA_G, wF_G, true_and, and_true, and_self, if_true, if_false, if_pos, if_neg]
          exact h2
        · try simp (disch := omega) only [wA_A, wF_F, wA_F, wF_A, wA_L, wF_L, wA_G, wF_G, true_and, and_true, and_self, if_true, if_false, if_pos, if_neg]
          exact h3
        · rw [← hx]
          try simp (disch := omega) only [wA_A, wF_F, wA_F, wF_A, wA_L, wF_L, wA_G, wF_G, true_and, and_true, and_self, if_true, if_false, if_pos, if_neg]
        · exact hG
        · try simp (disch := omega) only [wA_A, wF_F, wA_F, wF_A, wA_L, wF_L, wA_G, wF_G, true_and, and_true, and_self, if_true, if_false, if_pos, if_neg]
      unfold gX6_readWord_b71
      rw [h2, h3, pk_sub hbj]
      by_cases h8 : j - b ≤ 8
      · rw [if_neg (show ¬ (8 : Int32) < nI (j - b) from nI_nlt (a := 8) h8 (by omega))]
        exact b91 2 (by rw [if_pos h8])
      · rw [if_pos (show (8 : Int32) < nI (j - b) from nI_lt (a := 8) (by omega) (by omega))]
        exact b91 1 (by rw [if_neg h8])
    unfold gX6_readWord_b7
    by_cases hc : 1000 ≤ j - b
    · rw [if_pos (show (1000 : Int32) ≤ nI (j - b) from nI_le (a := 1000) hc (by omega))]
      exact fin (rn_e (by omega))
    · rw [if_neg (show ¬ (1000 : Int32) ≤ nI (j - b) from nI_ge (b := 1000) (by omega) (by omega)), h2, c_sg hT ht (by omega), Option.bind_some, c_isL (gt_lt ht j), Option.bind_some]
      dsimp only
      by_cases e : lB (tp.getD j 0) = true
      · have hjl : j < tp.length := by
          refine Classical.byContradiction (fun q => ?_)
          rw [List.getD_eq_getElem?_getD, List.getElem?_eq_none (by omega)] at e
          exact absurd e (by decide)
        have hx : 97 ≤ tp.getD j 0 ∧ tp.getD j 0 ≤ 122 := of_decide_eq_true e
        rw [if_pos e, if_neg (by decide), h2, c_sg hT ht (by omega), Option.bind_some, Option.bind_some]
        dsimp only
        rw [hG, show (97 : Int32) = nI 97 from rfl, pk_sub (by omega), show nI (tp.getD j 0 - 97) + 1 = nI (tp.getD j 0 - 97 + 1) from nI_1 _, nI_l (by omega), show (32 : Int64) = lN 32 from rfl, lN_mul, lN_add, show tp.getD j 0 - 97 + 1 = tp.getD j 0 - 96 by omega, ← e32_app, ← ltN_s hbj hjl, show (wG V 3 6 (lN (e32 (ltN tp b (j + 1))))).F 3 2 = nI j from h2, Option.bind_some, show nI j + 1 = nI (j + 1) from nI_1 j, show nI (j - b) + 1 = nI (j + 1 - b) by rw [nI_1]; congr 1; omega]
        generalize hX : wF (wG V 3 6 (lN (e32 (ltN tp b (j + 1))))) 3 2 (nI (j + 1)) = X
        have fX : rwf V X := by
          rw [← hX]
          exact (rwf_G _).trans (rwf_F _ (by omega))
        rw [rn_t hjl e]
        refine tot_mo (ih (j + 1) X (by omega) (by omega) (by omega) (hT.rw fX) ?_ ?_ ?_) (fun W hW => ⟨hW.1, hW.2.1, hW.2.2.1, hW.2.2.2.1, hW.2.2.2.2.1, fX.trans hW.2.2.2.2.2⟩)
        · rw [← hX, wF_F, if_pos ⟨rfl, rfl⟩]
        · rw [← hX, wF_F, if_neg (by omega)]
          exact h3
        · rw [← hX, wF_G]
          exact wG_G _ _ _ _
      · rw [if_neg e, if_pos (by decide)]
        exact fin (rn_f e)
theorem c_num (ht : GoodT tp) (hN : 1000 < N) (hb : b ≤ tp.length) : ∀ (w j : Nat) (V : VT), b ≤ j → j ≤ tp.length → tp.length - j < w → TpC V tp → V.F 3 2 = nI j → V.F 3 3 = nI b → V.F 3 5 = nI (dvN (sbN tp b j)) →
    tot (gX6_readNumber_b7 N w (nI (j - b)) V) (fun W => W.F 3 2 = nI (rn dgB tp j) ∧ W.F 3 3 = nI b ∧ W.F 3 4 = nI (if rn dgB tp j - b ≤ 4 then 3 else 1) ∧ W.F 3 5 = nI (dvN (sbN tp b (rn dgB tp j))) ∧ rwf V W) := by
  have hl := ht.1
  intro w
  induction w with
  | zero => intro j V _ _ h; omega
  | succ w ih =>
    intro j V hbj hj hw hT h2 h3 hG
    have fin : rn dgB tp j = j → tot (gX6_readNumber_b67 N V) (fun W => W.F 3 2 = nI (rn dgB tp j) ∧ W.F 3 3 = nI b ∧ W.F 3 4 = nI (if rn dgB tp j - b ≤ 4 then 3 else 1) ∧ W.F 3 5 = nI (dvN (sbN tp b (rn dgB tp j))) ∧ rwf V W) := by
      intro e
      rw [e]
      have b91 : ∀ x : Nat, x = (if j - b ≤ 4 then 3 else 1) → tot (gX6_readNumber_b86 N (nI x) V) (fun W => W.F 3 2 = nI j ∧ W.F 3 3 = nI b ∧ W.F 3 4 = nI (if j - b ≤ 4 then 3 else 1) ∧ W.F 3 5 = nI (dvN (sbN tp b j)) ∧ rwf V W) := by
        intro x hx
        unfold gX6_readNumber_b86
        rw [Option.bind_some]
        refine tot_some ⟨?_, ?_, ?_, ?_, rwf_F _ (by omega)⟩
        · try simp (disch := omega) only [wA_A, wF_F, wA_F, wF_A, wA_L, wF_L, wA_G, wF_G, true_and, and_true, and_self, if_true, if_false, if_pos, if_neg]
          exact h2
        · try simp (disch := omega) only [wA_A, wF_F, wA_F, wF_A, wA_L, wF_L, wA_G, wF_G, true_and, and_true, and_self, if_true, if_false, if_pos, if_neg]
          exact h3
        · rw [← hx]
          try simp (disch := omega) only [wA_A, wF_F, wA_F, wF_A, wA_L, wF_L, wA_G, wF_G, true_and, and_true, and_self, if_true, if_false, if_pos, if_neg]
        · try simp (disch := omega) only [wA_A, wF_F, wA_F, wF_A, wA_L, wF_L, wA_G, wF_G, true_and, and_true, and_self, if_true, if_false, if_pos, if_neg]
          exact hG
      unfold gX6_readNumber_b67
      rw [h2, h3, pk_sub hbj]
      by_cases h8 : j - b ≤ 4
      · rw [if_neg (show ¬ (4 : Int32) < nI (j - b) from nI_nlt (a := 4) h8 (by omega))]
        exact b91 3 (by rw [if_pos h8])
      · rw [if_pos (show (4 : Int32) < nI (j - b) from nI_lt (a := 4) (by omega) (by omega))]
        exact b91 1 (by rw [if_neg h8])
    unfold gX6_readNumber_b7
    by_cases hc : 1000 ≤ j - b
    · rw [if_pos (show (1000 : Int32) ≤ nI (j - b) from nI_le (a := 1000) hc (by omega))]
      exact fin (rn_e (by omega))
    · rw [if_neg (show ¬ (1000 : Int32) ≤ nI (j - b) from nI_ge (b := 1000) (by omega) (by omega)), h2, c_sg hT ht (by omega), Option.bind_some, c_isD (gt_lt ht j), Option.bind_some]
      dsimp only
      by_cases e : dgB (tp.getD j 0) = true
      · have hjl : j < tp.length := by
          refine Classical.byContradiction (fun q => ?_)
          rw [List.getD_eq_getElem?_getD, List.getElem?_eq_none (by omega)] at e
          exact absurd e (by decide)
        have hx : 48 ≤ tp.getD j 0 ∧ tp.getD j 0 ≤ 57 := of_decide_eq_true e
        rw [if_pos e, if_neg (by decide), h2, c_sg hT ht (by omega), Option.bind_some, Option.bind_some]
        dsimp only
        rw [hG, show (48 : Int32) = nI 48 from rfl, pk_sub (by omega), show (10 : Int32) = nI 10 from rfl, pk_mul, nI_add, ← dv_s hbj hjl, show (wF V 3 5 (nI (dvN (sbN tp b (j + 1))))).F 3 2 = nI j by rw [wF_F, if_neg (by omega)]; exact h2, Option.bind_some, show nI j + 1 = nI (j + 1) from nI_1 j, show nI (j - b) + 1 = nI (j + 1 - b) by rw [nI_1]; congr 1; omega]
        generalize hX : wF (wF V 3 5 (nI (dvN (sbN tp b (j + 1))))) 3 2 (nI (j + 1)) = X
        have fX : rwf V X := by
          rw [← hX]
          exact (rwf_F _ (by omega)).trans (rwf_F _ (by omega))
        rw [rn_t hjl e]
        refine tot_mo (ih (j + 1) X (by omega) (by omega) (by omega) (hT.rw fX) ?_ ?_ ?_) (fun W hW => ⟨hW.1, hW.2.1, hW.2.2.1, hW.2.2.2.1, fX.trans hW.2.2.2.2⟩)
        · rw [← hX, wF_F, if_pos ⟨rfl, rfl⟩]
        · rw [← hX, wF_F, if_neg (by omega), wF_F, if_neg (by omega)]
          exact h3
        · rw [← hX, wF_F, if_neg (by omega), wF_F, if_pos ⟨rfl, rfl⟩]
      · rw [if_neg e, if_pos (by decide)]
        exact fin (rn_f e)
theorem c_adv0 {f : Nat} (ht : GoodT tp) (hN : 1000 < N) (hT : TpC V tp) (ha : a ≤ tp.length) (h2 : V.F 3 2 = nI a) (h8 : V.F 3 8 = nI f) : tot (gX6_advance N V) (fun W => RC W tp a f ∧ rwf V W) := by
  have hl := ht.1
  have main : ∀ (V1 : VT), TpC V1 tp → V1.F 3 2 = nI (plN tp a) → V1.F 3 8 = nI f → tot (gX6_advance_b50 N V1) (fun W => RC W tp a f ∧ rwf V1 W) := by
    intro V1 hT1 h21 h81
    have hp := pl_le ha
    have hpl : plN tp a = plN tp a := rfl
    generalize hb : plN tp a = b at h21 hp hpl
    have ety : tyN tp a = tyB tp b := by unfold tyN; rw [hb]
    have een : enN tp a = enB tp b := by unfold enN; rw [hb]
    have ewo : woN tp a = ltN tp b (enB tp b) := by unfold woN; rw [hb, een]
    have enu : nuN tp a = dvN (sbN tp b (enB tp b)) := by unfold nuN; rw [hb, een]
    unfold gX6_advance_b50
    rw [Option.bind_some]
    generalize hV2 : wF V1 3 3 (V1.F 3 2) = V2
    have f2 : rwf V1 V2 := by
      rw [← hV2]
      exact rwf_F _ (by omega)
    have hT2 := hT1.rw f2
    have e2 : V2.F 3 2 = nI b := by rw [← hV2, wF_F, if_neg (by omega)]; exact h21
    have e3 : V2.F 3 3 = nI b := by rw [← hV2, wF_F, if_pos ⟨rfl, rfl⟩]; exact h21
    have e8 : V2.F 3 8 = nI f := by rw [f2.2.2 3 8 (by omega)]; exact h81
    rw [e2, c_sg hT2 ht (by omega), Option.bind_some]
    dsimp only
    rw [e2, hT2.1]
    have hx := gt_lt ht b
    by_cases hc : tp.length ≤ b
    · have t0 : tyB tp b = 0 := if_pos hc
      have n0 : enB tp b = b := if_pos hc
      rw [if_neg (nI_nlt hc (by omega)), Option.bind_some]
      refine tot_some ⟨⟨hT2.rw (rwf_F _ (by omega)), ?_, ?_, ?_, fun q => ?_, fun q => ?_, ?_⟩, f2.trans (rwf_F _ (by omega))⟩
      · rw [een, n0]
        try simp (disch := omega) only [wA_A, wF_F, wA_F, wF_A, wA_L, wF_L, wA_G, wF_G, true_and, and_true, and_self, if_true, if_false, if_pos, if_neg]
        exact e2
      · rw [hb]
        try simp (disch := omega) only [wA_A, wF_F, wA_F, wF_A, wA_L, wF_L, wA_G, wF_G, true_and, and_true, and_self, if_true, if_false, if_pos, if_neg]
        exact e3
      · rw [ety, t0]
        try simp (disch := omega) only [wA_A, wF_F, wA_F, wF_A, wA_L, wF_L, wA_G, wF_G, true_and, and_true, and_self, if_true, if_false, if_pos, if_neg]
        rfl
      · rw [ety, t0] at q
        omega
      · rw [ety, t0] at q
        omega
      · try simp (disch := omega) only [wA_A, wF_F, wA_F, wF_A, wA_L, wF_L, wA_G, wF_G, true_and, and_true, and_self, if_true, if_false, if_pos, if_neg]
        exact e8
    rw [if_pos (nI_lt (by omega) (by omega)), c_isL hx, Option.bind_some]
    dsimp only
    by_cases hL : lB (tp.getD b 0) = true
    · have t0 : tyB tp b = if rn lB tp b - b ≤ 8 then 2 else 1 := by unfold tyB; rw [if_neg hc, if_pos hL]
      have n0 : enB tp b = rn lB tp b := by unfold enB; rw [if_neg hc, if_pos hL]
      rw [if_pos hL, if_neg (by decide)]
      unfold gX6_readWord
      rw [Option.bind_some]
      generalize hV3 : wG V2 3 6 0 = V3
      have f3 : rwf V2 V3 := by
        rw [← hV3]
        exact rwf_G _
      have w0 := c_word ht hN hp.2 N b V3 (Nat.le_refl _) hp.2 (by omega) (hT2.rw f3) (by rw [← hV3]; exact e2) (by rw [← hV3]; exact e3) (by rw [← hV3, wG_G]; unfold ltN; rw [sb_0]; rfl)
      rw [Nat.sub_self] at w0
      refine tot_bd w0 (fun W hW => ?_)
      obtain ⟨w1, w2, w3, w4, w5, w6⟩ := hW
      have g6 := f3.trans w6
      refine tot_some ⟨⟨hT2.rw g6, by rw [een, n0]; exact w1, by rw [hb]; exact w2, by rw [ety, t0]; exact w3, fun q => ?_, fun q => ?_, by rw [g6.2.2 3 8 (by omega)]; exact e8⟩, f2.trans g6⟩
      · rw [ety, t0] at q
        split at q <;> omega
      · have hW2 := wo_W q ha
        rw [ewo, n0] at hW2 ⊢
        refine ⟨w4, ?_⟩
        rw [w5]
        unfold kyW
        rw [kyI_N (by have := e32_b hW2.1 hW2.2; omega)]
    rw [if_neg hL, if_pos (by decide), c_isD hx, Option.bind_some]
    dsimp only
    by_cases hD : dgB (tp.getD b 0) = true
    · have t0 : tyB tp b = if rn dgB tp b - b ≤ 4 then 3 else 1 := by unfold tyB; rw [if_neg hc, if_neg hL, if_pos hD]
      have n0 : enB tp b = rn dgB tp b := by unfold enB; rw [if_neg hc, if_neg hL, if_pos hD]
      rw [if_pos hD, if_neg (by decide)]
      unfold gX6_readNumber
      rw [Option.bind_some]
      generalize hV3 : wF V2 3 5 0 = V3
      have f3 : rwf V2 V3 := by
        rw [← hV3]
        exact rwf_F _ (by omega)
      have w0 := c_num ht hN hp.2 N b V3 (Nat.le_refl _) hp.2 (by omega) (hT2.rw f3) (by rw [← hV3, wF_F, if_neg (by omega)]; exact e2) (by rw [← hV3, wF_F, if_neg (by omega)]; exact e3) (by rw [← hV3, wF_F, if_pos ⟨rfl, rfl⟩, sb_0]; rfl)
      rw [Nat.sub_self] at w0
      refine tot_bd w0 (fun W hW => ?_)
      obtain ⟨w1, w2, w3, w4, w6⟩ := hW
      have g6 := f3.trans w6
      refine tot_some ⟨⟨hT2.rw g6, by rw [een, n0]; exact w1, by rw [hb]; exact w2, by rw [ety, t0]; exact w3, fun q => ?_, fun q => ?_, by rw [g6.2.2 3 8 (by omega)]; exact e8⟩, f2.trans g6⟩
      · rw [enu, n0]
        exact w4
      · rw [ety, t0] at q
        split at q <;> omega
    rw [if_neg hD, if_pos (by decide), c_isG hx, Option.bind_some]
    dsimp only
    have n0 : enB tp b = b + 1 := by unfold enB; rw [if_neg hc, if_neg hL, if_neg hD]
    have fin : ∀ x : Nat, tyB tp b = x → (x = 1 ∨ 40 ≤ x) → tot (gX6_advance_b127 N (nI x) V2) (fun W => RC W tp a f ∧ rwf V1 W) := by
      intro x t0 hx1
      unfold gX6_advance_b127
      rw [Option.bind_some, show (wF V2 3 4 (nI x)).F 3 2 = nI b by rw [wF_F, if_neg (by omega)]; exact e2, Option.bind_some, show nI b + 1 = nI (b + 1) from nI_1 b]
      have g6 : rwf V2 (wF (wF V2 3 4 (nI x)) 3 2 (nI (b + 1))) := (rwf_F _ (by omega)).trans (rwf_F _ (by omega))
      refine tot_some ⟨⟨hT2.rw g6, ?_, ?_, ?_, fun q => ?_, fun q => ?_, by rw [g6.2.2 3 8 (by omega)]; exact e8⟩, f2.trans g6⟩
      · rw [een, n0]
        try simp (disch := omega) only [wA_A, wF_F, wA_F, wF_A, wA_L, wF_L, wA_G, wF_G, true_and, and_true, and_self, if_true, if_false, if_pos, if_neg]
      · rw [hb]
        try simp (disch := omega) only [wA_A, wF_F, wA_F, wF_A, wA_L, wF_L, wA_G, wF_G, true_and, and_true, and_self, if_true, if_false, if_pos, if_neg]
        exact e3
      · rw [ety, t0]
        try simp (disch := omega) only [wA_A, wF_F, wA_F, wF_A, wA_L, wF_L, wA_G, wF_G, true_and, and_true, and_self, if_true, if_false, if_pos, if_neg]
      · rw [ety, t0] at q
        omega
      · rw [ety, t0] at q
        omega
    by_cases hG : gB (tp.getD b 0) = true
    · rw [if_pos hG, if_neg (by decide)]
      refine fin _ (by unfold tyB; rw [if_neg hc, if_neg hL, if_neg hD, if_pos hG]) (Or.inr ?_)
      unfold gB at hG
      have := of_decide_eq_true hG
      omega
    · rw [if_neg hG, if_pos (by decide)]
      exact fin 1 (by unfold tyB; rw [if_neg hc, if_neg hL, if_neg hD, if_neg hG]) (Or.inl rfl)
  have key : ∀ (w j : Nat) (V1 : VT), j ≤ tp.length → tp.length - j < w → plN tp j = plN tp a → TpC V1 tp → V1.F 3 2 = nI j → V1.F 3 8 = nI f → tot (gX6_advance_b0 N w V1) (fun W => RC W tp a f ∧ rwf V1 W) := by
    intro w
    induction w with
    | zero => intro j V1 _ h; omega
    | succ w ih =>
      intro j V1 hj hw hpl hT1 h21 h81
      unfold gX6_advance_b0
      rw [hT1.1, h21]
      by_cases hc : tp.length ≤ j
      · rw [if_pos (nI_le hc (by omega))]
        refine main V1 hT1 ?_ h81
        rw [← hpl, h21, show plN tp j = j from rn_e hc]
      · have hx := gt_lt ht j
        rw [if_neg (nI_ge (by omega) (by omega)), c_sg hT1 ht (by omega), Option.bind_some]
        dsimp only
        have go : bB (tp.getD j 0) = true → tot (gX6_advance_b37 N (gX6_advance_b0 N w) V1) (fun W => RC W tp a f ∧ rwf V1 W) := by
          intro q
          unfold gX6_advance_b37
          rw [h21, Option.bind_some, show nI j + 1 = nI (j + 1) from nI_1 j]
          have f1 : rwf V1 (wF V1 3 2 (nI (j + 1))) := rwf_F _ (by omega)
          refine tot_mo (ih (j + 1) _ (by omega) (by omega) ?_ (hT1.rw f1) (by rw [wF_F, if_pos ⟨rfl, rfl⟩]) (by rw [f1.2.2 3 8 (by omega)]; exact h81)) (fun W hW => ⟨hW.1, f1.trans hW.2⟩)
          rw [← hpl]
          exact (rn_t (by omega) q).symm
        by_cases e32 : tp.getD j 0 = 32
        · rw [if_pos (by rw [e32]; rfl)]
          exact go (by rw [e32]; decide)
        rw [if_neg (show ¬ nI (tp.getD j 0) = 32 from nI_ne (b := 32) e32 (by omega) (by omega)), h21, c_sg hT1 ht (by omega), Option.bind_some]
        dsimp only
        by_cases e10 : tp.getD j 0 = 10
        · rw [if_pos (by rw [e10]; rfl)]
          exact go (by rw [e10]; decide)
        · rw [if_neg (show ¬ nI (tp.getD j 0) = 10 from nI_ne (b := 10) e10 (by omega) (by omega))]
          refine main V1 hT1 ?_ h81
          rw [← hpl, h21, show plN tp j = j from rn_f (fun q => by have := of_decide_eq_true q; omega)]
  unfold gX6_advance
  exact key N a V ha (by omega) rfl hT h2 h8
theorem c_adv {f : Nat} (ht : GoodT tp) (hN : 1000 < N) (ha : a ≤ tp.length) (h : RC V tp a f) : tot (gX6_advance N V) (fun W => RC W tp (enN tp a) f ∧ rwf V W) := c_adv0 ht hN h.1 (en_le ha).2 h.2.1 h.2.2.2.2.2.2
end PLexC
