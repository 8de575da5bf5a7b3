/-! PURE: what both ask of a token. -/
def kN (tp : List Nat) (a : Nat) : Nat := if tyN tp a = 2 then kyW (woN tp a) else 22
def nmB (tp : List Nat) (a : Nat) : Bool := decide (tyN tp a = 2 ∧ 18 ≤ kN tp a)
theorem kN_le (tp : List Nat) (a : Nat) : kN tp a ≤ 22 := by
  unfold kN
  split
  · exact ky_le _
  · omega
theorem kN_2 {tp : List Nat} {a k : Nat} (hk : k < 22) (h : kN tp a = k) : tyN tp a = 2 := by
  unfold kN at h
  split at h
  · assumption
  · omega
/-- all but the reader's fields is as it was -/
def rwe (V W : VT) : Prop := W.A = V.A ∧ W.L = V.L ∧ ∀ i, i ≠ 3 → W.F i = V.F i
theorem rwe.rf {V : VT} : rwe V V := ⟨rfl, rfl, fun _ _ => rfl⟩
theorem rwe.trans {V W X : VT} (h : rwe V W) (k : rwe W X) : rwe V X := ⟨k.1.trans h.1, k.2.1.trans h.2.1, fun i hi => (k.2.2 i hi).trans (h.2.2 i hi)⟩
theorem rwf.e {V W : VT} (h : rwf V W) : rwe V W := ⟨h.1, h.2.1, fun i hi => funext (fun k => h.2.2 i k (by omega))⟩
theorem rwe_F {V : VT} (k : Nat) (x : Int32) : rwe V (wF V 3 k x) := ⟨rfl, rfl, fun i hi => funext (fun j => by rw [wF_F, if_neg (by omega)])⟩
/-- a fault stands -/
def RD (V : VT) (f : Nat) : Prop := V.F 3 8 = nI f ∧ 0 < f ∧ f < 2 ^ 20
section PToksC
variable {V W : VT} {tp : List Nat} {a f k N : Nat}
theorem RC.pl (h : RC V tp a f) : V.F 3 3 = nI (plN tp a) := h.2.2.1
theorem c_isT (h : RC V tp a 0) (ht : GoodT tp) {t : Nat} (hk : t < 2 ^ 31) : gX6_isType (nI t) V = some (nI (if tyN tp a = t then 1 else 0), V) := by
  have hy := ty_lt (tp := tp) (a := a) ht
  unfold gX6_isType
  rw [h.2.2.2.2.2.2, if_pos (by rfl), h.2.2.2.1]
  by_cases e : tyN tp a = t
  · rw [if_pos (by rw [e]), if_pos e]
    rfl
  · rw [if_neg (nI_ne e (by omega) hk), if_neg e]
    rfl
theorem d_isT (h : RD V f) (x : Int32) : gX6_isType x V = some (0, V) := by
  unfold gX6_isType
  rw [h.1, if_neg (nI_ne0 h.2.1 (by have := h.2.2; omega))]
theorem c_kH (h : RC V tp a 0) (ht : GoodT tp) : gX6_keyHere V = some (nI (kN tp a), V) := by
  unfold gX6_keyHere kN
  rw [show (2 : Int32) = nI 2 from rfl, c_isT h ht (by omega), Option.bind_some]
  dsimp only
  by_cases e : tyN tp a = 2
  · rw [if_pos e, if_pos e, if_neg (by decide), (h.2.2.2.2.2.1 e).2]
  · rw [if_neg e, if_neg e, if_pos (by decide)]
    rfl
theorem d_kH (h : RD V f) : gX6_keyHere V = some (22, V) := by
  unfold gX6_keyHere
  rw [d_isT h, Option.bind_some, if_pos (by rfl)]
theorem c_isK (h : RC V tp a 0) (ht : GoodT tp) (hk : k < 22) : gX6_isKey (nI k) V = some (nI (if kN tp a = k then 1 else 0), V) := by
  unfold gX6_isKey kN
  rw [show (2 : Int32) = nI 2 from rfl, c_isT h ht (by omega), Option.bind_some]
  dsimp only
  by_cases e : tyN tp a = 2
  · rw [if_pos e, if_pos e, if_neg (by decide), (h.2.2.2.2.2.1 e).2]
    have hl := ky_le (woN tp a)
    by_cases e2 : kyW (woN tp a) = k
    · rw [if_pos (by rw [e2]), if_pos e2]
      rfl
    · rw [if_neg (nI_ne e2 (by omega) (by omega)), if_neg e2]
      rfl
  · rw [if_neg e, if_neg e, if_pos (by decide), if_neg (by omega)]
    rfl
theorem d_isK (h : RD V f) (x : Int32) : gX6_isKey x V = some (0, V) := by
  unfold gX6_isKey
  rw [d_isT h, Option.bind_some, if_pos (by rfl)]
theorem c_isN (h : RC V tp a 0) (ht : GoodT tp) : gX6_isName V = some (nI (if nmB tp a = true then 1 else 0), V) := by
  unfold gX6_isName nmB kN
  rw [show (2 : Int32) = nI 2 from rfl, c_isT h ht (by omega), Option.bind_some]
  dsimp only
  by_cases e : tyN tp a = 2
  · have hl := ky_le (woN tp a)
    rw [if_pos e, if_neg (by decide), (h.2.2.2.2.2.1 e).2]
    by_cases e2 : kyW (woN tp a) < 18
    · rw [if_pos (show nI (kyW (woN tp a)) < 18 from nI_lt (b := 18) e2 (by omega)), if_neg (by simp [e]; omega)]
      rfl
    · rw [if_neg (show ¬ nI (kyW (woN tp a)) < 18 from nI_nlt (b := 18) (by omega) (by omega)), if_pos (by simp [e]; omega)]
      rfl
  · rw [if_neg e, if_pos (by decide), if_neg (by simp [e])]
    rfl
theorem d_isN (h : RD V f) : gX6_isName V = some (0, V) := by
  unfold gX6_isName
  rw [d_isT h, Option.bind_some, if_pos (by rfl)]
theorem d_fail (h : RD V f) (x : Int32) : gX6_fail x V = some V := by
  unfold gX6_fail
  rw [h.1, if_neg (nI_ne0 h.2.1 (by have := h.2.2; omega))]
theorem c_fail (h : RC V tp a 0) (hk : 0 < k ∧ k < 16) (ha : a ≤ tp.length) (ht : GoodT tp) : tot (gX6_fail (nI k) V) (fun W => RD W (k + 16 * plN tp a) ∧ rwe V W) := by
  have hp := pl_le ha
  have hl := ht.1
  unfold gX6_fail
  rw [h.2.2.2.2.2.2, if_pos (by rfl), h.2.2.1, show (16 : Int32) = nI 16 from rfl, pk_mul, nI_add, Option.bind_some]
  exact tot_some ⟨⟨by rw [wF_F, if_pos ⟨rfl, rfl⟩], by omega, by omega⟩, rwe_F _ _⟩
/-- alive at a, or dead by f -/
theorem RD.cg (h : RD V f) (e : W.F 3 8 = V.F 3 8) : RD W f := ⟨by rw [e]; exact h.1, h.2⟩
theorem RC.cg (h : RC V tp a f) (eA : W.A 4 = V.A 4) (eF : W.F 3 = V.F 3) (eG : W.G 3 = V.G 3) : RC W tp a f := by
  unfold RC TpC
  rw [eA, eF, eG]
  exact h
theorem c_tSign (h : RC V tp a 0) (ht : GoodT tp) (ha : a ≤ tp.length) (hN : 1000 < N) {t : Nat} (hk : t < 2 ^ 31) : tot (gX6_takeSign N (nI t) V) (fun W => (if tyN tp a = t then RC W tp (enN tp a) 0 else RD W (1 + 16 * plN tp a)) ∧ rwe V W) := by
  unfold gX6_takeSign
  rw [c_isT h ht hk, Option.bind_some]
  dsimp only
  by_cases e : tyN tp a = t
  · rw [if_pos e, if_neg (by decide)]
    refine tot_bd (c_adv ht hN ha h) (fun W hW => tot_some ⟨?_, hW.2.e⟩)
    rw [if_pos e]
    exact hW.1
  · rw [if_neg e, if_pos (by decide)]
    refine tot_bd (c_fail (k := 1) h (by omega) ha ht) (fun W hW => tot_some ⟨?_, hW.2⟩)
    rw [if_neg e]
    exact hW.1
theorem d_tSign (h : RD V f) (x : Int32) : gX6_takeSign N x V = some V := by
  unfold gX6_takeSign
  rw [d_isT h, Option.bind_some, if_pos (by rfl), d_fail h, Option.bind_some]
theorem c_tKey (h : RC V tp a 0) (ht : GoodT tp) (ha : a ≤ tp.length) (hN : 1000 < N) (hk : k < 22) : tot (gX6_takeKey N (nI k) V) (fun W => (if kN tp a = k then RC W tp (enN tp a) 0 else RD W (1 + 16 * plN tp a)) ∧ rwe V W) := by
  unfold gX6_takeKey
  rw [c_isK h ht hk, Option.bind_some]
  dsimp only
  by_cases e : kN tp a = k
  · rw [if_pos e, if_neg (by decide)]
    refine tot_bd (c_adv ht hN ha h) (fun W hW => tot_some ⟨?_, hW.2.e⟩)
    rw [if_pos e]
    exact hW.1
  · rw [if_neg e, if_pos (by decide)]
    refine tot_bd (c_fail (k := 1) h (by omega) ha ht) (fun W hW => tot_some ⟨?_, hW.2⟩)
    rw [if_neg e]
    exact hW.1
theorem d_tKey (h : RD V f) (x : Int32) : gX6_takeKey N x V = some V := by
  unfold gX6_takeKey
  rw [d_isK h, Option.bind_some, if_pos (by rfl), d_fail h, Option.bind_some]
/-- numbers are below 10000 -/
theorem nu_lt (h3 : tyN tp a = 3) (ha : a ≤ tp.length) (ht : GoodT tp) : nuN tp a < 10000 := by
  have h0 := en_lt (tp := tp) (a := a) (by omega)
  have he := en_le ha
  have key : ∀ n (l : List Nat), l.length = n → (∀ d, d ∈ l → d ≤ 57) → dvN l < 10 ^ n := by
    intro n
    induction n with
    | zero =>
      intro l hl _
      have : l = [] := List.length_eq_zero_iff.mp hl
      subst this
      decide
    | succ n ih =>
      intro l hl hd
      rcases List.eq_nil_or_concat l with q | ⟨l', c, q⟩
      · subst q
        simp at hl
      · rw [List.concat_eq_append] at q
        subst q
        have h1 := ih l' (by simp at hl; exact hl) (fun d hd2 => hd d (by simp [hd2]))
        have h2 := hd c (by simp)
        have : dvN (l' ++ [c]) = dvN l' * 10 + (c - 48) := by
          unfold dvN
          rw [List.foldl_append]
          rfl
        rw [this, Nat.pow_succ]
        omega
  unfold tyN tyB at h3
  rw [if_neg (by omega)] at h3
  by_cases hl : lB (tp.getD (plN tp a) 0) = true
  · rw [if_pos hl] at h3
    split at h3 <;> omega
  rw [if_neg hl] at h3
  by_cases hD : dgB (tp.getD (plN tp a) 0) = true
  · rw [if_pos hD] at h3
    have ee : enN tp a = rn dgB tp (plN tp a) := by
      unfold enN enB
      rw [if_neg (by omega), if_neg hl, if_pos hD]
    have h4 : rn dgB tp (plN tp a) - plN tp a ≤ 4 := by
      split at h3 <;> omega
    have h5 := key (sbN tp (plN tp a) (enN tp a)).length (sbN tp (plN tp a) (enN tp a)) rfl (fun d hd => by
      unfold sbN at hd
      rw [List.mem_iff_getElem?] at hd
      obtain ⟨i, hi⟩ := hd
      rw [List.getElem?_take] at hi
      split at hi
      · rw [List.getElem?_drop] at hi
        have hz : dgB (tp.getD (plN tp a + i) 0) = true := run_f _ _ _ (by omega) (show plN tp a + i < rn dgB tp (plN tp a) by omega)
        rw [List.getD_eq_getElem?_getD, hi] at hz
        unfold dgB at hz
        have hz := of_decide_eq_true hz
        simp at hz
        omega
      · cases hi)
    rw [sb_len he.1 he.2] at h5
    have h6 : (10 : Nat) ^ (enN tp a - plN tp a) ≤ 10 ^ 4 := Nat.pow_le_pow_right (by decide) (by omega)
    unfold nuN
    omega
  · rw [if_neg hD] at h3
    split at h3
    · rename_i q
      unfold gB at q
      have q := of_decide_eq_true q
      omega
    · omega
theorem wiB_n {x lo hi : Nat} (h1 : x < 2 ^ 31) (h2 : lo < 2 ^ 31) (h3 : hi < 2 ^ 31) : wiB (nI x) lo hi = decide (lo ≤ x ∧ x ≤ hi) := by
  unfold wiB
  have h4 := nI_leI h2 h1
  have h5 := nI_leI h1 h3
  by_cases a : lo ≤ x
  · by_cases b : x ≤ hi
    · rw [decide_eq_true (h4.mpr a), decide_eq_true (h5.mpr b), decide_eq_true (And.intro a b)]
      rfl
    · rw [decide_eq_false (fun q => b (h5.mp q)), Bool.and_false, decide_eq_false (show ¬ (lo ≤ x ∧ x ≤ hi) from fun q => b q.2)]
  · rw [decide_eq_false (fun q => a (h4.mp q)), Bool.false_and, decide_eq_false (show ¬ (lo ≤ x ∧ x ≤ hi) from fun q => a q.1)]
/-- a number between: what comes of it -/
def nwB (tp : List Nat) (a lo hi : Nat) : Nat := if tyN tp a = 3 then (if lo ≤ nuN tp a ∧ nuN tp a ≤ hi then 0 else 4) else 1
theorem c_tNum (h : RC V tp a 0) (ht : GoodT tp) (ha : a ≤ tp.length) (hN : 1000 < N) {lo hi : Nat} (h1 : lo < 2 ^ 31) (h2 : hi < 2 ^ 31) : tot (gX6_takeNumber N (nI lo) (nI hi) V) (fun r => (if nwB tp a lo hi = 0 then r.1 = nI (nuN tp a) ∧ RC r.2 tp (enN tp a) 0 else RD r.2 (nwB tp a lo hi + 16 * plN tp a)) ∧ rwe V r.2) := by
  unfold gX6_takeNumber nwB
  rw [show (3 : Int32) = nI 3 from rfl, c_isT h ht (by omega), Option.bind_some]
  dsimp only
  by_cases e : tyN tp a = 3
  · have hn := nu_lt e ha ht
    rw [if_pos e, if_neg (by decide), h.2.2.2.2.1 e, c_wi, wiB_n (by omega) h1 h2, Option.bind_some]
    dsimp only
    by_cases e2 : lo ≤ nuN tp a ∧ nuN tp a ≤ hi
    · rw [decide_eq_true e2, if_neg (by decide)]
      refine tot_bd (c_adv ht hN ha h) (fun W hW => tot_some ⟨?_, hW.2.e⟩)
      rw [if_pos e, if_pos e2, if_pos rfl]
      exact ⟨rfl, hW.1⟩
    · rw [decide_eq_false e2, if_pos (by decide)]
      refine tot_bd (c_fail (k := 4) h (by omega) ha ht) (fun W hW => tot_some ⟨?_, hW.2⟩)
      rw [if_pos e, if_neg e2, if_neg (by omega)]
      exact hW.1
  · rw [if_neg e, if_pos (by decide)]
    refine tot_bd (c_fail (k := 1) h (by omega) ha ht) (fun W hW => tot_some ⟨?_, hW.2⟩)
    rw [if_neg e, if_neg (by omega)]
    exact hW.1
theorem d_tNum (h : RD V f) (x y : Int32) : gX6_takeNumber N x y V = some (x, V) := by
  unfold gX6_takeNumber
  rw [d_isT h, Option.bind_some, if_pos (by rfl), d_fail h, Option.bind_some]
end PToksC
section PToksM
variable {V W : VT} {tp : List Nat} {a f k N : Nat}
theorem mty_1 (t : Nat) : mty t = 1 ↔ t = 2 := by
  unfold mty
  repeat' split
  all_goals omega
theorem mty_2 (t : Nat) : mty t = 2 ↔ t = 3 := by
  unfold mty
  repeat' split
  all_goals omega
theorem mty_3 (t : Nat) : mty t = 3 ↔ 4 ≤ t := by
  unfold mty
  repeat' split
  all_goals omega
theorem mty_0 (t : Nat) : mty t = 0 ↔ t = 0 := by
  unfold mty
  repeat' split
  all_goals omega
theorem mty_lt (t : Nat) : mty t ≤ 4 := by
  unfold mty
  repeat' split
  all_goals omega
theorem m_isS (h : MC V tp a) (ht : GoodT tp) (ha : a ≤ tp.length) {s : Nat} (hs : 4 ≤ s) (hs2 : s < 200) : gX10_isSign (nI s) V = some (nI (if tyN tp a = s then 1 else 0), V) := by
  have hl := ht.1
  have hm := mty_lt (tyN tp a)
  unfold gX10_isSign
  rw [h.2.2.2.1]
  by_cases e : 4 ≤ tyN tp a
  · have h0 := en_lt (tp := tp) (a := a) (by omega)
    have hsg := ty_sg e
    have hy := ty_lt (tp := tp) (a := a) ht
    rw [if_pos (by rw [(mty_3 _).mpr e]; rfl), h.2.2.1, rdA_n (by omega) (by omega), Option.bind_some, h.1.2 _ h0.2, hsg.2]
    by_cases e2 : tyN tp a = s
    · rw [if_pos (by rw [e2]), if_pos e2]
      rfl
    · rw [if_neg (nI_ne e2 (by omega) (by omega)), if_neg e2]
      rfl
  · rw [if_neg (show ¬ nI (mty (tyN tp a)) = 3 from nI_ne (b := 3) (fun q => e ((mty_3 _).mp q)) (by omega) (by omega)), if_neg (by omega)]
    rfl
theorem m_cmp (h : MC V tp a) (ha : a ≤ tp.length) (h2 : tyN tp a = 2) (hk : k < 22) : (lg_cmp (V.G 137 7) (lN (c27L.getD k 0)) = 0) ↔ kyW (woN tp a) = k := by
  have hw := wo_W h2 ha
  have h1 := e27_b hw.1 hw.2
  have hb : ∀ k, k < 22 → c27L.getD k 0 < 2 ^ 40 := by decide +kernel
  have h3 := hb k hk
  rw [lg_cmp_eq, h.2.2.2.2.2 h2, ky_27 hw.1 hk, pk_lEQ (by omega) (by omega)]
theorem m_isW (h : MC V tp a) (ha : a ≤ tp.length) (hk : k < 22) {x : Int64} (hx : x = lN (c27L.getD k 0)) : gX10_isWord x V = some (nI (if kN tp a = k then 1 else 0), V) := by
  subst hx
  have hm := mty_lt (tyN tp a)
  unfold gX10_isWord kN
  rw [h.2.2.2.1]
  by_cases e : tyN tp a = 2
  · rw [if_pos (by rw [(mty_1 _).mpr e]; rfl), if_pos e]
    by_cases e2 : kyW (woN tp a) = k
    · rw [if_pos ((m_cmp h ha e hk).mpr e2), if_pos e2]
      rfl
    · rw [if_neg (fun q => e2 ((m_cmp h ha e hk).mp q)), if_neg e2]
      rfl
  · rw [if_neg (show ¬ nI (mty (tyN tp a)) = 1 from nI_ne (b := 1) (fun q => e ((mty_1 _).mp q)) (by omega) (by omega)), if_neg e, if_neg (by omega)]
    rfl
theorem m_fact (h : MC V tp a) (ha : a ≤ tp.length) : gX10_fact V = some (nI (if 18 ≤ kN tp a ∧ kN tp a ≤ 21 then kN tp a - 17 else 0), V) := by
  have hm := mty_lt (tyN tp a)
  unfold gX10_fact kN
  rw [h.2.2.2.1]
  by_cases e : tyN tp a = 2
  · have hl := ky_le (woN tp a)
    have c18 := m_cmp (k := 18) h ha e (by omega)
    have c19 := m_cmp (k := 19) h ha e (by omega)
    have c20 := m_cmp (k := 20) h ha e (by omega)
    have c21 := m_cmp (k := 21) h ha e (by omega)
    rw [if_pos (by rw [(mty_1 _).mpr e]; rfl), if_pos e]
    generalize kyW (woN tp a) = y at *
    by_cases e18 : y = 18
    · rw [if_pos (show lg_cmp (V.G 137 7) 240023 = 0 from c18.mpr e18), e18]
      rfl
    rw [if_neg (show ¬ lg_cmp (V.G 137 7) 240023 = 0 from fun q => e18 (c18.mp q))]
    by_cases e19 : y = 19
    · rw [if_pos (show lg_cmp (V.G 137 7) 1890856 = 0 from c19.mpr e19), e19]
      rfl
    rw [if_neg (show ¬ lg_cmp (V.G 137 7) 1890856 = 0 from fun q => e19 (c19.mp q))]
    by_cases e20 : y = 20
    · rw [if_pos (show lg_cmp (V.G 137 7) 923 = 0 from c20.mpr e20), e20]
      rfl
    rw [if_neg (show ¬ lg_cmp (V.G 137 7) 923 = 0 from fun q => e20 (c20.mp q))]
    by_cases e21 : y = 21
    · rw [if_pos (show lg_cmp (V.G 137 7) 10792937 = 0 from c21.mpr e21), e21]
      rfl
    rw [if_neg (show ¬ lg_cmp (V.G 137 7) 10792937 = 0 from fun q => e21 (c21.mp q)), if_neg (by omega)]
    rfl
  · rw [if_neg (show ¬ nI (mty (tyN tp a)) = 1 from nI_ne (b := 1) (fun q => e ((mty_1 _).mp q)) (by omega) (by omega)), if_neg e, if_neg (by omega)]
    rfl
theorem m_kept (h : MC V tp a) (ha : a ≤ tp.length) : gX10_isKept V = some (nI (if nmB tp a = true then 0 else 1), V) := by
  have hm := mty_lt (tyN tp a)
  unfold gX10_isKept nmB kN
  rw [h.2.2.2.1]
  by_cases e : tyN tp a = 2
  · have c := fun (k : Nat) (hk : k < 22) => m_cmp (k := k) h ha e hk
    rw [if_pos (by rw [(mty_1 _).mpr e]; rfl)]
    generalize hy : kyW (woN tp a) = y at *
    have yes : y < 18 → some ((1 : Int32), V) = some (nI (if decide (tyN tp a = 2 ∧ 18 ≤ if tyN tp a = 2 then y else 22) = true then 0 else 1), V) := by
      intro q
      rw [if_neg (by simp [e]; omega)]
      rfl
    by_cases e0 : y = 0
    · rw [if_pos (show lg_cmp (V.G 137 7) 187475625 = 0 from (c 0 (by omega)).mpr e0)]
      exact yes (by omega)
    rw [if_neg (show ¬ lg_cmp (V.G 137 7) 187475625 = 0 from fun q => e0 ((c 0 (by omega)).mp q))]
    by_cases e1 : y = 1
    · rw [if_pos (show lg_cmp (V.G 137 7) 257 = 0 from (c 1 (by omega)).mpr e1)]
      exact yes (by omega)
    rw [if_neg (show ¬ lg_cmp (V.G 137 7) 257 = 0 from fun q => e1 ((c 1 (by omega)).mp q))]
    by_cases e2 : y = 2
    · rw [if_pos (show lg_cmp (V.G 137 7) 385497 = 0 from (c 2 (by omega)).mpr e2)]
      exact yes (by omega)
    rw [if_neg (show ¬ lg_cmp (V.G 137 7) 385497 = 0 from fun q => e2 ((c 2 (by omega)).mp q))]
    by_cases e3 : y = 3
    · rw [if_pos (show lg_cmp (V.G 137 7) 8887 = 0 from (c 3 (by omega)).mpr e3)]
      exact yes (by omega)
    rw [if_neg (show ¬ lg_cmp (V.G 137 7) 8887 = 0 from fun q => e3 ((c 3 (by omega)).mp q))]
    by_cases e4 : y = 4
    · rw [if_pos (show lg_cmp (V.G 137 7) 6128141 = 0 from (c 4 (by omega)).mpr e4)]
      exact yes (by omega)
    rw [if_neg (show ¬ lg_cmp (V.G 137 7) 6128141 = 0 from fun q => e4 ((c 4 (by omega)).mp q))]
    by_cases e5 : y = 5
    · rw [if_pos (show lg_cmp (V.G 137 7) 12089 = 0 from (c 5 (by omega)).mpr e5)]
      exact yes (by omega)
    rw [if_neg (show ¬ lg_cmp (V.G 137 7) 12089 = 0 from fun q => e5 ((c 5 (by omega)).mp q))]
    by_cases e6 : y = 6
    · rw [if_pos (show lg_cmp (V.G 137 7) 22726 = 0 from (c 6 (by omega)).mpr e6)]
      exact yes (by omega)
    rw [if_neg (show ¬ lg_cmp (V.G 137 7) 22726 = 0 from fun q => e6 ((c 6 (by omega)).mp q))]
    by_cases e7 : y = 7
    · rw [if_pos (show lg_cmp (V.G 137 7) 10656676 = 0 from (c 7 (by omega)).mpr e7)]
      exact yes (by omega)
    rw [if_neg (show ¬ lg_cmp (V.G 137 7) 10656676 = 0 from fun q => e7 ((c 7 (by omega)).mp q))]
    by_cases e8 : y = 8
    · rw [if_pos (show lg_cmp (V.G 137 7) 281490259 = 0 from (c 8 (by omega)).mpr e8)]
      exact yes (by omega)
    rw [if_neg (show ¬ lg_cmp (V.G 137 7) 281490259 = 0 from fun q => e8 ((c 8 (by omega)).mp q))]
    by_cases e9 : y = 9
    · rw [if_pos (show lg_cmp (V.G 137 7) 3692 = 0 from (c 9 (by omega)).mpr e9)]
      exact yes (by omega)
    rw [if_neg (show ¬ lg_cmp (V.G 137 7) 3692 = 0 from fun q => e9 ((c 9 (by omega)).mp q))]
    by_cases e10 : y = 10
    · rw [if_pos (show lg_cmp (V.G 137 7) 495765 = 0 from (c 10 (by omega)).mpr e10)]
      exact yes (by omega)
    rw [if_neg (show ¬ lg_cmp (V.G 137 7) 495765 = 0 from fun q => e10 ((c 10 (by omega)).mp q))]
    by_cases e11 : y = 11
    · rw [if_pos (show lg_cmp (V.G 137 7) 8740238 = 0 from (c 11 (by omega)).mpr e11)]
      exact yes (by omega)
    rw [if_neg (show ¬ lg_cmp (V.G 137 7) 8740238 = 0 from fun q => e11 ((c 11 (by omega)).mp q))]
    by_cases e12 : y = 12
    · rw [if_pos (show lg_cmp (V.G 137 7) 29637824 = 0 from (c 12 (by omega)).mpr e12)]
      exact yes (by omega)
    rw [if_neg (show ¬ lg_cmp (V.G 137 7) 29637824 = 0 from fun q => e12 ((c 12 (by omega)).mp q))]
    by_cases e13 : y = 13
    · rw [if_pos (show lg_cmp (V.G 137 7) 8984627224 = 0 from (c 13 (by omega)).mpr e13)]
      exact yes (by omega)
    rw [if_neg (show ¬ lg_cmp (V.G 137 7) 8984627224 = 0 from fun q => e13 ((c 13 (by omega)).mp q))]
    by_cases e14 : y = 14
    · rw [if_pos (show lg_cmp (V.G 137 7) 335098125 = 0 from (c 14 (by omega)).mpr e14)]
      exact yes (by omega)
    rw [if_neg (show ¬ lg_cmp (V.G 137 7) 335098125 = 0 from fun q => e14 ((c 14 (by omega)).mp q))]
    by_cases e15 : y = 15
    · rw [if_pos (show lg_cmp (V.G 137 7) 10631 = 0 from (c 15 (by omega)).mpr e15)]
      exact yes (by omega)
    rw [if_neg (show ¬ lg_cmp (V.G 137 7) 10631 = 0 from fun q => e15 ((c 15 (by omega)).mp q))]
    by_cases e16 : y = 16
    · rw [if_pos (show lg_cmp (V.G 137 7) 1111 = 0 from (c 16 (by omega)).mpr e16)]
      exact yes (by omega)
    rw [if_neg (show ¬ lg_cmp (V.G 137 7) 1111 = 0 from fun q => e16 ((c 16 (by omega)).mp q))]
    by_cases e17 : y = 17
    · rw [if_pos (show lg_cmp (V.G 137 7) 423 = 0 from (c 17 (by omega)).mpr e17)]
      exact yes (by omega)
    rw [if_neg (show ¬ lg_cmp (V.G 137 7) 423 = 0 from fun q => e17 ((c 17 (by omega)).mp q))]
    rw [if_pos (by simp [e]; omega)]
    rfl
  · rw [if_neg (show ¬ nI (mty (tyN tp a)) = 1 from nI_ne (b := 1) (fun q => e ((mty_1 _).mp q)) (by omega) (by omega)), if_neg (by simp [e])]
    rfl
theorem m_fails (h : MC V tp a) (x : Nat) : gX10_fails (nI x) V = some (nI 0, wF V 137 9 (nI (x + 16 * plN tp a))) := by
  unfold gX10_fails
  rw [h.2.2.1, show (16 : Int32) = nI 16 from rfl, pk_mul, nI_add]
  rfl
theorem MC.cg (h : MC V tp a) (eA : W.A 138 = V.A 138) (eF : ∀ k, 3 ≤ k → k ≤ 8 → W.F 137 k = V.F 137 k) (eG : W.G 137 7 = V.G 137 7) : MC W tp a := by
  unfold MC SzM
  rw [eA, eF 3 (by omega) (by omega), eF 4 (by omega) (by omega), eF 5 (by omega) (by omega), eF 6 (by omega) (by omega), eF 8 (by omega) (by omega), eG]
  exact h
end PToksM
