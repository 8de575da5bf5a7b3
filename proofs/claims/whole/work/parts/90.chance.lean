/-! PURE: chance. -/
theorem pc_lw {V W : VT} {E : VE} {p : PP} (hE : E.1 = 6 ∨ E.1 = 15) (h : PastC V E.1 p) (f : fr lwA lwF V W) : PastC W E.1 p := by
  refine h.fr f (fun a ha hb => ?_) (fun i k hik => ?_)
  · unfold lwA
    omega
  · unfold lwF
    omega
def pmN (p : PP) (m o : Nat) : Nat → Nat → Nat → Nat → Nat → Nat
  | 0, s, _, _, _ => if s = 0 then 1 else 0
  | k + 1, s, c, t, y => (if priceN p m ≤ t then o * pmN p m o k (sYear p m (sCoat p m s c y) (cCoat p m c)) (cCoat p m c) (pYear p (t - priceN p m)) (y + 1) else o * pmN p m o k (sYear p m s c) c (pYear p t) (y + 1)) + (10 - o) * pmN p m o k (sYear p m s c) c (pYear p t) (y + 1)
theorem ten_le {o a b x : Nat} (ho : o ≤ 10) (ha : a ≤ x) (hb : b ≤ x) : o * a + (10 - o) * b ≤ 10 * x := by
  have h1 := Nat.mul_le_mul_left o ha
  have h2 := Nat.mul_le_mul_left (10 - o) hb
  have h3 : o * x + (10 - o) * x = 10 * x := by rw [← Nat.add_mul]; congr 1; omega
  omega
theorem pm_le (p : PP) {m o : Nat} (ho : o ≤ 10) : ∀ k s c t y, pmN p m o k s c t y ≤ 10 ^ k
  | 0, s, c, t, y => by
    rw [pmN]
    split <;> simp
  | k + 1, s, c, t, y => by
    rw [pmN, Nat.pow_succ, Nat.mul_comm (10 ^ k) 10]
    split
    · exact ten_le ho (pm_le p ho k _ _ _ _) (pm_le p ho k _ _ _ _)
    · exact ten_le ho (pm_le p ho k _ _ _ _) (pm_le p ho k _ _ _ _)
section PChance
variable {E : VE} {V : VT} {p : PP} {S : ST} {m c N o : Nat}
theorem c_parts (hE : E.1 = 6 ∨ E.1 = 15) (hN : 1000 < N) (hm : m < p.n) (ho : o ≤ 10) : ∀ (k j s d t y : Nat) (V : VT), k < j → PastC V E.1 p → s ≤ 40 → d + k < 2 ^ 30 → t ≤ 200 → y + k < 2 ^ 30 → tot (gX9_partsMeant_k E N j (nI m) (nI s) (nI d) (nI t) (nI y) (nI (y + k)) (nI o) V) (fun r => r.1 = nI (pmN p m o k s d t y) ∧ fr lwA lwF V r.2) := by
  intro k
  induction k with
  | zero =>
    intro j s d t y V hj h hs hd ht hy
    obtain ⟨j, rfl⟩ : ∃ i, j = i + 1 := ⟨j - 1, by omega⟩
    show tot (gX9_partsMeant_g E (gX9_partsMeant_k E N j) N _ _ _ _ _ _ _ V) _
    unfold gX9_partsMeant_g
    try simp (disch := omega) only [fa_lit, ne_le, ne_lt, ne_eq', nI_add, pk_mul, pk_sub, rdA_n, wrA_n, rdL_n, wrL_n, nI_one, nI_bit1, nI_bit0, fa_or, fa_and, nI_df, nat31, Option.bind_some, m1_le0, m1_lt0, m1_eq, eq_m1, ite_nI, sub_m, pk_m1', not_lt0]
    rw [if_neg (by omega), pmN]
    by_cases e : s = 0
    · rw [if_pos e, if_pos e]
      exact tot_some ⟨rfl, fr.rf⟩
    · rw [if_neg e, if_neg e]
      exact tot_some ⟨rfl, fr.rf⟩
  | succ k ih =>
    intro j s d t y V hj h hs hd ht hy
    obtain ⟨j, rfl⟩ : ∃ i, j = i + 1 := ⟨j - 1, by omega⟩
    have g := h.1
    have hp := priceN_le g m
    show tot (gX9_partsMeant_g E (gX9_partsMeant_k E N j) N _ _ _ _ _ _ _ V) _
    unfold gX9_partsMeant_g
    rw [if_pos (nI_lt (by omega) (by omega)), c_sYear h hm hs (by omega)]
    simp only [Option.bind_some]
    rw [c_pYear h ht]
    simp only [Option.bind_some]
    rw [show nI y + 1 = nI (y + 1) from nI_1 y, show y + (k + 1) = y + 1 + k by omega]
    refine tot_bd (ih j _ d _ (y + 1) V (by omega) h (sYear_le g _ hm hs) (by omega) (pYear_le p _) (by omega)) (fun r3 h3 => ?_)
    have P3 := pc_lw hE h h3.2
    rw [c_price P3 hm]
    simp only [Option.bind_some]
    rw [h3.1, pmN]
    have no : ∀ (W : VT), W = r3.2 → ¬ (priceN p m ≤ t) ∨ o = 0 → tot (some (10 * nI (pmN p m o k (sYear p m s d) d (pYear p t) (y + 1)), W)) (fun r => r.1 = nI ((if priceN p m ≤ t then o * pmN p m o k (sYear p m (sCoat p m s d y) (cCoat p m d)) (cCoat p m d) (pYear p (t - priceN p m)) (y + 1) else o * pmN p m o k (sYear p m s d) d (pYear p t) (y + 1)) + (10 - o) * pmN p m o k (sYear p m s d) d (pYear p t) (y + 1)) ∧ fr lwA lwF V r.2) := by
      intro W hW hc
      subst hW
      refine tot_some ⟨?_, h3.2⟩
      dsimp only
      rw [show (10 : Int32) = nI 10 from rfl, pk_mul]
      refine congrArg nI ?_
      rcases hc with hc | hc
      · rw [if_neg hc, ← Nat.add_mul, show o + (10 - o) = 10 by omega]
      · subst hc
        split <;> simp
    by_cases h0 : o = 0
    · rw [if_pos (show nI o = 0 by rw [h0]; rfl)]
      exact no _ rfl (Or.inr h0)
    rw [if_neg (show ¬ nI o = 0 from nI_ne (b := 0) h0 (by omega) (by omega))]
    by_cases hc : priceN p m ≤ t
    · rw [if_pos (nI_le hc (by omega)), if_pos hc]
      refine tot_bd (c_sCoat P3 hN hm hs) (fun r5 h5 => ?_)
      have P5 := P3.frL h5.2
      have hcl : cCoat p m d ≤ d + 1 := by
        unfold cCoat
        split <;> omega
      rw [c_cCoat P5 hm, h5.1]
      simp only [Option.bind_some]
      rw [c_sYear P5 hm (sCoat_le p _ _ hs) (by omega)]
      simp only [Option.bind_some]
      rw [pk_sub hc, c_pYear P5 (by omega)]
      simp only [Option.bind_some]
      refine tot_bd (ih j _ _ _ (y + 1) r5.2 (by omega) P5 (sYear_le g _ hm (sCoat_le p _ _ hs)) (by omega) (pYear_le p _) (by omega)) (fun r9 h9 => ?_)
      refine tot_some ⟨?_, (h3.2.trans (frL_lw hE h5.2)).trans h9.2⟩
      dsimp only
      rw [h9.1, show (10 : Int32) = nI 10 from rfl, pk_sub ho, pk_mul, pk_mul, nI_add]
    · rw [if_neg (nI_ge (by omega) (by omega))]
      exact no _ rfl (Or.inl hc)
theorem c_chance_b82 {a : Nat} : ∀ (w k : Nat), k ≤ 6 → 6 - k < w → gX9_chance_b82 E N w (nI a) (nI k) V = some (nI (a * 10 ^ (6 - k)), V) := by
  intro w
  induction w generalizing a with
  | zero => intro k _ h; omega
  | succ w ih =>
    intro k hk hw
    unfold gX9_chance_b82
    try simp (disch := omega) only [fa_lit, ne_le, ne_lt, ne_eq', nI_add, pk_mul, pk_sub, rdA_n, wrA_n, rdL_n, wrL_n, nI_one, nI_bit1, nI_bit0, fa_or, fa_and, nI_df, nat31, Option.bind_some, m1_le0, m1_lt0, m1_eq, eq_m1, ite_nI, sub_m, pk_m1', not_lt0]
    by_cases hc : 6 ≤ k
    · rw [if_pos hc, show 6 - k = 0 by omega]
      simp
    · rw [if_neg hc, ih (k + 1) (by omega) (by omega), show 6 - k = (6 - (k + 1)) + 1 by omega, Nat.pow_succ, Nat.mul_assoc, Nat.mul_comm 10]
end PChance
def rnN (p : PP) (m : Nat) : Nat → Nat → ST → ST
  | 0, _, S => S
  | k + 1, s, S => rnN p m k (s / 2) (passS p (if s % 2 = 1 ∧ priceN p m ≤ S.po then putOn p S m else S))
def wtN (o : Nat) : Nat → Nat → Nat
  | 0, _ => 1
  | k + 1, s => (if s % 2 = 1 then o else 10 - o) * wtN o k (s / 2)
def ttf (p : PP) (m o k : Nat) (S : ST) (s : Nat) : Nat := if (rnN p m k s S).so m = 0 then wtN o k s else 0
theorem sm_two (f : Nat → Nat) : ∀ n, sm f (2 * n) = sm (fun s => f (2 * s) + f (2 * s + 1)) n
  | 0 => rfl
  | n + 1 => by
    rw [show 2 * (n + 1) = 2 * n + 1 + 1 by omega, sm, sm, sm_two f n, sm]
    omega
theorem tt_pm {p : PP} {m o : Nat} : ∀ (k : Nat) (S : ST), sm (ttf p m o k S) (2 ^ k) = pmN p m o k (S.so m) (S.co m) S.po S.ye
  | 0, S => by
    show 0 + (if S.so m = 0 then 1 else 0) = _
    rw [pmN]
    omega
  | k + 1, S => by
    rw [Nat.pow_succ, Nat.mul_comm, sm_two, sm_add]
    have e0 : ∀ s, ttf p m o (k + 1) S (2 * s) = (10 - o) * ttf p m o k (passS p S) s := by
      intro s
      unfold ttf
      rw [rnN, wtN, if_neg (show ¬ (2 * s) % 2 = 1 by omega), if_neg (show ¬ ((2 * s) % 2 = 1 ∧ priceN p m ≤ S.po) by omega), show 2 * s / 2 = s by omega]
      split <;> simp
    have e1 : ∀ s, ttf p m o (k + 1) S (2 * s + 1) = o * ttf p m o k (passS p (if priceN p m ≤ S.po then putOn p S m else S)) s := by
      intro s
      unfold ttf
      rw [rnN, wtN, if_pos (show (2 * s + 1) % 2 = 1 by omega), show (2 * s + 1) / 2 = s by omega]
      have e2 : (if (2 * s + 1) % 2 = 1 ∧ priceN p m ≤ S.po then putOn p S m else S) = (if priceN p m ≤ S.po then putOn p S m else S) := by
        by_cases h : priceN p m ≤ S.po
        · rw [if_pos ⟨by omega, h⟩, if_pos h]
        · rw [if_neg (fun q => h q.2), if_neg h]
      rw [e2]
      generalize (rnN p m k s (passS p (if priceN p m ≤ S.po then putOn p S m else S))).so m = z
      by_cases hz : z = 0 <;> simp [hz]
    rw [sm_congr (g := fun s => (10 - o) * ttf p m o k (passS p S) s) (fun i _ => e0 i), sm_congr (g := fun s => o * ttf p m o k (passS p (if priceN p m ≤ S.po then putOn p S m else S)) s) (fun i _ => e1 i), sm_mul, sm_mul, tt_pm k, tt_pm k, pmN, Nat.add_comm]
    by_cases h : priceN p m ≤ S.po
    · rw [if_pos h, if_pos h]
      congr 2
      have a1 : (putOn p S m).so m = sCoat p m (S.so m) (S.co m) S.ye := if_pos rfl
      have a2 : (putOn p S m).co m = cCoat p m (S.co m) := if_pos rfl
      show pmN p m o k (sYear p m ((putOn p S m).so m) ((putOn p S m).co m)) ((putOn p S m).co m) (pYear p (S.po - priceN p m)) (S.ye + 1) = _
      rw [a1, a2]
    · rw [if_neg h, if_neg h]
      rfl
section PChanceM
variable {E : VE} {V : VT} {p : PP} {S : ST} {m c N o : Nat}
theorem Row.fr {W X : VT} {A : Nat → Prop} {F : Nat → Nat → Prop} {a b n : Nat} (h : Row W a b n S) (f : fr A F W X) (hA : ¬ A a) : Row X a b n S := h.cp (fun k _ => by rw [f.2.2.1 a hA])
theorem m_ch_in {K : Int32 → Int32 → Int32 → Int64 → Int64 → Int32 → VT → Option (Int32 × VT)} {Q : Int32 × VT → Prop} {u st bl : Nat} (h : MQn V p S c) (hN : 1000 < N) (hm : m < p.n) (hu : u ≤ 6) (ho : o ≤ 10) (hst : st < 64) : ∀ (w k acc n : Nat) (S' : ST) (W : VT), k ≤ u → u - k < w → MSt W p.n S' → Row W 169 0 p.n S → mf V W → GoodS p (c + 2 * k) S' →
    (∀ W2, MSt W2 p.n S → Row W2 169 0 p.n S → mf V W2 → tot (K (nI m) (nI u) (nI o) (lN (acc + n * (if (rnN p m (u - k) (st / 2 ^ k) S').so m = 0 then wtN o (u - k) (st / 2 ^ k) else 0))) (lN bl) (nI (st + 1)) W2) Q) →
    tot (gX10_chance_b94 N K w (nI m) (nI u) (nI o) (lN acc) (lN bl) (nI st) (lN n) (nI k) W) Q := by
  have hn := h.1.1.1
  have hcc := h.2.2.2
  intro w
  induction w with
  | zero => intro k acc n S' W _ h; omega
  | succ w ih =>
    intro k acc n S' W hk hw hM hR hf hg hK
    have hso := (hM.so hn hm).1
    have gm := hg.1 m hm
    have gp := hg.2
    have PM := h.1.mf hf
    have hpr := priceN_le h.1.1 m
    unfold gX10_chance_b94
    by_cases hc : k = u
    · subst hc
      have fin : ∀ a, a = acc + n * (if S'.so m = 0 then 1 else 0) → tot (gX10_chance_b190 N K (nI m) (nI k) (nI o) (lN a) (lN bl) (nI st) W) Q := by
        intro a ha
        unfold gX10_chance_b190
        rw [show (0 : Int32) = nI 0 from rfl]
        refine tot_bd (m_copies (V := W) (a1 := 169) (a2 := 167) (x := 0) (y := 0) (by omega) (by omega) (by omega) (by omega) (by omega) hN) (fun X hX => ?_)
        rw [show nI st + 1 = nI (st + 1) from nI_1 st]
        have hK2 := hK X ((hR.cp hX.1).st) (hR.fr hX.2.2 (by omega)) (hf.trans (fr_mf hX.2.2 (fun a ha => by unfold mxA; omega) (fun i k q => False.elim q)))
        rw [Nat.sub_self, ← show a = acc + n * (if (rnN p m 0 (st / 2 ^ k) S').so m = 0 then wtN o 0 (st / 2 ^ k) else 0) from ha] at hK2
        exact hK2
      rw [if_pos (nI_le (Nat.le_refl _) (by omega)), show (2 : Int32) + nI m = nI (2 + m) from nI_add 2 m, rdA_n (by omega) (by omega), Option.bind_some, hso]
      by_cases e : S'.so m = 0
      · rw [if_pos (show nI (S'.so m) = 0 by rw [e]; rfl), lN_add]
        exact fin _ (by rw [if_pos e]; omega)
      · rw [if_neg (show ¬ nI (S'.so m) = 0 from nI_ne (b := 0) e (by omega) (by omega))]
        exact fin _ (by rw [if_neg e]; omega)
    · have eu : u - k = (u - (k + 1)) + 1 := by omega
      rw [eu] at hK
      have ed : st / 2 ^ k / 2 = st / 2 ^ (k + 1) := by rw [Nat.div_div_eq_div_mul, Nat.pow_succ]
      have next : ∀ (x : Nat) (S2 : ST) (X : VT), MSt X p.n S2 → Row X 169 0 p.n S → mf V X → GoodS p (c + 2 * k + 1) S2 → rnN p m (u - (k + 1) + 1) (st / 2 ^ k) S' = rnN p m (u - (k + 1)) (st / 2 ^ (k + 1)) (passS p S2) → wtN o (u - (k + 1) + 1) (st / 2 ^ k) = x * wtN o (u - (k + 1)) (st / 2 ^ (k + 1)) → tot (gX10_chance_b162 N (gX10_chance_b94 N K w) (nI m) (nI u) (nI o) (lN acc) (lN bl) (nI st) (lN (n * x)) (nI k) X) Q := by
        intro x S2 X hM2 hR2 hf2 hg2 e1 e2
        unfold gX10_chance_b162
        refine tot_bd (m_passes (h.1.mf hf2) hM2 hg2 (by omega) hN) (fun Y hY => ?_)
        rw [show nI k + 1 = nI (k + 1) from nI_1 k]
        refine ih (k + 1) acc (n * x) (passS p S2) Y (by omega) (by omega) hY.1 (hR2.fr hY.2 (by unfold s7; omega)) (hf2.trans (s7_mf hY.2)) (hg2.pass h.1.1) (fun W2 a1 a2 a3 => ?_)
        have hK2 := hK W2 a1 a2 a3
        rw [e1, e2] at hK2
        rw [show n * x * (if (rnN p m (u - (k + 1)) (st / 2 ^ (k + 1)) (passS p S2)).so m = 0 then wtN o (u - (k + 1)) (st / 2 ^ (k + 1)) else 0) = n * (if (rnN p m (u - (k + 1)) (st / 2 ^ (k + 1)) (passS p S2)).so m = 0 then x * wtN o (u - (k + 1)) (st / 2 ^ (k + 1)) else 0) by split <;> simp [Nat.mul_assoc]]
        exact hK2
      rw [if_neg (nI_ge (by omega) (by omega))]
      have hb : (((nI st >>> (nI k &&& 31)) &&& 1) = 1) = (st / 2 ^ k % 2 = 1) := by
        rw [show nI k &&& (31 : Int32) = nI k by rw [show (31 : Int32) = nI 31 from rfl, fa_and, nat31 (by omega)], show (1 : Int32) = nI 1 from rfl, nI_bit1 (by omega) (by omega), Nat.testBit_eq_decide_div_mod_eq]
        simp
      by_cases hbit : st / 2 ^ k % 2 = 1
      · rw [if_pos (hb.mpr hbit)]
        unfold gX10_chance_b116
        rw [if_neg (by decide), nI_l (by omega)]
        unfold gX10_chance_b135
        rw [if_neg (by decide), m_price PM hm, Option.bind_some, lN_mul, hM.2.1]
        dsimp only
        have ew : wtN o (u - (k + 1) + 1) (st / 2 ^ k) = o * wtN o (u - (k + 1)) (st / 2 ^ (k + 1)) := by rw [wtN, if_pos hbit, ed]
        by_cases hcan : priceN p m ≤ S'.po
        · rw [if_neg (nI_nlt hcan (by omega))]
          refine tot_bd (m_coats PM hM hg (by omega) hN hm hcan) (fun X hX => ?_)
          refine next o (putOn p S' m) X hX.1 (hR.fr hX.2 (by unfold wkB s7; omega)) (hf.trans (ws_mf hX.2)) hg.put ?_ ew
          rw [rnN, if_pos ⟨hbit, hcan⟩, ed]
        · rw [if_pos (nI_lt (by omega) (by omega))]
          refine next o S' W hM hR hf (hg.mono (by omega)) ?_ ew
          rw [rnN, if_neg (fun q => hcan q.2), ed]
      · rw [if_neg (fun q => hbit (hb.mp q))]
        unfold gX10_chance_b116
        rw [if_pos rfl]
        unfold gX10_chance_b135
        rw [if_pos rfl, show (10 : Int32) = nI 10 from rfl, pk_sub ho, nI_l (by omega), lN_mul]
        refine next (10 - o) S' W hM hR hf (hg.mono (by omega)) ?_ ?_
        · rw [rnN, if_neg (fun q => hbit q.1), ed]
        · rw [wtN, if_neg hbit, ed]
theorem q_chance (g : GoodP p) (hN : 1000 < N) (x y z : Int32) : ∃ v, Qc E p S c (fun V => gX9_chance E N x y z V) v ∧ Qm p S c (fun V => gX10_chance N x y z V) v := by
  unfold gX9_chance gX10_chance
  have hn := g.1
  refine qT (qM hn (fun m hm e => ?_))
  subst e
  refine qW 1 6 rfl rfl (by omega) (by omega) (fun u hu1 hu e => ?_)
  subst e
  refine qW 0 10 rfl rfl (by omega) (by omega) (fun o _ ho e => ?_)
  subst e
  have hpm := pm_le p (m := m) ho u (S.so m) (S.co m) S.po S.ye
  have h2u : (2 : Nat) ^ u ≤ 64 := Nat.pow_le_pow_right (by decide) hu
  have h10 : (10 : Nat) ^ u ≤ 1000000 := Nat.pow_le_pow_right (by decide) hu
  refine ⟨nI (pmN p m o u (S.so m) (S.co m) S.po S.ye * 10 ^ (6 - u)), fun V h => ?_, fun V h => ?_⟩
  · have hcc := h.2.2.2.2
    have gm := h.2.2.2.1.1 m hm
    have gp := h.2.2.2.1.2
    dsimp only
    rw [rdA_n (by omega) (by omega), rdA_n (by omega) (by omega), Option.bind_some, Option.bind_some, (h.2.2.1.1 m hm).1, (h.2.2.1.1 m hm).2, h.2.2.1.2.1, h.2.2.1.2.2, nI_add]
    unfold gX9_partsMeant
    refine tot_bd (c_parts h.1 hN hm ho u 10 _ _ _ _ V (by omega) h.2.1 gm.1 (by omega) gp.1 (by omega)) (fun r hr => ?_)
    rw [hr.1, c_chance_b82 N u hu (by omega)]
    exact tot_some ⟨rfl, lw_sc hr.2⟩
  · dsimp only
    have key : ∀ w k, k ≤ u → u - k < w → gX10_chance_b44 N w (nI m) (nI u) (nI o) 0 (lN (10 ^ k)) (nI k) V = ((gX10_copies N 167 16 0 169 16 0 V).bind fun V1 => gX10_chance_b80 N N (nI m) (nI u) (nI o) 0 (lN (10 ^ u)) 0 V1) := by
      intro w
      induction w with
      | zero => intro k _ h; omega
      | succ w ih =>
        intro k hk hw
        unfold gX10_chance_b44
        by_cases hc : k = u
        · subst hc
          rw [if_pos (nI_le (Nat.le_refl _) (by omega))]
        · rw [if_neg (nI_ge (by omega) (by omega)), show (10 : Int64) = lN 10 from rfl, lN_mul, ← Nat.pow_succ, show nI k + 1 = nI (k + 1) from nI_1 k]
          exact ih (k + 1) (by omega) (by omega)
    rw [show (1 : Int64) = lN (10 ^ 0) from rfl, show gX10_chance_b44 N N (nI m) (nI u) (nI o) 0 (lN (10 ^ 0)) 0 V = _ from key N 0 (by omega) (by omega)]
    refine tot_bd (ah_0 h hN) (fun W hW => ?_)
    refine loop_T (F := fun w (a : Nat) k V => gX10_chance_b80 N w (nI m) (nI u) (nI o) (lN a) (lN (10 ^ u)) (nI k) V) (2 ^ u) (fun k a W => a = sm (ttf p m o u S) k ∧ MSt W p.n S ∧ Row W 169 0 p.n S ∧ mf V W) ?_ ?_ N 0 0 W (Nat.zero_le _) (by omega) ⟨rfl, hW.1, hW.2.1, hW.2.2⟩
    · intro w k a W hk hI hK
      obtain ⟨i1, i2, i3, i4⟩ := hI
      show tot (gX10_chance_b80 N (w + 1) (nI m) (nI u) (nI o) (lN a) (lN (10 ^ u)) (nI k) W) _
      unfold gX10_chance_b80
      try simp (disch := omega) only [fa_lit, ne_le, ne_lt, ne_eq', nI_add, pk_mul, pk_sub, rdA_n, wrA_n, rdL_n, wrL_n, nI_one, nI_bit1, nI_bit0, fa_or, fa_and, nI_df, nat31, Option.bind_some, m1_le0, m1_lt0, m1_eq, eq_m1, ite_nI, sub_m, pk_m1', not_lt0]
      rw [if_neg (by omega)]
      refine m_ch_in h hN hm hu ho (by omega) N 0 a 1 S W (by omega) (by omega) i2 i3 i4 h.2.2.1 (fun W2 a1 a2 a3 => ?_)
      refine hK _ W2 ⟨?_, a1, a2, a3⟩
      rw [sm, ← i1, Nat.one_mul, Nat.sub_zero, Nat.pow_zero, Nat.div_one]
      rfl
    · intro w a W hI
      obtain ⟨i1, i2, i3, i4⟩ := hI
      show tot (gX10_chance_b80 N (w + 1) (nI m) (nI u) (nI o) (lN a) (lN (10 ^ u)) (nI (2 ^ u)) W) _
      rw [tt_pm] at i1
      unfold gX10_chance_b80
      try simp (disch := omega) only [fa_lit, ne_le, ne_lt, ne_eq', nI_add, pk_mul, pk_sub, rdA_n, wrA_n, rdL_n, wrL_n, nI_one, nI_bit1, nI_bit0, fa_or, fa_and, nI_df, nat31, Option.bind_some, m1_le0, m1_lt0, m1_eq, eq_m1, ite_nI, sub_m, pk_m1', not_lt0]
      rw [if_pos (Nat.le_refl _)]
      have hz : qZL (lN (10 ^ u)) = some () := by
        unfold qZL
        refine if_neg (fun q => ?_)
        have hp : 0 < 10 ^ u := Nat.pow_pos (by decide)
        have := (pk_lEQ (b := 0) (by omega) (by omega)).mp q
        omega
      have hp : 0 < 10 ^ u := Nat.pow_pos (by decide)
      rw [hz, Option.bind_some, show (1000000 : Int64) = lN 1000000 from rfl, lN_mul, pk_lDiv (by omega) hp (by omega), lN_i]
      refine tot_some ⟨?_, i2, i4⟩
      dsimp only
      rw [i1]
      congr 1
      have h6 : (1000000 : Nat) = 10 ^ (6 - u) * 10 ^ u := by
        rw [← Nat.pow_add, show 6 - u + u = 6 by omega]
      rw [h6, ← Nat.mul_assoc, Nat.mul_div_cancel _ hp]
end PChanceM
