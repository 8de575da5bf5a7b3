/-! PURE: states of the class: copied, begun, spread, eaten, passed. -/
/-- but for what A and F name all is as it was -/
def fr (A : Nat → Prop) (F : Nat → Nat → Prop) (V W : VT) : Prop := W.L = V.L ∧ W.G = V.G ∧ (∀ a, ¬ A a → W.A a = V.A a) ∧ ∀ i k, ¬ F i k → W.F i k = V.F i k
theorem fr.rf {A : Nat → Prop} {F : Nat → Nat → Prop} {V : VT} : fr A F V V := ⟨rfl, rfl, fun _ _ => rfl, fun _ _ _ => rfl⟩
theorem fr.trans {A : Nat → Prop} {F : Nat → Nat → Prop} {V W X : VT} (h : fr A F V W) (k : fr A F W X) : fr A F V X := ⟨k.1.trans h.1, k.2.1.trans h.2.1, fun a ha => (k.2.2.1 a ha).trans (h.2.2.1 a ha), fun i j hij => (k.2.2.2 i j hij).trans (h.2.2.2 i j hij)⟩
theorem fr.mono {A B : Nat → Prop} {F G : Nat → Nat → Prop} {V W : VT} (h : fr A F V W) (hA : ∀ a, A a → B a) (hF : ∀ i k, F i k → G i k) : fr B G V W := ⟨h.1, h.2.1, fun a ha => h.2.2.1 a (fun q => ha (hA a q)), fun i k hk => h.2.2.2 i k (fun q => hk (hF i k q))⟩
theorem fr_A {A : Nat → Prop} {F : Nat → Nat → Prop} {V : VT} {a : Nat} (k : Nat) (x : Int32) (h : A a) : fr A F V (wA V a k x) := ⟨rfl, rfl, fun b hb => wA_n V k x (fun e => hb (e ▸ h)), fun _ _ _ => rfl⟩
theorem fr_F {A : Nat → Prop} {F : Nat → Nat → Prop} {V : VT} {o k : Nat} (x : Int32) (h : F o k) : fr A F V (wF V o k x) := ⟨rfl, rfl, fun _ _ => rfl, fun i j hij => by rw [wF_F, if_neg (fun q => hij (by rw [q.1, q.2]; exact h))]⟩
theorem frL.fr {o : Nat} {V W : VT} (h : frL o V W) {A : Nat → Prop} {F : Nat → Nat → Prop} (hA : A (o + 2)) (hF : F o 3) : fr A F V W := ⟨h.1, h.2.1, fun a ha => h.2.2.1 a (fun e => ha (e ▸ hA)), fun i k hk => h.2.2.2 i k (fun q => hk (by rw [q.1, q.2]; exact hF))⟩
section PState
variable {V W : VT} {T : Nat} {p : PP} {A : Nat → Prop} {F : Nat → Nat → Prop} {S : ST} {o n c m : Nat}
theorem PastC.fr (h : PastC V T p) (f : fr A F V W) (hA : ∀ a, T + 2 ≤ a → a ≤ T + 7 → ¬ A a) (hF : ∀ i k, (i = T ∧ 6 ≤ k ∧ k ≤ 9 ∨ i = T + 6 ∧ k = 2) → ¬ F i k) : PastC W T p := by
  obtain ⟨g, ⟨a, b, c, d⟩, e, sl, s1, s2, s3, s4⟩ := h
  obtain ⟨f1, f2, f3, f4⟩ := f
  refine ⟨g, ⟨by rw [f4 _ _ (hF _ _ (by omega)), a], by rw [f4 _ _ (hF _ _ (by omega)), b], by rw [f4 _ _ (hF _ _ (by omega)), c], by rw [f4 _ _ (hF _ _ (by omega)), d]⟩, fun m hm => ?_, sl, s1, by rw [f4 _ _ (hF _ _ (by omega)), s2], fun i hi => by rw [f3 _ (hA _ (by omega) (by omega)), s3 i hi], s4⟩
  obtain ⟨x1, x2, x3, x4, x5⟩ := e m hm
  exact ⟨by rw [f3 _ (hA _ (by omega) (by omega)), x1], by rw [f3 _ (hA _ (by omega) (by omega)), x2], by rw [f3 _ (hA _ (by omega) (by omega)), x3], by rw [f3 _ (hA _ (by omega) (by omega)), x4], by rw [f1, x5]⟩
theorem StC.fr (h : StC V o n S) (f : fr A F V W) (h1 : ¬ A (o + 1)) (h2 : ¬ A (o + 2)) (h3 : ¬ F o 2) (h4 : ¬ F o 3) : StC W o n S := by
  obtain ⟨f1, f2, f3, f4⟩ := f
  exact ⟨fun m hm => by rw [f3 _ h1, f3 _ h2]; exact h.1 m hm, by rw [f4 _ _ h3]; exact h.2.1, by rw [f4 _ _ h4]; exact h.2.2⟩
/-- what a state's object holds -/
def soA (o : Nat) (a : Nat) : Prop := a = o + 1 ∨ a = o + 2
def soF (o : Nat) (i k : Nat) : Prop := i = o ∧ (k = 2 ∨ k = 3)
theorem c_copy_b2 {o1 N : Nat} (ho : o + 1 ≠ o1 + 1 ∧ o + 1 ≠ o1 + 2 ∧ o + 2 ≠ o1 + 1) : ∀ (w k : Nat) (V : VT), k ≤ 7 → 7 - k < w →
    tot (gX8_copy_b2 N w o o1 (nI k) V) (fun W => (∀ m, k ≤ m → m < 7 → W.A (o + 1) m = V.A (o1 + 1) m ∧ W.A (o + 2) m = V.A (o1 + 2) m) ∧ (∀ m, m < k → W.A (o + 1) m = V.A (o + 1) m ∧ W.A (o + 2) m = V.A (o + 2) m) ∧ W.F o 2 = V.F o1 2 ∧ W.F o 3 = V.F o1 3 ∧ fr (soA o) (soF o) V W) := by
  intro w
  induction w with
  | zero => intro k V _ h; omega
  | succ w ih =>
    intro k V hk hw
    unfold gX8_copy_b2
    simp (disch := omega) only [fa_lit, ne_le, ne_lt, ne_eq', nI_add, pk_mul, pk_sub, rdA_n, wrA_n, rdL_n, wrL_n, nI_one, nI_bit1, nI_bit0, fa_or, fa_and, nI_df, nat31, Option.bind_some, m1_le0, m1_lt0, m1_eq, eq_m1, ite_nI, sub_m, pk_m1', not_lt0]
    by_cases hc : 7 ≤ k
    · rw [if_pos hc]
      refine tot_some ⟨fun m h1 h2 => by omega, fun m _ => ⟨rfl, rfl⟩, ?_, ?_, (fr_F _ (by simp [soF])).trans (fr_F _ (by simp [soF]))⟩
      · rw [wF_F, if_neg (by omega), wF_F, if_pos ⟨rfl, rfl⟩]
      · rw [wF_F, if_pos ⟨rfl, rfl⟩, wF_F, if_neg (by omega)]
    · rw [if_neg hc]
      refine tot_mo (ih (k + 1) _ (by omega) (by omega)) (fun W h => ?_)
      obtain ⟨h1, h2, h3, h4, h5⟩ := h
      refine ⟨fun m hm1 hm2 => ?_, fun m hm => ?_, h3, h4, ((fr_A _ _ (by simp [soA])).trans (fr_A _ _ (by simp [soA]))).trans h5⟩
      · by_cases hmk : m = k
        · subst hmk
          have := h2 m (by omega)
          rw [this.1, this.2]
          simp (disch := omega) only [wA_A, wF_F, wA_F, wF_A, wA_L, wF_L, wA_G, wF_G, true_and, and_true, and_self, if_true, if_false, if_pos, if_neg]
        · have := h1 m (by omega) hm2
          rw [this.1, this.2]
          simp (disch := omega) only [wA_A, wF_F, wA_F, wF_A, wA_L, wF_L, wA_G, wF_G, true_and, and_true, and_self, if_true, if_false, if_pos, if_neg]
      · have := h2 m (by omega)
        rw [this.1, this.2]
        simp (disch := omega) only [wA_A, wF_F, wA_F, wF_A, wA_L, wF_L, wA_G, wF_G, true_and, and_true, and_self, if_true, if_false, if_pos, if_neg]
theorem c_copy {o1 N : Nat} (h : StC V o1 n S) (hn : n ≤ 7) (hN : 1000 < N) (ho : o + 1 ≠ o1 + 1 ∧ o + 1 ≠ o1 + 2 ∧ o + 2 ≠ o1 + 1) : tot (gX8_copy N o o1 V) (fun W => StC W o n S ∧ fr (soA o) (soF o) V W) := by
  unfold gX8_copy
  refine tot_mo (c_copy_b2 ho N 0 V (by omega) (by omega)) (fun W h2 => ?_)
  obtain ⟨h1, _, h3, h4, h5⟩ := h2
  refine ⟨⟨fun m hm => ?_, by rw [h3, h.2.1], by rw [h4, h.2.2]⟩, h5⟩
  rw [(h1 m (by omega) (by omega)).1, (h1 m (by omega) (by omega)).2]
  exact h.1 m hm
theorem c_begin_b2 {N : Nat} (hT : T + 7 < o) : ∀ (w k : Nat) (V : VT), k ≤ 7 → 7 - k < w →
    tot (gX8_begin_b2 N w o T (nI k) V) (fun W => (∀ m, k ≤ m → m < 7 → W.A (o + 1) m = V.A (T + 4) m ∧ W.A (o + 2) m = nI 0) ∧ (∀ m, m < k → W.A (o + 1) m = V.A (o + 1) m ∧ W.A (o + 2) m = V.A (o + 2) m) ∧ W.F o 2 = V.F T 8 ∧ W.F o 3 = nI 0 ∧ fr (soA o) (soF o) V W) := by
  intro w
  induction w with
  | zero => intro k V _ h; omega
  | succ w ih =>
    intro k V hk hw
    unfold gX8_begin_b2
    simp (disch := omega) only [fa_lit, ne_le, ne_lt, ne_eq', nI_add, pk_mul, pk_sub, rdA_n, wrA_n, rdL_n, wrL_n, nI_one, nI_bit1, nI_bit0, fa_or, fa_and, nI_df, nat31, Option.bind_some, m1_le0, m1_lt0, m1_eq, eq_m1, ite_nI, sub_m, pk_m1', not_lt0]
    by_cases hc : 7 ≤ k
    · rw [if_pos hc]
      refine tot_some ⟨fun m h1 h2 => by omega, fun m _ => ⟨rfl, rfl⟩, ?_, ?_, (fr_F _ (by simp [soF])).trans (fr_F _ (by simp [soF]))⟩
      · rw [wF_F, if_neg (by omega), wF_F, if_pos ⟨rfl, rfl⟩]
      · rw [wF_F, if_pos ⟨rfl, rfl⟩]
    · rw [if_neg hc]
      refine tot_mo (ih (k + 1) _ (by omega) (by omega)) (fun W h => ?_)
      obtain ⟨h1, h2, h3, h4, h5⟩ := h
      refine ⟨fun m hm1 hm2 => ?_, fun m hm => ?_, h3, h4, ((fr_A _ _ (by simp [soA])).trans (fr_A _ _ (by simp [soA]))).trans h5⟩
      · by_cases hmk : m = k
        · subst hmk
          have := h2 m (by omega)
          rw [this.1, this.2]
          simp (disch := omega) only [wA_A, wF_F, wA_F, wF_A, wA_L, wF_L, wA_G, wF_G, true_and, and_true, and_self, if_true, if_false, if_pos, if_neg]
        · have := h1 m (by omega) hm2
          rw [this.1, this.2]
          simp (disch := omega) only [wA_A, wF_F, wA_F, wF_A, wA_L, wF_L, wA_G, wF_G, true_and, and_true, and_self, if_true, if_false, if_pos, if_neg]
      · have := h2 m (by omega)
        rw [this.1, this.2]
        simp (disch := omega) only [wA_A, wF_F, wA_F, wF_A, wA_L, wF_L, wA_G, wF_G, true_and, and_true, and_self, if_true, if_false, if_pos, if_neg]
theorem c_begin {N : Nat} (h : PastC V T p) (hN : 1000 < N) (hT : T + 7 < o) : tot (gX8_begin N o T V) (fun W => StC W o p.n (freshS p) ∧ fr (soA o) (soF o) V W) := by
  unfold gX8_begin
  refine tot_mo (c_begin_b2 hT N 0 V (by omega) (by omega)) (fun W h2 => ?_)
  obtain ⟨h1, _, h3, h4, h5⟩ := h2
  have := h.1.1
  refine ⟨⟨fun m hm => ?_, by rw [h3, h.2.1.2.2.1]; rfl, by rw [h4]; rfl⟩, h5⟩
  rw [(h1 m (by omega) (by omega)).1, (h1 m (by omega) (by omega)).2, (h.2.2.1 m hm).2.2.1]
  exact ⟨rfl, rfl⟩
theorem c_pass_b2 {N : Nat} (hc : c < 2 ^ 30) (hT : T + 7 < o) (g : GoodS p c S) : ∀ (w k : Nat) (V : VT), k ≤ p.n → p.n - k < w → PastC V T p → (∀ m, m < p.n → V.A (o + 1) m = nI (if m < k then sYear p m (S.so m) (S.co m) else S.so m) ∧ V.A (o + 2) m = nI (S.co m)) → V.F o 2 = nI S.po → V.F o 3 = nI S.ye →
    tot (gX8_pass_b2 N w o T (nI k) V) (fun W => StC W o p.n (passS p S) ∧ fr (soA o) (soF o) V W) := by
  intro w
  induction w with
  | zero => intro k V _ h; omega
  | succ w ih =>
    intro k V hk hw h hA hF2 hF3
    have hn := h.1.1
    unfold gX8_pass_b2
    simp (disch := omega) only [fa_lit, ne_le, ne_lt, ne_eq', nI_add, pk_mul, pk_sub, rdA_n, wrA_n, rdL_n, wrL_n, nI_one, nI_bit1, nI_bit0, fa_or, fa_and, nI_df, nat31, Option.bind_some, m1_le0, m1_lt0, m1_eq, eq_m1, ite_nI, sub_m, pk_m1', not_lt0, h.2.1.1]
    by_cases hc : p.n ≤ k
    · rw [if_pos hc, hF2, c_pYear h g.2.1]
      have h6 := g.2.2
      simp (disch := omega) only [fa_lit, ne_le, ne_lt, ne_eq', nI_add, pk_mul, pk_sub, rdA_n, wrA_n, rdL_n, wrL_n, nI_one, nI_bit1, nI_bit0, fa_or, fa_and, nI_df, nat31, Option.bind_some, m1_le0, m1_lt0, m1_eq, eq_m1, ite_nI, sub_m, pk_m1', not_lt0]
      refine tot_some ⟨⟨fun m hm => ?_, ?_, ?_⟩, (fr_F _ (by simp [soF])).trans (fr_F _ (by simp [soF]))⟩
      · have := hA m hm
        rw [if_pos (by omega)] at this
        exact this
      · rw [wF_F, if_neg (by omega), wF_F, if_pos ⟨rfl, rfl⟩]
        rfl
      · rw [wF_F, if_pos ⟨rfl, rfl⟩, wF_F, if_neg (by omega), hF3, nI_add]
        rfl
    · rw [if_neg hc, (hA k (by omega)).1, (hA k (by omega)).2, if_neg (Nat.lt_irrefl k)]
      have h7 := g.1 k (by omega)
      rw [c_sYear h (by omega) h7.1 (by omega)]
      simp (disch := omega) only [fa_lit, ne_le, ne_lt, ne_eq', nI_add, pk_mul, pk_sub, rdA_n, wrA_n, rdL_n, wrL_n, nI_one, nI_bit1, nI_bit0, fa_or, fa_and, nI_df, nat31, Option.bind_some, m1_le0, m1_lt0, m1_eq, eq_m1, ite_nI, sub_m, pk_m1', not_lt0]
      have f1 : fr (soA o) (soF o) V (wA V (o + 1) k (nI (sYear p k (S.so k) (S.co k)))) := fr_A _ _ (by simp [soA])
      refine tot_mo (ih (k + 1) _ (by omega) (by omega) (h.fr f1 (fun a h1 h2 h3 => ?_) (fun i j h1 h2 => ?_)) (fun m hm => ?_) hF2 hF3) (fun W h => ⟨h.1, f1.trans h.2⟩)
      · unfold soA at h3
        omega
      · unfold soF at h2
        omega
      · have := hA m hm
        by_cases e : m = k
        · subst e
          simp (disch := omega) only [wA_A, wF_F, wA_F, wF_A, wA_L, wF_L, wA_G, wF_G, true_and, and_true, and_self, if_true, if_false, if_pos, if_neg, this.2]
        · by_cases e2 : m < k
          · simp (disch := omega) only [wA_A, wF_F, wA_F, wF_A, wA_L, wF_L, wA_G, wF_G, true_and, and_true, and_self, if_true, if_false, if_pos, if_neg, this.1, this.2]
          · simp (disch := omega) only [wA_A, wF_F, wA_F, wF_A, wA_L, wF_L, wA_G, wF_G, true_and, and_true, and_self, if_true, if_false, if_pos, if_neg, this.1, this.2]
theorem c_pass {N : Nat} (hN : 1000 < N) (h : PastC V T p) (hs : StC V o p.n S) (g : GoodS p c S) (hc : c < 2 ^ 30) (hT : T + 7 < o) : tot (gX8_pass N o T V) (fun W => StC W o p.n (passS p S) ∧ fr (soA o) (soF o) V W) := by
  have := h.1.1
  unfold gX8_pass
  refine c_pass_b2 hc hT g N 0 V (by omega) (by omega) h (fun m hm => ?_) hs.2.1 hs.2.2
  rw [if_neg (by omega)]
  exact hs.1 m hm
theorem c_off {N : Nat} (h : PastC V T p) (hs : StC V o p.n S) (hm : m < p.n) (hT : T + 7 < o) : tot (gX8_takeOff o T (nI m) V) (fun W => StC W o p.n (takeOff p S m) ∧ fr (soA o) (soF o) V W) := by
  have := h.1.1
  unfold gX8_takeOff
  simp (disch := omega) only [fa_lit, ne_le, ne_lt, ne_eq', nI_add, pk_mul, pk_sub, rdA_n, wrA_n, rdL_n, wrL_n, nI_one, nI_bit1, nI_bit0, fa_or, fa_and, nI_df, nat31, Option.bind_some, m1_le0, m1_lt0, m1_eq, eq_m1, ite_nI, sub_m, pk_m1', not_lt0]
  refine tot_some ⟨⟨fun k hk => ?_, hs.2.1, hs.2.2⟩, (fr_A _ _ (by simp [soA])).trans (fr_A _ _ (by simp [soA]))⟩
  show _ = nI (upN S.so m (p.to m) k) ∧ _ = nI (upN S.co m 0 k)
  unfold upN
  by_cases e : k = m
  · subst e
    simp (disch := omega) only [wA_A, wF_F, wA_F, wF_A, wA_L, wF_L, wA_G, wF_G, true_and, and_true, and_self, if_true, if_false, if_pos, if_neg, (h.2.2.1 k hk).2.2.1]
  · simp (disch := omega) only [wA_A, wF_F, wA_F, wF_A, wA_L, wF_L, wA_G, wF_G, true_and, and_true, and_self, if_true, if_false, if_pos, if_neg, hs.1 k hk]
theorem c_put {N : Nat} (hN : 1000 < N) (h : PastC V T p) (hs : StC V o p.n S) (g : GoodS p c S) (hc : c < 2 ^ 30) (hm : m < p.n) (hp : priceN p m ≤ S.po) (hT : T + 8 < o) : tot (gX8_putOn N o T (nI m) V) (fun W => StC W o p.n (putOn p S m) ∧ fr (fun a => soA o a ∨ a = T + 8) (fun i k => soF o i k ∨ i = T + 6 ∧ k = 3) V W) := by
  have := h.1.1
  have h2 := g.2
  have h3 := g.1 m hm
  unfold gX8_putOn
  rw [c_price h hm, hs.2.1]
  simp (disch := omega) only [fa_lit, ne_le, ne_lt, ne_eq', nI_add, pk_mul, pk_sub, rdA_n, wrA_n, rdL_n, wrL_n, nI_one, nI_bit1, nI_bit0, fa_or, fa_and, nI_df, nat31, Option.bind_some, m1_le0, m1_lt0, m1_eq, eq_m1, ite_nI, sub_m, pk_m1', not_lt0]
  simp (disch := omega) only [wA_A, wF_F, wA_F, wF_A, wA_L, wF_L, wA_G, wF_G, true_and, and_true, and_self, if_true, if_false, if_pos, if_neg, hs.2.2, (hs.1 m hm).1, (hs.1 m hm).2]
  have f1 : fr (fun a => soA o a ∨ a = T + 8) (fun i k => soF o i k ∨ i = T + 6 ∧ k = 3) V (wF V o 2 (nI (S.po - priceN p m))) := fr_F _ (by simp [soF])
  have p1 := h.fr f1 (fun a h1 h2 h3 => by unfold soA at h3; omega) (fun i j h1 h2 => by unfold soF at h2; omega)
  refine tot_bd (c_sCoat p1 hN hm h3.1) (fun r hr => ?_)
  have f2 : fr (fun a => soA o a ∨ a = T + 8) (fun i k => soF o i k ∨ i = T + 6 ∧ k = 3) V r.2 := f1.trans (hr.2.fr (by simp) (by simp))
  have e2 : r.2.A (o + 2) m = nI (S.co m) := by rw [hr.2.2.2.1 _ (by omega), wF_A]; exact (hs.1 m hm).2
  rw [hr.1]
  simp (disch := omega) only [wA_A, wF_F, wA_F, wF_A, wA_L, wF_L, wA_G, wF_G, true_and, and_true, and_self, if_true, if_false, if_pos, if_neg, e2]
  have f3 : fr (fun a => soA o a ∨ a = T + 8) (fun i k => soF o i k ∨ i = T + 6 ∧ k = 3) V (wA r.2 (o + 1) m (nI (sCoat p m (S.so m) (S.co m) S.ye))) := f2.trans (fr_A _ _ (by simp [soA]))
  have p3 := h.fr f3 (fun a h1 h2 h3 => by unfold soA at h3; omega) (fun i j h1 h2 => by unfold soF at h2; omega)
  rw [c_cCoat p3 hm]
  simp (disch := omega) only [fa_lit, ne_le, ne_lt, ne_eq', nI_add, pk_mul, pk_sub, rdA_n, wrA_n, rdL_n, wrL_n, nI_one, nI_bit1, nI_bit0, fa_or, fa_and, nI_df, nat31, Option.bind_some, m1_le0, m1_lt0, m1_eq, eq_m1, ite_nI, sub_m, pk_m1', not_lt0]
  refine tot_some ⟨⟨fun k hk => ?_, ?_, ?_⟩, f3.trans (fr_A _ _ (by simp [soA]))⟩
  · show _ = nI (upN S.so m _ k) ∧ _ = nI (upN S.co m _ k)
    unfold upN
    by_cases e : k = m
    · subst e
      simp (disch := omega) only [wA_A, wF_F, wA_F, wF_A, wA_L, wF_L, wA_G, wF_G, true_and, and_true, and_self, if_true, if_false, if_pos, if_neg]
    · have a1 := hr.2.2.2.1 (o + 1) (by omega)
      have a2 := hr.2.2.2.1 (o + 2) (by omega)
      simp (disch := omega) only [wA_A, wF_F, wA_F, wF_A, wA_L, wF_L, wA_G, wF_G, true_and, and_true, and_self, if_true, if_false, if_pos, if_neg, a1, a2, hs.1 k hk]
  · simp only [wA_F]
    rw [hr.2.2.2.2 _ _ (by omega), wF_F, if_pos ⟨rfl, rfl⟩]
    rfl
  · simp only [wA_F]
    rw [hr.2.2.2.2 _ _ (by omega), wF_F, if_neg (by omega)]
    exact hs.2.2
theorem c_meant_b4 {N : Nat} (h : PastC V T p) (hs : ∀ m, m < p.n → V.A (o + 1) m = nI (S.so m) ∧ S.so m < 2 ^ 31) : ∀ (w k : Nat), k ≤ p.n → p.n - k < w → gX8_meantBits_b4 N w o T (nI (mk (fun m => decide (S.so m = 0)) k)) (nI k) V = some (nI (mk (fun m => decide (S.so m = 0)) p.n), V) := by
  have := h.1.1
  intro w
  induction w with
  | zero => intro k _ h; omega
  | succ w ih =>
    intro k hk hw
    unfold gX8_meantBits_b4
    simp (disch := omega) only [fa_lit, ne_le, ne_lt, ne_eq', nI_add, pk_mul, pk_sub, rdA_n, wrA_n, rdL_n, wrL_n, nI_one, nI_bit1, nI_bit0, fa_or, fa_and, nI_df, nat31, Option.bind_some, m1_le0, m1_lt0, m1_eq, eq_m1, ite_nI, sub_m, pk_m1', not_lt0, h.2.1.1]
    by_cases hc : p.n ≤ k
    · rw [if_pos hc, show k = p.n by omega]
    · rw [if_neg hc]
      have h1 := hs k (by omega)
      have h2 := ih (k + 1) (by omega) (by omega)
      rw [mk] at h2
      rw [h1.1]
      simp (disch := omega) only [fa_lit, ne_le, ne_lt, ne_eq', nI_add, pk_mul, pk_sub, rdA_n, wrA_n, rdL_n, wrL_n, nI_one, nI_bit1, nI_bit0, fa_or, fa_and, nI_df, nat31, Option.bind_some, m1_le0, m1_lt0, m1_eq, eq_m1, ite_nI, sub_m, pk_m1', not_lt0]
      by_cases e : S.so k = 0
      · simp only [e, decide_true, if_true] at h2 ⊢
        exact h2
      · simp only [e, decide_false, if_false, Bool.false_eq_true, Nat.or_zero] at h2 ⊢
        exact h2
def meantN (p : PP) (S : ST) : Nat := mk (fun m => decide (S.so m = 0)) p.n
theorem c_meant {N : Nat} (hN : 1000 < N) (h : PastC V T p) (hs : StC V o p.n S) (g : GoodS p c S) : gX8_meantBits N o T V = some (nI (meantN p S), V) := by
  have := h.1.1
  unfold gX8_meantBits
  exact c_meant_b4 h (fun m hm => ⟨(hs.1 m hm).1, by have := (g.1 m hm).1; omega⟩) N 0 (by omega) (by omega)
end PState
