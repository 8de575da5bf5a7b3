/-! PURE: rules of loops; frames; the model's own rows. -/
theorem loop_T {α R : Type} {F : Nat → α → Nat → VT → Option R} {Q : R → Prop} (n : Nat) (I : Nat → α → VT → Prop) (hs : ∀ w k a V, k < n → I k a V → (∀ b W, I (k + 1) b W → tot (F w b (k + 1) W) Q) → tot (F (w + 1) a k V) Q) (he : ∀ w a V, I n a V → tot (F (w + 1) a n V) Q) : ∀ w k a V, k ≤ n → n - k < w → I k a V → tot (F w a k V) Q := by
  intro w
  induction w with
  | zero => intro k a V _ h; omega
  | succ w ih =>
    intro k a V hk hw hI
    by_cases hc : k = n
    · subst hc
      exact he w a V hI
    · exact hs w k a V (by omega) hI (fun b W hW => ih (k + 1) b W (by omega) (by omega) hW)
def itr {α : Type} (f : α → Nat → α) : Nat → Nat → α → α
  | _, 0, a => a
  | k, j + 1, a => itr f (k + 1) j (f a k)
theorem loop_E {α R : Type} {F : Nat → α → Nat → R} (n : Nat) (f : α → Nat → α) (g : α → R) (I : Nat → α → Prop) (hs : ∀ w k a, k < n → I k a → F (w + 1) a k = F w (f a k) (k + 1) ∧ I (k + 1) (f a k)) (he : ∀ w a, I n a → F (w + 1) a n = g a) : ∀ w k a, k ≤ n → n - k < w → I k a → F w a k = g (itr f k (n - k) a) := by
  intro w
  induction w with
  | zero => intro k a _ h; omega
  | succ w ih =>
    intro k a hk hw hI
    by_cases hc : k = n
    · subst hc
      rw [he w a hI, Nat.sub_self]
      rfl
    · obtain ⟨h1, h2⟩ := hs w k a (by omega) hI
      rw [h1, ih (k + 1) _ (by omega) (by omega) h2, show n - k = (n - (k + 1)) + 1 by omega]
      rfl
theorem loop_mk {R : Type} {F : Nat → Nat → Nat → R} (n : Nat) (q : Nat → Bool) (g : Nat → R) (hs : ∀ w k a R, k < n → a < 2 ^ k → F w (a ||| if q k = true then 2 ^ k else 0) (k + 1) = R → F (w + 1) a k = R) (he : ∀ w a, a < 2 ^ n → F (w + 1) a n = g a) : ∀ w k, k ≤ n → n - k < w → F w (mk q k) k = g (mk q n) := by
  intro w
  induction w with
  | zero => intro k _ h; omega
  | succ w ih =>
    intro k hk hw
    by_cases hc : k = n
    · subst hc
      exact he w _ (mk_lt q k)
    · exact hs w k _ _ (by omega) (mk_lt q k) (ih (k + 1) (by omega) (by omega))
/-- sums -/
def sm (f : Nat → Nat) : Nat → Nat
  | 0 => 0
  | n + 1 => sm f n + f n
theorem sm_congr {f g : Nat → Nat} : ∀ {n : Nat}, (∀ i, i < n → f i = g i) → sm f n = sm g n
  | 0, _ => rfl
  | n + 1, h => by rw [sm, sm, sm_congr (fun i hi => h i (by omega)), h n (by omega)]
theorem sm_le {f : Nat → Nat} {b : Nat} : ∀ {n : Nat}, (∀ i, i < n → f i ≤ b) → sm f n ≤ b * n
  | 0, _ => by simp [sm]
  | n + 1, h => by
    have h1 := sm_le (n := n) (fun i hi => h i (by omega))
    have h2 := h n (by omega)
    rw [sm, Nat.mul_succ]
    omega
theorem loop_sm {R : Type} {F : Nat → Nat → Nat → R} (n : Nat) (f : Nat → Nat) (g : Nat → R) (hs : ∀ w k R, k < n → F w (sm f k + f k) (k + 1) = R → F (w + 1) (sm f k) k = R) (he : ∀ w, F (w + 1) (sm f n) n = g (sm f n)) : ∀ w k, k ≤ n → n - k < w → F w (sm f k) k = g (sm f n) := by
  intro w
  induction w with
  | zero => intro k _ h; omega
  | succ w ih =>
    intro k hk hw
    by_cases hc : k = n
    · subst hc
      exact he w
    · exact hs w k _ (by omega) (ih (k + 1) (by omega) (by omega))
theorem and_eq {a b c : Nat} (ha : a < 2 ^ 31) (hc : c < 2 ^ 31) : (nI (a &&& b) = nI c) = (a &&& b = c) := ne_eq' (Nat.lt_of_le_of_lt Nat.and_le_left ha) hc
theorem nI_ite {c : Prop} [Decidable c] {a b : Nat} : nI (if c then a else b) = if c then nI a else nI b := by split <;> rfl
/-- the class's scratch -/
def scA (a : Nat) : Prop := a = 14 ∨ a = 23 ∨ a = 28 ∨ a = 29 ∨ a = 91 ∨ a = 92
def scF (i k : Nat) : Prop := i = 27 ∨ i = 12 ∧ k = 3 ∨ i = 21 ∧ k = 3
theorem frL_sc {T : Nat} {V W : VT} (hT : T = 6 ∨ T = 15) (h : frL (T + 6) V W) : fr scA scF V W := by
  refine h.fr ?_ ?_
  · unfold scA
    omega
  · unfold scF
    omega
/-- reached, by so many steps at most -/
def rsN (p : PP) : Nat → Nat → Nat
  | 0, _ => 0
  | j + 1, m => mk (fun o => (p.le m).testBit o || (mk (fun x => (p.le m).testBit x && (rsN p j x).testBit o) p.n != 0)) p.n
def cmN (p : PP) (m : Nat) : Nat := rsN p 8 m
def e27 (ls : List Nat) : Nat := ls.foldl (fun x d => x * 27 + d) 0
def vlO (vl : Nat → Int32) (l c a t : Int32) : Prop := vl 1 = l ∧ vl 2 = c ∧ vl 3 = a ∧ vl 4 = t
def LawM (V : VT) (p : PP) : Prop := V.A 145 0 = nI 0 ∧ ∃ cl : List Nat, cl.length ≤ 1000 ∧ V.A 146 0 = nI cl.length ∧ (∀ i, i < cl.length → V.A 147 i = nI (cl.getD i 0) ∧ cl.getD i 0 < 20000) ∧ (cl.length = 0 → ∀ l c a, p.tk l c a = p.kn) ∧ (0 < cl.length → ∀ (l c a : Nat) (vl : Nat → Int32) (X : MX), vlO vl (nI l) (nI c) (nI a) (nI p.kn) → ∃ t, mrun vl cl (0, opX 0 X) = some t ∧ clN (teX 0 t.2 150 0) = p.tk l c a)
def PastM (V : VT) (p : PP) : Prop := GoodP p ∧ (V.A 139 0 = nI p.n ∧ V.A 139 1 = nI p.kn ∧ V.A 139 2 = nI p.ad ∧ V.A 139 3 = nI p.fu) ∧ (∀ m, m < p.n → V.A 141 m = nI (p.kd m) ∧ V.A 142 m = nI (p.bi m) ∧ V.A 143 m = nI (p.to m) ∧ V.A 144 m = nI (p.le m) ∧ V.A 173 m = nI (cmN p m) ∧ V.L 140 m = lN (e27 (p.nm m))) ∧ LawM V p
def MSt (V : VT) (n : Nat) (S : ST) : Prop := V.A 167 0 = nI S.ye ∧ V.A 167 1 = nI S.po ∧ ∀ m, m < 7 → V.A 167 (2 + m) = nI (if m < n then S.so m else 0) ∧ V.A 167 (9 + m) = nI (if m < n then S.co m else 0)
theorem PastM.fr {V W : VT} {p : PP} {A : Nat → Prop} {F : Nat → Nat → Prop} (h : PastM V p) (f1 : W.L = V.L) (f3 : ∀ a, ¬ A a → W.A a = V.A a) (hA : ∀ a, A a → a ≠ 139 ∧ ¬ (141 ≤ a ∧ a ≤ 147) ∧ a ≠ 173) : PastM W p := by
  obtain ⟨g, ⟨a, b, c, d⟩, e, e0, cl, s1, s2, s3, s4, s5⟩ := h
  have k : ∀ x, x = 139 ∨ (141 ≤ x ∧ x ≤ 147) ∨ x = 173 → W.A x = V.A x := fun x hx => f3 x (fun q => by have := hA x q; omega)
  refine ⟨g, by rw [k 139 (by omega)]; exact ⟨a, b, c, d⟩, fun m hm => ?_, by rw [k 145 (by omega)]; exact e0, cl, s1, by rw [k 146 (by omega)]; exact s2, fun i hi => by rw [k 147 (by omega)]; exact s3 i hi, s4, s5⟩
  rw [k 141 (by omega), k 142 (by omega), k 143 (by omega), k 144 (by omega), k 173 (by omega), f1]
  exact e m hm
def s7 (a : Nat) : Prop := a = 167
def wkB (a : Nat) : Prop := 150 ≤ a ∧ a ≤ 159
theorem m_between (r : Int32) (V : VT) : gX10_between r (nI 0) (nI 20) V = some (nI (clN r), V) := by
  unfold gX10_between clN
  by_cases h : r ≤ 0
  · rw [if_pos h]
    by_cases h0 : nI 0 ≤ r
    · have e : r = 0 := Int32.le_antisymm h h0
      subst e
      rfl
    · rw [if_neg h0]
  · rw [if_neg h]
    have h1 : nI 0 ≤ r := Int32.le_of_lt (Int32.not_le.mp h)
    rw [if_pos h1]
    by_cases h2 : 20 ≤ r
    · rw [if_pos h2]
      by_cases h3 : r ≤ nI 20
      · have e : r = 20 := Int32.le_antisymm h3 h2
        subst e
        rfl
      · rw [if_neg h3]
    · rw [if_neg h2, if_pos (show r ≤ nI 20 from Int32.le_of_lt (Int32.not_le.mp h2))]
      obtain ⟨j, hj, rfl⟩ := nI_of (x := r) (fun h3 => h (Int32.le_of_lt h3))
      rw [nI_clamp hj]
section PModel
variable {V : VT} {p : PP} {S : ST} {m l c y N : Nat}
theorem m_price (h : PastM V p) (hm : m < p.n) : gX10_priceOf (nI m) V = some (nI (priceN p m), V) := by
  obtain ⟨g, ⟨_, hk, _, _⟩, e, _⟩ := h
  have := g.1
  have := g.2.1 m hm
  unfold gX10_priceOf priceN
  simp (disch := omega) only [fa_lit, ne_le, ne_lt, ne_eq', nI_add, pk_mul, pk_sub, rdA_n, wrA_n, rdL_n, wrL_n, nI_one, nI_bit1, nI_bit0, fa_or, fa_and, nI_df, nat31, Option.bind_some, m1_le0, m1_lt0, m1_eq, eq_m1, ite_nI, sub_m, pk_m1', not_lt0, (e m hm).1, hk]
  split <;> rfl
theorem m_taken (h : PastM V p) (hN : 1000 < N) (hm : m < p.n) (hy : V.A 167 0 = nI y) : tot (gX10_takenBy N (nI m) (nI l) (nI c) V) (fun r => r.1 = nI (p.tk l c (100 - p.bi m + y)) ∧ fr wkB nof V r.2) := by
  obtain ⟨g, ⟨_, hk, _, _⟩, e, e0, cl, s1, s2, s3, s4, s5⟩ := h
  have := g.1
  have g2 := g.2.1 m hm
  unfold gX10_takenBy
  rw [s2, e0]
  simp (disch := omega) only [fa_lit, ne_le, ne_lt, ne_eq', nI_add, pk_mul, pk_sub, rdA_n, wrA_n, rdL_n, wrL_n, nI_one, nI_bit1, nI_bit0, fa_or, fa_and, nI_df, nat31, Option.bind_some, m1_le0, m1_lt0, m1_eq, eq_m1, ite_nI, sub_m, pk_m1', not_lt0]
  by_cases hc : cl.length = 0
  · rw [if_pos hc]
    exact tot_some ⟨by rw [hk, s4 hc], fr.rf⟩
  · rw [if_neg hc]
    simp (disch := omega) only [fa_lit, ne_le, ne_lt, ne_eq', nI_add, pk_mul, pk_sub, rdA_n, wrA_n, rdL_n, wrL_n, nI_one, nI_bit1, nI_bit0, fa_or, fa_and, nI_df, nat31, Option.bind_some, m1_le0, m1_lt0, m1_eq, eq_m1, ite_nI, sub_m, pk_m1', not_lt0, wA_A, wF_F, wA_F, wF_A, wA_L, wF_L, wA_G, wF_G, true_and, and_true, and_self, if_true, if_false, if_pos, if_neg, (e m hm).2.1, hy, hk]
    have f1 : fr wkB nof V (wA (wA (wA (wA V 159 1 (nI l)) 159 2 (nI c)) 159 3 (nI (100 - p.bi m + y))) 159 4 (nI p.kn)) := (((fr_A _ _ (by unfold wkB; omega)).trans (fr_A _ _ (by unfold wkB; omega))).trans (fr_A _ _ (by unfold wkB; omega))).trans (fr_A _ _ (by unfold wkB; omega))
    generalize hV9 : (wA (wA (wA (wA V 159 1 (nI l)) 159 2 (nI c)) 159 3 (nI (100 - p.bi m + y))) 159 4 (nI p.kn)) = V9 at f1 ⊢
    have hvl : vlO (V9.A 159) (nI l) (nI c) (nI (100 - p.bi m + y)) (nI p.kn) := by
      subst hV9
      refine ⟨?_, ?_, ?_, ?_⟩ <;> simp [wA_A]
    obtain ⟨t, ht, htk⟩ := s5 (by omega) l c (100 - p.bi m + y) (V9.A 159) V9.A hvl
    have k1 := f1.2.2.1 145 (by unfold wkB; omega)
    have k2 := f1.2.2.1 146 (by unfold wkB; omega)
    have k3 := f1.2.2.1 147 (by unfold wkB; omega)
    refine tot_bd (w_worked hN s1 (fun i hi => (s3 i hi).2) (by rw [k1, e0]) (by rw [k2, s2]) (fun i hi => by rw [k3]; exact (s3 i hi).1) (fun i _ => rfl) ht) (fun r hr => ?_)
    rw [m_between]
    simp only [Option.bind_some]
    refine tot_some ⟨?_, f1.trans (hr.2.mono (fun a ha => ?_) (fun i k hik => hik))⟩
    · show nI (clN r.1) = _
      rw [hr.1, htk]
    · unfold wkA at ha
      unfold wkB
      omega
theorem m_meant (h : PastM V p) (hs : ∀ m, m < p.n → V.A 167 (2 + m) = nI (S.so m) ∧ S.so m < 2 ^ 31) (hN : 1000 < N) : gX10_meantNow N V = some (nI (meantN p S), V) := by
  have := h.1.1
  have hn := h.2.1.1
  unfold gX10_meantNow
  refine loop_mk (F := fun w a k => gX10_meantNow_b4 N w (nI a) (nI k) V) p.n (fun m => decide (S.so m = 0)) (fun a => some (nI a, V)) ?_ ?_ N 0 (by omega) (by omega)
  · intro w k a R hk ha hR
    have h1 := hs k hk
    show gX10_meantNow_b4 N (w + 1) (nI a) (nI k) V = R
    unfold gX10_meantNow_b4
    rw [hn]
    simp (disch := omega) only [fa_lit, ne_le, ne_lt, ne_eq', nI_add, pk_mul, pk_sub, rdA_n, wrA_n, rdL_n, wrL_n, nI_one, nI_bit1, nI_bit0, fa_or, fa_and, nI_df, nat31, Option.bind_some, m1_le0, m1_lt0, m1_eq, eq_m1, ite_nI, sub_m, pk_m1', not_lt0]
    rw [if_neg (by omega), h1.1]
    simp (disch := omega) only [fa_lit, ne_le, ne_lt, ne_eq', nI_add, pk_mul, pk_sub, rdA_n, wrA_n, rdL_n, wrL_n, nI_one, nI_bit1, nI_bit0, fa_or, fa_and, nI_df, nat31, Option.bind_some, m1_le0, m1_lt0, m1_eq, eq_m1, ite_nI, sub_m, pk_m1', not_lt0]
    by_cases e : S.so k = 0
    · rw [if_pos e]
      simpa [e] using hR
    · rw [if_neg e]
      simpa [e] using hR
  · intro w a ha
    show gX10_meantNow_b4 N (w + 1) (nI a) (nI p.n) V = _
    unfold gX10_meantNow_b4
    rw [hn]
    simp (disch := omega) only [fa_lit, ne_le, ne_lt, ne_eq', nI_add, pk_mul, pk_sub, rdA_n, wrA_n, rdL_n, wrL_n, nI_one, nI_bit1, nI_bit0, fa_or, fa_and, nI_df, nat31, Option.bind_some, m1_le0, m1_lt0, m1_eq, eq_m1, ite_nI, sub_m, pk_m1', not_lt0]
    rw [if_pos (Nat.le_refl _)]
theorem MSt.so (h : MSt V p.n S) (hn : p.n ≤ 7) (hm : m < p.n) : V.A 167 (2 + m) = nI (S.so m) ∧ V.A 167 (9 + m) = nI (S.co m) := by
  have := h.2.2 m (by omega)
  rw [if_pos hm, if_pos hm] at this
  exact this
theorem m_passes (h : PastM V p) (hs : MSt V p.n S) (g : GoodS p c S) (hc : c < 2 ^ 30) (hN : 1000 < N) : tot (gX10_passes N V) (fun W => MSt W p.n (passS p S) ∧ fr s7 nof V W) := by
  have hn := h.1.1
  have hg4 := h.1.2.2.2.1
  have g2 := g.2
  unfold gX10_passes
  refine loop_T (F := fun w (_ : Unit) k V => gX10_passes_b2 N w (nI k) V) p.n (fun k _ W => fr s7 nof V W ∧ W.A 167 0 = nI S.ye ∧ W.A 167 1 = nI S.po ∧ ∀ m, m < 7 → W.A 167 (2 + m) = nI (if m < p.n then (if m < k then sYear p m (S.so m) (S.co m) else S.so m) else 0) ∧ W.A 167 (9 + m) = nI (if m < p.n then S.co m else 0)) ?_ ?_ N 0 () V (by omega) (by omega) ⟨fr.rf, hs.1, hs.2.1, fun m hm => by simpa using hs.2.2 m hm⟩
  · intro w k _ W hk hI hK
    obtain ⟨i1, i2, i3, i4⟩ := hI
    have hM : PastM W p := h.fr (A := s7) (F := nof) i1.1 i1.2.2.1 (fun a ha => by unfold s7 at ha; omega)
    have e := hM.2.2.1 k hk
    have gk := g.1 k hk
    have g1 := h.1.2.1 k hk
    have i5 := i4 k (by omega)
    rw [if_pos hk, if_pos hk, if_neg (Nat.lt_irrefl k)] at i5
    have stay : sYear p k (S.so k) (S.co k) = S.so k → tot (gX10_passes_b2 N w (nI (k + 1)) W) (fun W => MSt W p.n (passS p S) ∧ fr s7 nof V W) := by
      intro e
      refine hK () W ⟨i1, i2, i3, fun m hm => ⟨?_, (i4 m hm).2⟩⟩
      rw [(i4 m hm).1]
      by_cases h1 : m = k
      · subst h1
        rw [if_neg (Nat.lt_irrefl m), if_pos (Nat.lt_succ_self m), e]
      · by_cases h2 : m < k
        · rw [if_pos h2, if_pos (show m < k + 1 by omega)]
        · rw [if_neg h2, if_neg (show ¬ m < k + 1 by omega)]
    have put : ∀ x, sYear p k (S.so k) (S.co k) = x → tot (gX10_passes_b2 N w (nI (k + 1)) (wA W 167 (2 + k) (nI x))) (fun W => MSt W p.n (passS p S) ∧ fr s7 nof V W) := by
      intro x e
      refine hK () _ ⟨i1.trans (fr_A _ _ rfl), ?_, ?_, fun m hm => ⟨?_, ?_⟩⟩
      · simp (disch := omega) only [wA_A, wF_F, wA_F, wF_A, wA_L, wF_L, wA_G, wF_G, true_and, and_true, and_self, if_true, if_false, if_pos, if_neg]
        exact i2
      · simp (disch := omega) only [wA_A, wF_F, wA_F, wF_A, wA_L, wF_L, wA_G, wF_G, true_and, and_true, and_self, if_true, if_false, if_pos, if_neg]
        exact i3
      · by_cases h1 : m = k
        · subst h1
          simp (disch := omega) only [wA_A, wF_F, wA_F, wF_A, wA_L, wF_L, wA_G, wF_G, true_and, and_true, and_self, if_true, if_false, if_pos, if_neg, e]
        · have h3 := (i4 m hm).1
          by_cases h2 : m < k
          · rw [if_pos h2] at h3
            simp (disch := omega) only [wA_A, wF_F, wA_F, wF_A, wA_L, wF_L, wA_G, wF_G, true_and, and_true, and_self, if_true, if_false, if_pos, if_neg, h3]
          · rw [if_neg h2] at h3
            simp (disch := omega) only [wA_A, wF_F, wA_F, wF_A, wA_L, wF_L, wA_G, wF_G, true_and, and_true, and_self, if_true, if_false, if_pos, if_neg, h3]
      · simp (disch := omega) only [wA_A, wF_F, wA_F, wF_A, wA_L, wF_L, wA_G, wF_G, true_and, and_true, and_self, if_true, if_false, if_pos, if_neg]
        exact (i4 m hm).2
    show tot (gX10_passes_b2 N (w + 1) (nI k) W) _
    unfold gX10_passes_b2 gX10_passes_b64
    simp (disch := omega) only [fa_lit, ne_le, ne_lt, ne_eq', nI_add, pk_mul, pk_sub, rdA_n, wrA_n, rdL_n, wrL_n, nI_one, nI_bit1, nI_bit0, fa_or, fa_and, nI_df, nat31, Option.bind_some, m1_le0, m1_lt0, m1_eq, eq_m1, ite_nI, sub_m, pk_m1', not_lt0, hM.2.1.1, i5.1, i5.2, e.1, e.2.2.1]
    rw [if_neg (by omega)]
    unfold sYear at stay put
    by_cases c0 : S.co k = 0
    · rw [if_pos c0]
      rw [if_pos c0] at stay
      exact stay rfl
    · rw [if_neg c0]
      simp only [if_neg c0] at stay put
      by_cases c1 : p.kd k = 1
      · rw [if_pos c1]
        simp only [if_pos c1] at put
        simp (disch := omega) only [fa_lit, ne_le, ne_lt, ne_eq', nI_add, pk_mul, pk_sub, rdA_n, wrA_n, rdL_n, wrL_n, nI_one, nI_bit1, nI_bit0, fa_or, fa_and, nI_df, nat31, Option.bind_some, m1_le0, m1_lt0, m1_eq, eq_m1, ite_nI, sub_m, pk_m1', not_lt0, wA_A, e.1, show ¬ (141 = 167 ∧ k = 2 + k) by omega, if_false, c1]
        rw [if_neg (by decide)]
        exact put _ rfl
      · rw [if_neg c1]
        simp only [if_neg c1] at stay put
        by_cases c2 : p.kd k = 2
        · rw [if_pos c2]
          simp only [if_pos c2] at put
          exact put _ rfl
        · rw [if_neg c2]
          simp only [if_neg c2] at stay
          first | exact stay rfl | exact stay trivial
  · intro w _ W hI
    obtain ⟨i1, i2, i3, i4⟩ := hI
    have hM : PastM W p := h.fr (A := s7) (F := nof) i1.1 i1.2.2.1 (fun a ha => by unfold s7 at ha; omega)
    show tot (gX10_passes_b2 N (w + 1) (nI p.n) W) _
    unfold gX10_passes_b2
    simp (disch := omega) only [fa_lit, ne_le, ne_lt, ne_eq', nI_add, pk_mul, pk_sub, rdA_n, wrA_n, rdL_n, wrL_n, nI_one, nI_bit1, nI_bit0, fa_or, fa_and, nI_df, nat31, Option.bind_some, m1_le0, m1_lt0, m1_eq, eq_m1, ite_nI, sub_m, pk_m1', not_lt0, hM.2.1.1, hM.2.1.2.2.1, i2, i3, wA_A, show ¬ (167 = 167 ∧ 0 = 1) by omega, if_false]
    rw [if_pos (Nat.le_refl _)]
    refine tot_some ⟨⟨?_, ?_, fun m hm => ?_⟩, (i1.trans (fr_A _ _ rfl)).trans (fr_A _ _ rfl)⟩
    · simp (disch := omega) only [wA_A, wF_F, wA_F, wF_A, wA_L, wF_L, wA_G, wF_G, true_and, and_true, and_self, if_true, if_false, if_pos, if_neg]
      rfl
    · simp (disch := omega) only [wA_A, wF_F, wA_F, wF_A, wA_L, wF_L, wA_G, wF_G, true_and, and_true, and_self, if_true, if_false, if_pos, if_neg]
      rfl
    · have h3 := i4 m hm
      simp (disch := omega) only [wA_A, wF_F, wA_F, wF_A, wA_L, wF_L, wA_G, wF_G, true_and, and_true, and_self, if_true, if_false, if_pos, if_neg]
      refine ⟨?_, h3.2⟩
      rw [h3.1]
      by_cases h1 : m < p.n
      · rw [if_pos h1, if_pos h1, if_pos h1]
        rfl
      · rw [if_neg h1, if_neg h1]
theorem m_eaten (h : PastM V p) (hs : MSt V p.n S) (hm : m < p.n) : tot (gX10_eaten (nI m) V) (fun W => MSt W p.n (takeOff p S m) ∧ fr s7 nof V W) := by
  have hn := h.1.1
  have e := h.2.2.1 m hm
  unfold gX10_eaten
  simp (disch := omega) only [fa_lit, ne_le, ne_lt, ne_eq', nI_add, pk_mul, pk_sub, rdA_n, wrA_n, rdL_n, wrL_n, nI_one, nI_bit1, nI_bit0, fa_or, fa_and, nI_df, nat31, Option.bind_some, m1_le0, m1_lt0, m1_eq, eq_m1, ite_nI, sub_m, pk_m1', not_lt0]
  refine tot_some ⟨⟨?_, ?_, fun k hk => ?_⟩, (fr_A (A := s7) _ _ rfl).trans (fr_A _ _ rfl)⟩
  · simp (disch := omega) only [wA_A, wF_F, wA_F, wF_A, wA_L, wF_L, wA_G, wF_G, true_and, and_true, and_self, if_true, if_false, if_pos, if_neg]
    exact hs.1
  · simp (disch := omega) only [wA_A, wF_F, wA_F, wF_A, wA_L, wF_L, wA_G, wF_G, true_and, and_true, and_self, if_true, if_false, if_pos, if_neg]
    exact hs.2.1
  · have h3 := hs.2.2 k hk
    show _ = nI (if k < p.n then upN S.so m (p.to m) k else 0) ∧ _ = nI (if k < p.n then upN S.co m 0 k else 0)
    unfold upN
    by_cases h1 : k = m
    · subst h1
      simp (disch := omega) only [wA_A, wF_F, wA_F, wF_A, wA_L, wF_L, wA_G, wF_G, true_and, and_true, and_self, if_true, if_false, if_pos, if_neg, e.2.2.1]
    · simp (disch := omega) only [wA_A, wF_F, wA_F, wF_A, wA_L, wF_L, wA_G, wF_G, true_and, and_true, and_self, if_true, if_false, if_pos, if_neg, h3]
theorem m_coats (h : PastM V p) (hs : MSt V p.n S) (g : GoodS p c S) (hc : c < 2 ^ 30) (hN : 1000 < N) (hm : m < p.n) (hp : priceN p m ≤ S.po) : tot (gX10_coats N (nI m) V) (fun W => MSt W p.n (putOn p S m) ∧ fr (fun a => wkB a ∨ s7 a) nof V W) := by
  have hn := h.1.1
  have e := h.2.2.1 m hm
  have g1 := g.1 m hm
  have g2 := g.2
  have hso := hs.so hn hm
  have gp := h.1.2.1 m hm
  unfold gX10_coats
  rw [m_price h hm]
  simp (disch := omega) only [fa_lit, ne_le, ne_lt, ne_eq', nI_add, pk_mul, pk_sub, rdA_n, wrA_n, rdL_n, wrL_n, nI_one, nI_bit1, nI_bit0, fa_or, fa_and, nI_df, nat31, Option.bind_some, m1_le0, m1_lt0, m1_eq, eq_m1, ite_nI, sub_m, pk_m1', not_lt0, hs.2.1]
  have f1 : fr (fun a => wkB a ∨ s7 a) nof V (wA V 167 1 (nI (S.po - priceN p m))) := fr_A _ _ (Or.inr rfl)
  have p1 : PastM (wA V 167 1 (nI (S.po - priceN p m))) p := h.fr (F := nof) f1.1 f1.2.2.1 (fun a ha => by unfold wkB s7 at ha; omega)
  simp (disch := omega) only [wA_A, wF_F, wA_F, wF_A, wA_L, wF_L, wA_G, wF_G, true_and, and_true, and_self, if_true, if_false, if_pos, if_neg, e.1]
  simp (disch := omega) only [fa_lit, ne_le, ne_lt, ne_eq', nI_add, pk_mul, pk_sub, rdA_n, wrA_n, rdL_n, wrL_n, nI_one, nI_bit1, nI_bit0, fa_or, fa_and, nI_df, nat31, Option.bind_some, m1_le0, m1_lt0, m1_eq, eq_m1, ite_nI, sub_m, pk_m1', not_lt0]
  unfold putOn sCoat cCoat
  by_cases c3 : p.kd m = 3
  · rw [if_pos c3]
    simp only [if_pos c3]
    refine tot_some ⟨⟨?_, ?_, fun k hk => ?_⟩, f1⟩
    · simp (disch := omega) only [wA_A, wF_F, wA_F, wF_A, wA_L, wF_L, wA_G, wF_G, true_and, and_true, and_self, if_true, if_false, if_pos, if_neg]
      exact hs.1
    · simp (disch := omega) only [wA_A, wF_F, wA_F, wF_A, wA_L, wF_L, wA_G, wF_G, true_and, and_true, and_self, if_true, if_false, if_pos, if_neg]
      rfl
    · have h3 := hs.2.2 k hk
      show _ = nI (if k < p.n then upN S.so m (S.so m) k else 0) ∧ _ = nI (if k < p.n then upN S.co m (S.co m) k else 0)
      unfold upN
      by_cases h1 : k = m
      · subst h1
        simp (disch := omega) only [wA_A, wF_F, wA_F, wF_A, wA_L, wF_L, wA_G, wF_G, true_and, and_true, and_self, if_true, if_false, if_pos, if_neg, h3]
      · simp (disch := omega) only [wA_A, wF_F, wA_F, wF_A, wA_L, wF_L, wA_G, wF_G, true_and, and_true, and_self, if_true, if_false, if_pos, if_neg, h3]
  · rw [if_neg c3]
    simp only [if_neg c3]
    rw [hso.1, hso.2]
    refine tot_bd (m_taken p1 hN hm (y := S.ye) (by simp (disch := omega) only [wA_A, wF_F, wA_F, wF_A, wA_L, wF_L, wA_G, wF_G, true_and, and_true, and_self, if_true, if_false, if_pos, if_neg]; exact hs.1)) (fun r hr => ?_)
    have f2 := f1.trans (hr.2.mono (fun a ha => Or.inl ha) (fun i k hik => hik))
    have k1 := hr.2.2.2.1 167 (by unfold wkB; omega)
    have tk := h.1.2.2.2.2 (S.so m) (S.co m) (100 - p.bi m + S.ye)
    rw [hr.1]
    simp (disch := omega) only [fa_lit, ne_le, ne_lt, ne_eq', nI_add, pk_mul, pk_sub, rdA_n, wrA_n, rdL_n, wrL_n, nI_one, nI_bit1, nI_bit0, fa_or, fa_and, nI_df, nat31, Option.bind_some, m1_le0, m1_lt0, m1_eq, eq_m1, ite_nI, sub_m, pk_m1', not_lt0]
    simp (disch := omega) only [wA_A, wF_F, wA_F, wF_A, wA_L, wF_L, wA_G, wF_G, true_and, and_true, and_self, if_true, if_false, if_pos, if_neg, k1, hso.2]
    simp (disch := omega) only [fa_lit, ne_le, ne_lt, ne_eq', nI_add, pk_mul, pk_sub, rdA_n, wrA_n, rdL_n, wrL_n, nI_one, nI_bit1, nI_bit0, fa_or, fa_and, nI_df, nat31, Option.bind_some, m1_le0, m1_lt0, m1_eq, eq_m1, ite_nI, sub_m, pk_m1', not_lt0]
    refine tot_some ⟨⟨?_, ?_, fun k hk => ?_⟩, (f2.trans (fr_A _ _ (Or.inr rfl))).trans (fr_A _ _ (Or.inr rfl))⟩
    · simp (disch := omega) only [wA_A, wF_F, wA_F, wF_A, wA_L, wF_L, wA_G, wF_G, true_and, and_true, and_self, if_true, if_false, if_pos, if_neg, k1]
      exact hs.1
    · simp (disch := omega) only [wA_A, wF_F, wA_F, wF_A, wA_L, wF_L, wA_G, wF_G, true_and, and_true, and_self, if_true, if_false, if_pos, if_neg, k1]
      rfl
    · have h3 := hs.2.2 k hk
      show _ = nI (if k < p.n then upN S.so m _ k else 0) ∧ _ = nI (if k < p.n then upN S.co m _ k else 0)
      unfold upN
      by_cases h1 : k = m
      · subst h1
        simp (disch := omega) only [wA_A, wF_F, wA_F, wF_A, wA_L, wF_L, wA_G, wF_G, true_and, and_true, and_self, if_true, if_false, if_pos, if_neg, k1]
      · simp (disch := omega) only [wA_A, wF_F, wA_F, wF_A, wA_L, wF_L, wA_G, wF_G, true_and, and_true, and_self, if_true, if_false, if_pos, if_neg, k1, h3]
end PModel
