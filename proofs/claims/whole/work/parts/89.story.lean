/-! PURE: the longest story; the gap. -/
def mx (f : Nat → Nat) : Nat → Nat
  | 0 => 0
  | n + 1 => if mx f n < f n then f n else mx f n
theorem le_mx {f : Nat → Nat} {i : Nat} : ∀ {n : Nat}, i < n → f i ≤ mx f n
  | 0, h => absurd h (Nat.not_lt_zero _)
  | n + 1, h => by
    rw [mx]
    by_cases e : i = n
    · subst e
      split <;> omega
    · have := le_mx (f := f) (i := i) (n := n) (by omega)
      split <;> omega
theorem mx_le {f : Nat → Nat} {b : Nat} : ∀ {n : Nat}, (∀ i, i < n → f i ≤ b) → mx f n ≤ b
  | 0, _ => Nat.zero_le _
  | n + 1, h => by
    have h1 := mx_le (f := f) (b := b) (n := n) (fun i hi => h i (by omega))
    have h2 := h n (by omega)
    rw [mx]
    split <;> omega
theorem mx_congr {f g : Nat → Nat} : ∀ {n : Nat}, (∀ i, i < n → f i = g i) → mx f n = mx g n
  | 0, _ => rfl
  | n + 1, h => by rw [mx, mx, mx_congr (fun i hi => h i (by omega)), h n (by omega)]
theorem loop_mx {R : Type} {F : Nat → Nat → Nat → R} (n : Nat) (f : Nat → Nat) (g : Nat → R) (hs : ∀ w k R, k < n → F w (if mx f k < f k then f k else mx f k) (k + 1) = R → F (w + 1) (mx f k) k = R) (he : ∀ w, F (w + 1) (mx f n) n = g (mx f n)) : ∀ w k, k ≤ n → n - k < w → F w (mx f k) k = g (mx f n) := by
  intro w
  induction w with
  | zero => intro k _ h; omega
  | succ w ih =>
    intro k hk hw
    by_cases hc : k = n
    · subst hc
      exact he w
    · exact hs w k _ (by omega) (ih (k + 1) (by omega) (by omega))
theorem loop_mx1 {R : Type} {F : Nat → Nat → Nat → R} (n : Nat) (f : Nat → Nat) (g : Nat → R) (hs : ∀ w k R, 1 ≤ k → k < n → F w (if mx f k < f k then f k else mx f k) (k + 1) = R → F (w + 1) (mx f k) k = R) (he : ∀ w, F (w + 1) (mx f n) n = g (mx f n)) : ∀ w k, 1 ≤ k → k ≤ n → n - k < w → F w (mx f k) k = g (mx f n) := by
  intro w
  induction w with
  | zero => intro k _ _ h; omega
  | succ w ih =>
    intro k h1 hk hw
    by_cases hc : k = n
    · subst hc
      exact he w
    · exact hs w k _ h1 (by omega) (ih (k + 1) (by omega) (by omega) (by omega))
/-- the longest story from one on -/
def hsN (p : PP) : Nat → Nat → Nat
  | 0, _ => 0
  | j + 1, a => mx (fun m => if (p.le a).testBit m = true then hsN p j m else 0) p.n + 1
/-- the longest up to one -/
def gsN (p : PP) : Nat → Nat → Nat
  | 0, _ => 0
  | j + 1, o => mx (fun x => if (p.le x).testBit o = true then gsN p j x else 0) p.n + 1
def HS (p : PP) (a : Nat) : Nat := hsN p 10 a
def GS (p : PP) (a : Nat) : Nat := gsN p 10 a
section PStory
variable {E : VE} {V : VT} {p : PP} {S : ST} {c N : Nat}
theorem hs_le (g : GoodP p) : ∀ (j a : Nat), a < p.n → hsN p j a ≤ rk p a + 1 := by
  intro j
  induction j with
  | zero => intro a _; exact Nat.zero_le _
  | succ j ih =>
    intro a ha
    rw [hsN]
    have : mx (fun m => if (p.le a).testBit m = true then hsN p j m else 0) p.n ≤ rk p a := mx_le (fun m hm => by
      split
      · rename_i hl
        have h1 := ih m hm
        have h2 := rk_lt (p := p) hm (ld_bi g ⟨ha, hm, hl⟩)
        omega
      · omega)
    omega
theorem gs_le (g : GoodP p) : ∀ (j a : Nat), a < p.n → gsN p j a ≤ qk p a + 1 := by
  intro j
  induction j with
  | zero => intro a _; exact Nat.zero_le _
  | succ j ih =>
    intro a ha
    rw [gsN]
    have : mx (fun x => if (p.le x).testBit a = true then gsN p j x else 0) p.n ≤ qk p a := mx_le (fun m hm => by
      split
      · rename_i hl
        have h1 := ih m hm
        have h2 := qk_lt (p := p) hm (ld_bi g ⟨hm, ha, hl⟩)
        omega
      · omega)
    omega
theorem hs_stab (g : GoodP p) : ∀ (j a : Nat), a < p.n → rk p a < j → hsN p j a = hsN p (j + 1) a := by
  intro j
  induction j with
  | zero => intro a _ h; omega
  | succ j ih =>
    intro a ha hr
    rw [hsN, hsN]
    congr 1
    refine mx_congr (fun m hm => ?_)
    split
    · rename_i hl
      exact ih m hm (by have := rk_lt (p := p) hm (ld_bi g ⟨ha, hm, hl⟩); omega)
    · rfl
theorem gs_stab (g : GoodP p) : ∀ (j a : Nat), a < p.n → qk p a < j → gsN p j a = gsN p (j + 1) a := by
  intro j
  induction j with
  | zero => intro a _ h; omega
  | succ j ih =>
    intro a ha hr
    rw [gsN, gsN]
    congr 1
    refine mx_congr (fun m hm => ?_)
    split
    · rename_i hl
      exact ih m hm (by have := qk_lt (p := p) hm (ld_bi g ⟨hm, ha, hl⟩); omega)
    · rfl
theorem HS_rec (g : GoodP p) {a : Nat} (ha : a < p.n) : HS p a = mx (fun m => if (p.le a).testBit m = true then HS p m else 0) p.n + 1 := by
  have h7 := g.1
  unfold HS
  rw [hsN]
  congr 1
  refine mx_congr (fun m hm => ?_)
  split
  · exact hs_stab g 9 m hm (by have := rk_n (p := p) hm; omega)
  · rfl
theorem GS_rec (g : GoodP p) {a : Nat} (ha : a < p.n) : GS p a = mx (fun x => if (p.le x).testBit a = true then GS p x else 0) p.n + 1 := by
  have h7 := g.1
  unfold GS
  rw [gsN]
  congr 1
  refine mx_congr (fun m hm => ?_)
  split
  · exact gs_stab g 9 m hm (by have := qk_n (p := p) hm; omega)
  · rfl
theorem qk_ind {P : Nat → Prop} (h : ∀ m, m < p.n → (∀ o, o < p.n → p.bi o < p.bi m → P o) → P m) : ∀ m, m < p.n → P m := by
  have key : ∀ r m, m < p.n → qk p m < r → P m := by
    intro r
    induction r with
    | zero => intro m _ h; omega
    | succ r ih =>
      intro m hm hr
      exact h m hm (fun o ho hb => ih o ho (by have := qk_lt (p := p) ho hb; omega))
  exact fun m hm => key (qk p m + 1) m hm (by omega)
theorem HS_step (g : GoodP p) {a o : Nat} (h : ld p a o) : HS p o + 1 ≤ HS p a := by
  rw [HS_rec g h.1]
  have := le_mx (f := fun m => if (p.le a).testBit m = true then HS p m else 0) h.2.1
  try dsimp only at this
  rw [if_pos h.2.2] at this
  omega
theorem GS_step (g : GoodP p) {a o : Nat} (h : ld p a o) : GS p a + 1 ≤ GS p o := by
  rw [GS_rec g h.2.1]
  have := le_mx (f := fun x => if (p.le x).testBit o = true then GS p x else 0) h.1
  try dsimp only at this
  rw [if_pos h.2.2] at this
  omega
theorem story_eq (g : GoodP p) : mx (HS p) p.n = mx (GS p) p.n := by
  have h1 : ∀ m, m < p.n → GS p m + HS p m ≤ mx (GS p) p.n + 1 := by
    refine rk_ind (p := p) (P := fun m => GS p m + HS p m ≤ mx (GS p) p.n + 1) (fun m hm ih => ?_)
    have hG := le_mx (f := GS p) hm
    have : mx (fun o => if (p.le m).testBit o = true then HS p o else 0) p.n ≤ mx (GS p) p.n - GS p m := mx_le (fun o ho => by
      split
      · rename_i hl
        have h2 := ih o ho (ld_bi g ⟨hm, ho, hl⟩)
        have h3 := GS_step g ⟨hm, ho, hl⟩
        omega
      · omega)
    rw [HS_rec g hm]
    omega
  have h2 : ∀ m, m < p.n → GS p m + HS p m ≤ mx (HS p) p.n + 1 := by
    refine qk_ind (p := p) (P := fun m => GS p m + HS p m ≤ mx (HS p) p.n + 1) (fun m hm ih => ?_)
    have hG := le_mx (f := HS p) hm
    have : mx (fun x => if (p.le x).testBit m = true then GS p x else 0) p.n ≤ mx (HS p) p.n - HS p m := mx_le (fun o ho => by
      split
      · rename_i hl
        have h2 := ih o ho (ld_bi g ⟨ho, hm, hl⟩)
        have h3 := HS_step g ⟨ho, hm, hl⟩
        omega
      · omega)
    rw [GS_rec g hm]
    omega
  apply Nat.le_antisymm
  · refine mx_le (fun m hm => ?_)
    have := h1 m hm
    have h3 := GS_rec g hm
    omega
  · refine mx_le (fun m hm => ?_)
    have := h2 m hm
    have h3 := HS_rec g hm
    omega
theorem c_story_k (h : PastC V E.1 p) (hN : 1000 < N) : ∀ (j a d : Nat), a < p.n → rk p a ≤ j → rk p a + d < 7 → gX5_storyFrom_k N (j + 1) E.1 (nI a) (nI d) V = some (nI (hsN p (j + 1) a), V) := by
  have g := h.1
  have hn := g.1
  have hp := pw1 hn
  have hF := h.2.1.1
  intro j
  induction j with
  | zero =>
    intro a d ha hr hd
    have hle := le_lt g ha
    rw [gX5_storyFrom_k, gX5_storyFrom_g, hsN]
    refine loop_mx (F := fun w s k => gX5_storyFrom_b5 (gX5_storyFrom_k N 0) N w E.1 (nI a) (nI d) (nI s) (nI k) V) p.n (fun m => if (p.le a).testBit m = true then hsN p 0 m else 0) (fun s => some (nI (s + 1), V)) ?_ ?_ N 0 (by omega) (by omega)
    · intro w k R hk hR
      have hnl : ¬ (p.le a).testBit k = true := fun q => by
        have := rk_lt (p := p) hk (ld_bi g ⟨ha, hk, q⟩)
        omega
      show gX5_storyFrom_b5 (gX5_storyFrom_k N 0) N (w + 1) E.1 (nI a) (nI d) (nI _) (nI k) V = R
      unfold gX5_storyFrom_b5 gX9_bit
      try simp (disch := omega) only [fa_lit, ne_le, ne_lt, ne_eq', nI_add, pk_mul, pk_sub, rdA_n, wrA_n, rdL_n, wrL_n, nI_one, nI_bit1, nI_bit0, fa_or, fa_and, nI_df, nat31, Option.bind_some, m1_le0, m1_lt0, m1_eq, eq_m1, ite_nI, sub_m, pk_m1', not_lt0, hF, (h.2.2.1 a ha).2.2.2.1]
      rw [if_neg (by omega), if_neg (by omega), if_neg hnl]
      simp only [if_neg hnl, Nat.not_lt_zero, if_false] at hR
      exact hR
    · intro w
      show gX5_storyFrom_b5 (gX5_storyFrom_k N 0) N (w + 1) E.1 (nI a) (nI d) (nI _) (nI p.n) V = _
      unfold gX5_storyFrom_b5
      try simp (disch := omega) only [fa_lit, ne_le, ne_lt, ne_eq', nI_add, pk_mul, pk_sub, rdA_n, wrA_n, rdL_n, wrL_n, nI_one, nI_bit1, nI_bit0, fa_or, fa_and, nI_df, nat31, Option.bind_some, m1_le0, m1_lt0, m1_eq, eq_m1, ite_nI, sub_m, pk_m1', not_lt0, hF]
      rw [if_pos (Nat.le_refl _)]
  | succ j ih =>
    intro a d ha hr hd
    have hle := le_lt g ha
    rw [gX5_storyFrom_k, gX5_storyFrom_g, hsN]
    have hmx : ∀ k, k ≤ p.n → mx (fun m => if (p.le a).testBit m = true then hsN p (j + 1) m else 0) k ≤ 8 := fun k hk => mx_le (fun m hm => by
      split
      · have h1 := hs_le g (j + 1) m (by omega)
        have h2 := rk_n (p := p) (m := m) (by omega)
        omega
      · omega)
    refine loop_mx (F := fun w s k => gX5_storyFrom_b5 (gX5_storyFrom_k N (j + 1)) N w E.1 (nI a) (nI d) (nI s) (nI k) V) p.n (fun m => if (p.le a).testBit m = true then hsN p (j + 1) m else 0) (fun s => some (nI (s + 1), V)) ?_ ?_ N 0 (by omega) (by omega)
    · intro w k R hk hR
      have hb := hmx k (by omega)
      show gX5_storyFrom_b5 (gX5_storyFrom_k N (j + 1)) N (w + 1) E.1 (nI a) (nI d) (nI _) (nI k) V = R
      unfold gX5_storyFrom_b5 gX9_bit
      try simp (disch := omega) only [fa_lit, ne_le, ne_lt, ne_eq', nI_add, pk_mul, pk_sub, rdA_n, wrA_n, rdL_n, wrL_n, nI_one, nI_bit1, nI_bit0, fa_or, fa_and, nI_df, nat31, Option.bind_some, m1_le0, m1_lt0, m1_eq, eq_m1, ite_nI, sub_m, pk_m1', not_lt0, hF, (h.2.2.1 a ha).2.2.2.1]
      rw [if_neg (by omega), if_neg (by omega)]
      by_cases hl : (p.le a).testBit k = true
      · have := rk_lt (p := p) hk (ld_bi g ⟨ha, hk, hl⟩)
        have h1 := hs_le g (j + 1) k hk
        have h2 := rk_n (p := p) hk
        rw [if_pos hl, ih k (d + 1) hk (by omega) (by omega), Option.bind_some]
        simp only [if_pos hl] at hR
        dsimp only
        try simp (disch := omega) only [fa_lit, ne_le, ne_lt, ne_eq', nI_add, pk_mul, pk_sub, rdA_n, wrA_n, rdL_n, wrL_n, nI_one, nI_bit1, nI_bit0, fa_or, fa_and, nI_df, nat31, Option.bind_some, m1_le0, m1_lt0, m1_eq, eq_m1, ite_nI, sub_m, pk_m1', not_lt0]
        exact hR
      · rw [if_neg hl]
        simp only [if_neg hl, Nat.not_lt_zero, if_false] at hR
        exact hR
    · intro w
      show gX5_storyFrom_b5 (gX5_storyFrom_k N (j + 1)) N (w + 1) E.1 (nI a) (nI d) (nI _) (nI p.n) V = _
      unfold gX5_storyFrom_b5
      try simp (disch := omega) only [fa_lit, ne_le, ne_lt, ne_eq', nI_add, pk_mul, pk_sub, rdA_n, wrA_n, rdL_n, wrL_n, nI_one, nI_bit1, nI_bit0, fa_or, fa_and, nI_df, nat31, Option.bind_some, m1_le0, m1_lt0, m1_eq, eq_m1, ite_nI, sub_m, pk_m1', not_lt0, hF]
      rw [if_pos (Nat.le_refl _)]
/-- the longest up to o, by the first i in order -/
def gsA (p : PP) (i o : Nat) : Nat := mx (fun j => if (p.le (byN p j)).testBit o = true then GS p (byN p j) else 0) i + 1
theorem gsA_m (g : GoodP p) {i : Nat} (hi : i < p.n) : gsA p i (byN p i) = GS p (byN p i) := by
  have hb := by_ok (p := p) hi
  rw [GS_rec g hb.1]
  unfold gsA
  congr 1
  apply Nat.le_antisymm
  · refine mx_le (fun j hj => ?_)
    have hbj := by_ok (p := p) (i := j) (by omega)
    exact le_mx (f := fun x => if (p.le x).testBit (byN p i) = true then GS p x else 0) hbj.1
  · refine mx_le (fun x hx => ?_)
    split
    · rename_i hl
      have h1 := pos_lt (p := p) (m := byN p i) hx (bf_iff.mpr (Or.inl (ld_bi g ⟨hx, hb.1, hl⟩)))
      have h2 := le_mx (f := fun j => if (p.le (byN p j)).testBit (byN p i) = true then GS p (byN p j) else 0) (i := posN p x) (n := i) (by omega)
      try dsimp only at h2
      rw [by_pos hx, if_pos hl] at h2
      exact h2
    · omega
theorem GS_le (g : GoodP p) {m : Nat} (hm : m < p.n) : GS p m ≤ 8 := by
  have h1 := gs_le g 10 m hm
  have h2 := qk_n (p := p) hm
  have h3 := g.1
  unfold GS
  omega
theorem q_story (g : GoodP p) (hN : 1000 < N) : ∃ v, Qc E p S c (fun V => gX9_story E N V) v ∧ Qm p S c (fun V => gX10_story N V) v := by
  unfold gX9_story gX10_story
  have hn := g.1
  have hp := pw1 hn
  refine qT ⟨nI (mx (HS p) p.n), fun V h => ?_, fun V h => ?_⟩
  · have hH : ∀ m, m < p.n → HS p m ≤ 8 := fun m hm => by
      have h1 := hs_le g 10 m hm
      have h2 := rk_n (p := p) hm
      unfold HS
      omega
    refine tot_eq (a := (nI (mx (HS p) p.n), V)) ?_ ⟨rfl, fr.rf⟩
    refine loop_mx (F := fun w s k => gX9_story_b4 E N w (nI s) (nI k) V) p.n (HS p) (fun s => some (nI s, V)) ?_ ?_ N 0 (by omega) (by omega)
    · intro w k R hk hR
      have h1 := rk_n (p := p) hk
      have h2 := hH k hk
      have h3 : mx (HS p) k ≤ 8 := mx_le (fun i hi => hH i (by omega))
      show gX9_story_b4 E N (w + 1) (nI _) (nI k) V = R
      unfold gX9_story_b4 gX5_storyFrom
      rw [show (0 : Int32) = nI 0 from rfl, c_story_k h.2.1 hN 9 k 0 hk (by omega) (by omega), Option.bind_some, show hsN p (9 + 1) k = HS p k from rfl]
      try simp (disch := omega) only [fa_lit, ne_le, ne_lt, ne_eq', nI_add, pk_mul, pk_sub, rdA_n, wrA_n, rdL_n, wrL_n, nI_one, nI_bit1, nI_bit0, fa_or, fa_and, nI_df, nat31, Option.bind_some, m1_le0, m1_lt0, m1_eq, eq_m1, ite_nI, sub_m, pk_m1', not_lt0, h.2.1.2.1.1]
      rw [if_neg (by omega)]
      exact hR
    · intro w
      show gX9_story_b4 E N (w + 1) (nI _) (nI p.n) V = _
      unfold gX9_story_b4
      try simp (disch := omega) only [fa_lit, ne_le, ne_lt, ne_eq', nI_add, pk_mul, pk_sub, rdA_n, wrA_n, rdL_n, wrL_n, nI_one, nI_bit1, nI_bit0, fa_or, fa_and, nI_df, nat31, Option.bind_some, m1_le0, m1_lt0, m1_eq, eq_m1, ite_nI, sub_m, pk_m1', not_lt0, h.2.1.2.1.1]
      rw [if_pos (Nat.le_refl _)]
  · rw [story_eq g]
    have f5 : ∀ {X : VT} (k : Nat) (z : Int32), mf X (wA X 175 k z) := fun k z => mf_A _ _ (by unfold mxA; omega)
    have r5 : ∀ {X : VT} (k : Nat) (z : Int32), (wA X 175 k z).A 167 = X.A 167 := fun k z => wA_n _ _ _ (by omega)
    refine loop_T (F := fun w (_ : Unit) k V => gX10_story_b9 N w (nI 0) (nI k) V) 7 (fun k _ W => (∀ o, o < k → W.A 175 o = nI 1) ∧ MSt W p.n S ∧ mf V W) ?_ ?_ N 0 () V (by omega) (by omega) ⟨fun o ho => by omega, h.2.1, mf.rf⟩
    · intro w k _ W hk hI hK
      show tot (gX10_story_b9 N (w + 1) (nI 0) (nI k) W) _
      unfold gX10_story_b9
      try simp (disch := omega) only [fa_lit, ne_le, ne_lt, ne_eq', nI_add, pk_mul, pk_sub, rdA_n, wrA_n, rdL_n, wrL_n, nI_one, nI_bit1, nI_bit0, fa_or, fa_and, nI_df, nat31, Option.bind_some, m1_le0, m1_lt0, m1_eq, eq_m1, ite_nI, sub_m, pk_m1', not_lt0]
      rw [if_neg (by omega)]
      refine hK () _ ⟨fun o ho => ?_, hI.2.1.at (r5 _ _), hI.2.2.trans (f5 _ _)⟩
      by_cases e : o = k
      · subst e
        try simp (disch := omega) only [wA_A, wF_F, wA_F, wF_A, wA_L, wF_L, wA_G, wF_G, true_and, and_true, and_self, if_true, if_false, if_pos, if_neg]
      · try simp (disch := omega) only [wA_A, wF_F, wA_F, wF_A, wA_L, wF_L, wA_G, wF_G, true_and, and_true, and_self, if_true, if_false, if_pos, if_neg]
        exact hI.1 o (by omega)
    · intro w _ W hI
      show tot (gX10_story_b9 N (w + 1) (nI 0) (nI 7) W) _
      unfold gX10_story_b9
      try simp (disch := omega) only [fa_lit, ne_le, ne_lt, ne_eq', nI_add, pk_mul, pk_sub, rdA_n, wrA_n, rdL_n, wrL_n, nI_one, nI_bit1, nI_bit0, fa_or, fa_and, nI_df, nat31, Option.bind_some, m1_le0, m1_lt0, m1_eq, eq_m1, ite_nI, sub_m, pk_m1', not_lt0]
      rw [if_pos (Nat.le_refl _)]
      have last : mx (fun j => GS p (byN p j)) p.n = mx (GS p) p.n := by
        apply Nat.le_antisymm
        · exact mx_le (fun j hj => le_mx (by_ok hj).1)
        · refine mx_le (fun m hm => ?_)
          have h2 := le_mx (f := fun j => GS p (byN p j)) (pos_n hm)
          try dsimp only at h2
          rw [by_pos hm] at h2
          exact h2
      refine loop_T (F := fun w (a : Nat) k V => gX10_story_b30 N w (nI a) (nI k) V) p.n (fun i a W => a = mx (fun j => GS p (byN p j)) i ∧ (∀ o, o < p.n → W.A 175 o = nI (gsA p i o)) ∧ MSt W p.n S ∧ mf V W) ?_ ?_ N 0 0 W (by omega) (by omega) ⟨rfl, fun o ho => hI.1 o (by omega), hI.2⟩
      · intro w i a W hi hI hK
        have h1 := h.mk hI.2.2.2 hI.2.2.1
        have hbo := by_ok (p := p) hi
        have hle := le_lt g hbo.1
        have hG := GS_le g hbo.1
        have hM : mx (fun j => GS p (byN p j)) i ≤ 8 := mx_le (fun j hj => GS_le g (by_ok (p := p) (i := j) (by omega)).1)
        show tot (gX10_story_b30 N (w + 1) (nI a) (nI i) W) _
        unfold gX10_story_b30
        rw [m_by h1.1 hi hN]
        try simp (disch := omega) only [fa_lit, ne_le, ne_lt, ne_eq', nI_add, pk_mul, pk_sub, rdA_n, wrA_n, rdL_n, wrL_n, nI_one, nI_bit1, nI_bit0, fa_or, fa_and, nI_df, nat31, Option.bind_some, m1_le0, m1_lt0, m1_eq, eq_m1, ite_nI, sub_m, pk_m1', not_lt0, h1.1.2.1.1]
        rw [if_neg (by omega), hI.2.1 _ hbo.1, gsA_m g hi, hI.1]
        try simp (disch := omega) only [fa_lit, ne_le, ne_lt, ne_eq', nI_add, pk_mul, pk_sub, rdA_n, wrA_n, rdL_n, wrL_n, nI_one, nI_bit1, nI_bit0, fa_or, fa_and, nI_df, nat31, Option.bind_some, m1_le0, m1_lt0, m1_eq, eq_m1, ite_nI, sub_m, pk_m1', not_lt0]
        rw [show (if mx (fun j => GS p (byN p j)) i < GS p (byN p i) then GS p (byN p i) else mx (fun j => GS p (byN p j)) i) = mx (fun j => GS p (byN p j)) (i + 1) from rfl]
        refine loop_T (F := fun w2 (_ : Unit) k V => gX10_story_b60 N (gX10_story_b30 N w) w2 (nI (mx (fun j => GS p (byN p j)) (i + 1))) (nI i) (nI (byN p i)) (nI k) V) p.n (fun k _ X => (∀ o, o < p.n → X.A 175 o = nI (if o < k then gsA p (i + 1) o else gsA p i o)) ∧ MSt X p.n S ∧ mf V X) ?_ ?_ N 0 () W (by omega) (by omega) ⟨fun o ho => ?_, hI.2.2⟩
        · intro w2 k _ X hk hJ hK2
          have h2 := h.mk hJ.2.2 hJ.2.1
          have hgk : gsA p i k ≤ 9 := by
            unfold gsA
            have : mx (fun j => if (p.le (byN p j)).testBit k = true then GS p (byN p j) else 0) i ≤ 8 := mx_le (fun j hj => by
              split
              · exact GS_le g (by_ok (p := p) (i := j) (by omega)).1
              · omega)
            omega
          have hself : ¬ (p.le (byN p i)).testBit (byN p i) = true := fun q => by
            have := ld_bi g ⟨hbo.1, hbo.1, q⟩
            omega
          have em : X.A 175 (byN p i) = nI (GS p (byN p i)) := by
            rw [hJ.1 _ hbo.1, ← gsA_m g hi]
            split
            · unfold gsA
              rw [mx]
              simp only [if_neg hself, Nat.not_lt_zero, if_false]
            · rfl
          have es : gsA p (i + 1) k = if gsA p i k < (if (p.le (byN p i)).testBit k = true then GS p (byN p i) else 0) + 1 then (if (p.le (byN p i)).testBit k = true then GS p (byN p i) else 0) + 1 else gsA p i k := by
            unfold gsA
            rw [mx]
            try dsimp only
            generalize (if (p.le (byN p i)).testBit k = true then GS p (byN p i) else 0) = q1
            generalize mx (fun j => if (p.le (byN p j)).testBit k = true then GS p (byN p j) else 0) i = q2
            by_cases q : q2 < q1
            · rw [if_pos q, if_pos (by omega)]
            · rw [if_neg q, if_neg (by omega)]
          have go : ∀ z Y, gsA p (i + 1) k = z → (∀ o, Y.A 175 o = if o = k then nI z else X.A 175 o) → MSt Y p.n S → mf V Y → tot (gX10_story_b60 N (gX10_story_b30 N w) w2 (nI (mx (fun j => GS p (byN p j)) (i + 1))) (nI i) (nI (byN p i)) (nI (k + 1)) Y) (fun r => r.1 = nI (mx (GS p) p.n) ∧ MSt r.2 p.n S ∧ mf V r.2) := by
            intro z Y hz hY hs hf
            refine hK2 () _ ⟨fun o ho => ?_, hs, hf⟩
            rw [hY o]
            by_cases e : o = k
            · subst e
              rw [if_pos rfl, if_pos (by omega), hz]
            · rw [if_neg e, hJ.1 o ho]
              by_cases e2 : o < k
              · rw [if_pos e2, if_pos (by omega)]
              · rw [if_neg e2, if_neg (by omega)]
          show tot (gX10_story_b60 N (gX10_story_b30 N w) (w2 + 1) _ (nI i) (nI (byN p i)) (nI k) X) _
          unfold gX10_story_b60
          try simp (disch := omega) only [fa_lit, ne_le, ne_lt, ne_eq', nI_add, pk_mul, pk_sub, rdA_n, wrA_n, rdL_n, wrL_n, nI_one, nI_bit1, nI_bit0, fa_or, fa_and, nI_df, nat31, Option.bind_some, m1_le0, m1_lt0, m1_eq, eq_m1, ite_nI, sub_m, pk_m1', not_lt0, h2.1.2.1.1, (h2.1.2.2.1 _ hbo.1).2.2.2.1]
          rw [if_neg (by omega), em, hJ.1 k hk, if_neg (Nat.lt_irrefl k)]
          try simp (disch := omega) only [fa_lit, ne_le, ne_lt, ne_eq', nI_add, pk_mul, pk_sub, rdA_n, wrA_n, rdL_n, wrL_n, nI_one, nI_bit1, nI_bit0, fa_or, fa_and, nI_df, nat31, Option.bind_some, m1_le0, m1_lt0, m1_eq, eq_m1, ite_nI, sub_m, pk_m1', not_lt0]
          by_cases hl : (p.le (byN p i)).testBit k = true
          · rw [if_pos hl]
            simp only [if_pos hl] at es
            refine go _ _ es (fun o => ?_) (hJ.2.1.at (r5 _ _)) (hJ.2.2.trans (f5 _ _))
            rw [wA_A]
            by_cases e : o = k
            · rw [if_pos ⟨rfl, e⟩, if_pos e]
            · rw [if_neg (fun q => e q.2), if_neg e]
          · rw [if_neg hl]
            simp only [if_neg hl] at es
            have : 1 ≤ gsA p i k := by unfold gsA; omega
            rw [if_neg (by omega)] at es
            refine go _ _ es (fun o => ?_) hJ.2.1 hJ.2.2
            by_cases e : o = k
            · subst e
              rw [if_pos rfl, hJ.1 o hk, if_neg (Nat.lt_irrefl o)]
            · rw [if_neg e]
        · intro w2 _ X hJ
          have h2 := h.mk hJ.2.2 hJ.2.1
          show tot (gX10_story_b60 N (gX10_story_b30 N w) (w2 + 1) _ (nI i) (nI (byN p i)) (nI p.n) X) _
          unfold gX10_story_b60
          try simp (disch := omega) only [fa_lit, ne_le, ne_lt, ne_eq', nI_add, pk_mul, pk_sub, rdA_n, wrA_n, rdL_n, wrL_n, nI_one, nI_bit1, nI_bit0, fa_or, fa_and, nI_df, nat31, Option.bind_some, m1_le0, m1_lt0, m1_eq, eq_m1, ite_nI, sub_m, pk_m1', not_lt0, h2.1.2.1.1]
          rw [if_pos (Nat.le_refl _)]
          exact hK _ _ ⟨rfl, fun o ho => by rw [hJ.1 o ho, if_pos ho], hJ.2⟩
        · rw [if_neg (by omega)]
          exact hI.2.1 o ho
      · intro w a W hI
        have h1 := h.mk hI.2.2.2 hI.2.2.1
        show tot (gX10_story_b30 N (w + 1) (nI a) (nI p.n) W) _
        unfold gX10_story_b30
        try simp (disch := omega) only [fa_lit, ne_le, ne_lt, ne_eq', nI_add, pk_mul, pk_sub, rdA_n, wrA_n, rdL_n, wrL_n, nI_one, nI_bit1, nI_bit0, fa_or, fa_and, nI_df, nat31, Option.bind_some, m1_le0, m1_lt0, m1_eq, eq_m1, ite_nI, sub_m, pk_m1', not_lt0, h1.1.2.1.1]
        rw [if_pos (Nat.le_refl _)]
        exact tot_some ⟨by rw [hI.1, last], hI.2.2⟩
/-- the next year that anything is of, of those below k; the year itself, if none -/
def nbN (p : PP) (y : Nat) : Nat → Nat
  | 0 => y
  | k + 1 => if y < p.bi k ∧ (nbN p y k = y ∨ p.bi k < nbN p y k) then p.bi k else nbN p y k
theorem nb_ok (p : PP) (y : Nat) : ∀ k, (nbN p y k = y ∧ ∀ m, m < k → p.bi m ≤ y) ∨ (y < nbN p y k ∧ (∃ m, m < k ∧ p.bi m = nbN p y k) ∧ ∀ m, m < k → y < p.bi m → nbN p y k ≤ p.bi m)
  | 0 => Or.inl ⟨rfl, fun m hm => by omega⟩
  | k + 1 => by
    rw [nbN]
    by_cases h1 : y < p.bi k ∧ (nbN p y k = y ∨ p.bi k < nbN p y k)
    · rw [if_pos h1]
      refine Or.inr ⟨h1.1, ⟨k, by omega, rfl⟩, fun m hm hy => ?_⟩
      by_cases e : m = k
      · subst e
        exact Nat.le_refl _
      · rcases nb_ok p y k with ⟨h2, h3⟩ | ⟨h2, h3, h4⟩
        · have := h3 m (by omega)
          omega
        · have := h4 m (by omega) hy
          omega
    · rw [if_neg h1]
      rcases nb_ok p y k with ⟨h2, h3⟩ | ⟨h2, ⟨j, h3, h3'⟩, h4⟩
      · refine Or.inl ⟨h2, fun m hm => ?_⟩
        by_cases e : m = k
        · subst e
          omega
        · exact h3 m (by omega)
      · refine Or.inr ⟨h2, ⟨j, by omega, h3'⟩, fun m hm hy => ?_⟩
        by_cases e : m = k
        · subst e
          omega
        · exact h4 m (by omega) hy
theorem nb_ge (p : PP) (y k : Nat) : y ≤ nbN p y k := by
  rcases nb_ok p y k with h | h <;> omega
theorem nb_le (g : GoodP p) {y : Nat} (hy : y ≤ 99) {k : Nat} (hk : k ≤ p.n) : nbN p y k ≤ 99 := by
  rcases nb_ok p y k with h | ⟨_, ⟨m, h1, h2⟩, _⟩
  · omega
  · have := (g.2.1 m (by omega)).2.1
    omega
theorem c_next (h : PastC V E.1 p) {y : Nat} (hy : y ≤ 99) (hN : 1000 < N) : gX5_nextBirth N E.1 (nI y) V = some (nI (nbN p y p.n), V) := by
  have g := h.1
  have hn := g.1
  unfold gX5_nextBirth
  have key : ∀ w k, k ≤ p.n → p.n - k < w → gX5_nextBirth_b4 N w E.1 (nI y) (nI (nbN p y k)) (nI k) V = some (nI (nbN p y p.n), V) := by
    intro w
    induction w with
    | zero => intro k _ h; omega
    | succ w ih =>
      intro k hk hw
      have hb := nb_le g hy hk
      have hge := nb_ge p y k
      unfold gX5_nextBirth_b4 gX5_nextBirth_b37
      by_cases hc : k = p.n
      · rw [hc]
        try simp (disch := omega) only [fa_lit, ne_le, ne_lt, ne_eq', nI_add, pk_mul, pk_sub, rdA_n, wrA_n, rdL_n, wrL_n, nI_one, nI_bit1, nI_bit0, fa_or, fa_and, nI_df, nat31, Option.bind_some, m1_le0, m1_lt0, m1_eq, eq_m1, ite_nI, sub_m, pk_m1', not_lt0, h.2.1.1]
        rw [if_pos (Nat.le_refl _)]
      · have h2 := ih (k + 1) (by omega) (by omega)
        have gk := g.2.1 k (by omega)
        rw [nbN] at h2
        try simp (disch := omega) only [fa_lit, ne_le, ne_lt, ne_eq', nI_add, pk_mul, pk_sub, rdA_n, wrA_n, rdL_n, wrL_n, nI_one, nI_bit1, nI_bit0, fa_or, fa_and, nI_df, nat31, Option.bind_some, m1_le0, m1_lt0, m1_eq, eq_m1, ite_nI, sub_m, pk_m1', not_lt0, h.2.1.1, (h.2.2.1 k (by omega)).2.1]
        rw [if_neg (by omega)]
        by_cases e1 : p.bi k ≤ y
        · rw [if_pos e1]
          rw [if_neg (by omega)] at h2
          exact h2
        · rw [if_neg e1]
          by_cases e2 : nbN p y k = y
          · rw [if_pos e2]
            rw [if_pos ⟨by omega, Or.inl e2⟩] at h2
            exact h2
          · rw [if_neg e2]
            by_cases e3 : nbN p y k ≤ p.bi k
            · rw [if_pos e3]
              rw [if_neg (by omega)] at h2
              exact h2
            · rw [if_neg e3]
              rw [if_pos ⟨by omega, Or.inr (by omega)⟩] at h2
              exact h2
  exact key N 0 (by omega) (by omega)
theorem gap_eq : mx (fun m => nbN p (p.bi m) p.n - p.bi m) p.n = mx (fun i => if i = 0 then 0 else p.bi (byN p i) - p.bi (byN p (i - 1))) p.n := by
  apply Nat.le_antisymm
  · refine mx_le (fun m hm => ?_)
    rcases nb_ok p (p.bi m) p.n with ⟨h1, _⟩ | ⟨h1, ⟨k, h2, h3⟩, h4⟩
    · rw [h1]
      omega
    · have hex := fst0_spec (f := fun i => decide (p.bi m < p.bi (byN p i))) (j := p.n) (k := 0) (m := posN p k) (by omega) (by have := pos_n h2; omega) (by rw [by_pos h2]; simp; omega)
      have hmin : ∀ j, j < fst0 (fun i => decide (p.bi m < p.bi (byN p i))) p.n 0 → ¬ p.bi m < p.bi (byN p j) := by
        have gen : ∀ (f : Nat → Bool) (n k j : Nat), k ≤ j → j < fst0 f n k → f j = false := by
          intro f n
          induction n with
          | zero => intro k j h1 h2; rw [fst0] at h2; omega
          | succ n ih =>
            intro k j h1 h2
            rw [fst0] at h2
            by_cases e : f k = true
            · rw [if_pos e] at h2
              omega
            · rw [if_neg e] at h2
              by_cases e2 : j = k
              · rw [e2]
                simpa using e
              · exact ih (k + 1) j (by omega) h2
        intro j hj
        have := gen _ _ 0 j (by omega) hj
        simpa using this
      generalize fst0 (fun i => decide (p.bi m < p.bi (byN p i))) p.n 0 = i at hex hmin
      have hgt : p.bi m < p.bi (byN p i) := by simpa using hex.1
      have hi : i < p.n := by omega
      have hbo := by_ok (p := p) hi
      have hi0 : i ≠ 0 := by
        intro e
        have := pos_lt (p := p) (o := m) (m := byN p i) hm (bf_iff.mpr (Or.inl hgt))
        omega
      have h5 := hmin (i - 1) (by omega)
      have h6 := h4 (byN p i) hbo.1 hgt
      have h7 := le_mx (f := fun i => if i = 0 then 0 else p.bi (byN p i) - p.bi (byN p (i - 1))) hi
      try dsimp only at h7
      rw [if_neg hi0] at h7
      omega
  · refine mx_le (fun i hi => ?_)
    by_cases e : i = 0
    · rw [if_pos e]
      omega
    · rw [if_neg e]
      have hbo := by_ok (p := p) hi
      have hba := by_ok (p := p) (i := i - 1) (by omega)
      have h7 := le_mx (f := fun m => nbN p (p.bi m) p.n - p.bi m) hba.1
      try dsimp only at h7
      by_cases e2 : p.bi (byN p i) ≤ p.bi (byN p (i - 1))
      · omega
      · rcases nb_ok p (p.bi (byN p (i - 1))) p.n with ⟨h1, h2⟩ | ⟨h1, ⟨k, h2, h3⟩, _⟩
        · have := h2 (byN p i) hbo.1
          omega
        · have h4 := pos_lt (p := p) (o := byN p (i - 1)) (m := k) hba.1 (bf_iff.mpr (Or.inl (by omega)))
          have h5 := pos_bi (p := p) (m := byN p i) (o := k) h2 (by omega)
          omega
theorem q_gap (g : GoodP p) (hN : 1000 < N) : ∃ v, Qc E p S c (fun V => gX9_gap E N V) v ∧ Qm p S c (fun V => gX10_gap N V) v := by
  unfold gX9_gap gX10_gap gX5_widestGap
  have hn := g.1
  refine qT ⟨nI (mx (fun m => nbN p (p.bi m) p.n - p.bi m) p.n), fun V h => ?_, fun V h => ?_⟩
  · have e : gX5_widestGap_b4 N N E.1 0 0 V = some (nI (mx (fun m => nbN p (p.bi m) p.n - p.bi m) p.n), V) := by
      refine loop_mx (F := fun w s k => gX5_widestGap_b4 N w E.1 (nI s) (nI k) V) p.n (fun m => nbN p (p.bi m) p.n - p.bi m) (fun s => some (nI s, V)) ?_ ?_ N 0 (by omega) (by omega)
      · intro w k R hk hR
        have gk := (g.2.1 k hk).2.1
        have h1 := nb_ge p (p.bi k) p.n
        have h2 := nb_le g gk (Nat.le_refl p.n)
        have h3 : mx (fun m => nbN p (p.bi m) p.n - p.bi m) k ≤ 99 := mx_le (fun i hi => by
          have := nb_le g (g.2.1 i (by omega)).2.1 (Nat.le_refl p.n)
          omega)
        show gX5_widestGap_b4 N (w + 1) E.1 (nI _) (nI k) V = R
        unfold gX5_widestGap_b4
        try simp (disch := omega) only [fa_lit, ne_le, ne_lt, ne_eq', nI_add, pk_mul, pk_sub, rdA_n, wrA_n, rdL_n, wrL_n, nI_one, nI_bit1, nI_bit0, fa_or, fa_and, nI_df, nat31, Option.bind_some, m1_le0, m1_lt0, m1_eq, eq_m1, ite_nI, sub_m, pk_m1', not_lt0, h.2.1.2.1.1, (h.2.1.2.2.1 k hk).2.1]
        rw [if_neg (by omega), c_next h.2.1 gk hN, Option.bind_some]
        dsimp only
        try simp (disch := omega) only [fa_lit, ne_le, ne_lt, ne_eq', nI_add, pk_mul, pk_sub, rdA_n, wrA_n, rdL_n, wrL_n, nI_one, nI_bit1, nI_bit0, fa_or, fa_and, nI_df, nat31, Option.bind_some, m1_le0, m1_lt0, m1_eq, eq_m1, ite_nI, sub_m, pk_m1', not_lt0, (h.2.1.2.2.1 k hk).2.1]
        exact hR
      · intro w
        show gX5_widestGap_b4 N (w + 1) E.1 (nI _) (nI p.n) V = _
        unfold gX5_widestGap_b4
        try simp (disch := omega) only [fa_lit, ne_le, ne_lt, ne_eq', nI_add, pk_mul, pk_sub, rdA_n, wrA_n, rdL_n, wrL_n, nI_one, nI_bit1, nI_bit0, fa_or, fa_and, nI_df, nat31, Option.bind_some, m1_le0, m1_lt0, m1_eq, eq_m1, ite_nI, sub_m, pk_m1', not_lt0, h.2.1.2.1.1]
        rw [if_pos (Nat.le_refl _)]
    dsimp only
    rw [e]
    exact tot_some ⟨rfl, fr.rf⟩
  · rw [gap_eq]
    refine tot_eq (a := (nI (mx (fun i => if i = 0 then 0 else p.bi (byN p i) - p.bi (byN p (i - 1))) p.n), V)) ?_ ⟨rfl, h.2.1, mf.rf⟩
    by_cases hn0 : p.n = 0
    · obtain ⟨M, rfl⟩ : ∃ M, N = M + 1 := ⟨N - 1, by omega⟩
      unfold gX10_gap_b9
      try simp (disch := omega) only [fa_lit, ne_le, ne_lt, ne_eq', nI_add, pk_mul, pk_sub, rdA_n, wrA_n, rdL_n, wrL_n, nI_one, nI_bit1, nI_bit0, fa_or, fa_and, nI_df, nat31, Option.bind_some, m1_le0, m1_lt0, m1_eq, eq_m1, ite_nI, sub_m, pk_m1', not_lt0, h.1.2.1.1]
      rw [if_pos (by omega), hn0]
      rfl
    · refine loop_mx1 (F := fun w s k => gX10_gap_b9 N w (nI s) (nI k) V) p.n (fun i => if i = 0 then 0 else p.bi (byN p i) - p.bi (byN p (i - 1))) (fun s => some (nI s, V)) ?_ ?_ N 1 (by omega) (by omega) (by omega)
      · intro w k R hk1 hk hR
        have hk0 : ¬ k = 0 := by omega
        have hbo := by_ok (p := p) hk
        have hba := by_ok (p := p) (i := k - 1) (by omega)
        have gb := (g.2.1 _ hbo.1).2.1
        have ga := (g.2.1 _ hba.1).2.1
        have hle := pos_bi (p := p) (m := byN p (k - 1)) (o := byN p k) hbo.1 (by omega)
        have h3 : mx (fun i => if i = 0 then 0 else p.bi (byN p i) - p.bi (byN p (i - 1))) k ≤ 99 := mx_le (fun i hi => by
          have := (g.2.1 _ (by_ok (p := p) (i := i) (by omega)).1).2.1
          split <;> omega)
        show gX10_gap_b9 N (w + 1) (nI _) (nI k) V = R
        unfold gX10_gap_b9
        rw [m_by h.1 hk hN, show nI k - 1 = nI (k - 1) from pk_sub (b := 1) (by omega), Option.bind_some]
        dsimp only
        rw [m_by h.1 (i := k - 1) (by omega) hN]
        try simp (disch := omega) only [fa_lit, ne_le, ne_lt, ne_eq', nI_add, pk_mul, pk_sub, rdA_n, wrA_n, rdL_n, wrL_n, nI_one, nI_bit1, nI_bit0, fa_or, fa_and, nI_df, nat31, Option.bind_some, m1_le0, m1_lt0, m1_eq, eq_m1, ite_nI, sub_m, pk_m1', not_lt0, h.1.2.1.1, (h.1.2.2.1 _ hbo.1).2.1, (h.1.2.2.1 _ hba.1).2.1]
        rw [if_neg (by omega)]
        simp only [if_neg hk0] at hR
        exact hR
      · intro w
        show gX10_gap_b9 N (w + 1) (nI _) (nI p.n) V = _
        unfold gX10_gap_b9
        try simp (disch := omega) only [fa_lit, ne_le, ne_lt, ne_eq', nI_add, pk_mul, pk_sub, rdA_n, wrA_n, rdL_n, wrL_n, nI_one, nI_bit1, nI_bit0, fa_or, fa_and, nI_df, nat31, Option.bind_some, m1_le0, m1_lt0, m1_eq, eq_m1, ite_nI, sub_m, pk_m1', not_lt0, h.1.2.1.1]
        rw [if_pos (Nat.le_refl _)]
end PStory
