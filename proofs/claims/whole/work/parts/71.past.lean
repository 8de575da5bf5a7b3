/-! PURE: what a past tells and how it is, as plain numbers; what is done to it. -/
/-- matters; kind, birth, sour told, led to (a set); knife, adds, full; taken by (left, coats, age); names -/
abbrev PP : Type := Nat × (Nat → Nat) × (Nat → Nat) × (Nat → Nat) × (Nat → Nat) × Nat × Nat × Nat × (Nat → Nat → Nat → Nat) × (Nat → List Nat)
def PP.n (p : PP) : Nat := p.1
def PP.kd (p : PP) : Nat → Nat := p.2.1
def PP.bi (p : PP) : Nat → Nat := p.2.2.1
def PP.to (p : PP) : Nat → Nat := p.2.2.2.1
def PP.le (p : PP) : Nat → Nat := p.2.2.2.2.1
def PP.kn (p : PP) : Nat := p.2.2.2.2.2.1
def PP.ad (p : PP) : Nat := p.2.2.2.2.2.2.1
def PP.fu (p : PP) : Nat := p.2.2.2.2.2.2.2.1
def PP.tk (p : PP) : Nat → Nat → Nat → Nat := p.2.2.2.2.2.2.2.2.1
def PP.nm (p : PP) : Nat → List Nat := p.2.2.2.2.2.2.2.2.2
/-- sour, coats, pot, year -/
abbrev ST : Type := (Nat → Nat) × (Nat → Nat) × Nat × Nat
def ST.so (S : ST) : Nat → Nat := S.1
def ST.co (S : ST) : Nat → Nat := S.2.1
def ST.po (S : ST) : Nat := S.2.2.1
def ST.ye (S : ST) : Nat := S.2.2.2
def mkS (a b : Nat → Nat) (c d : Nat) : ST := (a, b, c, d)
def upN (f : Nat → Nat) (k x : Nat) : Nat → Nat := fun j => if j = k then x else f j
def GoodP (p : PP) : Prop := p.n ≤ 7 ∧ (∀ m, m < p.n → p.kd m ≤ 3 ∧ p.bi m ≤ 99 ∧ p.to m ≤ 40 ∧ p.le m < 2 ^ p.n) ∧ (∀ m o, m < p.n → o < p.n → (p.le m).testBit o = true → p.bi m < p.bi o) ∧ (1 ≤ p.kn ∧ p.kn ≤ 9 ∧ p.ad ≤ 20 ∧ p.fu ≤ 200) ∧ ∀ l c a, p.tk l c a ≤ 20
def GoodS (p : PP) (c : Nat) (S : ST) : Prop := (∀ m, m < p.n → S.so m ≤ 40 ∧ S.co m ≤ c) ∧ S.po ≤ 200 ∧ S.ye ≤ c
theorem GoodS.mono {p : PP} {c d : Nat} {S : ST} (h : GoodS p c S) (hd : c ≤ d) : GoodS p d S := ⟨fun m hm => ⟨(h.1 m hm).1, Nat.le_trans (h.1 m hm).2 hd⟩, h.2.1, Nat.le_trans h.2.2 hd⟩
def priceN (p : PP) (m : Nat) : Nat := if p.kd m = 1 then 2 * p.kn else p.kn
def sYear (p : PP) (m l c : Nat) : Nat := if c = 0 then l else if p.kd m = 1 then (if l + 1 < p.to m then l + 1 else p.to m) else if p.kd m = 2 then l - 1 else l
def sCoat (p : PP) (m l c y : Nat) : Nat := if p.kd m = 3 then l else l - p.tk l c (100 - p.bi m + y)
def cCoat (p : PP) (m c : Nat) : Nat := if p.kd m = 3 then c else c + 1
def pYear (p : PP) (x : Nat) : Nat := if x + p.ad < 200 then x + p.ad else 200
def putOn (p : PP) (S : ST) (m : Nat) : ST := mkS (upN S.so m (sCoat p m (S.so m) (S.co m) S.ye)) (upN S.co m (cCoat p m (S.co m))) (S.po - priceN p m) S.ye
def takeOff (p : PP) (S : ST) (m : Nat) : ST := mkS (upN S.so m (p.to m)) (upN S.co m 0) S.po S.ye
def passS (p : PP) (S : ST) : ST := mkS (fun m => sYear p m (S.so m) (S.co m)) S.co (pYear p S.po) (S.ye + 1)
def freshS (p : PP) : ST := mkS p.to (fun _ => 0) p.fu 0
theorem priceN_le {p : PP} (h : GoodP p) (m : Nat) : priceN p m ≤ 18 := by
  have := h.2.2.2.1
  unfold priceN
  split <;> omega
theorem sYear_le {p : PP} (h : GoodP p) {m l : Nat} (c : Nat) (hm : m < p.n) (hl : l ≤ 40) : sYear p m l c ≤ 40 := by
  have := (h.2.1 m hm).2.2.1
  unfold sYear
  split
  · exact hl
  · split
    · split <;> omega
    · split <;> omega
theorem sCoat_le (p : PP) {m l : Nat} (c y : Nat) (hl : l ≤ 40) : sCoat p m l c y ≤ 40 := by
  unfold sCoat
  split <;> omega
theorem pYear_le (p : PP) (x : Nat) : pYear p x ≤ 200 := by
  unfold pYear
  split <;> omega
theorem GoodS.pass {p : PP} {c : Nat} {S : ST} (g : GoodP p) (h : GoodS p c S) : GoodS p (c + 1) (passS p S) :=
  ⟨fun m hm => ⟨sYear_le g _ hm (h.1 m hm).1, Nat.le_succ_of_le (h.1 m hm).2⟩, pYear_le p _, Nat.succ_le_succ h.2.2⟩
theorem GoodS.put {p : PP} {c m : Nat} {S : ST} (h : GoodS p c S) : GoodS p (c + 1) (putOn p S m) := by
  refine ⟨fun k hk => ?_, ?_, Nat.le_succ_of_le h.2.2⟩
  · have h1 := h.1 k hk
    show upN S.so m _ k ≤ 40 ∧ upN S.co m _ k ≤ c + 1
    unfold upN
    by_cases e : k = m
    · subst e
      rw [if_pos rfl, if_pos rfl]
      refine ⟨sCoat_le p _ _ h1.1, ?_⟩
      unfold cCoat
      split <;> omega
    · rw [if_neg e, if_neg e]
      omega
  · show S.po - _ ≤ 200
    have := h.2.1
    omega
theorem GoodS.off {p : PP} {c m : Nat} {S : ST} (g : GoodP p) (h : GoodS p c S) : GoodS p c (takeOff p S m) := by
  refine ⟨fun k hk => ?_, h.2.1, h.2.2⟩
  have h1 := h.1 k hk
  show upN S.so m _ k ≤ 40 ∧ upN S.co m _ k ≤ c
  unfold upN
  by_cases e : k = m
  · subst e
    rw [if_pos rfl, if_pos rfl]
    exact ⟨(g.2.1 k hk).2.2.1, Nat.zero_le _⟩
  · rw [if_neg e, if_neg e]
    exact h1
theorem GoodS.fresh {p : PP} {c : Nat} (g : GoodP p) : GoodS p c (freshS p) := ⟨fun m hm => ⟨(g.2.1 m hm).2.2.1, Nat.zero_le _⟩, g.2.2.2.1.2.2.2, Nat.zero_le _⟩
/-! the law by its steps: a stack machine -/
/-- what is taken at all -/
def clN (r : Int32) : Nat := if r ≤ 0 then 0 else if 20 ≤ r then 20 else r.toNatClampNeg
def psh (v : Int32) (st : List Int32) : List Int32 := if 64 ≤ st.length then st else v :: st
def jnd (o x y : Int32) : Int32 := if o = 16 then (if x = 0 then 0 else if y = 0 then 0 else 1) else if o = 42 then x * y else if o = 43 then x + y else if o = 45 then x - y else if o = 60 then (if y ≤ x then 0 else 1) else if o = 61 then (if x = y then 1 else 0) else (if x = 0 then (if y = 0 then 0 else 1) else 1)
def stP (l c a t x : Int32) (st : List Int32) : List Int32 :=
  if x - 10000 = 15 then psh (if st.headD 0 = 0 then 1 else 0) st.tail
  else if x - 10000 = 18 then psh l st
  else if x - 10000 = 19 then psh c st
  else if x - 10000 = 20 then psh a st
  else if x - 10000 = 21 then psh t st
  else if 0 ≤ x - 10000 then psh (jnd (x - 10000) (st.tail.headD 0) (st.headD 0)) st.tail.tail
  else psh x st
def evP (sl : List Int32) (l c a t : Int32) : Int32 := (sl.foldl (fun st x => stP l c a t x st) []).headD 0
/-- the class's stack -/
def stkV (V : VT) (o : Nat) (st : List Int32) : Prop := st.length ≤ 64 ∧ V.F o 3 = nI st.length ∧ ∀ j, j < st.length → V.A (o + 2) (st.length - 1 - j) = st.getD j 0
/-- nothing but the law's stack is another -/
def frL (o : Nat) (V W : VT) : Prop := W.L = V.L ∧ W.G = V.G ∧ (∀ a, a ≠ o + 2 → W.A a = V.A a) ∧ ∀ i k, ¬ (i = o ∧ k = 3) → W.F i k = V.F i k
theorem frL.rf {o : Nat} {V : VT} : frL o V V := ⟨rfl, rfl, fun _ _ => rfl, fun _ _ _ => rfl⟩
theorem frL.trans {o : Nat} {V W X : VT} (h : frL o V W) (k : frL o W X) : frL o V X := ⟨k.1.trans h.1, k.2.1.trans h.2.1, fun a ha => (k.2.2.1 a ha).trans (h.2.2.1 a ha), fun i j hij => (k.2.2.2 i j hij).trans (h.2.2.2 i j hij)⟩
theorem wF_F (V : VT) (o k : Nat) (x : Int32) (i j : Nat) : (wF V o k x).F i j = if i = o ∧ j = k then x else V.F i j := by
  show va_up V.F o (va_up (V.F o) k x) i j = _
  by_cases h : i = o
  · subst h
    rw [up_s]
    by_cases h2 : j = k
    · subst h2
      rw [up_s, if_pos ⟨rfl, rfl⟩]
    · rw [up_n _ _ h2, if_neg (fun q => h2 q.2)]
  · rw [up_n _ _ h, if_neg (fun q => h q.1)]
theorem wF_A (V : VT) (o k : Nat) (x : Int32) : (wF V o k x).A = V.A := rfl
theorem wF_L (V : VT) (o k : Nat) (x : Int32) : (wF V o k x).L = V.L := rfl
theorem wF_G (V : VT) (o k : Nat) (x : Int32) : (wF V o k x).G = V.G := rfl
theorem wA_A (V : VT) (a k : Nat) (x : Int32) (i j : Nat) : (wA V a k x).A i j = if i = a ∧ j = k then x else V.A i j := by
  show va_up V.A a (upd (V.A a) k x) i j = _
  by_cases h : i = a
  · subst h
    rw [up_s]
    by_cases h2 : j = k
    · subst h2
      rw [upd_s, if_pos ⟨rfl, rfl⟩]
    · rw [upd_n _ _ h2, if_neg (fun q => h2 q.2)]
  · rw [up_n _ _ h, if_neg (fun q => h q.1)]
theorem wA_F (V : VT) (a k : Nat) (x : Int32) : (wA V a k x).F = V.F := rfl
theorem wA_L (V : VT) (a k : Nat) (x : Int32) : (wA V a k x).L = V.L := rfl
theorem wA_G (V : VT) (a k : Nat) (x : Int32) : (wA V a k x).G = V.G := rfl
theorem frL_F {o : Nat} {V : VT} (x : Int32) : frL o V (wF V o 3 x) := ⟨rfl, rfl, fun _ _ => rfl, fun i k h => by rw [wF_F, if_neg h]⟩
theorem frL_A {o : Nat} {V : VT} (k : Nat) (x : Int32) : frL o V (wA V (o + 2) k x) := ⟨rfl, rfl, fun a ha => wA_n V k x ha, fun _ _ _ => rfl⟩
theorem x1_push {V : VT} {o : Nat} {st : List Int32} (h : stkV V o st) (v : Int32) : tot (gX1_push o v V) (fun W => stkV W o (psh v st) ∧ frL o V W) := by
  obtain ⟨h1, h2, h3⟩ := h
  unfold gX1_push psh
  rw [h2]
  simp (disch := omega) only [fa_lit, ne_le, ne_lt, ne_eq', nI_add, pk_mul, pk_sub, rdA_n, wrA_n, rdL_n, wrL_n, nI_one, nI_bit1, nI_bit0, fa_or, fa_and, nI_df, nat31, Option.bind_some, m1_le0, m1_lt0, m1_eq, eq_m1, ite_nI, sub_m, pk_m1', not_lt0]
  by_cases hc : 64 ≤ st.length
  · rw [if_pos hc, if_pos hc]
    exact tot_some ⟨⟨h1, h2, h3⟩, frL.rf⟩
  · rw [if_neg hc, if_neg hc]
    refine tot_some ⟨⟨by simp; omega, ?_, ?_⟩, (frL_A _ _).trans (frL_F _)⟩
    · rw [wF_F, if_pos ⟨rfl, rfl⟩, wA_F, h2]
      exact nI_1 _
    · intro j hj
      rw [wF_A, wA_A]
      simp only [List.length_cons] at hj ⊢
      cases j with
      | zero =>
        rw [if_pos ⟨trivial, by omega⟩]
        rfl
      | succ j =>
        rw [if_neg (fun q => by omega)]
        simp only [List.getD_cons_succ]
        rw [← h3 j (by omega)]
        congr 1
        omega
theorem x1_pop {V : VT} {o : Nat} {st : List Int32} (h : stkV V o st) : tot (gX1_pop o V) (fun r => r.1 = st.headD 0 ∧ stkV r.2 o st.tail ∧ frL o V r.2) := by
  obtain ⟨h1, h2, h3⟩ := h
  unfold gX1_pop
  rw [h2]
  simp (disch := omega) only [fa_lit, ne_le, ne_lt, ne_eq', nI_add, pk_mul, pk_sub, rdA_n, wrA_n, rdL_n, wrL_n, nI_one, nI_bit1, nI_bit0, fa_or, fa_and, nI_df, nat31, Option.bind_some, m1_le0, m1_lt0, m1_eq, eq_m1, ite_nI, sub_m, pk_m1', not_lt0]
  cases st with
  | nil =>
    rw [if_neg (by simp)]
    exact tot_some ⟨rfl, ⟨h1, h2, h3⟩, frL.rf⟩
  | cons v st =>
    simp only [List.length_cons] at h1 h2 h3
    rw [if_pos (by simp)]
    simp only [List.length_cons]
    simp (disch := omega) only [fa_lit, ne_le, ne_lt, ne_eq', nI_add, pk_mul, pk_sub, rdA_n, wrA_n, rdL_n, wrL_n, nI_one, nI_bit1, nI_bit0, fa_or, fa_and, nI_df, nat31, Option.bind_some, m1_le0, m1_lt0, m1_eq, eq_m1, ite_nI, sub_m, pk_m1', not_lt0, wF_F, and_self, if_true, Nat.add_sub_cancel]
    refine tot_some ⟨?_, ⟨by simp; omega, ?_, ?_⟩, frL_F _⟩
    · have := h3 0 (by omega)
      rw [wF_A]
      simpa using this
    · rw [wF_F, if_pos ⟨rfl, rfl⟩]
      rfl
    · intro j hj
      rw [wF_A]
      simp only [List.tail_cons] at hj ⊢
      have := h3 (j + 1) (by omega)
      simp only [List.getD_cons_succ] at this
      rw [← this]
      congr 1
      omega
theorem x1_joined (o x y : Int32) (V : VT) : gX1_joined o x y V = some (jnd o x y, V) := by
  unfold gX1_joined jnd
  repeat' split
  all_goals rfl
