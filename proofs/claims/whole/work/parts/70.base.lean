/-! PURE: ways to speak of partial functions; small numbers. (fa_ and nx_ rows pasted from the laws.) -/
def tot {α : Type} (o : Option α) (Q : α → Prop) : Prop := ∃ a, o = some a ∧ Q a
theorem tot_some {α : Type} {a : α} {Q : α → Prop} (h : Q a) : tot (some a) Q := ⟨a, rfl, h⟩
theorem tot_eq {α : Type} {o : Option α} {a : α} {Q : α → Prop} (e : o = some a) (h : Q a) : tot o Q := ⟨a, e, h⟩
theorem tot_bd {α β : Type} {o : Option α} {f : α → Option β} {R : α → Prop} {Q : β → Prop} (h : tot o R) (k : ∀ a, R a → tot (f a) Q) : tot (o.bind f) Q := by
  obtain ⟨a, e, r⟩ := h
  rw [e]
  exact k a r
theorem tot_mo {α : Type} {o : Option α} {R Q : α → Prop} (h : tot o R) (k : ∀ a, R a → Q a) : tot o Q := by
  obtain ⟨a, e, r⟩ := h
  exact ⟨a, e, k a r⟩
theorem tot_be {α β : Type} {o : Option α} {a : α} {f : α → Option β} {Q : β → Prop} (e : o = some a) (k : tot (f a) Q) : tot (o.bind f) Q := by
  rw [e]
  exact k
theorem fa_lit (n : Nat) : (OfNat.ofNat n : Int32) = nI n := by cases n <;> rfl
theorem fa_litL (n : Nat) : (OfNat.ofNat n : Int64) = lN n := rfl
theorem fa_and (a b : Nat) : nI a &&& nI b = nI (a &&& b) := by
  apply Int32.toBitVec_inj.1
  show BitVec.ofNat 32 a &&& BitVec.ofNat 32 b = BitVec.ofNat 32 (a &&& b)
  apply BitVec.eq_of_getLsbD_eq
  intro i hi
  simp [hi]
theorem fa_or (a b : Nat) : nI a ||| nI b = nI (a ||| b) := by
  apply Int32.toBitVec_inj.1
  show BitVec.ofNat 32 a ||| BitVec.ofNat 32 b = BitVec.ofNat 32 (a ||| b)
  apply BitVec.eq_of_getLsbD_eq
  intro i hi
  simp [hi]
theorem fa_le (a b : Int32) : a ≤ b ↔ a.toInt ≤ b.toInt := Int32.le_iff_toInt_le
theorem fa_lt (a b : Int32) : a < b ↔ a.toInt < b.toInt := Int32.lt_iff_toInt_lt
theorem s_l : ∀ n, n < 32 → ((nI n &&& 31).toBitVec.smod 32).toNat = n := by decide +kernel
theorem nI_one : ∀ k, k < 31 → nI 1 <<< nI k = nI (2 ^ k) := by decide +kernel
theorem s_l' : ∀ n, n < 32 → ((nI n).toBitVec.smod 32).toNat = n := by decide +kernel
theorem nat31 {k : Nat} (h : k < 32) : k &&& 31 = k := by
  rw [show (31 : Nat) = 2 ^ 5 - 1 from rfl, Nat.and_two_pow_sub_one_eq_mod]
  exact Nat.mod_eq_of_lt h
theorem nI_shr {a k : Nat} (ha : a < 2 ^ 31) (hk : k < 32) : nI a >>> nI k = nI (a / 2 ^ k) := pk_shrN ha _ _ (s_l' k hk)
theorem nI_bit {a k : Nat} (ha : a < 2 ^ 31) (hk : k < 32) : (nI a >>> nI k) &&& nI 1 = nI (if a.testBit k then 1 else 0) := by
  rw [nI_shr ha hk]
  rw [fa_and, Nat.and_one_is_mod, Nat.testBit_eq_decide_div_mod_eq]
  congr 1
  by_cases h : a / 2 ^ k % 2 = 1
  · simp [h]
  · simp [h]; omega
theorem nI_bit1 {a k : Nat} (ha : a < 2 ^ 31) (hk : k < 32) : ((nI a >>> nI k) &&& nI 1 = nI 1) = (a.testBit k = true) := by
  rw [nI_bit ha hk]
  cases a.testBit k
  · exact eq_false (by decide) |>.trans (by simp)
  · exact eq_true (by decide) |>.trans (by simp)
theorem nI_bit0 {a k : Nat} (ha : a < 2 ^ 31) (hk : k < 32) : ((nI a >>> nI k) &&& nI 1 = nI 0) = (a.testBit k = false) := by
  rw [nI_bit ha hk]
  cases a.testBit k
  · exact eq_true (by decide) |>.trans (by simp)
  · exact eq_false (by decide) |>.trans (by simp)
/-- a set without another -/
def nDf (a b : Nat) : Nat := a ^^^ (a &&& b)
theorem nDf_tb (a b i : Nat) : (nDf a b).testBit i = (a.testBit i && !b.testBit i) := by
  unfold nDf
  rw [Nat.testBit_xor, Nat.testBit_and]
  cases a.testBit i <;> cases b.testBit i <;> rfl
theorem nDf_le (a b : Nat) {k : Nat} (h : a < 2 ^ k) : nDf a b < 2 ^ k := Nat.xor_lt_two_pow h (Nat.lt_of_le_of_lt Nat.and_le_left h)
theorem nI_df (a b : Nat) : nI a &&& (nI b ^^^ (-nI 1)) = nI (nDf a b) := by
  apply Int32.toBitVec_inj.1
  show BitVec.ofNat 32 a &&& (BitVec.ofNat 32 b ^^^ (-1 : Int32).toBitVec) = BitVec.ofNat 32 (nDf a b)
  have h1 : ∀ i, i < 32 → (-1 : Int32).toBitVec.getLsbD i = true := by decide +kernel
  apply BitVec.eq_of_getLsbD_eq
  intro i hi
  rw [BitVec.getLsbD_and, BitVec.getLsbD_xor, h1 i hi]
  simp only [BitVec.getLsbD_ofNat, nDf_tb, hi, decide_true, Bool.true_and, Bool.xor_true]
theorem ne_le {a b : Nat} (h : a < 2 ^ 31) (hb : b < 2 ^ 31) : (nI a ≤ nI b) = (a ≤ b) := propext (nI_leI h hb)
theorem ne_lt {a b : Nat} (h : a < 2 ^ 31) (hb : b < 2 ^ 31) : (nI a < nI b) = (a < b) := propext (nI_ltI h hb)
theorem ne_eq' {a b : Nat} (h : a < 2 ^ 31) (hb : b < 2 ^ 31) : (nI a = nI b) = (a = b) := propext (nI_eq h hb)
theorem rdA_n {n k : Nat} {f : Nat → Int32} (hk : k < n) (hn : k < 2 ^ 31) : rdA n f (nI k) = some (f k) := rdA_at hk hn
theorem rdL_n {n k : Nat} {f : Nat → Int64} (hk : k < n) (hn : k < 2 ^ 31) : rdL n f (nI k) = some (f k) := rdL_at hk hn
theorem wrA_n {V : VT} {a n k : Nat} {x : Int32} (hk : k < n) (hn : k < 2 ^ 31) : wrA V a n (nI k) x = some (wA V a k x) := wrA_at hk hn
theorem wrL_n {V : VT} {a n k : Nat} {x : Int64} (hk : k < n) (hn : k < 2 ^ 31) : wrL V a n (nI k) x = some (wL V a k x) := wrL_at hk hn
theorem neg_toI : (-nI 1).toInt = -1 := by decide
theorem m1_le0 {a : Nat} (h : a < 2 ^ 31) : (nI a ≤ -nI 1) = False := by
  rw [fa_le, nI_toInt h, neg_toI]
  exact eq_false (by omega)
theorem m1_lt0 {a : Nat} (h : a < 2 ^ 31) : (-nI 1 < nI a) = True := by
  rw [fa_lt, nI_toInt h, neg_toI]
  exact eq_true (by omega)
theorem not_lt0 {a : Nat} (h : a < 2 ^ 31) : (nI a < -nI 1) = False := by
  rw [fa_lt, nI_toInt h, neg_toI]
  exact eq_false (by omega)
theorem eq_m1 {a : Nat} (h : a < 2 ^ 31) : (nI a = -nI 1) = False := by
  refine eq_false (fun e => ?_)
  have h1 := congrArg Int32.toInt e
  rw [nI_toInt h, neg_toI] at h1
  omega
theorem m1_eq {a : Nat} (h : a < 2 ^ 31) : (-nI 1 = nI a) = False := by
  refine eq_false (fun e => ?_)
  have h1 := congrArg Int32.toInt e
  rw [nI_toInt h, neg_toI] at h1
  omega
theorem ite_nI {c : Prop} [Decidable c] {a b : Nat} : (if c then nI a else nI b) = nI (if c then a else b) := by
  by_cases h : c
  · rw [if_pos h, if_pos h]
  · rw [if_neg h, if_neg h]
theorem sub_m {a b : Nat} (ha : a < 2 ^ 30) (hb : b < 2 ^ 30) : (if nI 0 < nI a - nI b then nI a - nI b else nI 0) = nI (a - b) := by
  by_cases h : b ≤ a
  · rw [pk_sub h]
    by_cases h2 : a - b = 0
    · rw [h2]
      exact if_neg (by decide)
    · rw [if_pos (nI_lt (by omega) (by omega))]
  · have h1 : nI a - nI b < 0 := pk_sneg hb (by omega)
    rw [if_neg (fun h3 => ?_), show a - b = 0 by omega]
    rw [show (0 : Int32) = nI 0 from rfl, fa_lt] at h1
    rw [fa_lt] at h3
    omega
theorem pk_m1' {a : Nat} (h : 1 ≤ a) : nI a + (-nI 1) = nI (a - 1) := by
  obtain ⟨b, rfl⟩ : ∃ b, a = b + 1 := ⟨a - 1, by omega⟩
  exact pk_m1 b
/-- the set of those below n of which p holds -/
def mk (p : Nat → Bool) : Nat → Nat
  | 0 => 0
  | n + 1 => mk p n ||| (if p n then 2 ^ n else 0)
theorem mk_lt (p : Nat → Bool) : ∀ n, mk p n < 2 ^ n
  | 0 => by simp [mk]
  | n + 1 => by
    have h := mk_lt p n
    have h2 : (2 : Nat) ^ n < 2 ^ (n + 1) := Nat.pow_lt_pow_right (by decide) (by omega)
    exact Nat.or_lt_two_pow (by omega) (by split <;> omega)
theorem mk_tb (p : Nat → Bool) (i : Nat) : ∀ n, (mk p n).testBit i = (decide (i < n) && p i)
  | 0 => by simp [mk]
  | n + 1 => by
    rw [mk, Nat.testBit_or, mk_tb p i n]
    by_cases h : i = n
    · subst h
      cases hp : p i
      · simp
      · simp [Nat.testBit_two_pow_self]
    · have h1 : (if p n = true then 2 ^ n else 0 : Nat).testBit i = false := by
        cases p n
        · simp
        · simp [Nat.testBit_two_pow, show ¬ n = i by omega]
      rw [h1, Bool.or_false]
      congr 1
      exact decide_eq_decide.mpr (by omega)
theorem mk_congr {p q : Nat → Bool} : ∀ {n : Nat}, (∀ i, i < n → p i = q i) → mk p n = mk q n
  | 0, _ => rfl
  | n + 1, h => by rw [mk, mk, mk_congr (fun i hi => h i (by omega)), h n (by omega)]
theorem lt_pw {n : Nat} (h : n ≤ 7) : (2 : Nat) ^ n ≤ 128 := Nat.pow_le_pow_right (by decide) (show n ≤ 7 from h)
theorem tb_ext {a b n : Nat} (ha : a < 2 ^ n) (hb : b < 2 ^ n) (h : ∀ i, i < n → a.testBit i = b.testBit i) : a = b := by
  apply Nat.eq_of_testBit_eq
  intro i
  by_cases hi : i < n
  · exact h i hi
  · have h1 : (2 : Nat) ^ n ≤ 2 ^ i := Nat.pow_le_pow_right (by decide) (by omega)
    rw [Nat.testBit_lt_two_pow (by omega), Nat.testBit_lt_two_pow (by omega)]
theorem mk_ev (n : Nat) : mk (fun _ => true) n = 2 ^ n - 1 := by
  refine tb_ext (mk_lt _ n) (by have := Nat.two_pow_pos n; omega) (fun i hi => ?_)
  rw [mk_tb, Nat.testBit_two_pow_sub_one]
  simp
