/-! PURE: what is asked; how a question leaves all as it was. -/
def mxA (a : Nat) : Prop := 148 ≤ a ∧ a ≤ 159 ∨ 167 ≤ a ∧ a ≤ 169 ∨ 174 ≤ a ∧ a ≤ 176
def mxF (i k : Nat) : Prop := i = 137 ∧ k = 0
/-- the model's frame of a question, but for its row -/
def mf (V W : VT) : Prop := W.L = V.L ∧ (∀ a, ¬ mxA a → W.A a = V.A a) ∧ ∀ i k, ¬ mxF i k → W.F i k = V.F i k
theorem mf.rf {V : VT} : mf V V := ⟨rfl, fun _ _ => rfl, fun _ _ _ => rfl⟩
theorem mf.trans {V W X : VT} (h : mf V W) (k : mf W X) : mf V X := ⟨k.1.trans h.1, fun a ha => (k.2.1 a ha).trans (h.2.1 a ha), fun i j hij => (k.2.2 i j hij).trans (h.2.2 i j hij)⟩
theorem fr_mf {A : Nat → Prop} {F : Nat → Nat → Prop} {V W : VT} (h : fr A F V W) (hA : ∀ a, A a → mxA a) (hF : ∀ i k, F i k → mxF i k) : mf V W := ⟨h.1, fun a ha => h.2.2.1 a (fun q => ha (hA a q)), fun i k hk => h.2.2.2 i k (fun q => hk (hF i k q))⟩
theorem mf_A {V : VT} {a : Nat} (k : Nat) (x : Int32) (h : mxA a) : mf V (wA V a k x) := ⟨rfl, fun b hb => wA_n V k x (fun e => hb (e ▸ h)), fun _ _ _ => rfl⟩
theorem wkB_mf {V W : VT} (h : fr wkB nof V W) : mf V W   := fr_mf h (fun a ha => by unfold wkB at ha; unfold mxA; omega) (fun i k q => False.elim q)
theorem s7_mf {V W : VT} (h : fr s7 nof V W) : mf V W   := fr_mf h (fun a ha => by unfold s7 at ha; unfold mxA; omega) (fun i k q => False.elim q)
theorem ws_mf {V W : VT} (h : fr (fun a => wkB a ∨ s7 a) nof V W) : mf V W   := fr_mf h (fun a ha => by unfold wkB s7 at ha; unfold mxA; omega) (fun i k q => False.elim q)
def CQ (E : VE) (V : VT) (p : PP) (S : ST) (c : Nat) : Prop := (E.1 = 6 ∨ E.1 = 15) ∧ PastC V E.1 p ∧ StC V 24 p.n S ∧ GoodS p c S ∧ c ≤ 1000
def MQn (V : VT) (p : PP) (S : ST) (c : Nat) : Prop := PastM V p ∧ MSt V p.n S ∧ GoodS p c S ∧ c ≤ 1000
theorem CQ.fr {E : VE} {V W : VT} {p : PP} {S : ST} {c : Nat} (h : CQ E V p S c) (f : fr scA scF V W) : CQ E W p S c := by
  obtain ⟨h1, h2, h3, h4, h5⟩ := h
  refine ⟨h1, h2.fr f (fun a ha hb => ?_) (fun i k hik => ?_), h3.fr f ?_ ?_ ?_ ?_, h4, h5⟩
  · unfold scA
    omega
  · unfold scF
    omega
  all_goals (first | (unfold scA; omega) | (unfold scF; omega))
/-- the law's stack alone -/
def lwA (a : Nat) : Prop := a = 14 ∨ a = 23
def lwF (i k : Nat) : Prop := i = 12 ∧ k = 3 ∨ i = 21 ∧ k = 3
theorem frL_lw {T : Nat} {V W : VT} (hT : T = 6 ∨ T = 15) (h : frL (T + 6) V W) : fr lwA lwF V W := by
  refine h.fr ?_ ?_
  · unfold lwA
    omega
  · unfold lwF
    omega
theorem lw_sc {V W : VT} (h : fr lwA lwF V W) : fr scA scF V W := h.mono (fun a ha => by unfold lwA at ha; unfold scA; omega) (fun i k hik => by unfold lwF at hik; unfold scF; omega)
theorem PastM.mf {V W : VT} {p : PP} (h : PastM V p) (f : mf V W) : PastM W p := h.fr (A := mxA) (F := mxF) f.1 f.2.1 (fun a ha => by unfold mxA at ha; omega)
theorem MSt.at {V W : VT} {n : Nat} {S : ST} (h : MSt V n S) (e : W.A 167 = V.A 167) : MSt W n S := by
  unfold MSt
  rw [e]
  exact h
theorem MQn.mk {V W : VT} {p : PP} {S : ST} {c : Nat} (h : MQn V p S c) (f : mf V W) (hs : MSt W p.n S) : MQn W p S c := ⟨h.1.mf f, hs, h.2.2⟩
theorem wkB_st {V W : VT} {n : Nat} {S : ST} (h : MSt V n S) (f : fr wkB nof V W) : MSt W n S := h.at (f.2.2.1 167 (by unfold wkB; omega))
theorem th0 {V : VT} {p : PP} {S : ST} {c : Nat} {v : Int32} {o : VT → Option (Int32 × VT)} (h : MQn V p S c) (k : ∀ V1, MQn V1 p S c → tot (o V1) (fun r => r.1 = v ∧ MSt r.2 p.n S ∧ mf V1 r.2)) : tot ((some (wF V 137 0 0)).bind o) (fun r => r.1 = v ∧ MSt r.2 p.n S ∧ mf V r.2) := by
  have f : mf V (wF V 137 0 0) := ⟨rfl, fun _ _ => rfl, fun i j hij => by rw [wF_F]; exact if_neg hij⟩
  rw [Option.bind_some]
  exact tot_mo (k _ (h.mk f h.2.1)) (fun r hr => ⟨hr.1, hr.2.1, f.trans hr.2.2⟩)
def Qc (E : VE) (p : PP) (S : ST) (c : Nat) (o : VT → Option (Int32 × VT)) (v : Int32) : Prop := ∀ V, CQ E V p S c → tot (o V) (fun r => r.1 = v ∧ fr scA scF V r.2)
def Qm (p : PP) (S : ST) (c : Nat) (o : VT → Option (Int32 × VT)) (v : Int32) : Prop := ∀ V, MQn V p S c → tot (o V) (fun r => r.1 = v ∧ MSt r.2 p.n S ∧ mf V r.2)
theorem n0 : nI 0 = (0 : Int32) := rfl
theorem n1 : nI 1 = (1 : Int32) := rfl
/-- is it a matter -/
def isMb (p : PP) (x : Int32) : Bool := decide (¬ x < 0) && decide (x < nI p.n)
def wiB (x : Int32) (lo hi : Nat) : Bool := decide (nI lo ≤ x) && decide (x ≤ nI hi)
theorem isM_of {p : PP} {x : Int32} (hn : p.n ≤ 7) (h : isMb p x = true) : ∃ m, m < p.n ∧ x = nI m := by
  unfold isMb at h
  rw [Bool.and_eq_true, decide_eq_true_iff, decide_eq_true_iff] at h
  obtain ⟨j, hj, rfl⟩ := nI_of h.1
  have := h.2
  rw [ne_lt (by omega) (by omega)] at this
  exact ⟨j, this, rfl⟩
theorem isM_nI {p : PP} {m : Nat} (hn : p.n ≤ 7) (h : m < p.n) : isMb p (nI m) = true := by
  unfold isMb
  rw [Bool.and_eq_true, decide_eq_true_iff, decide_eq_true_iff]
  exact ⟨nI_pos (by omega), nI_lt h (by omega)⟩
theorem wi_of {x : Int32} {lo hi : Nat} (hl : lo < 2 ^ 31) (hh : hi < 2 ^ 31) (h : wiB x lo hi = true) : ∃ k, lo ≤ k ∧ k ≤ hi ∧ x = nI k := by
  unfold wiB at h
  rw [Bool.and_eq_true, decide_eq_true_iff, decide_eq_true_iff] at h
  have h0 : ¬ x < 0 := by
    intro q
    have h1 := h.1
    rw [fa_le, nI_toInt hl] at h1
    rw [fa_lt] at q
    have : (0 : Int32).toInt = 0 := by decide
    omega
  obtain ⟨j, hj, rfl⟩ := nI_of h0
  rw [ne_le (by omega) (by omega), ne_le (by omega) (by omega)] at h
  exact ⟨j, h.1, h.2, rfl⟩
theorem ite1 {α : Type} {b : Bool} {a c : α} : (if nI (if b = true then 1 else 0) = 0 then a else c) = if b = true then c else a := by
  cases b
  · rfl
  · rfl
theorem c_isM {E : VE} {V : VT} {p : PP} (h : PastC V E.1 p) (x : Int32) : gX9_isMatter E x V = some (nI (if isMb p x = true then 1 else 0), V) := by
  unfold gX9_isMatter isMb
  rw [h.2.1.1]
  by_cases h1 : x < 0
  · rw [if_pos h1]
    simp [n0, n1, h1]
  · rw [if_neg h1]
    by_cases h2 : nI p.n ≤ x
    · rw [if_pos h2]
      simp [n0, n1, Int32.not_lt.mpr h2]
    · rw [if_neg h2]
      have h3 := Int32.not_le.mp h2
      simp [n0, n1, h1, h3]
theorem m_isM {V : VT} {p : PP} (h : PastM V p) (x : Int32) : gX10_isMatter x V = some (nI (if isMb p x = true then 1 else 0), V) := by
  unfold gX10_isMatter isMb
  rw [h.2.1.1]
  by_cases h1 : x < 0
  · rw [if_pos h1]
    simp [n0, n1, h1]
  · rw [if_neg h1]
    by_cases h2 : nI p.n ≤ x
    · rw [if_pos h2]
      simp [n0, n1, Int32.not_lt.mpr h2]
    · rw [if_neg h2]
      have h3 := Int32.not_le.mp h2
      simp [n0, n1, h1, h3]
theorem c_wi (x : Int32) (lo hi : Nat) (V : VT) : gX9_within x (nI lo) (nI hi) V = some (nI (if wiB x lo hi = true then 1 else 0), V) := by
  unfold gX9_within wiB
  by_cases h1 : x < nI lo
  · rw [if_pos h1]
    simp [n0, n1, Int32.not_le.mpr h1]
  · rw [if_neg h1]
    have h1' := Int32.not_lt.mp h1
    by_cases h2 : nI hi < x
    · rw [if_pos h2]
      simp [n0, n1, Int32.not_le.mpr h2]
    · rw [if_neg h2]
      have h2' := Int32.not_lt.mp h2
      simp [n0, n1, h1', h2']
theorem m_wi (x : Int32) (lo hi : Nat) (V : VT) : gX10_within x (nI lo) (nI hi) V = some (nI (if wiB x lo hi = true then 1 else 0), V) := by
  unfold gX10_within wiB
  by_cases h1 : x < nI lo
  · rw [if_pos h1]
    simp [n0, n1, Int32.not_le.mpr h1]
  · rw [if_neg h1]
    have h1' := Int32.not_lt.mp h1
    by_cases h2 : nI hi < x
    · rw [if_pos h2]
      simp [n0, n1, Int32.not_le.mpr h2]
    · rw [if_neg h2]
      have h2' := Int32.not_lt.mp h2
      simp [n0, n1, h1', h2']
/-- how many -/
def pcN (x : Nat) : Nat := sm (fun k => if x.testBit k = true then 1 else 0) 7
theorem pcN_le (x : Nat) : pcN x ≤ 7 := by
  have := sm_le (f := fun k => if x.testBit k = true then 1 else 0) (b := 1) (n := 7) (fun i _ => by split <;> omega)
  unfold pcN
  omega
def bcV : VT := (fun _ _ => 0, fun _ _ => 0, fun _ _ => 0, fun _ _ => 0)
def bcI (v : Int32) : Int32 := ((gJ6_bitCount_0f7a4 v bcV).map Prod.fst).getD 0
theorem bc_key : ∀ x, x < 128 → bcI (nI x) = nI (pcN x) := by decide +kernel
theorem c_bc {x : Nat} (hx : x < 128) (V : VT) : gJ6_bitCount_0f7a4 (nI x) V = some (nI (pcN x), V) := by
  rw [← bc_key x hx]
  rfl
theorem m_bits {x N : Nat} (hx : x < 128) (hN : 1000 < N) (V : VT) : gX10_bits N (nI x) V = some (nI (pcN x), V) := by
  unfold gX10_bits
  refine loop_sm (F := fun w a k => gX10_bits_b4 N w (nI x) (nI a) (nI k) V) 7 (fun k => if x.testBit k = true then 1 else 0) (fun a => some (nI a, V)) ?_ ?_ N 0 (by omega) (by omega)
  · intro w k R hk hR
    show gX10_bits_b4 N (w + 1) (nI x) (nI _) (nI k) V = R
    unfold gX10_bits_b4
    simp (disch := omega) only [fa_lit, ne_le, ne_lt, ne_eq', nI_add, pk_mul, pk_sub, rdA_n, wrA_n, rdL_n, wrL_n, nI_one, nI_bit1, nI_bit0, fa_or, fa_and, nI_df, nat31, Option.bind_some, m1_le0, m1_lt0, m1_eq, eq_m1, ite_nI, sub_m, pk_m1', not_lt0]
    rw [if_neg (by omega), nI_bit (by omega) (by omega), nI_add]
    exact hR
  · intro w
    show gX10_bits_b4 N (w + 1) (nI x) (nI _) (nI 7) V = _
    unfold gX10_bits_b4
    simp (disch := omega) only [fa_lit, ne_le, ne_lt, ne_eq', nI_add, pk_mul, pk_sub, rdA_n, wrA_n, rdL_n, wrL_n, nI_one, nI_bit1, nI_bit0, fa_or, fa_and, nI_df, nat31, Option.bind_some, m1_le0, m1_lt0, m1_eq, eq_m1, ite_nI, sub_m, pk_m1', not_lt0]
    rw [if_pos (Nat.le_refl _)]
theorem m_every {V : VT} {p : PP} (h : PastM V p) : gX10_every V = some (nI (2 ^ p.n - 1), V) := by
  have := h.1.1
  have := Nat.two_pow_pos p.n
  unfold gX10_every
  simp (disch := omega) only [fa_lit, ne_le, ne_lt, ne_eq', nI_add, pk_mul, pk_sub, rdA_n, wrA_n, rdL_n, wrL_n, nI_one, nI_bit1, nI_bit0, fa_or, fa_and, nI_df, nat31, Option.bind_some, m1_le0, m1_lt0, m1_eq, eq_m1, ite_nI, sub_m, pk_m1', not_lt0, h.2.1.1]
theorem c_mnt {E : VE} {V : VT} {p : PP} {S : ST} {c N : Nat} (h : CQ E V p S c) (hN : 1000 < N) : gX9_meant E N V = some (nI (meantN p S), V) := by
  unfold gX9_meant
  rw [c_meant hN h.2.1 h.2.2.1 h.2.2.2.1]
  rfl
theorem m_mnt {V : VT} {p : PP} {S : ST} {c N : Nat} (h : MQn V p S c) (hN : 1000 < N) : gX10_meantNow N V = some (nI (meantN p S), V) := m_meant h.1 (fun m hm => ⟨(h.2.1.so h.1.1.1 hm).1, by have := (h.2.2.1.1 m hm).1; omega⟩) hN
theorem mnt_lt (p : PP) (S : ST) : meantN p S < 2 ^ p.n := mk_lt _ _
theorem c_rgt {E : VE} {V : VT} {p : PP} {S : ST} {c N : Nat} (h : CQ E V p S c) (hN : 1000 < N) : gX9_right E N V = some (nI (rightN p (meantN p S)), V) := by
  unfold gX9_right
  rw [c_mnt h hN, Option.bind_some]
  dsimp only
  rw [c_right h.2.1 (mnt_lt p S) hN]
  rfl
section PPair
variable {E : VE} {p : PP} {S : ST} {c : Nat}
theorem qT {o o' : VT → Option (Int32 × VT)} (h : ∃ v, Qc E p S c o v ∧ Qm p S c o' v) : ∃ v, Qc E p S c o v ∧ Qm p S c (fun V => (some (wF V 137 0 0)).bind fun V1 => o' V1) v := by
  obtain ⟨v, h1, h2⟩ := h
  exact ⟨v, h1, fun V hV => th0 hV (fun V1 hV1 => h2 V1 hV1)⟩
theorem qM {x d : Int32} {B B' : Int32 × VT → Option (Int32 × VT)} (hn : p.n ≤ 7) (k : ∀ m, m < p.n → x = nI m → ∃ v, Qc E p S c (fun V => B (nI 1, V)) v ∧ Qm p S c (fun V => B' (nI 1, V)) v) : ∃ v, Qc E p S c (fun V => (gX9_isMatter E x V).bind fun p1 => if p1.1 = 0 then some (d, p1.2) else B p1) v ∧ Qm p S c (fun V => (gX10_isMatter x V).bind fun p1 => if p1.1 = 0 then some (d, p1.2) else B' p1) v := by
  cases hM : isMb p x with
  | false =>
    refine ⟨d, fun V h => ?_, fun V h => ?_⟩
    · dsimp only
      rw [c_isM h.2.1, hM]
      exact tot_some ⟨rfl, fr.rf⟩
    · dsimp only
      rw [m_isM h.1, hM]
      exact tot_some ⟨rfl, h.2.1, mf.rf⟩
  | true =>
    obtain ⟨m, hm, e⟩ := isM_of hn hM
    obtain ⟨v, h1, h2⟩ := k m hm e
    refine ⟨v, fun V h => ?_, fun V h => ?_⟩
    · dsimp only
      rw [c_isM h.2.1, hM]
      exact h1 V h
    · dsimp only
      rw [m_isM h.1, hM]
      exact h2 V h
theorem qW {x d a b : Int32} {B B' : Int32 × VT → Option (Int32 × VT)} (lo hi : Nat) (ha : a = nI lo) (hb : b = nI hi) (hl : lo < 2 ^ 31) (hh : hi < 2 ^ 31) (k : ∀ m, lo ≤ m → m ≤ hi → x = nI m → ∃ v, Qc E p S c (fun V => B (nI 1, V)) v ∧ Qm p S c (fun V => B' (nI 1, V)) v) : ∃ v, Qc E p S c (fun V => (gX9_within x a b V).bind fun p1 => if p1.1 = 0 then some (d, p1.2) else B p1) v ∧ Qm p S c (fun V => (gX10_within x a b V).bind fun p1 => if p1.1 = 0 then some (d, p1.2) else B' p1) v := by
  subst ha hb
  cases hM : wiB x lo hi with
  | false =>
    refine ⟨d, fun V h => ?_, fun V h => ?_⟩
    · dsimp only
      rw [c_wi, hM]
      exact tot_some ⟨rfl, fr.rf⟩
    · dsimp only
      rw [m_wi, hM]
      exact tot_some ⟨rfl, h.2.1, mf.rf⟩
  | true =>
    obtain ⟨m, hm, hm2, e⟩ := wi_of hl hh hM
    obtain ⟨v, h1, h2⟩ := k m hm hm2 e
    refine ⟨v, fun V h => ?_, fun V h => ?_⟩
    · dsimp only
      rw [c_wi, hM]
      exact h1 V h
    · dsimp only
      rw [m_wi, hM]
      exact h2 V h
end PPair
