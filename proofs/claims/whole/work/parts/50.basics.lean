/-! PURE MATHEMATICS from here on: the functions over the abstract heap. Reading and writing known cells. -/
section PBasics
variable {h : qH} {o a ci k n : Nat} {fs : List Value} {v : Value} {ty : FieldType}
theorem gF_at (e : h.1 o = some (.inr (ci, fs))) : gF h o ci k = fs[k]? := by
  unfold gF
  rw [e]
  simp
theorem gI_at {x : Int32} (e : h.1 o = some (.inr (ci, fs))) (hk : fs[k]? = some (.int x)) : gI h o ci k = some x := by
  unfold gI
  rw [gF_at e, hk]
theorem gL_at {x : Int64} (e : h.1 o = some (.inr (ci, fs))) (hk : fs[k]? = some (.long x)) : gL h o ci k = some x := by
  unfold gL
  rw [gF_at e, hk]
theorem gR_at {x : Nat} (e : h.1 o = some (.inr (ci, fs))) (hk : fs[k]? = some (.ref x)) : gR h o ci k = some x := by
  unfold gR
  rw [gF_at e, hk]
theorem isO_at (e : h.1 o = some (.inr (ci, fs))) : isO h o ci = some () := by
  unfold isO
  rw [e]
  simp
theorem pF_at (e : h.1 o = some (.inr (ci, fs))) (hk : k < fs.length) : pF h o ci k v = some (va_up h.1 o (some (.inr (ci, fs.set k v))), h.2) := by
  unfold pF
  rw [e]
  simp [hk]
theorem nI_rng {j : Nat} (hj : j < n) (hn : n < 2 ^ 31) : ¬ nI j < 0 ∧ (nI j).toNatClampNeg < n := ⟨nI_pos (by omega), by rw [nI_clamp (by omega)]; exact hj⟩
theorem aI_at {f : Nat → Int32} {j : Nat} (e : h.1 a = some (.inl (ty, n, .inl f))) (hj : j < n) (hn : n < 2 ^ 31) : aI ty h a (nI j) = some (f j) := by
  unfold aI
  rw [e]
  have h1 := nI_rng hj hn
  simp only [h1.1, hj, not_false_eq_true, and_self, if_true, nI_clamp (show j < 2 ^ 31 by omega)]
theorem aL_at {f : Nat → Int64} {j : Nat} (e : h.1 a = some (.inl (.long, n, .inr (.inl f)))) (hj : j < n) (hn : n < 2 ^ 31) : aL h a (nI j) = some (f j) := by
  unfold aL
  rw [e]
  have h1 := nI_rng hj hn
  simp only [h1.1, hj, not_false_eq_true, and_self, if_true, nI_clamp (show j < 2 ^ 31 by omega)]
theorem aR_at {f : Nat → Option Nat} {j : Nat} (e : h.1 a = some (.inl (ty, n, .inr (.inr f)))) (ht : ty.isReference = true) (hj : j < n) (hn : n < 2 ^ 31) : aR h a (nI j) = f j := by
  unfold aR
  rw [e]
  have h1 := nI_rng hj hn
  simp only [ht, h1.1, hj, not_false_eq_true, and_self, if_true, nI_clamp (show j < 2 ^ 31 by omega)]
theorem aN_at {x : qK} (e : h.1 a = some (.inl (ty, n, x))) : aN h a = some (nI n) := by
  unfold aN
  rw [e]
  rfl
theorem sI_at {f : Nat → Int32} {j : Nat} {x : Int32} (e : h.1 a = some (.inl (ty, n, .inl f))) (ha : 2 ≤ a) (hj : j < n) (hn : n < 2 ^ 31) : sI ty h a (nI j) x = some (va_up h.1 a (some (.inl (ty, n, .inl (upd f j (qnar ty x))))), h.2) := by
  unfold sI
  rw [e]
  have h1 := nI_rng hj hn
  simp only [ha, h1.1, hj, not_false_eq_true, and_self, if_true, nI_clamp (show j < 2 ^ 31 by omega)]
theorem sL_at {f : Nat → Int64} {j : Nat} {x : Int64} (e : h.1 a = some (.inl (.long, n, .inr (.inl f)))) (ha : 2 ≤ a) (hj : j < n) (hn : n < 2 ^ 31) : sL h a (nI j) x = some (va_up h.1 a (some (.inl (.long, n, .inr (.inl (vp_updL f j x))))), h.2) := by
  unfold sL
  rw [e]
  have h1 := nI_rng hj hn
  simp only [ha, h1.1, hj, not_false_eq_true, and_self, if_true, nI_clamp (show j < 2 ^ 31 by omega)]
end PBasics
theorem up_s {α : Type} (f : Nat → α) (k : Nat) (v : α) : va_up f k v k = v := by simp [va_up]
theorem up_n {α : Type} (f : Nat → α) {k j : Nat} (v : α) (h : j ≠ k) : va_up f k v j = f j := by simp [va_up, h]
theorem upd_s (f : Nat → Int32) (k : Nat) (v : Int32) : upd f k v k = v := pk_us
theorem upd_n (f : Nat → Int32) {k j : Nat} (v : Int32) (h : j ≠ k) : upd f k v j = f j := pk_un h
/-- what is not in S is as it was -/
def Only (S : Nat → Prop) (h h' : qH) : Prop := h'.2 = h.2 ∧ ∀ i, ¬ S i → h'.1 i = h.1 i
theorem Only.rf {S : Nat → Prop} {h : qH} : Only S h h := ⟨rfl, fun _ _ => rfl⟩
theorem Only.trans {S : Nat → Prop} {h h1 h2 : qH} (a : Only S h h1) (b : Only S h1 h2) : Only S h h2 := ⟨b.1.trans a.1, fun i hi => (b.2 i hi).trans (a.2 i hi)⟩
theorem Only.mono {S S' : Nat → Prop} {h h1 : qH} (a : Only S h h1) (hs : ∀ i, S i → S' i) : Only S' h h1 := ⟨a.1, fun i hi => a.2 i (fun z => hi (hs i z))⟩
theorem Only.up {S : Nat → Prop} {h : qH} {a : Nat} {c : Option qE} (ha : S a) : Only S h (va_up h.1 a c, h.2) := ⟨rfl, fun i hi => up_n _ _ (fun e => hi (by rw [e]; exact ha))⟩
/-- a simple answer: the heap stays -/
theorem b_within (x lo hi : Int32) (h : qH) : fX9_within x lo hi h = some (if lo ≤ x ∧ x ≤ hi then 1 else 0, h) := by
  unfold fX9_within
  by_cases h1 : x < lo
  · have : ¬ lo ≤ x := Int32.not_le.mpr h1
    simp [h1, this]
  · have h1' : lo ≤ x := Int32.not_lt.mp h1
    by_cases h2 : hi < x
    · have : ¬ x ≤ hi := Int32.not_le.mpr h2
      simp [h1, h2, this]
    · have h2' : x ≤ hi := Int32.not_lt.mp h2
      simp [h1, h2, h1', h2']
theorem m_within (x lo hi : Int32) (h : qH) : fX10_within x lo hi h = some (if lo ≤ x ∧ x ≤ hi then 1 else 0, h) := by
  unfold fX10_within
  by_cases h1 : x < lo
  · have : ¬ lo ≤ x := Int32.not_le.mpr h1
    simp [h1, this]
  · have h1' : lo ≤ x := Int32.not_lt.mp h1
    by_cases h2 : hi < x
    · have : ¬ x ≤ hi := Int32.not_le.mpr h2
      simp [h1, h2, this]
    · have h2' : x ≤ hi := Int32.not_lt.mp h2
      simp [h1, h2, h1', h2']
