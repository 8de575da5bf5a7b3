/-! PURE: what goes well without the script goes alike with it. -/
section PLift
variable {L : Nat} {xs : Nat → Int32} {h : qH}
def ph (L : Nat) (xs : Nat → Int32) (h : qH) : qH := (fun i => if i = 0 then some (.inl (.int, L, .inl xs)) else h.1 i, h.2)
def okh (h : qH) : Prop := h.1 0 = none ∧ 2 ≤ h.2.1 ∧ (∀ i, h.2.1 ≤ i → h.1 i = none) ∧ ∀ i t n f, h.1 i = some (.inl (t, n, .inr (.inr f))) → ∀ k, n ≤ k → f k = none
theorem ph_at {o : Nat} {c : qE} (k : okh h) (e : h.1 o = some c) : (ph L xs h).1 o = some c := by
  have h0 : o ≠ 0 := fun z => by
    rw [z, k.1] at e
    cases e
  show (if o = 0 then _ else h.1 o) = _
  rw [if_neg h0, e]
theorem ok_lt {o : Nat} {c : qE} (k : okh h) (e : h.1 o = some c) : o ≠ 0 ∧ o < h.2.1 := by
  refine ⟨fun z => ?_, ?_⟩
  · rw [z, k.1] at e
    cases e
  · by_cases q : o < h.2.1
    · exact q
    · rw [k.2.2.1 o (by omega)] at e
      cases e
theorem ph_up {o : Nat} {X : Option qE} {m : Nat × Nat} (ho : o ≠ 0) : ph L xs (va_up h.1 o X, m) = (va_up (ph L xs h).1 o X, m) := by
  refine Prod.ext ?_ rfl
  funext i
  show (if i = 0 then _ else va_up h.1 o X i) = va_up (ph L xs h).1 o X i
  by_cases e : i = o
  · subst e
    rw [if_neg ho, up_s, up_s]
  · rw [up_n _ _ e, up_n _ _ e]
    rfl
def okc (c : qE) : Prop := ∀ t n f, c = .inl (t, n, .inr (.inr f)) → ∀ k, n ≤ k → f k = none
theorem ok_up {o m s : Nat} {c : qE} (k : okh h) (ho : o ≠ 0) (hm : o < m) (hm' : h.2.1 ≤ m) (hc : okc c) : okh (va_up h.1 o (some c), m, s) := by
  refine ⟨?_, Nat.le_trans k.2.1 hm', fun i hi => ?_, fun i t n f e => ?_⟩
  · show va_up h.1 o (some c) 0 = none
    rw [up_n _ _ (Ne.symm ho)]
    exact k.1
  · show va_up h.1 o (some c) i = none
    have hi : m ≤ i := hi
    rw [up_n _ _ (by omega)]
    exact k.2.2.1 i (by omega)
  · have e : va_up h.1 o (some c) i = some (.inl (t, n, .inr (.inr f))) := e
    by_cases q : i = o
    · rw [q, up_s] at e
      exact hc t n f (Option.some.inj e)
    · rw [up_n _ _ q] at e
      exact k.2.2.2 i t n f e
def Mh (L : Nat) (xs : Nat → Int32) (a b : Option qH) : Prop := ∀ h', a = some h' → b = some (ph L xs h') ∧ okh h'
def Mv {α : Type} (a b : Option α) : Prop := ∀ x, a = some x → b = some x
theorem Mh_v {α : Type} {a b : Option α} {f g : α → Option qH} (h1 : Mv a b) (h2 : ∀ x, Mh L xs (f x) (g x)) : Mh L xs (a.bind f) (b.bind g) := by
  intro h' e
  cases ha : a with
  | none =>
    rw [ha] at e
    cases e
  | some x =>
    rw [h1 x ha]
    rw [ha] at e
    exact h2 x h' e
theorem Mh_h {a b : Option qH} {f g : qH → Option qH} (h1 : Mh L xs a b) (h2 : ∀ x, okh x → Mh L xs (f x) (g (ph L xs x))) : Mh L xs (a.bind f) (b.bind g) := by
  intro h' e
  cases ha : a with
  | none =>
    rw [ha] at e
    cases e
  | some x =>
    obtain ⟨e1, e2⟩ := h1 x ha
    rw [e1]
    rw [ha] at e
    exact h2 x e2 h' e
theorem Mh_if {p : Prop} [Decidable p] {a b a' b' : Option qH} (h1 : Mh L xs a b) (h2 : Mh L xs a' b') : Mh L xs (if p then a else a') (if p then b else b') := by
  by_cases q : p
  · rw [if_pos q, if_pos q]
    exact h1
  · rw [if_neg q, if_neg q]
    exact h2
theorem Mh_s (k : okh h) : Mh L xs (some h) (some (ph L xs h)) := fun h' e => by
  cases e
  exact ⟨rfl, k⟩
theorem Mh_no {b : Option qH} : Mh L xs none b := fun h' e => by cases e
theorem Mv_isO {o ci : Nat} (k : okh h) : Mv (isO h o ci) (isO (ph L xs h) o ci) := by
  intro x e
  unfold isO at e ⊢
  cases hc : h.1 o with
  | none =>
    rw [hc] at e
    cases e
  | some c =>
    rw [ph_at k hc]
    rw [hc] at e
    exact e
theorem Mv_gF {o ci j : Nat} (k : okh h) : Mv (gF h o ci j) (gF (ph L xs h) o ci j) := by
  intro x e
  unfold gF at e ⊢
  cases hc : h.1 o with
  | none =>
    rw [hc] at e
    cases e
  | some c =>
    rw [ph_at k hc]
    rw [hc] at e
    exact e
theorem Mv_gI {o ci j : Nat} (k : okh h) : Mv (gI h o ci j) (gI (ph L xs h) o ci j) := by
  intro x e
  unfold gI at e ⊢
  cases hc : gF h o ci j with
  | none =>
    rw [hc] at e
    cases e
  | some c =>
    rw [Mv_gF k _ hc]
    rw [hc] at e
    exact e
theorem Mv_gR {o ci j : Nat} (k : okh h) : Mv (gR h o ci j) (gR (ph L xs h) o ci j) := by
  intro x e
  unfold gR at e ⊢
  cases hc : gF h o ci j with
  | none =>
    rw [hc] at e
    cases e
  | some c =>
    rw [Mv_gF k _ hc]
    rw [hc] at e
    exact e
theorem Mv_aN {o : Nat} (k : okh h) : Mv (aN h o) (aN (ph L xs h) o) := by
  intro x e
  unfold aN at e ⊢
  cases hc : h.1 o with
  | none =>
    rw [hc] at e
    cases e
  | some c =>
    rw [ph_at k hc]
    rw [hc] at e
    exact e
theorem Mv_aI {ty : FieldType} {o : Nat} {i : Int32} (k : okh h) : Mv (aI ty h o i) (aI ty (ph L xs h) o i) := by
  intro x e
  unfold aI at e ⊢
  cases hc : h.1 o with
  | none =>
    rw [hc] at e
    cases e
  | some c =>
    rw [ph_at k hc]
    rw [hc] at e
    exact e
theorem okc_r {ci : Nat} {fs : List Value} : okc (.inr (ci, fs)) := fun t n f e => by cases e
theorem okc_a {ty : FieldType} {n : Nat} {f : Nat → Int32} : okc (.inl (ty, n, .inl f)) := fun t n f e => by cases e
theorem okc_l {ty : FieldType} {n : Nat} {f : Nat → Int64} : okc (.inl (ty, n, .inr (.inl f))) := fun t n f e => by cases e
theorem okc_n {ty : FieldType} {n : Nat} : okc (.inl (ty, n, .inr (.inr (fun _ => none)))) := fun t n f e => by
  cases e
  exact fun _ _ => rfl
theorem Mh_nw {c : qE} {j : Nat} (k : okh h) (hc : okc c) : Mh L xs (some (nwE c j h)) (some (nwE c j (ph L xs h))) := by
  intro h' e
  cases e
  have h0 : h.2.1 ≠ 0 := by
    have := k.2.1
    omega
  refine ⟨?_, ok_up k h0 (Nat.lt_succ_self _) (Nat.le_succ _) hc⟩
  unfold nwE
  rw [ph_up h0]
  rfl
theorem Mh_pF {o ci j : Nat} {v : Value} (k : okh h) : Mh L xs (pF h o ci j v) (pF (ph L xs h) o ci j v) := by
  intro h' e
  unfold pF at e ⊢
  cases hc : h.1 o with
  | none =>
    rw [hc] at e
    cases e
  | some c =>
    rw [ph_at k hc]
    rw [hc] at e
    obtain ⟨h0, hl⟩ := ok_lt k hc
    match c, e with
    | .inl _, e => cases e
    | .inr (cc, fs), e =>
      dsimp only at e ⊢
      by_cases q : cc = ci ∧ j < fs.length
      · rw [if_pos q] at e ⊢
        cases e
        exact ⟨by rw [ph_up h0]; rfl, ok_up k h0 hl (Nat.le_refl _) okc_r⟩
      · rw [if_neg q] at e
        cases e
theorem Mh_sI {ty : FieldType} {o : Nat} {i x : Int32} (k : okh h) : Mh L xs (sI ty h o i x) (sI ty (ph L xs h) o i x) := by
  intro h' e
  unfold sI at e ⊢
  cases hc : h.1 o with
  | none =>
    rw [hc] at e
    cases e
  | some c =>
    rw [ph_at k hc]
    rw [hc] at e
    obtain ⟨h0, hl⟩ := ok_lt k hc
    match c, e with
    | .inr _, e => cases e
    | .inl (t, n, .inr _), e => cases e
    | .inl (t, n, .inl f), e =>
      dsimp only at e ⊢
      by_cases q : t = ty ∧ 2 ≤ o ∧ ¬ i < 0 ∧ i.toNatClampNeg < n
      · rw [if_pos q] at e ⊢
        cases e
        exact ⟨by rw [ph_up h0]; rfl, ok_up k h0 hl (Nat.le_refl _) okc_a⟩
      · rw [if_neg q] at e
        cases e
theorem Mh_sR {C : String} {ci o v : Nat} {i : Int32} (k : okh h) : Mh L xs (sR C ci h o i v) (sR C ci (ph L xs h) o i v) := by
  intro h' e
  unfold sR at e ⊢
  cases hc : h.1 o with
  | none =>
    rw [hc] at e
    cases e
  | some c =>
    cases hd : h.1 v with
    | none =>
      rw [hc, hd] at e
      match c, e with
      | .inr _, e => cases e
      | .inl (t, n, .inl _), e => cases e
      | .inl (t, n, .inr (.inl _)), e => cases e
      | .inl (t, n, .inr (.inr _)), e => cases e
    | some d =>
      rw [ph_at k hc, ph_at k hd]
      rw [hc, hd] at e
      obtain ⟨h0, hl⟩ := ok_lt k hc
      match c, hc, e with
      | .inr _, _, e => cases e
      | .inl (t, n, .inl _), _, e => cases e
      | .inl (t, n, .inr (.inl _)), _, e => cases e
      | .inl (t, n, .inr (.inr f)), hc, e =>
        match d, e with
        | .inl _, e => cases e
        | .inr (cc, fs), e =>
          dsimp only at e ⊢
          by_cases q : t = .object C ∧ cc = ci ∧ 2 ≤ o ∧ ¬ i < 0 ∧ i.toNatClampNeg < n
          · rw [if_pos q] at e ⊢
            cases e
            refine ⟨by rw [ph_up h0]; rfl, ok_up k h0 hl (Nat.le_refl _) (fun t' n' f' z j hj => ?_)⟩
            cases z
            rw [up_n _ _ (by omega)]
            exact k.2.2.2 o t n f hc j hj
          · rw [if_neg q] at e
            cases e
end PLift
