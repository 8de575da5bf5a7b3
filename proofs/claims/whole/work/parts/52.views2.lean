/-! VIEWS: more steps of a simulation. -/
theorem sb_bindE {α β γ : Type} {o o' : Option α} {f : α → Option β} {g : α → Option γ} {φ : γ → β} (e : o = o') (h : ∀ x, f x = (g x).map φ) : o.bind f = (o'.bind g).map φ := by
  rw [e]
  exact sb_bind h
theorem rdA_at {n k : Nat} {f : Nat → Int32} (hk : k < n) (hn : k < 2 ^ 31) : rdA n f (nI k) = some (f k) := by
  unfold rdA
  rw [nI_clamp hn, if_pos ⟨nI_pos hn, hk⟩]
theorem rdL_at {n k : Nat} {f : Nat → Int64} (hk : k < n) (hn : k < 2 ^ 31) : rdL n f (nI k) = some (f k) := by
  unfold rdL
  rw [nI_clamp hn, if_pos ⟨nI_pos hn, hk⟩]
theorem wrA_at {V : VT} {a n k : Nat} {x : Int32} (hk : k < n) (hn : k < 2 ^ 31) : wrA V a n (nI k) x = some (wA V a k x) := by
  unfold wrA
  rw [nI_clamp hn, if_pos ⟨nI_pos hn, hk⟩]
theorem wrL_at {V : VT} {a n k : Nat} {x : Int64} (hk : k < n) (hn : k < 2 ^ 31) : wrL V a n (nI k) x = some (wL V a k x) := by
  unfold wrL
  rw [nI_clamp hn, if_pos ⟨nI_pos hn, hk⟩]
def rd31 (i : Int32) : Option Nat := if ¬ i < 0 ∧ i.toNatClampNeg < 16 then some (32 + 3 * i.toNatClampNeg) else none
def rd90 (i : Int32) : Option Nat := if ¬ i < 0 ∧ i.toNatClampNeg < 4 then some (93 + 11 * i.toNatClampNeg) else none
theorem cel_31 {E : VE} {V : VT} : (hpV E V).1 31 = some (.inl (.object RX8, 16, .inr (.inr (fun k => if k < 16 then some (32 + 3 * k) else none)))) := rfl
theorem cel_90 {E : VE} {V : VT} : (hpV E V).1 90 = some (.inl (.object RX3, 4, .inr (.inr (fun k => if k < 4 then some (93 + 11 * k) else none)))) := rfl
theorem sb_31 {β γ : Type} {E : VE} {V : VT} {i : Int32} {f : Nat → Option β} {g : Nat → Option γ} {φ : γ → β} (h : ∀ x, clsAt x = some 8 → f x = (g x).map φ) : (aR (hpV E V) 31 i).bind f = ((rd31 i).bind g).map φ := by
  unfold aR rd31
  rw [cel_31]
  dsimp only
  by_cases hc : ¬ i < 0 ∧ i.toNatClampNeg < 16
  · rw [if_pos (show (FieldType.object RX8).isReference = true ∧ _ from And.intro rfl hc), if_pos hc, if_pos hc.2]
    exact h _ (clsAt_31 _ hc.2)
  · rw [if_neg (fun q => hc q.2), if_neg hc]
    rfl
theorem sb_90 {β γ : Type} {E : VE} {V : VT} {i : Int32} {f : Nat → Option β} {g : Nat → Option γ} {φ : γ → β} (h : ∀ x, clsAt x = some 3 → f x = (g x).map φ) : (aR (hpV E V) 90 i).bind f = ((rd90 i).bind g).map φ := by
  unfold aR rd90
  rw [cel_90]
  dsimp only
  by_cases hc : ¬ i < 0 ∧ i.toNatClampNeg < 4
  · rw [if_pos (show (FieldType.object RX3).isReference = true ∧ _ from And.intro rfl hc), if_pos hc, if_pos hc.2]
    exact h _ (clsAt_90 _ hc.2)
  · rw [if_neg (fun q => hc q.2), if_neg hc]
    rfl
theorem s_aN31 {E : VE} {V : VT} : aN (hpV E V) 31 = some 16 := rfl
theorem s_aN90 {E : VE} {V : VT} : aN (hpV E V) 90 = some 4 := rfl
