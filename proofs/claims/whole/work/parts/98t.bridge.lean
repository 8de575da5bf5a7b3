/-! PURE: past over the heap. -/
section PBridge
variable {E : VE} {V W : VT} {N c : Nat} {A : AB}
theorem fld_E {x y : Nat} {ci o : Nat} {R : Nat × Nat × Nat × (Nat → Int32) × (Nat → Option qE)} (h : ci ≠ 9) : fldV ((x, R) : VE) V ci o = fldV ((y, R) : VE) V ci o := by
  match ci, h with
  | 0, _ => rfl
  | 1, _ => rfl
  | 2, _ => rfl
  | 3, _ => rfl
  | 4, _ => rfl
  | 5, _ => rfl
  | 6, _ => rfl
  | 7, _ => rfl
  | 8, _ => rfl
  | 9, h => exact absurd rfl h
  | n + 10, _ => rfl
theorem cls_9 {i : Nat} (h : clsAt i = some 9) : i = 2 := by
  by_cases hi : i < 178
  · have : ∀ j, j < 178 → clsAt j = some 9 → j = 2 := by decide +kernel
    exact this i hi h
  · rw [cls_big (by omega)] at h
    cases h
theorem cel_E {x y i : Nat} {R : Nat × Nat × Nat × (Nat → Int32) × (Nat → Option qE)} (h : i ≠ 2) : celV ((x, R) : VE) V i = celV ((y, R) : VE) V i := by
  unfold celV
  cases hc : clsAt i with
  | none => rfl
  | some ci =>
    dsimp only
    rw [fld_E (x := x) (y := y) (fun e => h (cls_9 (by rw [hc, e])))]
theorem f_swap (hE : E.1 = 6 ∨ E.1 = 15) : ((pF (hpV E V) 2 9 2 (.ref (21 - E.1))).bind fun h1 => pF h1 2 9 3 (.ref E.1)) = some (hpV ((21 - E.1, E.2) : VE) V) := by
  obtain ⟨x, R⟩ := E
  have hE : x = 6 ∨ x = 15 := hE
  show ((some (va_up (celV (x, R) V) 2 (some (.inr (9, (fld9 (x, R) V 2).set 2 (.ref (21 - x))))), (hpV (x, R) V).2)).bind fun h1 => pF h1 2 9 3 (.ref x)) = _
  rw [Option.bind_some]
  unfold pF
  dsimp only
  rw [up_s]
  dsimp only
  rw [if_pos ⟨rfl, by simp [fld9]⟩]
  refine congrArg some ?_
  refine Prod.ext ?_ rfl
  funext i
  show va_up (va_up (celV (x, R) V) 2 _) 2 _ i = celV (21 - x, R) V i
  by_cases e : i = 2
  · subst e
    rw [up_s]
    show _ = some (Sum.inr (9, fld9 (21 - x, R) V 2))
    refine congrArg some (congrArg Sum.inr (congrArg (Prod.mk 9) ?_))
    unfold fld9
    dsimp only
    rw [show 21 - (21 - x) = x by omega]
    rfl
  · rw [up_n _ _ e, up_n _ _ e]
    exact cel_E e
theorem f_past (hE : E.1 = 6 ∨ E.1 = 15) : fX9_past N 2 (hpV E V) = (gP E N V).map (fun t => (t.1, hpV t.2.1 t.2.2)) := by
  have hE' : ((21 - E.1, E.2) : VE).1 = 6 ∨ ((21 - E.1, E.2) : VE).1 = 15 := by show 21 - E.1 = 6 ∨ 21 - E.1 = 15; omega
  unfold fX9_past gP
  refine sb_some (s_isO rfl) ?_
  refine sb_some (s_gR rfl rfl) ?_
  refine sb_some (s_gR rfl rfl) ?_
  refine sb_P (o' := gX4_readPast N (21 - E.1) V) (smX4_readPast (cls_T hE).2) (fun p1 => ?_)
  dsimp only
  refine sb_ite ?_ ?_
  · refine sb_some (s_gR rfl rfl) ?_
    refine sb_some (s_gR rfl rfl) ?_
    have hb : ∀ (f : qH → Option qH) (g : qH → Option (Int32 × qH)) (o : Option qH), (o.bind fun h11 => (f h11).bind fun h13 => g h13) = (o.bind f).bind g := fun f g o => by cases o <;> rfl
    rw [hb, f_swap hE, Option.bind_some]
    refine sb_V (o' := gX9_beginAnew ((21 - E.1, E.2) : VE) N p1.2) (smX9_beginAnew hE') (fun V2 => ?_)
    rfl
  · rfl
end PBridge
