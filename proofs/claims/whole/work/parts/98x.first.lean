/-! PURE: the first heap. -/
def h00 : qH := (fun _ => none, 2, 0)
def H1 : qH := nwE (.inr (9, [.null, .null, .null, .null, .null, .null, .null, .null, .null, .null, .null, .null, .null])) 13 h00
def H3 : qH := (fX9_init 5000 2 H1).getD h00
def H4 : qH := nwE (.inr (10, dfX10)) 53 H3
def H6 : qH := (fX10_init 5000 137 H4).getD h00
def H7 : qH := nwE (.inl (.long, 1, .inr (.inl (fun _ => 0)))) 1 H6
theorem of_is {α : Type} {o : Option α} (d : α) (h : o.isSome = true) : o = some (o.getD d) := by
  cases o with
  | none => cases h
  | some x => rfl
theorem H3_is : (fX9_init 5000 2 H1).isSome = true := by decide +kernel
theorem H3_n : H3.2.1 = 137 := by decide +kernel
theorem H6_is : (fX10_init 5000 137 H4).isSome = true := by decide +kernel
theorem H6_n : H6.2.1 = 177 := by decide +kernel
theorem H7_n : H7.2.1 = 178 ∧ H7.2.2 ≤ 100000 := by decide +kernel
def V7 : VT := (fun i => match H7.1 i with
    | some (.inl (_, _, .inl f)) => f
    | _ => fun _ => 0, fun i => match H7.1 i with
    | some (.inl (_, _, .inr (.inl f))) => f
    | _ => fun _ => 0, fun o k => match H7.1 o with
    | some (.inr (_, fs)) => (match fs[k]? with
      | some (.int x) => x
      | _ => 0)
    | _ => 0, fun o k => match H7.1 o with
    | some (.inr (_, fs)) => (match fs[k]? with
      | some (.long x) => x
      | _ => 0)
    | _ => 0)
def E00 : VE := (6, 178, 0, 0, fun _ => 0, fun _ => none)
def E7 (L : Nat) (xs : Nat → Int32) : VE := (6, 178, H7.2.2, L, xs, fun _ => none)
def shO (ci i : Nat) (c : Option qE) : Bool := match c with
  | some (.inr (c, fs)) => decide (c = ci) && decide (fs = fldV E00 V7 ci i)
  | _ => false
def shA (ty : FieldType) (n : Nat) (c : Option qE) : Bool := match c with
  | some (.inl (t, m, .inl _)) => decide (t = ty) && decide (m = n)
  | _ => false
def shL (n : Nat) (c : Option qE) : Bool := match c with
  | some (.inl (t, m, .inr (.inl _))) => decide (t = .long) && decide (m = n)
  | _ => false
def shR (C : String) (n a b : Nat) (c : Option qE) : Bool := match c with
  | some (.inl (t, m, .inr (.inr f))) => decide (t = .object C) && decide (m = n) && (List.range n).all (fun k => decide (f k = some (a + b * k)))
  | _ => false
def shp (i : Nat) : Bool := match clsAt i with
  | some ci => shO ci i (H7.1 i)
  | none => match arrAt i with
    | some (ty, n) => shA ty n (H7.1 i)
    | none => match lngAt i with
      | some n => shL n (H7.1 i)
      | none => if i = 31 then shR RX8 16 32 3 (H7.1 i) else if i = 90 then shR RX3 4 93 11 (H7.1 i) else (H7.1 i).isNone
theorem shp_all : ∀ i, i < 178 → shp i = true := by decide +kernel
theorem ok00 : okh h00 := ⟨rfl, by decide, fun _ _ => rfl, fun i t n f e => by cases e⟩
theorem init_ph (L : Nat) (xs : Nat → Int32) : h_init L xs = ph L xs h00 := rfl
section PFirst
variable {L : Nat} {xs : Nat → Int32}
theorem H_all : fX9_init 5000 2 (ph L xs H1) = some (ph L xs H3) ∧ fX10_init 5000 137 (ph L xs H4) = some (ph L xs H6) ∧ okh H7 := by
  have k1 : okh H1 := (Mh_nw (L := L) (xs := xs) ok00 okc_r _ rfl).2
  obtain ⟨e3, k3⟩ := Mo_X9_init (L := L) (xs := xs) k1 H3 (of_is h00 H3_is)
  have k4 : okh H4 := (Mh_nw (L := L) (xs := xs) k3 okc_r _ rfl).2
  obtain ⟨e6, k6⟩ := Mo_X10_init (L := L) (xs := xs) k4 H6 (of_is h00 H6_is)
  have k7 : okh H7 := (Mh_nw (L := L) (xs := xs) k6 okc_l _ rfl).2
  exact ⟨e3, e6, k7⟩
theorem fld_E1 {E E' : VE} {V : VT} {ci o : Nat} (h : E.1 = E'.1) : fldV E V ci o = fldV E' V ci o := by
  match ci with
  | 0 => rfl
  | 1 => rfl
  | 2 => rfl
  | 3 => rfl
  | 4 => rfl
  | 5 => rfl
  | 6 => rfl
  | 7 => rfl
  | 8 => rfl
  | 9 =>
    show fld9 E V o = fld9 E' V o
    unfold fld9
    rw [h]
  | n + 10 => rfl
theorem sh_O {ci i : Nat} (h : shO ci i (H7.1 i) = true) : H7.1 i = some (.inr (ci, fldV (E7 L xs) V7 ci i)) := by
  rw [fld_E1 (E := E7 L xs) (E' := E00) rfl]
  generalize H7.1 i = c at h
  match c, h with
  | none, h => cases h
  | some (.inl _), h => cases h
  | some (.inr (c, fs)), h =>
    unfold shO at h
    dsimp only at h
    rw [Bool.and_eq_true, decide_eq_true_iff, decide_eq_true_iff] at h
    rw [h.1, h.2]
theorem sh_A {ty : FieldType} {n i : Nat} (h : shA ty n (H7.1 i) = true) : H7.1 i = some (.inl (ty, n, .inl (V7.A i))) := by
  have e : V7.A i = match H7.1 i with
    | some (.inl (_, _, .inl f)) => f
    | _ => fun _ => 0 := rfl
  rw [e]
  generalize H7.1 i = c at h
  match c, h with
  | none, h => cases h
  | some (.inr _), h => cases h
  | some (.inl (t, m, .inr _)), h => cases h
  | some (.inl (t, m, .inl f)), h =>
    unfold shA at h
    dsimp only at h
    rw [Bool.and_eq_true, decide_eq_true_iff, decide_eq_true_iff] at h
    rw [h.1, h.2]
theorem sh_L {n i : Nat} (h : shL n (H7.1 i) = true) : H7.1 i = some (.inl (.long, n, .inr (.inl (V7.L i)))) := by
  have e : V7.L i = match H7.1 i with
    | some (.inl (_, _, .inr (.inl f))) => f
    | _ => fun _ => 0 := rfl
  rw [e]
  generalize H7.1 i = c at h
  match c, h with
  | none, h => cases h
  | some (.inr _), h => cases h
  | some (.inl (t, m, .inl _)), h => cases h
  | some (.inl (t, m, .inr (.inr _))), h => cases h
  | some (.inl (t, m, .inr (.inl f))), h =>
    unfold shL at h
    dsimp only at h
    rw [Bool.and_eq_true, decide_eq_true_iff, decide_eq_true_iff] at h
    rw [h.1, h.2]
theorem sh_R {C : String} {n a b i : Nat} (k : okh H7) (h : shR C n a b (H7.1 i) = true) : H7.1 i = some (.inl (.object C, n, .inr (.inr (fun k => if k < n then some (a + b * k) else none)))) := by
  have q := k.2.2.2 i
  generalize H7.1 i = c at h q
  match c, h, q with
  | none, h, _ => cases h
  | some (.inr _), h, _ => cases h
  | some (.inl (t, m, .inl _)), h, _ => cases h
  | some (.inl (t, m, .inr (.inl _))), h, _ => cases h
  | some (.inl (t, m, .inr (.inr f))), h, q =>
    unfold shR at h
    dsimp only at h
    rw [Bool.and_eq_true, Bool.and_eq_true, decide_eq_true_iff, decide_eq_true_iff, List.all_eq_true] at h
    obtain ⟨⟨h1, h2⟩, h3⟩ := h
    have q := q t m f rfl
    rw [h1, h2]
    rw [h2] at q
    have : f = fun k => if k < n then some (a + b * k) else none := by
      funext j
      by_cases z : j < n
      · rw [if_pos z]
        exact decide_eq_true_iff.mp (h3 j (List.mem_range.mpr z))
      · rw [if_neg z]
        exact q j (by omega)
    rw [this]
theorem H7_hp : ph L xs H7 = hpV (E7 L xs) V7 := by
  have k := (H_all (L := L) (xs := xs)).2.2
  refine Prod.ext ?_ ?_
  · funext i
    show (if i = 0 then some (.inl (.int, L, .inl xs)) else H7.1 i) = celV (E7 L xs) V7 i
    by_cases z : i = 0
    · subst z
      rw [if_pos rfl]
      unfold celV
      rw [show clsAt 0 = none from rfl, show arrAt 0 = none from rfl, show lngAt 0 = none from rfl]
      dsimp only
      rw [if_pos rfl]
      rfl
    rw [if_neg z]
    by_cases hi : i < 178
    · have s := shp_all i hi
      unfold shp at s
      unfold celV
      cases hc : clsAt i with
      | some ci =>
        rw [hc] at s
        exact sh_O s
      | none =>
        rw [hc] at s
        dsimp only at s ⊢
        cases ha : arrAt i with
        | some p =>
          obtain ⟨ty, n⟩ := p
          rw [ha] at s
          exact sh_A s
        | none =>
          rw [ha] at s
          dsimp only at s ⊢
          cases hl : lngAt i with
          | some n =>
            rw [hl] at s
            exact sh_L s
          | none =>
            rw [hl] at s
            dsimp only at s ⊢
            rw [if_neg z]
            by_cases z1 : i = 31
            · rw [if_pos z1] at s ⊢
              exact sh_R k s
            · rw [if_neg z1] at s ⊢
              by_cases z2 : i = 90
              · rw [if_pos z2] at s ⊢
                exact sh_R k s
              · rw [if_neg z2] at s ⊢
                cases hh : H7.1 i with
                | none => rfl
                | some x =>
                  rw [hh] at s
                  cases s
    · have e : H7.1 i = none := k.2.2.1 i (by rw [H7_n.1]; omega)
      rw [e]
      unfold celV
      rw [cls_big (by omega), arr_big (by omega), lng_big (by omega)]
      dsimp only
      rw [if_neg z, if_neg (by omega), if_neg (by omega)]
      rfl
  · show H7.2 = (178, H7.2.2)
    exact Prod.ext H7_n.1 rfl
end PFirst
