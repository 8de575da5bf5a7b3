/-! VIEWS: behind the constructors the heap is plain functions: arrays by their cells, fields by object and place (written by views.py by the layout). -/
def clsL : List (Option Nat) := [none, none, some 9, some 6, none, some 4, some 5, none, none, none, none, none, some 1, none, none, some 5, none, none, none, none, none, some 1, none, none, some 8, none, none, some 8, none, none] ++ [some 0, none, some 8, none, none, some 8, none, none, some 8, none, none, some 8, none, none, some 8, none, none, some 8, none, none, some 8, none, none, some 8, none, none, some 8, none, none, some 8] ++ [none, none, some 8, none, none, some 8, none, none, some 8, none, none, some 8, none, none, some 8, none, none, some 8, none, none, some 2, none, none, some 2, none, none, some 7, none, none, none] ++ [none, none, none, some 3, some 8, none, none, some 2, none, none, some 7, none, none, none, some 3, some 8, none, none, some 2, none, none, some 7, none, none, none, some 3, some 8, none, none, some 2] ++ [none, none, some 7, none, none, none, some 3, some 8, none, none, some 2, none, none, some 7, none, none, none, some 10, none, none, none, none, none, none, none, none, none, none, none, none] ++ [none, none, none, none, none, none, none, none, none, none, none, none, none, none, none, none, none, none, none, none, none, none, none, none, none, none, none, none]
def arrL : List (Option (FieldType × Nat)) := [none, none, none, none, some (.char, 1000), none, none, none, some (.int, 7), some (.int, 7), some (.int, 7), some (.int, 7), none, some (.int, 1000), some (.int, 64), none, none, some (.int, 7), some (.int, 7), some (.int, 7), some (.int, 7), none, some (.int, 1000), some (.int, 64), none, some (.int, 7), some (.int, 7), none, some (.int, 7), some (.int, 7)] ++ [none, none, none, some (.int, 7), some (.int, 7), none, some (.int, 7), some (.int, 7), none, some (.int, 7), some (.int, 7), none, some (.int, 7), some (.int, 7), none, some (.int, 7), some (.int, 7), none, some (.int, 7), some (.int, 7), none, some (.int, 7), some (.int, 7), none, some (.int, 7), some (.int, 7), none, some (.int, 7), some (.int, 7), none] ++ [some (.int, 7), some (.int, 7), none, some (.int, 7), some (.int, 7), none, some (.int, 7), some (.int, 7), none, some (.int, 7), some (.int, 7), none, some (.int, 7), some (.int, 7), none, some (.int, 7), some (.int, 7), none, some (.int, 7), some (.int, 7), none, some (.int, 40), some (.int, 40), none, some (.int, 40), some (.int, 40), none, some (.int, 8), some (.int, 8), some (.boolean, 8)] ++ [none, some (.int, 7), some (.int, 70), none, none, some (.int, 7), some (.int, 7), none, some (.int, 40), some (.int, 40), none, some (.int, 8), some (.int, 8), some (.boolean, 8), none, none, some (.int, 7), some (.int, 7), none, some (.int, 40), some (.int, 40), none, some (.int, 8), some (.int, 8), some (.boolean, 8), none, none, some (.int, 7), some (.int, 7), none] ++ [some (.int, 40), some (.int, 40), none, some (.int, 8), some (.int, 8), some (.boolean, 8), none, none, some (.int, 7), some (.int, 7), none, some (.int, 40), some (.int, 40), none, some (.int, 8), some (.int, 8), some (.boolean, 8), none, some (.int, 1000), some (.int, 8), none, some (.int, 14), some (.int, 14), some (.int, 14), some (.int, 14), some (.int, 2), some (.int, 2), some (.int, 2000), some (.int, 7), some (.boolean, 7)] ++ [some (.int, 7), some (.int, 7), some (.int, 7), some (.int, 7), some (.int, 7), some (.int, 7), some (.int, 7), some (.int, 7), some (.int, 7), some (.int, 20), some (.int, 6), some (.int, 240), some (.int, 240), some (.int, 5), some (.int, 40), some (.int, 40), some (.boolean, 40), some (.int, 16), some (.int, 16), some (.int, 16), some (.int, 64), some (.int, 256), some (.boolean, 4), some (.int, 7), some (.int, 7), some (.int, 7), some (.int, 70), none]
def lngL : List (Option Nat) := [none, none, none, none, none, none, none, some 7, none, none, none, none, none, none, none, none, some 7, none, none, none, none, none, none, none, none, none, none, none, none, none] ++ [none, none, none, none, none, none, none, none, none, none, none, none, none, none, none, none, none, none, none, none, none, none, none, none, none, none, none, none, none, none] ++ [none, none, none, none, none, none, none, none, none, none, none, none, none, none, none, none, none, none, none, none, none, none, none, none, none, none, none, none, none, none] ++ [none, none, none, none, none, none, none, none, none, none, none, none, none, none, none, none, none, none, none, none, none, none, none, none, none, none, none, none, none, none] ++ [none, none, none, none, none, none, none, none, none, none, none, none, none, none, none, none, none, none, none, none, some 14, none, none, none, none, none, none, none, none, none] ++ [none, none, none, none, none, none, none, none, none, none, none, none, none, none, none, none, none, none, none, none, none, none, none, none, none, none, none, some 1]
/-- the class of the object at i -/
def clsAt (i : Nat) : Option Nat := clsL.getD i none
/-- the array of small numbers at i -/
def arrAt (i : Nat) : Option (FieldType × Nat) := arrL.getD i none
def lngAt (i : Nat) : Option Nat := lngL.getD i none
/-- told's cell; numbers taken; slots made; the script; whatever lies elsewhere -/
abbrev VE : Type := Nat × Nat × Nat × Nat × (Nat → Int32) × (Nat → Option qE)
/-- arrays; arrays of longs; fields; long fields -/
abbrev VT : Type := (Nat → Nat → Int32) × (Nat → Nat → Int64) × (Nat → Nat → Int32) × (Nat → Nat → Int64)
abbrev VT.A (V : VT) : Nat → Nat → Int32 := V.1
abbrev VT.L (V : VT) : Nat → Nat → Int64 := V.2.1
abbrev VT.F (V : VT) : Nat → Nat → Int32 := V.2.2.1
abbrev VT.G (V : VT) : Nat → Nat → Int64 := V.2.2.2
def fld0 (E : VE) (V : VT) (o : Nat) : List Value := [.ref (31), .int (V.2.2.1 o 1), .int (V.2.2.1 o 2)]
def fld1 (E : VE) (V : VT) (o : Nat) : List Value := [.ref (o + 1), .ref (o + 2), .int (V.2.2.1 o 2), .int (V.2.2.1 o 3)]
def fld2 (E : VE) (V : VT) (o : Nat) : List Value := [.ref (o + 1), .ref (o + 2), .int (V.2.2.1 o 2)]
def fld3 (E : VE) (V : VT) (o : Nat) : List Value := [.ref (o + 1), .ref (o + 4), .ref (o + 7), .int (V.2.2.1 o 3)]
def fld4 (E : VE) (V : VT) (o : Nat) : List Value := [.ref (3)]
def fld5 (E : VE) (V : VT) (o : Nat) : List Value := [.ref (o + 1), .ref (o + 2), .ref (o + 3), .ref (o + 4), .ref (o + 5), .ref (o + 6), .int (V.2.2.1 o 6), .int (V.2.2.1 o 7), .int (V.2.2.1 o 8), .int (V.2.2.1 o 9), .int (V.2.2.1 o 10)]
def fld6 (E : VE) (V : VT) (o : Nat) : List Value := [.ref (4), .int (V.2.2.1 o 1), .int (V.2.2.1 o 2), .int (V.2.2.1 o 3), .int (V.2.2.1 o 4), .int (V.2.2.1 o 5), .long (V.2.2.2 o 6), .int (V.2.2.1 o 7), .int (V.2.2.1 o 8)]
def fld7 (E : VE) (V : VT) (o : Nat) : List Value := [.ref (o + 1), .ref (o + 2), .ref (o + 3), .int (V.2.2.1 o 3)]
def fld8 (E : VE) (V : VT) (o : Nat) : List Value := [.ref (o + 1), .ref (o + 2), .int (V.2.2.1 o 2), .int (V.2.2.1 o 3)]
def fld9 (E : VE) (V : VT) (o : Nat) : List Value := [.ref (3), .ref (5), .ref (E.1), .ref (21 - E.1), .ref (24), .ref (27), .ref (30), .ref (80), .ref (83), .ref (86), .ref (90), .ref (91), .ref (92)]
def fld10 (E : VE) (V : VT) (o : Nat) : List Value := [.int (V.2.2.1 o 0), .int (V.2.2.1 o 1), .ref (138), .int (V.2.2.1 o 3), .int (V.2.2.1 o 4), .int (V.2.2.1 o 5), .int (V.2.2.1 o 6), .long (V.2.2.2 o 7), .int (V.2.2.1 o 8), .int (V.2.2.1 o 9), .ref (139), .ref (140), .ref (141), .ref (142), .ref (143), .ref (144), .ref (145), .ref (146), .ref (147), .int (V.2.2.1 o 19)] ++ [.int (V.2.2.1 o 20), .ref (148), .ref (149), .ref (150), .ref (151), .ref (152), .ref (153), .ref (154), .ref (155), .ref (156), .ref (157), .ref (158), .ref (159), .int (V.2.2.1 o 33), .ref (160), .ref (161), .ref (162), .ref (163), .ref (164), .ref (165)] ++ [.ref (166), .ref (167), .ref (168), .ref (169), .ref (170), .ref (171), .ref (172), .int (V.2.2.1 o 47), .ref (173), .ref (174), .ref (175), .ref (176), .long (V.2.2.2 o 52)]
def fldV (E : VE) (V : VT) (ci o : Nat) : List Value := match ci with
  | 0 => fld0 E V o
  | 1 => fld1 E V o
  | 2 => fld2 E V o
  | 3 => fld3 E V o
  | 4 => fld4 E V o
  | 5 => fld5 E V o
  | 6 => fld6 E V o
  | 7 => fld7 E V o
  | 8 => fld8 E V o
  | 9 => fld9 E V o
  | _ => fld10 E V o
def celV (E : VE) (V : VT) (i : Nat) : Option qE := match clsAt i with
  | some ci => some (.inr (ci, fldV E V ci i))
  | none => match arrAt i with
    | some (ty, n) => some (.inl (ty, n, .inl (V.A i)))
    | none => match lngAt i with
      | some n => some (.inl (.long, n, .inr (.inl (V.L i))))
      | none => if i = 0 then some (.inl (.int, E.2.2.2.1, .inl E.2.2.2.2.1)) else if i = 31 then some (.inl (.object RX8, 16, .inr (.inr (fun k => if k < 16 then some (32 + 3 * k) else none)))) else if i = 90 then some (.inl (.object RX3, 4, .inr (.inr (fun k => if k < 4 then some (93 + 11 * k) else none)))) else E.2.2.2.2.2 i
/-- the heap of these views -/
def hpV (E : VE) (V : VT) : qH := (celV E V, E.2.1, E.2.2.1)
def wA (V : VT) (a k : Nat) (x : Int32) : VT := (va_up V.A a (upd (V.A a) k x), V.2)
def wL (V : VT) (a k : Nat) (x : Int64) : VT := (V.A, va_up V.L a (vp_updL (V.L a) k x), V.2.2)
def wF (V : VT) (o k : Nat) (x : Int32) : VT := (V.A, V.L, va_up V.F o (va_up (V.F o) k x), V.G)
def wG (V : VT) (o k : Nat) (x : Int64) : VT := (V.A, V.L, V.F, va_up V.G o (va_up (V.G o) k x))
theorem cls_big {o : Nat} (h : 178 ≤ o) : clsAt o = none := by
  unfold clsAt
  rw [List.getD_eq_getElem?_getD, List.getElem?_eq_none (by rw [show clsL.length = 178 by decide +kernel]; exact h)]
  rfl
theorem arr_big {o : Nat} (h : 178 ≤ o) : arrAt o = none := by
  unfold arrAt
  rw [List.getD_eq_getElem?_getD, List.getElem?_eq_none (by rw [show arrL.length = 178 by decide +kernel]; exact h)]
  rfl
theorem lng_big {o : Nat} (h : 178 ≤ o) : lngAt o = none := by
  unfold lngAt
  rw [List.getD_eq_getElem?_getD, List.getElem?_eq_none (by rw [show lngL.length = 178 by decide +kernel]; exact h)]
  rfl
theorem wA_s (V : VT) (a k : Nat) (x : Int32) : (wA V a k x).A a = upd (V.A a) k x := up_s _ _ _
theorem wA_n (V : VT) {a j : Nat} (k : Nat) (x : Int32) (h : j ≠ a) : (wA V a k x).A j = V.A j := up_n _ _ h
theorem wL_s (V : VT) (a k : Nat) (x : Int64) : (wL V a k x).L a = vp_updL (V.L a) k x := up_s _ _ _
theorem wL_n (V : VT) {a j : Nat} (k : Nat) (x : Int64) (h : j ≠ a) : (wL V a k x).L j = V.L j := up_n _ _ h
section PViews
variable {E : VE} {V : VT} {o a ci k n : Nat} {ty : FieldType} {i x : Int32}
theorem celV_obj (hc : clsAt o = some ci) : (hpV E V).1 o = some (.inr (ci, fldV E V ci o)) := by
  show celV E V o = _
  unfold celV
  rw [hc]
theorem cls_arr (ha : arrAt a = some (ty, n)) : clsAt a = none ∧ 2 ≤ a := by
  have key : ∀ a, a < 178 → arrAt a ≠ none → clsAt a = none ∧ 2 ≤ a := by decide +kernel
  by_cases h : a < 178
  · exact key a h (by rw [ha]; exact fun q => by cases q)
  · rw [arr_big (by omega)] at ha
    cases ha
theorem cls_lng (ha : lngAt a = some n) : clsAt a = none ∧ arrAt a = none ∧ 2 ≤ a := by
  have key : ∀ a, a < 178 → lngAt a ≠ none → clsAt a = none ∧ arrAt a = none ∧ 2 ≤ a := by decide +kernel
  by_cases h : a < 178
  · exact key a h (by rw [ha]; exact fun q => by cases q)
  · rw [lng_big (by omega)] at ha
    cases ha
theorem celV_arr (ha : arrAt a = some (ty, n)) : (hpV E V).1 a = some (.inl (ty, n, .inl (V.A a))) := by
  show celV E V a = _
  unfold celV
  rw [(cls_arr ha).1, ha]
theorem celV_lng (ha : lngAt a = some n) : (hpV E V).1 a = some (.inl (.long, n, .inr (.inl (V.L a)))) := by
  show celV E V a = _
  unfold celV
  rw [(cls_lng ha).1, (cls_lng ha).2.1, ha]
theorem s_isO (hc : clsAt o = some ci) : isO (hpV E V) o ci = some () := isO_at (celV_obj hc)
theorem s_gI (hc : clsAt o = some ci) (hk : (fldV E V ci o)[k]? = some (.int x)) : gI (hpV E V) o ci k = some x := gI_at (celV_obj hc) hk
theorem s_gL {x : Int64} (hc : clsAt o = some ci) (hk : (fldV E V ci o)[k]? = some (.long x)) : gL (hpV E V) o ci k = some x := gL_at (celV_obj hc) hk
theorem s_gR {x : Nat} (hc : clsAt o = some ci) (hk : (fldV E V ci o)[k]? = some (.ref x)) : gR (hpV E V) o ci k = some x := gR_at (celV_obj hc) hk
/-- an array's element, if it has such -/
def rdA (n : Nat) (f : Nat → Int32) (i : Int32) : Option Int32 := if ¬ i < 0 ∧ i.toNatClampNeg < n then some (f i.toNatClampNeg) else none
def rdL (n : Nat) (f : Nat → Int64) (i : Int32) : Option Int64 := if ¬ i < 0 ∧ i.toNatClampNeg < n then some (f i.toNatClampNeg) else none
def wrA (V : VT) (a n : Nat) (i x : Int32) : Option VT := if ¬ i < 0 ∧ i.toNatClampNeg < n then some (wA V a i.toNatClampNeg x) else none
def wrL (V : VT) (a n : Nat) (i : Int32) (x : Int64) : Option VT := if ¬ i < 0 ∧ i.toNatClampNeg < n then some (wL V a i.toNatClampNeg x) else none
theorem s_aI (ha : arrAt a = some (ty, n)) : aI ty (hpV E V) a i = rdA n (V.A a) i := by
  unfold aI rdA
  rw [celV_arr ha]
  simp
theorem s_aL (ha : lngAt a = some n) : aL (hpV E V) a i = rdL n (V.L a) i := by
  unfold aL rdL
  rw [celV_lng ha]
  simp
theorem s_aN (ha : arrAt a = some (ty, n)) : aN (hpV E V) a = some (nI n) := aN_at (celV_arr ha)
theorem fldV_A {V W : VT} (hF : V.F o = W.F o) (hG : V.G o = W.G o) : fldV E V ci o = fldV E W ci o := by
  unfold fldV
  split <;> simp only [fld0, fld1, fld2, fld3, fld4, fld5, fld6, fld7, fld8, fld9, fld10, hF, hG]
theorem celV_congr {V W : VT} {i : Nat} (hA : V.A i = W.A i) (hL : V.L i = W.L i) (hF : V.F i = W.F i) (hG : V.G i = W.G i) : celV E V i = celV E W i := by
  unfold celV
  rw [hA, hL]
  cases clsAt i with
  | none => rfl
  | some ci => simp only [fldV_A (E := E) (ci := ci) hF hG]
theorem s_sI (ha : arrAt a = some (ty, n)) : sI ty (hpV E V) a i x = (wrA V a n i (qnar ty x)).map (hpV E) := by
  unfold sI wrA
  rw [celV_arr ha]
  dsimp only
  have h2 := (cls_arr ha).2
  by_cases hc : ¬ i < 0 ∧ i.toNatClampNeg < n
  · rw [if_pos (And.intro rfl (And.intro h2 (And.intro hc.1 hc.2))), if_pos hc, Option.map_some]
    congr 1
    refine Prod.ext ?_ rfl
    funext j
    by_cases hj : j = a
    · subst hj
      show va_up _ j _ j = (hpV E (wA V j i.toNatClampNeg (qnar ty x))).1 j
      rw [up_s, celV_arr ha, wA_s]
    · show va_up _ a _ j = celV E (wA V a i.toNatClampNeg (qnar ty x)) j
      rw [up_n _ _ hj]
      exact celV_congr (wA_n V _ _ hj).symm rfl rfl rfl
  · rw [if_neg (fun q => hc q.2.2), if_neg hc]
    rfl
theorem s_sL {x : Int64} (ha : lngAt a = some n) : sL (hpV E V) a i x = (wrL V a n i x).map (hpV E) := by
  unfold sL wrL
  rw [celV_lng ha]
  dsimp only
  have h2 := (cls_lng ha).2.2
  by_cases hc : ¬ i < 0 ∧ i.toNatClampNeg < n
  · rw [if_pos (And.intro rfl (And.intro h2 (And.intro hc.1 hc.2))), if_pos hc, Option.map_some]
    congr 1
    refine Prod.ext ?_ rfl
    funext j
    by_cases hj : j = a
    · subst hj
      show va_up _ j _ j = (hpV E (wL V j i.toNatClampNeg x)).1 j
      rw [up_s, celV_lng ha, wL_s]
    · show va_up _ a _ j = celV E (wL V a i.toNatClampNeg x) j
      rw [up_n _ _ hj]
      exact celV_congr rfl (wL_n V _ _ hj).symm rfl rfl
  · rw [if_neg (fun q => hc q.2.2), if_neg hc]
    rfl
theorem s_pF {v : Value} {W : VT} (hc : clsAt o = some ci) (hk : k < (fldV E V ci o).length) (hs : (fldV E V ci o).set k v = fldV E W ci o) (hA : W.A = V.A) (hL : W.L = V.L) (hF : ∀ j, j ≠ o → W.F j = V.F j) (hG : ∀ j, j ≠ o → W.G j = V.G j) : pF (hpV E V) o ci k v = some (hpV E W) := by
  rw [pF_at (celV_obj hc) hk, hs]
  congr 1
  refine Prod.ext ?_ rfl
  funext j
  by_cases hj : j = o
  · subst hj
    show va_up _ j _ j = _
    rw [up_s]
    exact (celV_obj hc).symm
  · show va_up _ o _ j = _
    rw [up_n _ _ hj]
    exact celV_congr (by rw [hA]) (by rw [hL]) (hF j hj).symm (hG j hj).symm
/-- an int field is written -/
theorem s_pI (hc : clsAt o = some ci) (hk : k < (fldV E V ci o).length) (hs : (fldV E V ci o).set k (.int x) = fldV E (wF V o k x) ci o) : pF (hpV E V) o ci k (.int x) = some (hpV E (wF V o k x)) :=
  s_pF hc hk hs rfl rfl (fun j hj => up_n _ _ hj) (fun j hj => rfl)
theorem s_pL {x : Int64} (hc : clsAt o = some ci) (hk : k < (fldV E V ci o).length) (hs : (fldV E V ci o).set k (.long x) = fldV E (wG V o k x) ci o) : pF (hpV E V) o ci k (.long x) = some (hpV E (wG V o k x)) :=
  s_pF hc hk hs rfl rfl (fun j hj => rfl) (fun j hj => up_n _ _ hj)
end PViews
theorem w0_1 {E : VE} {V : VT} {o : Nat} {x : Int32} (hc : clsAt o = some 0) : pF (hpV E V) o 0 1 (.int x) = some (hpV E (wF V o 1 x)) := s_pI hc (by simp [fldV, fld0]) (by simp [fldV, fld0, wF, up_s, va_up])
theorem w0_2 {E : VE} {V : VT} {o : Nat} {x : Int32} (hc : clsAt o = some 0) : pF (hpV E V) o 0 2 (.int x) = some (hpV E (wF V o 2 x)) := s_pI hc (by simp [fldV, fld0]) (by simp [fldV, fld0, wF, up_s, va_up])
theorem w1_2 {E : VE} {V : VT} {o : Nat} {x : Int32} (hc : clsAt o = some 1) : pF (hpV E V) o 1 2 (.int x) = some (hpV E (wF V o 2 x)) := s_pI hc (by simp [fldV, fld1]) (by simp [fldV, fld1, wF, up_s, va_up])
theorem w1_3 {E : VE} {V : VT} {o : Nat} {x : Int32} (hc : clsAt o = some 1) : pF (hpV E V) o 1 3 (.int x) = some (hpV E (wF V o 3 x)) := s_pI hc (by simp [fldV, fld1]) (by simp [fldV, fld1, wF, up_s, va_up])
theorem w2_2 {E : VE} {V : VT} {o : Nat} {x : Int32} (hc : clsAt o = some 2) : pF (hpV E V) o 2 2 (.int x) = some (hpV E (wF V o 2 x)) := s_pI hc (by simp [fldV, fld2]) (by simp [fldV, fld2, wF, up_s, va_up])
theorem w3_3 {E : VE} {V : VT} {o : Nat} {x : Int32} (hc : clsAt o = some 3) : pF (hpV E V) o 3 3 (.int x) = some (hpV E (wF V o 3 x)) := s_pI hc (by simp [fldV, fld3]) (by simp [fldV, fld3, wF, up_s, va_up])
theorem w5_6 {E : VE} {V : VT} {o : Nat} {x : Int32} (hc : clsAt o = some 5) : pF (hpV E V) o 5 6 (.int x) = some (hpV E (wF V o 6 x)) := s_pI hc (by simp [fldV, fld5]) (by simp [fldV, fld5, wF, up_s, va_up])
theorem w5_7 {E : VE} {V : VT} {o : Nat} {x : Int32} (hc : clsAt o = some 5) : pF (hpV E V) o 5 7 (.int x) = some (hpV E (wF V o 7 x)) := s_pI hc (by simp [fldV, fld5]) (by simp [fldV, fld5, wF, up_s, va_up])
theorem w5_8 {E : VE} {V : VT} {o : Nat} {x : Int32} (hc : clsAt o = some 5) : pF (hpV E V) o 5 8 (.int x) = some (hpV E (wF V o 8 x)) := s_pI hc (by simp [fldV, fld5]) (by simp [fldV, fld5, wF, up_s, va_up])
theorem w5_9 {E : VE} {V : VT} {o : Nat} {x : Int32} (hc : clsAt o = some 5) : pF (hpV E V) o 5 9 (.int x) = some (hpV E (wF V o 9 x)) := s_pI hc (by simp [fldV, fld5]) (by simp [fldV, fld5, wF, up_s, va_up])
theorem w5_10 {E : VE} {V : VT} {o : Nat} {x : Int32} (hc : clsAt o = some 5) : pF (hpV E V) o 5 10 (.int x) = some (hpV E (wF V o 10 x)) := s_pI hc (by simp [fldV, fld5]) (by simp [fldV, fld5, wF, up_s, va_up])
theorem w6_1 {E : VE} {V : VT} {o : Nat} {x : Int32} (hc : clsAt o = some 6) : pF (hpV E V) o 6 1 (.int x) = some (hpV E (wF V o 1 x)) := s_pI hc (by simp [fldV, fld6]) (by simp [fldV, fld6, wF, up_s, va_up])
theorem w6_2 {E : VE} {V : VT} {o : Nat} {x : Int32} (hc : clsAt o = some 6) : pF (hpV E V) o 6 2 (.int x) = some (hpV E (wF V o 2 x)) := s_pI hc (by simp [fldV, fld6]) (by simp [fldV, fld6, wF, up_s, va_up])
theorem w6_3 {E : VE} {V : VT} {o : Nat} {x : Int32} (hc : clsAt o = some 6) : pF (hpV E V) o 6 3 (.int x) = some (hpV E (wF V o 3 x)) := s_pI hc (by simp [fldV, fld6]) (by simp [fldV, fld6, wF, up_s, va_up])
theorem w6_4 {E : VE} {V : VT} {o : Nat} {x : Int32} (hc : clsAt o = some 6) : pF (hpV E V) o 6 4 (.int x) = some (hpV E (wF V o 4 x)) := s_pI hc (by simp [fldV, fld6]) (by simp [fldV, fld6, wF, up_s, va_up])
theorem w6_5 {E : VE} {V : VT} {o : Nat} {x : Int32} (hc : clsAt o = some 6) : pF (hpV E V) o 6 5 (.int x) = some (hpV E (wF V o 5 x)) := s_pI hc (by simp [fldV, fld6]) (by simp [fldV, fld6, wF, up_s, va_up])
theorem w6_6 {E : VE} {V : VT} {o : Nat} {x : Int64} (hc : clsAt o = some 6) : pF (hpV E V) o 6 6 (.long x) = some (hpV E (wG V o 6 x)) := s_pL hc (by simp [fldV, fld6]) (by simp [fldV, fld6, wG, up_s, va_up])
theorem w6_7 {E : VE} {V : VT} {o : Nat} {x : Int32} (hc : clsAt o = some 6) : pF (hpV E V) o 6 7 (.int x) = some (hpV E (wF V o 7 x)) := s_pI hc (by simp [fldV, fld6]) (by simp [fldV, fld6, wF, up_s, va_up])
theorem w6_8 {E : VE} {V : VT} {o : Nat} {x : Int32} (hc : clsAt o = some 6) : pF (hpV E V) o 6 8 (.int x) = some (hpV E (wF V o 8 x)) := s_pI hc (by simp [fldV, fld6]) (by simp [fldV, fld6, wF, up_s, va_up])
theorem w7_3 {E : VE} {V : VT} {o : Nat} {x : Int32} (hc : clsAt o = some 7) : pF (hpV E V) o 7 3 (.int x) = some (hpV E (wF V o 3 x)) := s_pI hc (by simp [fldV, fld7]) (by simp [fldV, fld7, wF, up_s, va_up])
theorem w8_2 {E : VE} {V : VT} {o : Nat} {x : Int32} (hc : clsAt o = some 8) : pF (hpV E V) o 8 2 (.int x) = some (hpV E (wF V o 2 x)) := s_pI hc (by simp [fldV, fld8]) (by simp [fldV, fld8, wF, up_s, va_up])
theorem w8_3 {E : VE} {V : VT} {o : Nat} {x : Int32} (hc : clsAt o = some 8) : pF (hpV E V) o 8 3 (.int x) = some (hpV E (wF V o 3 x)) := s_pI hc (by simp [fldV, fld8]) (by simp [fldV, fld8, wF, up_s, va_up])
theorem w10_0 {E : VE} {V : VT} {o : Nat} {x : Int32} (hc : clsAt o = some 10) : pF (hpV E V) o 10 0 (.int x) = some (hpV E (wF V o 0 x)) := s_pI hc (by simp [fldV, fld10]) (by simp [fldV, fld10, wF, up_s, va_up])
theorem w10_1 {E : VE} {V : VT} {o : Nat} {x : Int32} (hc : clsAt o = some 10) : pF (hpV E V) o 10 1 (.int x) = some (hpV E (wF V o 1 x)) := s_pI hc (by simp [fldV, fld10]) (by simp [fldV, fld10, wF, up_s, va_up])
theorem w10_3 {E : VE} {V : VT} {o : Nat} {x : Int32} (hc : clsAt o = some 10) : pF (hpV E V) o 10 3 (.int x) = some (hpV E (wF V o 3 x)) := s_pI hc (by simp [fldV, fld10]) (by simp [fldV, fld10, wF, up_s, va_up])
theorem w10_4 {E : VE} {V : VT} {o : Nat} {x : Int32} (hc : clsAt o = some 10) : pF (hpV E V) o 10 4 (.int x) = some (hpV E (wF V o 4 x)) := s_pI hc (by simp [fldV, fld10]) (by simp [fldV, fld10, wF, up_s, va_up])
theorem w10_5 {E : VE} {V : VT} {o : Nat} {x : Int32} (hc : clsAt o = some 10) : pF (hpV E V) o 10 5 (.int x) = some (hpV E (wF V o 5 x)) := s_pI hc (by simp [fldV, fld10]) (by simp [fldV, fld10, wF, up_s, va_up])
theorem w10_6 {E : VE} {V : VT} {o : Nat} {x : Int32} (hc : clsAt o = some 10) : pF (hpV E V) o 10 6 (.int x) = some (hpV E (wF V o 6 x)) := s_pI hc (by simp [fldV, fld10]) (by simp [fldV, fld10, wF, up_s, va_up])
theorem w10_7 {E : VE} {V : VT} {o : Nat} {x : Int64} (hc : clsAt o = some 10) : pF (hpV E V) o 10 7 (.long x) = some (hpV E (wG V o 7 x)) := s_pL hc (by simp [fldV, fld10]) (by simp [fldV, fld10, wG, up_s, va_up])
theorem w10_8 {E : VE} {V : VT} {o : Nat} {x : Int32} (hc : clsAt o = some 10) : pF (hpV E V) o 10 8 (.int x) = some (hpV E (wF V o 8 x)) := s_pI hc (by simp [fldV, fld10]) (by simp [fldV, fld10, wF, up_s, va_up])
theorem w10_9 {E : VE} {V : VT} {o : Nat} {x : Int32} (hc : clsAt o = some 10) : pF (hpV E V) o 10 9 (.int x) = some (hpV E (wF V o 9 x)) := s_pI hc (by simp [fldV, fld10]) (by simp [fldV, fld10, wF, up_s, va_up])
theorem w10_19 {E : VE} {V : VT} {o : Nat} {x : Int32} (hc : clsAt o = some 10) : pF (hpV E V) o 10 19 (.int x) = some (hpV E (wF V o 19 x)) := s_pI hc (by simp [fldV, fld10]) (by simp [fldV, fld10, wF, up_s, va_up])
theorem w10_20 {E : VE} {V : VT} {o : Nat} {x : Int32} (hc : clsAt o = some 10) : pF (hpV E V) o 10 20 (.int x) = some (hpV E (wF V o 20 x)) := s_pI hc (by simp [fldV, fld10]) (by simp [fldV, fld10, wF, up_s, va_up])
theorem w10_33 {E : VE} {V : VT} {o : Nat} {x : Int32} (hc : clsAt o = some 10) : pF (hpV E V) o 10 33 (.int x) = some (hpV E (wF V o 33 x)) := s_pI hc (by simp [fldV, fld10]) (by simp [fldV, fld10, wF, up_s, va_up])
theorem w10_47 {E : VE} {V : VT} {o : Nat} {x : Int32} (hc : clsAt o = some 10) : pF (hpV E V) o 10 47 (.int x) = some (hpV E (wF V o 47 x)) := s_pI hc (by simp [fldV, fld10]) (by simp [fldV, fld10, wF, up_s, va_up])
theorem w10_52 {E : VE} {V : VT} {o : Nat} {x : Int64} (hc : clsAt o = some 10) : pF (hpV E V) o 10 52 (.long x) = some (hpV E (wG V o 52 x)) := s_pL hc (by simp [fldV, fld10]) (by simp [fldV, fld10, wG, up_s, va_up])
theorem ch1_1 {o : Nat} (hc : clsAt o = some 1) : arrAt (o + 1) = some (.int, 1000) := by
  have key : ∀ o, o < 178 → clsAt o = some 1 → arrAt (o + 1) = some (.int, 1000) := by decide +kernel
  by_cases h : o < 178
  · exact key o h hc
  · rw [cls_big (by omega)] at hc
    cases hc
theorem ch1_2 {o : Nat} (hc : clsAt o = some 1) : arrAt (o + 2) = some (.int, 64) := by
  have key : ∀ o, o < 178 → clsAt o = some 1 → arrAt (o + 2) = some (.int, 64) := by decide +kernel
  by_cases h : o < 178
  · exact key o h hc
  · rw [cls_big (by omega)] at hc
    cases hc
theorem ch2_1 {o : Nat} (hc : clsAt o = some 2) : arrAt (o + 1) = some (.int, 40) := by
  have key : ∀ o, o < 178 → clsAt o = some 2 → arrAt (o + 1) = some (.int, 40) := by decide +kernel
  by_cases h : o < 178
  · exact key o h hc
  · rw [cls_big (by omega)] at hc
    cases hc
theorem ch2_2 {o : Nat} (hc : clsAt o = some 2) : arrAt (o + 2) = some (.int, 40) := by
  have key : ∀ o, o < 178 → clsAt o = some 2 → arrAt (o + 2) = some (.int, 40) := by decide +kernel
  by_cases h : o < 178
  · exact key o h hc
  · rw [cls_big (by omega)] at hc
    cases hc
theorem ch5_2 {o : Nat} (hc : clsAt o = some 5) : arrAt (o + 2) = some (.int, 7) := by
  have key : ∀ o, o < 178 → clsAt o = some 5 → arrAt (o + 2) = some (.int, 7) := by decide +kernel
  by_cases h : o < 178
  · exact key o h hc
  · rw [cls_big (by omega)] at hc
    cases hc
theorem ch5_3 {o : Nat} (hc : clsAt o = some 5) : arrAt (o + 3) = some (.int, 7) := by
  have key : ∀ o, o < 178 → clsAt o = some 5 → arrAt (o + 3) = some (.int, 7) := by decide +kernel
  by_cases h : o < 178
  · exact key o h hc
  · rw [cls_big (by omega)] at hc
    cases hc
theorem ch5_4 {o : Nat} (hc : clsAt o = some 5) : arrAt (o + 4) = some (.int, 7) := by
  have key : ∀ o, o < 178 → clsAt o = some 5 → arrAt (o + 4) = some (.int, 7) := by decide +kernel
  by_cases h : o < 178
  · exact key o h hc
  · rw [cls_big (by omega)] at hc
    cases hc
theorem ch5_5 {o : Nat} (hc : clsAt o = some 5) : arrAt (o + 5) = some (.int, 7) := by
  have key : ∀ o, o < 178 → clsAt o = some 5 → arrAt (o + 5) = some (.int, 7) := by decide +kernel
  by_cases h : o < 178
  · exact key o h hc
  · rw [cls_big (by omega)] at hc
    cases hc
theorem ch7_1 {o : Nat} (hc : clsAt o = some 7) : arrAt (o + 1) = some (.int, 8) := by
  have key : ∀ o, o < 178 → clsAt o = some 7 → arrAt (o + 1) = some (.int, 8) := by decide +kernel
  by_cases h : o < 178
  · exact key o h hc
  · rw [cls_big (by omega)] at hc
    cases hc
theorem ch7_2 {o : Nat} (hc : clsAt o = some 7) : arrAt (o + 2) = some (.int, 8) := by
  have key : ∀ o, o < 178 → clsAt o = some 7 → arrAt (o + 2) = some (.int, 8) := by decide +kernel
  by_cases h : o < 178
  · exact key o h hc
  · rw [cls_big (by omega)] at hc
    cases hc
theorem ch7_3 {o : Nat} (hc : clsAt o = some 7) : arrAt (o + 3) = some (.boolean, 8) := by
  have key : ∀ o, o < 178 → clsAt o = some 7 → arrAt (o + 3) = some (.boolean, 8) := by decide +kernel
  by_cases h : o < 178
  · exact key o h hc
  · rw [cls_big (by omega)] at hc
    cases hc
theorem ch8_1 {o : Nat} (hc : clsAt o = some 8) : arrAt (o + 1) = some (.int, 7) := by
  have key : ∀ o, o < 178 → clsAt o = some 8 → arrAt (o + 1) = some (.int, 7) := by decide +kernel
  by_cases h : o < 178
  · exact key o h hc
  · rw [cls_big (by omega)] at hc
    cases hc
theorem ch8_2 {o : Nat} (hc : clsAt o = some 8) : arrAt (o + 2) = some (.int, 7) := by
  have key : ∀ o, o < 178 → clsAt o = some 8 → arrAt (o + 2) = some (.int, 7) := by decide +kernel
  by_cases h : o < 178
  · exact key o h hc
  · rw [cls_big (by omega)] at hc
    cases hc
theorem ch5_1 {o : Nat} (hc : clsAt o = some 5) : lngAt (o + 1) = some 7 := by
  have key : ∀ o, o < 178 → clsAt o = some 5 → lngAt (o + 1) = some 7 := by decide +kernel
  by_cases h : o < 178
  · exact key o h hc
  · rw [cls_big (by omega)] at hc
    cases hc
theorem ch5o_6 {o : Nat} (hc : clsAt o = some 5) : clsAt (o + 6) = some 1 := by
  have key : ∀ o, o < 178 → clsAt o = some 5 → clsAt (o + 6) = some 1 := by decide +kernel
  by_cases h : o < 178
  · exact key o h hc
  · rw [cls_big (by omega)] at hc
    cases hc
theorem ch3o_1 {o : Nat} (hc : clsAt o = some 3) : clsAt (o + 1) = some 8 := by
  have key : ∀ o, o < 178 → clsAt o = some 3 → clsAt (o + 1) = some 8 := by decide +kernel
  by_cases h : o < 178
  · exact key o h hc
  · rw [cls_big (by omega)] at hc
    cases hc
theorem ch3o_4 {o : Nat} (hc : clsAt o = some 3) : clsAt (o + 4) = some 2 := by
  have key : ∀ o, o < 178 → clsAt o = some 3 → clsAt (o + 4) = some 2 := by decide +kernel
  by_cases h : o < 178
  · exact key o h hc
  · rw [cls_big (by omega)] at hc
    cases hc
theorem ch3o_7 {o : Nat} (hc : clsAt o = some 3) : clsAt (o + 7) = some 7 := by
  have key : ∀ o, o < 178 → clsAt o = some 3 → clsAt (o + 7) = some 7 := by decide +kernel
  by_cases h : o < 178
  · exact key o h hc
  · rw [cls_big (by omega)] at hc
    cases hc
/-- steps of a simulation -/
theorem sb_bind {α β γ : Type} {o : Option α} {f : α → Option β} {g : α → Option γ} {φ : γ → β} (h : ∀ x, f x = (g x).map φ) : o.bind f = (o.bind g).map φ := by
  cases o with
  | none => rfl
  | some x => exact h x
theorem sb_some {α β γ : Type} {o : Option α} {x : α} {f : α → Option β} {g : Option γ} {φ : γ → β} (e : o = some x) (h : f x = g.map φ) : o.bind f = g.map φ := by
  rw [e]
  exact h
theorem sb_V {β γ : Type} {E : VE} {o : Option qH} {o' : Option VT} {f : qH → Option β} {g : VT → Option γ} {φ : γ → β} (e : o = o'.map (hpV E)) (h : ∀ V, f (hpV E V) = (g V).map φ) : o.bind f = (o'.bind g).map φ := by
  rw [e]
  cases o' with
  | none => rfl
  | some x => exact h x
theorem sb_P {α β γ : Type} {E : VE} {o : Option (α × qH)} {o' : Option (α × VT)} {f : α × qH → Option β} {g : α × VT → Option γ} {φ : γ → β} (e : o = o'.map (fun p => (p.1, hpV E p.2))) (h : ∀ p : α × VT, f (p.1, hpV E p.2) = (g p).map φ) : o.bind f = (o'.bind g).map φ := by
  rw [e]
  cases o' with
  | none => rfl
  | some x => exact h x
theorem sb_ite {β γ : Type} {c : Prop} [Decidable c] {a b : Option β} {a' b' : Option γ} {φ : γ → β} (ht : a = a'.map φ) (hf : b = b'.map φ) : (if c then a else b) = (if c then a' else b').map φ := by
  split
  · exact ht
  · exact hf
theorem clsAt_31 (k : Nat) (hk : k < 16) : clsAt (32 + 3 * k) = some 8 := by
  have key : ∀ k, k < 16 → clsAt (32 + 3 * k) = some 8 := by decide +kernel
  exact key k hk
theorem clsAt_90 (k : Nat) (hk : k < 4) : clsAt (93 + 11 * k) = some 3 := by
  have key : ∀ k, k < 4 → clsAt (93 + 11 * k) = some 3 := by decide +kernel
  exact key k hk
theorem cls_T {E : VE} (hT : E.1 = 6 ∨ E.1 = 15) : clsAt E.1 = some 5 ∧ clsAt (21 - E.1) = some 5 := by
  rcases hT with h | h <;> rw [h] <;> exact ⟨rfl, rfl⟩
