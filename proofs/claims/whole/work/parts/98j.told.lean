/-! PURE: a PAST as it is read: what both hold of it. -/
abbrev DST : Type := PP × Vf × (Bool × Bool × Bool × Bool) × List Nat
def DST.q (D : DST) : PP := D.1
def DST.v (D : DST) : Vf := D.2.1
def DST.b (D : DST) : Bool × Bool × Bool × Bool := D.2.2.1
def DST.cs (D : DST) : List Nat := D.2.2.2
/-- knife, pot, adds, takes told: the class's bits, the model's -/
def stC (b : Bool × Bool × Bool × Bool) : Nat := (if b.1 = true then 16 else 0) + (if b.2.1 = true then 32 else 0) + (if b.2.2.1 = true then 64 else 0) + (if b.2.2.2 = true then 128 else 0)
def stM (b : Bool × Bool × Bool × Bool) : Nat := (if b.1 = true then 2 else 0) + (if b.2.2.1 = true then 4 else 0) + (if b.2.1 = true then 8 else 0)
def thV : Vf := fun _ _ _ t => t
def DrC (V : VT) (T : Nat) (D : DST) : Prop := (V.F T 6 = nI D.q.n ∧ V.F T 7 = nI D.q.kn ∧ V.F T 8 = nI D.q.fu ∧ V.F T 9 = nI D.q.ad ∧ V.F T 10 = nI (stC D.b)) ∧ (∀ m, m < D.q.n → V.A (T + 2) m = nI (D.q.kd m) ∧ V.A (T + 3) m = nI (D.q.bi m) ∧ V.A (T + 4) m = nI (D.q.to m) ∧ V.A (T + 5) m = nI (D.q.le m) ∧ V.L (T + 1) m = lN (e32 (D.q.nm m))) ∧ ∃ sl, LwS V (T + 6) sl ∧ PV 0 sl D.v
def DrM (V : VT) (D : DST) : Prop := (V.A 139 4 = nI D.q.n ∧ V.A 139 5 = nI D.q.kn ∧ V.A 139 6 = nI D.q.ad ∧ V.A 139 7 = nI D.q.fu) ∧ V.F 137 20 = nI (stM D.b) ∧ (∀ m, m < D.q.n → V.A 141 (7 + m) = nI (D.q.kd m) ∧ V.A 142 (7 + m) = nI (D.q.bi m) ∧ V.A 143 (7 + m) = nI (D.q.to m) ∧ V.A 144 (7 + m) = nI (D.q.le m) ∧ V.L 140 (7 + m) = lN (e27 (D.q.nm m))) ∧ V.A 145 1 = nI 1000 ∧ (V.A 146 1 = nI (1000 + D.cs.length) ∧ D.cs.length ≤ 1000) ∧ PB V D.cs
def GoodD (D : DST) : Prop := GoodP D.q ∧ GoodN D.q ∧ (D.b.2.2.2 = false → D.cs = [] ∧ D.v = thV) ∧ (D.b.2.2.2 = true → D.cs ≠ [] ∧ CE 0 D.cs D.v)
/-- but for the draft and the reader -/
def dfr (T : Nat) (V W : VT) : Prop := ∀ a, a ≠ 3 → ¬ (T ≤ a ∧ a ≤ T + 8) → eqs V W a
theorem dfr.rf {T : Nat} {V : VT} : dfr T V V := fun _ _ _ => ⟨rfl, rfl, rfl⟩
theorem dfr.trans {T : Nat} {V W X : VT} (h : dfr T V W) (k : dfr T W X) : dfr T V X := fun a h1 h2 => (h a h1 h2).trans (k a h1 h2)
theorem rwe.d {V W : VT} (T : Nat) (h : rwe V W) : dfr T V W := fun a h1 _ => ⟨by rw [h.1], by rw [h.2.1], h.2.2 a h1⟩
theorem dfr_A {T : Nat} {V : VT} {a : Nat} (k : Nat) (x : Int32) (h : T ≤ a ∧ a ≤ T + 8) : dfr T V (wA V a k x) := fun b _ h2 => ⟨wA_n V k x (fun e => h2 (by omega)), rfl, rfl⟩
theorem dfr_L {T : Nat} {V : VT} {a : Nat} (k : Nat) (x : Int64) (h : T ≤ a ∧ a ≤ T + 8) : dfr T V (wL V a k x) := fun b _ h2 => ⟨rfl, wL_n V k x (fun e => h2 (by omega)), rfl⟩
theorem dfr_F {T : Nat} {V : VT} {a : Nat} (k : Nat) (x : Int32) (h : T ≤ a ∧ a ≤ T + 8) : dfr T V (wF V a k x) := fun b _ h2 => ⟨rfl, rfl, funext (fun j => by rw [wF_F, if_neg (fun e => h2 (by omega))])⟩
theorem rwe_wA {V W : VT} (h : rwe V W) (a k : Nat) (x : Int32) : rwe (wA V a k x) (wA W a k x) := by
  refine ⟨funext (fun i => funext (fun j => ?_)), h.2.1, h.2.2⟩
  rw [wA_A, wA_A, h.1]
theorem wL_L (V : VT) (a k : Nat) (x : Int64) (i j : Nat) : (wL V a k x).L i j = if i = a ∧ j = k then x else V.L i j := by
  by_cases h : i = a
  · subst h
    rw [wL_s]
    by_cases h2 : j = k
    · subst h2
      rw [pk_uLs, if_pos ⟨rfl, rfl⟩]
    · rw [pk_uLn h2, if_neg (fun q => h2 q.2)]
  · rw [wL_n _ _ _ h, if_neg (fun q => h q.1)]
theorem rwe_wL {V W : VT} (h : rwe V W) (a k : Nat) (x : Int64) : rwe (wL V a k x) (wL W a k x) := by
  refine ⟨h.1, funext (fun i => funext (fun j => ?_)), h.2.2⟩
  rw [wL_L, wL_L, h.2.1]
theorem rwe_wF {V W : VT} (h : rwe V W) {o : Nat} (ho : o ≠ 3) (k : Nat) (x : Int32) : rwe (wF V o k x) (wF W o k x) := by
  refine ⟨h.1, h.2.1, fun i hi => funext (fun j => ?_)⟩
  rw [wF_F, wF_F, h.2.2 i hi]
def dmf (V W : VT) : Prop := (∀ a, ¬ (137 ≤ a ∧ a ≤ 149) → eqs V W a) ∧ W.A 138 = V.A 138 ∧ (W.F 137 0 = V.F 137 0 ∧ W.F 137 1 = V.F 137 1 ∧ W.F 137 47 = V.F 137 47) ∧ (∀ i, i < 4 → W.A 139 i = V.A 139 i) ∧ (∀ i, i < 7 → W.L 140 i = V.L 140 i ∧ W.A 141 i = V.A 141 i ∧ W.A 142 i = V.A 142 i ∧ W.A 143 i = V.A 143 i ∧ W.A 144 i = V.A 144 i) ∧ (W.A 145 0 = V.A 145 0 ∧ W.A 146 0 = V.A 146 0) ∧ ∀ i, i < 1000 → W.A 147 i = V.A 147 i
theorem dmf.rf {V : VT} : dmf V V := ⟨fun _ _ => ⟨rfl, rfl, rfl⟩, rfl, ⟨rfl, rfl, rfl⟩, fun _ _ => rfl, fun _ _ => ⟨rfl, rfl, rfl, rfl, rfl⟩, ⟨rfl, rfl⟩, fun _ _ => rfl⟩
theorem dmf.trans {V W X : VT} (h : dmf V W) (k : dmf W X) : dmf V X := ⟨fun a ha => (h.1 a ha).trans (k.1 a ha), k.2.1.trans h.2.1, ⟨k.2.2.1.1.trans h.2.2.1.1, k.2.2.1.2.1.trans h.2.2.1.2.1, k.2.2.1.2.2.trans h.2.2.1.2.2⟩, fun i hi => (k.2.2.2.1 i hi).trans (h.2.2.2.1 i hi), fun i hi => ⟨(k.2.2.2.2.1 i hi).1.trans (h.2.2.2.2.1 i hi).1, (k.2.2.2.2.1 i hi).2.1.trans (h.2.2.2.2.1 i hi).2.1, (k.2.2.2.2.1 i hi).2.2.1.trans (h.2.2.2.2.1 i hi).2.2.1, (k.2.2.2.2.1 i hi).2.2.2.1.trans (h.2.2.2.2.1 i hi).2.2.2.1, (k.2.2.2.2.1 i hi).2.2.2.2.trans (h.2.2.2.2.1 i hi).2.2.2.2⟩, ⟨k.2.2.2.2.2.1.1.trans h.2.2.2.2.2.1.1, k.2.2.2.2.2.1.2.trans h.2.2.2.2.2.1.2⟩, fun i hi => (k.2.2.2.2.2.2 i hi).trans (h.2.2.2.2.2.2 i hi)⟩
theorem mwn.d {V W : VT} (h : mwn V W) : dmf V W := ⟨fun a ha => ⟨by rw [h.1], by rw [h.2.1], funext (fun k => h.2.2 a k (by omega))⟩, by rw [h.1], ⟨h.2.2 _ _ (by omega), h.2.2 _ _ (by omega), h.2.2 _ _ (by omega)⟩, fun i _ => by rw [h.1], fun i _ => by rw [h.1, h.2.1]; exact ⟨rfl, rfl, rfl, rfl, rfl⟩, by rw [h.1]; exact ⟨rfl, rfl⟩, fun i _ => by rw [h.1]⟩
theorem mwp.d {V W : VT} (h : mwp V W) : dmf V W := by
  obtain ⟨h1, h2, h3, h4⟩ := h
  refine ⟨fun a ha => ⟨h2 a (by omega) (by omega) (by omega), by rw [h1], funext (fun k => h4 a k (by omega))⟩, h2 138 (by omega) (by omega) (by omega), ⟨h4 _ _ (by omega), h4 _ _ (by omega), h4 _ _ (by omega)⟩, fun i _ => by rw [h2 139 (by omega) (by omega) (by omega)], fun i _ => ?_, ?_, h3⟩
  · rw [h1, h2 141 (by omega) (by omega) (by omega), h2 142 (by omega) (by omega) (by omega), h2 143 (by omega) (by omega) (by omega), h2 144 (by omega) (by omega) (by omega)]
    exact ⟨rfl, rfl, rfl, rfl, rfl⟩
  · rw [h2 145 (by omega) (by omega) (by omega), h2 146 (by omega) (by omega) (by omega)]
    exact ⟨rfl, rfl⟩
theorem dmf_A {V : VT} {a k : Nat} (x : Int32) (h : a = 139 ∧ 4 ≤ k ∨ 141 ≤ a ∧ a ≤ 144 ∧ 7 ≤ k ∨ (a = 145 ∨ a = 146) ∧ 1 ≤ k) : dmf V (wA V a k x) := by
  have e : ∀ i j, ¬ (i = a ∧ j = k) → (wA V a k x).A i j = V.A i j := fun i j q => by rw [wA_A, if_neg q]
  refine ⟨fun b hb => ⟨wA_n V k x (by omega), rfl, rfl⟩, wA_n V k x (by omega), ⟨rfl, rfl, rfl⟩, fun i hi => e _ _ (by omega), fun i hi => ⟨rfl, e _ _ (by omega), e _ _ (by omega), e _ _ (by omega), e _ _ (by omega)⟩, ⟨e _ _ (by omega), e _ _ (by omega)⟩, fun i hi => e _ _ (by omega)⟩
theorem dmf_L {V : VT} {k : Nat} (x : Int64) (h : 7 ≤ k) : dmf V (wL V 140 k x) := ⟨fun b hb => ⟨rfl, wL_n V k x (by omega), rfl⟩, rfl, ⟨rfl, rfl, rfl⟩, fun i hi => rfl, fun i hi => ⟨by rw [wL_L, if_neg (by omega)], rfl, rfl, rfl, rfl⟩, ⟨rfl, rfl⟩, fun i hi => rfl⟩
theorem dmf_F {V : VT} {k : Nat} (x : Int32) (h : k ≠ 0 ∧ k ≠ 1 ∧ k ≠ 47) : dmf V (wF V 137 k x) := ⟨fun b hb => ⟨rfl, rfl, funext (fun j => by rw [wF_F, if_neg (by omega)])⟩, rfl, ⟨by rw [wF_F, if_neg (by omega)], by rw [wF_F, if_neg (by omega)], by rw [wF_F, if_neg (by omega)]⟩, fun i hi => rfl, fun i hi => ⟨rfl, rfl, rfl, rfl, rfl⟩, ⟨rfl, rfl⟩, fun i hi => rfl⟩
theorem mwn_wA {V W : VT} (h : mwn V W) (a k : Nat) (x : Int32) : mwn (wA V a k x) (wA W a k x) := by
  refine ⟨funext (fun i => funext (fun j => ?_)), h.2.1, h.2.2⟩
  rw [wA_A, wA_A, h.1]
theorem mwn_wL {V W : VT} (h : mwn V W) (a k : Nat) (x : Int64) : mwn (wL V a k x) (wL W a k x) := by
  refine ⟨h.1, funext (fun i => funext (fun j => ?_)), h.2.2⟩
  rw [wL_L, wL_L, h.2.1]
/-- a statement: both go the same way -/
def Stm (tp : List Nat) (T a : Nat) (D : DST) (s : PS) (D' : DST) (fc : VT → Option VT) (fm : VT → Option (Int32 × VT)) : Prop := (s.1 ≤ tp.length ∧ s.2 < 2 ^ 20 ∧ (s.2 = 0 → GoodD D' ∧ a < s.1)) ∧ (∀ V, RC V tp a 0 → DrC V T D → tot (fc V) (fun W => AL W tp s ∧ (s.2 = 0 → DrC W T D') ∧ dfr T V W)) ∧ ∀ V, MC V tp a → DrM V D → tot (fm V) (fun r => (s.2 ≠ 0 → r.1 = nI 0 ∧ r.2.F 137 9 = nI s.2) ∧ (s.2 = 0 → r.1 = nI 1 ∧ MC r.2 tp s.1 ∧ DrM r.2 D') ∧ dmf V r.2)
section PInv
variable {tp : List Nat} {s : PS} {k lo hi : Nat} {q : PP}
theorem sG_0 {t : Nat} (h : (sG tp t s).2 = 0) : s.2 = 0 ∧ tyN tp s.1 = t ∧ sG tp t s = (enN tp s.1, 0) := by
  unfold sG at h ⊢
  by_cases h0 : s.2 = 0
  · rw [if_pos h0] at h ⊢
    by_cases e : tyN tp s.1 = t
    · rw [if_pos e]
      exact ⟨h0, e, rfl⟩
    · rw [if_neg e] at h
      have h : 1 + 16 * plN tp s.1 = 0 := h
      omega
  · rw [if_neg h0] at h
    exact absurd h h0
theorem sK_0 (h : (sK tp k s).2 = 0) : s.2 = 0 ∧ kN tp s.1 = k ∧ sK tp k s = (enN tp s.1, 0) := by
  unfold sK at h ⊢
  by_cases h0 : s.2 = 0
  · rw [if_pos h0] at h ⊢
    by_cases e : kN tp s.1 = k
    · rw [if_pos e]
      exact ⟨h0, e, rfl⟩
    · rw [if_neg e] at h
      have h : 1 + 16 * plN tp s.1 = 0 := h
      omega
  · rw [if_neg h0] at h
    exact absurd h h0
theorem sN_0 (h : (sN tp lo hi s).2 = 0) : s.2 = 0 ∧ (tyN tp s.1 = 3 ∧ lo ≤ nuN tp s.1 ∧ nuN tp s.1 ≤ hi) ∧ sN tp lo hi s = (enN tp s.1, 0) := by
  unfold sN at h ⊢
  by_cases h0 : s.2 = 0
  · rw [if_pos h0] at h ⊢
    by_cases e : nwB tp s.1 lo hi = 0
    · rw [if_pos e]
      refine ⟨h0, ?_, rfl⟩
      unfold nwB at e
      split at e
      · rename_i e1
        split at e
        · rename_i e2
          exact ⟨e1, e2⟩
        · omega
      · omega
    · rw [if_neg e] at h
      have h : nwB tp s.1 lo hi + 16 * plN tp s.1 = 0 := h
      omega
  · rw [if_neg h0] at h
    exact absurd h h0
theorem sNew_0 (h : (sNew tp q s).2 = 0) : s.2 = 0 ∧ tyN tp s.1 = 2 ∧ sNew tp q s = (enN tp s.1, 0) := by
  unfold sNew at h ⊢
  by_cases h0 : s.2 = 0
  · rw [if_pos h0] at h ⊢
    by_cases e : nmB tp s.1 = true
    · rw [if_pos e] at h ⊢
      by_cases e2 : nmF q (woN tp s.1) = none
      · rw [if_pos e2]
        exact ⟨h0, (of_decide_eq_true e).1, rfl⟩
      · rw [if_neg e2] at h
        have h : 3 + 16 * plN tp s.1 = 0 := h
        omega
    · rw [if_neg e] at h
      have h : 1 + 16 * plN tp s.1 = 0 := h
      omega
  · rw [if_neg h0] at h
    exact absurd h h0
theorem sKd_0 (h : (sKd tp s).2 = 0) : s.2 = 0 ∧ (11 ≤ kN tp s.1 ∧ kN tp s.1 ≤ 14) ∧ sKd tp s = (enN tp s.1, 0) := by
  unfold sKd at h ⊢
  by_cases h0 : s.2 = 0
  · rw [if_pos h0] at h ⊢
    by_cases e : 11 ≤ kN tp s.1 ∧ kN tp s.1 ≤ 14
    · rw [if_pos e]
      exact ⟨h0, e, rfl⟩
    · rw [if_neg e] at h
      have h : 1 + 16 * plN tp s.1 = 0 := h
      omega
  · rw [if_neg h0] at h
    exact absurd h h0
/-- dead, nothing changes -/
theorem s_dead (h : s.2 ≠ 0) (t : Nat) : sG tp t s = s ∧ sK tp k s = s ∧ sN tp lo hi s = s ∧ sNew tp q s = s ∧ sKd tp s = s := ⟨if_neg h, if_neg h, if_neg h, if_neg h, if_neg h⟩
/-- bounds -/
def okS (tp : List Nat) (s : PS) : Prop := s.1 ≤ tp.length ∧ s.2 < 2 ^ 20
theorem ok_f (ht : GoodT tp) {a : Nat} (ha : a ≤ tp.length) (hk : k < 16) : okS tp (a, k + 16 * plN tp a) := by
  have := pl_le ha
  have := ht.1
  exact ⟨ha, by show k + 16 * plN tp a < 2 ^ 20; omega⟩
theorem ok_e {a : Nat} (ha : a ≤ tp.length) : okS tp (enN tp a, 0) := ⟨(en_le ha).2, by show 0 < 2 ^ 20; decide⟩
theorem ok_G (ht : GoodT tp) (h : okS tp s) (t : Nat) : okS tp (sG tp t s) := by
  unfold sG
  split
  · split
    · exact ok_e h.1
    · exact ok_f ht h.1 (by omega)
  · exact h
theorem ok_K (ht : GoodT tp) (h : okS tp s) (k : Nat) : okS tp (sK tp k s) := by
  unfold sK
  split
  · split
    · exact ok_e h.1
    · exact ok_f ht h.1 (by omega)
  · exact h
theorem ok_N (ht : GoodT tp) (h : okS tp s) (lo hi : Nat) : okS tp (sN tp lo hi s) := by
  unfold sN
  split
  · split
    · exact ok_e h.1
    · refine ok_f ht h.1 ?_
      unfold nwB
      split
      · split <;> omega
      · omega
  · exact h
theorem ok_New (ht : GoodT tp) (h : okS tp s) (q : PP) : okS tp (sNew tp q s) := by
  unfold sNew
  split
  · split
    · split
      · exact ok_e h.1
      · exact ok_f ht h.1 (by omega)
    · exact ok_f ht h.1 (by omega)
  · exact h
theorem ok_Kd (ht : GoodT tp) (h : okS tp s) : okS tp (sKd tp s) := by
  unfold sKd
  split
  · split
    · exact ok_e h.1
    · exact ok_f ht h.1 (by omega)
  · exact h
theorem en_lt2 {a : Nat} (ha : a ≤ tp.length) (h : tyN tp a ≠ 0) : a < enN tp a := by
  have := en_lt h
  have := pl_le ha
  omega
end PInv
