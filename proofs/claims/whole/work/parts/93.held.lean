/-! PURE: all that is held, by both. -/
abbrev MK : Type := Nat → Option (ST × LN × SN)
abbrev AB : Type := PP × ST × List ST × LN × SN × MK × List Nat
def AB.p (A : AB) : PP := A.1
def AB.S (A : AB) : ST := A.2.1
def AB.H (A : AB) : List ST := A.2.2.1
def AB.ls (A : AB) : LN := A.2.2.2.1
def AB.es (A : AB) : SN := A.2.2.2.2.1
def AB.mk (A : AB) : MK := A.2.2.2.2.2.1
def AB.tp (A : AB) : List Nat := A.2.2.2.2.2.2
def sD : ST := mkS (fun _ => 0) (fun _ => 0) 0 0
def gch (x : Nat) : Prop := x = 10 ∨ 32 ≤ x ∧ x ≤ 126
def GoodT (tp : List Nat) : Prop := tp.length ≤ 1000 ∧ ∀ i, i < tp.length → gch (tp.getD i 0)
def GoodH (p : PP) (c : Nat) (H : List ST) : Prop := H.length ≤ 16 ∧ ∀ i, i < H.length → GoodS p c (H.getD i sD)
def GoodM (p : PP) (c : Nat) (mk : MK) : Prop := ∀ k T, k < 4 → mk k = some T → GoodS p c T.1 ∧ GoodL p T.2.1 ∧ GoodE T.2.2
/-- names are words -/
def GoodN (p : PP) : Prop := ∀ m, m < p.n → (∀ d, d ∈ p.nm m → 1 ≤ d ∧ d ≤ 26) ∧ (p.nm m).length ≤ 8
def GoodA (c : Nat) (A : AB) : Prop := GoodP A.p ∧ GoodS A.p c A.S ∧ GoodH A.p c A.H ∧ GoodL A.p A.ls ∧ GoodE A.es ∧ GoodM A.p c A.mk ∧ GoodT A.tp ∧ GoodN A.p
theorem GoodH.mono {p : PP} {c d : Nat} {H : List ST} (h : GoodH p c H) (e : c ≤ d) : GoodH p d H := ⟨h.1, fun i hi => (h.2 i hi).mono e⟩
theorem GoodM.mono {p : PP} {c d : Nat} {m : MK} (h : GoodM p c m) (e : c ≤ d) : GoodM p d m := fun k T hk hT => ⟨(h k T hk hT).1.mono e, (h k T hk hT).2⟩
theorem GoodA.mono {c d : Nat} {A : AB} (h : GoodA c A) (e : c ≤ d) : GoodA d A := ⟨h.1, h.2.1.mono e, h.2.2.1.mono e, h.2.2.2.1, h.2.2.2.2.1, h.2.2.2.2.2.1.mono e, h.2.2.2.2.2.2⟩
def HisC (V : VT) (n : Nat) (H : List ST) : Prop := ∃ nx, nx < 16 ∧ V.F 30 1 = nI H.length ∧ V.F 30 2 = nI nx ∧ ∀ j, j < H.length → StC V (32 + 3 * ((nx + 15 - j) % 16)) n (H.getD j sD)
def HisM (V : VT) (n : Nat) (H : List ST) : Prop := V.F 137 47 = nI H.length ∧ ∀ j, j < H.length → Row V 171 (16 * (H.length - 1 - j)) n (H.getD j sD)
def MkC (V : VT) (n : Nat) (mk : MK) : Prop := ∀ k, k < 4 → (mk k = none → V.F (93 + 11 * k) 3 = nI 0) ∧ ∀ T, mk k = some T → V.F (93 + 11 * k) 3 = nI 1 ∧ StC V (94 + 11 * k) n T.1 ∧ LinC V (97 + 11 * k) T.2.1 ∧ SeenC V (100 + 11 * k) T.2.2
def MkM (V : VT) (n : Nat) (mk : MK) : Prop := ∀ k, k < 4 → (mk k = none → V.A 172 k = nI 0) ∧ ∀ T, mk k = some T → V.A 172 k = nI 1 ∧ Row V 170 (16 * k) n T.1 ∧ LinM V (1 + k) T.2.1 ∧ SeenM V (1 + k) T.2.2
def TpC (V : VT) (tp : List Nat) : Prop := V.F 3 1 = nI tp.length ∧ ∀ i, i < tp.length → V.A 4 i = nI (tp.getD i 0)
def TpM (V : VT) (tp : List Nat) : Prop := V.F 137 1 = nI tp.length ∧ ∀ i, i < tp.length → V.A 138 i = nI (tp.getD i 0)
def CR (E : VE) (V : VT) (A : AB) : Prop := (E.1 = 6 ∨ E.1 = 15) ∧ PastC V E.1 A.p ∧ StC V 24 A.p.n A.S ∧ HisC V A.p.n A.H ∧ LinC V 80 A.ls ∧ SeenC V 86 A.es ∧ MkC V A.p.n A.mk ∧ TpC V A.tp
def MR (V : VT) (A : AB) : Prop := PastM V A.p ∧ MSt V A.p.n A.S ∧ HisM V A.p.n A.H ∧ LinM V 0 A.ls ∧ SeenM V 0 A.es ∧ MkM V A.p.n A.mk ∧ TpM V A.tp
/-- these cells are the same -/
def eqs (V W : VT) (a : Nat) : Prop := W.A a = V.A a ∧ W.L a = V.L a ∧ W.F a = V.F a
def lo (V W : VT) : Prop := ∀ a, 137 ≤ a → eqs V W a
def hi (V W : VT) : Prop := ∀ a, a < 137 → eqs V W a
theorem lo.rf {V : VT} : lo V V := fun _ _ => ⟨rfl, rfl, rfl⟩
theorem hi.rf {V : VT} : hi V V := fun _ _ => ⟨rfl, rfl, rfl⟩
theorem eqs.trans {V W X : VT} {a : Nat} (h : eqs V W a) (k : eqs W X a) : eqs V X a := ⟨k.1.trans h.1, k.2.1.trans h.2.1, k.2.2.trans h.2.2⟩
theorem lo.trans {V W X : VT} (h : lo V W) (k : lo W X) : lo V X := fun a ha => (h a ha).trans (k a ha)
theorem hi.trans {V W X : VT} (h : hi V W) (k : hi W X) : hi V X := fun a ha => (h a ha).trans (k a ha)
theorem fr_eqs {A : Nat → Prop} {F : Nat → Nat → Prop} {V W : VT} (f : fr A F V W) {a : Nat} (hA : ¬ A a) (hF : ∀ k, ¬ F a k) : eqs V W a := ⟨f.2.2.1 a hA, by rw [f.1], funext (fun k => f.2.2.2 a k (hF k))⟩
theorem fr_lo {A : Nat → Prop} {F : Nat → Nat → Prop} {V W : VT} (f : fr A F V W) (hA : ∀ a, A a → a < 137) (hF : ∀ i k, F i k → i < 137) : lo V W := fun a ha => fr_eqs f (fun q => by have := hA a q; omega) (fun k q => by have := hF a k q; omega)
theorem sc_lo {V W : VT} (f : fr scA scF V W) : lo V W := fr_lo f (fun a ha => by unfold scA at ha; omega) (fun i k hik => by unfold scF at hik; omega)
theorem mf_hi {V W : VT} (f : mf V W) : hi V W := fun a ha => ⟨f.2.1 a (by unfold mxA; omega), by rw [f.1], funext (fun k => f.2.2 a k (by unfold mxF; omega))⟩
section PHeld
variable {E : VE} {V W : VT} {p : PP} {S : ST} {T n o c N : Nat} {H : List ST} {ls : LN} {es : SN} {mk : MK} {tp : List Nat} {A : AB}
theorem PastC.cg (h : PastC V T p) (e : ∀ a, T ≤ a → a ≤ T + 7 → eqs V W a) : PastC W T p := by
  obtain ⟨g, ⟨a, b, c, d⟩, x, sl, s1, s2, s3, s4⟩ := h
  refine ⟨g, ?_, fun m hm => ?_, sl, s1, ?_, fun i hi => ?_, s4⟩
  · rw [(e T (by omega) (by omega)).2.2]
    exact ⟨a, b, c, d⟩
  · rw [(e (T + 2) (by omega) (by omega)).1, (e (T + 3) (by omega) (by omega)).1, (e (T + 4) (by omega) (by omega)).1, (e (T + 5) (by omega) (by omega)).1, (e (T + 1) (by omega) (by omega)).2.1]
    exact x m hm
  · rw [(e (T + 6) (by omega) (by omega)).2.2, s2]
  · rw [(e (T + 7) (by omega) (by omega)).1, s3 i hi]
theorem StC.cg (h : StC V o n S) (e : ∀ a, o ≤ a → a ≤ o + 2 → eqs V W a) : StC W o n S := by
  unfold StC
  rw [(e o (by omega) (by omega)).2.2, (e (o + 1) (by omega) (by omega)).1, (e (o + 2) (by omega) (by omega)).1]
  exact h
theorem LinC.cg (h : LinC V o ls) (e : ∀ a, o ≤ a → a ≤ o + 2 → eqs V W a) : LinC W o ls := h.at (by rw [(e o (by omega) (by omega)).2.2]) (e (o + 1) (by omega) (by omega)).1 (e (o + 2) (by omega) (by omega)).1
theorem SeenC.cg (h : SeenC V o es) (e : ∀ a, o ≤ a → a ≤ o + 3 → eqs V W a) : SeenC W o es := by
  unfold SeenC
  rw [(e o (by omega) (by omega)).2.2, (e (o + 1) (by omega) (by omega)).1, (e (o + 2) (by omega) (by omega)).1, (e (o + 3) (by omega) (by omega)).1]
  exact h
theorem HisC.cg (h : HisC V n H) (e : ∀ a, 30 ≤ a → a ≤ 79 → eqs V W a) : HisC W n H := by
  obtain ⟨nx, h1, h2, h3, h4⟩ := h
  refine ⟨nx, h1, by rw [(e 30 (by omega) (by omega)).2.2, h2], by rw [(e 30 (by omega) (by omega)).2.2, h3], fun j hj => (h4 j hj).cg (fun a ha hb => e a (by omega) (by omega))⟩
theorem MkC.cg (h : MkC V n mk) (e : ∀ a, 93 ≤ a → a ≤ 136 → eqs V W a) : MkC W n mk := by
  intro k hk
  obtain ⟨h1, h2⟩ := h k hk
  rw [(e (93 + 11 * k) (by omega) (by omega)).2.2]
  refine ⟨h1, fun T hT => ?_⟩
  obtain ⟨a, b, c, d⟩ := h2 T hT
  exact ⟨a, b.cg (fun x hx hy => e x (by omega) (by omega)), c.cg (fun x hx hy => e x (by omega) (by omega)), d.cg (fun x hx hy => e x (by omega) (by omega))⟩
theorem TpC.cg (h : TpC V tp) (e : ∀ a, 3 ≤ a → a ≤ 4 → eqs V W a) : TpC W tp := by
  unfold TpC
  rw [(e 3 (by omega) (by omega)).2.2, (e 4 (by omega) (by omega)).1]
  exact h
theorem CR.hi (h : CR E V A) (e : hi V W) : CR E W A := by
  obtain ⟨h1, h2, h3, h4, h5, h6, h7, h8⟩ := h
  exact ⟨h1, h2.cg (fun a _ _ => e a (by omega)), h3.cg (fun a _ _ => e a (by omega)), h4.cg (fun a _ _ => e a (by omega)), h5.cg (fun a _ _ => e a (by omega)), h6.cg (fun a _ _ => e a (by omega)), h7.cg (fun a _ _ => e a (by omega)), h8.cg (fun a _ _ => e a (by omega))⟩
theorem PastM.cg (h : PastM V p) (e : ∀ a, 139 ≤ a → a ≤ 173 → a ≤ 147 ∨ a = 173 → eqs V W a) : PastM W p := by
  obtain ⟨g, y, x, s0, cl, s1, s2, s3, s4, s5⟩ := h
  refine ⟨g, ?_, fun m hm => ?_, ?_, cl, s1, ?_, fun i hi => ?_, s4, s5⟩
  · rw [(e 139 (by omega) (by omega) (by omega)).1]
    exact y
  · rw [(e 141 (by omega) (by omega) (by omega)).1, (e 142 (by omega) (by omega) (by omega)).1, (e 143 (by omega) (by omega) (by omega)).1, (e 144 (by omega) (by omega) (by omega)).1, (e 173 (by omega) (by omega) (by omega)).1, (e 140 (by omega) (by omega) (by omega)).2.1]
    exact x m hm
  · rw [(e 145 (by omega) (by omega) (by omega)).1]
    exact s0
  · rw [(e 146 (by omega) (by omega) (by omega)).1]
    exact s2
  · rw [(e 147 (by omega) (by omega) (by omega)).1]
    exact s3 i hi
theorem Row.at {a b : Nat} (h : Row V a b n S) (e : W.A a = V.A a) : Row W a b n S := h.cp (fun k _ => by rw [e])
theorem HisM.at (h : HisM V n H) (e1 : W.F 137 47 = V.F 137 47) (e2 : W.A 171 = V.A 171) : HisM W n H := ⟨by rw [e1]; exact h.1, fun j hj => (h.2 j hj).at e2⟩
theorem SeenM.at {r : Nat} (h : SeenM V r es) (h1 : W.A 163 = V.A 163) (h2 : W.A 164 = V.A 164) (h3 : W.A 165 = V.A 165) (h4 : W.A 166 = V.A 166) : SeenM W r es := by
  unfold SeenM
  rw [h1, h2, h3, h4]
  exact h
theorem MkM.at (h : MkM V n mk) (e1 : ∀ a, 160 ≤ a → a ≤ 166 → W.A a = V.A a) (e2 : W.A 170 = V.A 170) (e3 : W.A 172 = V.A 172) : MkM W n mk := by
  intro k hk
  obtain ⟨h1, h2⟩ := h k hk
  rw [e3]
  refine ⟨h1, fun T hT => ?_⟩
  obtain ⟨a, b, c, d⟩ := h2 T hT
  exact ⟨a, b.at e2, c.at (e1 160 (by omega) (by omega)) (e1 161 (by omega) (by omega)) (e1 162 (by omega) (by omega)), d.at (e1 163 (by omega) (by omega)) (e1 164 (by omega) (by omega)) (e1 165 (by omega) (by omega)) (e1 166 (by omega) (by omega))⟩
theorem TpM.at (h : TpM V tp) (e1 : W.F 137 1 = V.F 137 1) (e2 : W.A 138 = V.A 138) : TpM W tp := by
  unfold TpM
  rw [e1, e2]
  exact h
theorem MR.lo (h : MR V A) (e : lo V W) : MR W A := by
  obtain ⟨h1, h2, h3, h4, h5, h6, h7⟩ := h
  refine ⟨h1.cg (fun a _ _ _ => e a (by omega)), h2.at (e 167 (by omega)).1, h3.at (by rw [(e 137 (by omega)).2.2]) (e 171 (by omega)).1, h4.at (e 160 (by omega)).1 (e 161 (by omega)).1 (e 162 (by omega)).1, h5.at (e 163 (by omega)).1 (e 164 (by omega)).1 (e 165 (by omega)).1 (e 166 (by omega)).1, h6.at (fun a _ _ => (e a (by omega)).1) (e 170 (by omega)).1 (e 172 (by omega)).1, h7.at (by rw [(e 137 (by omega)).2.2]) (e 138 (by omega)).1⟩
/-- the class: what a step of states may touch -/
def stA (a : Nat) : Prop := 24 ≤ a ∧ a ≤ 26 ∨ a = 14 ∨ a = 23 ∨ 28 ≤ a ∧ a ≤ 29 ∨ 31 ≤ a ∧ a ≤ 79 ∨ a = 91 ∨ a = 92
def stF (i k : Nat) : Prop := i = 24 ∨ i = 27 ∨ i = 12 ∧ k = 3 ∨ i = 21 ∧ k = 3 ∨ 30 ≤ i ∧ i ≤ 79
theorem sc_st (f : fr scA scF V W) : fr stA stF V W := f.mono (fun a ha => by unfold scA at ha; unfold stA; omega) (fun i k hik => by unfold scF at hik; unfold stF; omega)
theorem st_lo (f : fr stA stF V W) : lo V W := fr_lo f (fun a ha => by unfold stA at ha; omega) (fun i k hik => by unfold stF at hik; omega)
theorem pc_st (hE : E.1 = 6 ∨ E.1 = 15) (h : PastC V E.1 p) (f : fr stA stF V W) : PastC W E.1 p := h.fr f (fun a ha hb => by unfold stA; omega) (fun i k hik => by unfold stF; omega)
theorem CR.st {S' : ST} {H' : List ST} (h : CR E V A) (f : fr stA stF V W) (hs : StC W 24 A.p.n S') (hh : HisC W A.p.n H') : CR E W (A.p, S', H', A.ls, A.es, A.mk, A.tp) := by
  obtain ⟨h1, h2, h3, h4, h5, h6, h7, h8⟩ := h
  have e : ∀ a, 3 ≤ a ∧ a ≤ 4 ∨ 80 ≤ a ∧ a ≤ 90 ∨ 93 ≤ a ∧ a ≤ 136 → eqs V W a := fun a ha => fr_eqs f (by unfold stA; omega) (fun k => by unfold stF; omega)
  exact ⟨h1, pc_st h1 h2 f, hs, hh, h5.cg (fun a _ _ => e a (by omega)), h6.cg (fun a _ _ => e a (by omega)), h7.cg (fun a _ _ => e a (by omega)), h8.cg (fun a _ _ => e a (by omega))⟩
theorem CR.sc (h : CR E V A) (f : fr scA scF V W) : CR E W A := by
  have e : ∀ a, 24 ≤ a ∧ a ≤ 26 ∨ 30 ≤ a ∧ a ≤ 79 → eqs V W a := fun a ha => fr_eqs f (by unfold scA; omega) (fun k => by unfold scF; omega)
  exact h.st (sc_st f) (h.2.2.1.cg (fun a _ _ => e a (by omega))) (h.2.2.2.1.cg (fun a _ _ => e a (by omega)))
/-- the model: what a step of states may touch -/
def mtA (a : Nat) : Prop := mxA a ∨ a = 171
def mtF (i k : Nat) : Prop := i = 137 ∧ (k = 0 ∨ k = 47)
def mt (V W : VT) : Prop := W.L = V.L ∧ (∀ a, ¬ mtA a → W.A a = V.A a) ∧ ∀ i k, ¬ mtF i k → W.F i k = V.F i k
theorem mt.rf : mt V V := ⟨rfl, fun _ _ => rfl, fun _ _ _ => rfl⟩
theorem mt.trans {X : VT} (h : mt V W) (k : mt W X) : mt V X := ⟨k.1.trans h.1, fun a ha => (k.2.1 a ha).trans (h.2.1 a ha), fun i j hij => (k.2.2 i j hij).trans (h.2.2 i j hij)⟩
theorem mf_mt (f : mf V W) : mt V W := ⟨f.1, fun a ha => f.2.1 a (fun q => ha (Or.inl q)), fun i k hk => f.2.2 i k (fun q => hk (by unfold mxF at q; unfold mtF; omega))⟩
theorem fr_mt {A' : Nat → Prop} {F' : Nat → Nat → Prop} (f : fr A' F' V W) (hA : ∀ a, A' a → mtA a) (hF : ∀ i k, F' i k → mtF i k) : mt V W := ⟨f.1, fun a ha => f.2.2.1 a (fun q => ha (hA a q)), fun i k hk => f.2.2.2 i k (fun q => hk (hF i k q))⟩
theorem mt_hi (f : mt V W) : hi V W := fun a ha => ⟨f.2.1 a (by unfold mtA mxA; omega), by rw [f.1], funext (fun k => f.2.2 a k (by unfold mtF; omega))⟩
theorem PastM.mt (h : PastM V p) (f : mt V W) : PastM W p := h.fr (A := mtA) (F := mtF) f.1 f.2.1 (fun a ha => by unfold mtA mxA at ha; omega)
theorem MR.mt {S' : ST} {H' : List ST} (h : MR V A) (f : mt V W) (hs : MSt W A.p.n S') (hh : HisM W A.p.n H') : MR W (A.p, S', H', A.ls, A.es, A.mk, A.tp) := by
  obtain ⟨h1, h2, h3, h4, h5, h6, h7⟩ := h
  have e : ∀ a, a = 138 ∨ 160 ≤ a ∧ a ≤ 166 ∨ a = 170 ∨ a = 172 → W.A a = V.A a := fun a ha => f.2.1 a (by unfold mtA mxA; omega)
  exact ⟨h1.mt f, hs, hh, h4.at (e 160 (by omega)) (e 161 (by omega)) (e 162 (by omega)), h5.at (e 163 (by omega)) (e 164 (by omega)) (e 165 (by omega)) (e 166 (by omega)), h6.at (fun a _ _ => e a (by omega)) (e 170 (by omega)) (e 172 (by omega)), h7.at (f.2.2 137 1 (by unfold mtF; omega)) (e 138 (by omega))⟩
theorem MR.q (h : MR V A) (f : mf V W) (hs : MSt W A.p.n A.S) : MR W A := h.mt (mf_mt f) hs (h.2.2.1.at (f.2.2 137 47 (by unfold mxF; omega)) (f.2.1 171 (by unfold mxA; omega)))
/-- a call: both answer alike, and hold alike behind it -/
def Stq (E : VE) (A : AB) (c : Nat) (f g : VT → Option (Int32 × VT)) : Prop := ∃ (v : Int32) (A' : AB), GoodA (c + 1) A' ∧ (∀ V, CR E V A → tot (f V) (fun r => r.1 = v ∧ CR E r.2 A' ∧ lo V r.2)) ∧ ∀ V, MR V A → tot (g V) (fun r => r.1 = v ∧ MR r.2 A' ∧ hi V r.2)
theorem CR.cq (h : CR E V A) (g : GoodA c A) (hc : c ≤ 1000) : CQ E V A.p A.S c := ⟨h.1, h.2.1, h.2.2.1, g.2.1, hc⟩
theorem MR.mq (h : MR V A) (g : GoodA c A) (hc : c ≤ 1000) : MQn V A.p A.S c := ⟨h.1, h.2.1, g.2.1, hc⟩
theorem st_q {f g : VT → Option (Int32 × VT)} (hg : GoodA c A) (hc : c ≤ 1000) (q : ∃ v, Qc E A.p A.S c f v ∧ Qm A.p A.S c g v) : Stq E A c f g := by
  obtain ⟨v, q1, q2⟩ := q
  exact ⟨v, A, hg.mono (by omega), fun V h => tot_mo (q1 V (h.cq hg hc)) (fun r hr => ⟨hr.1, h.sc hr.2, sc_lo hr.2⟩), fun V h => tot_mo (q2 V (h.mq hg hc)) (fun r hr => ⟨hr.1, h.q hr.2.2 hr.2.1, mf_hi hr.2.2⟩)⟩
theorem st_qS {f g : VT → Option (Int32 × VT)} (hg : GoodA c A) (hc : c ≤ 1000) (q : ∃ v, QcS E A.p A.S c A.es f v ∧ QmS A.p A.S c A.es g v) : Stq E A c f g := by
  obtain ⟨v, q1, q2⟩ := q
  exact ⟨v, A, hg.mono (by omega), fun V h => tot_mo (q1 V (h.cq hg hc) h.2.2.2.2.2.1) (fun r hr => ⟨hr.1, h.sc hr.2, sc_lo hr.2⟩), fun V h => tot_mo (q2 V (h.mq hg hc) h.2.2.2.2.1) (fun r hr => ⟨hr.1, h.q hr.2.2 hr.2.1, mf_hi hr.2.2⟩)⟩
theorem st_qL {f g : VT → Option (Int32 × VT)} (hg : GoodA c A) (hc : c ≤ 1000) (q : ∃ v, QcL E A.p A.S c A.ls f v ∧ QmL A.p A.S c A.ls g v) : Stq E A c f g := by
  obtain ⟨v, q1, q2⟩ := q
  exact ⟨v, A, hg.mono (by omega), fun V h => tot_mo (q1 V (h.cq hg hc) h.2.2.2.2.1) (fun r hr => ⟨hr.1, h.sc hr.2, sc_lo hr.2⟩), fun V h => tot_mo (q2 V (h.mq hg hc) h.2.2.2.1) (fun r hr => ⟨hr.1, h.q hr.2.2 hr.2.1, mf_hi hr.2.2⟩)⟩
/-- thrown is 0 -/
theorem MR.th (h : MR V A) : MR (wF V 137 0 0) A ∧ mf V (wF V 137 0 0) := by
  have f : mf V (wF V 137 0 0) := ⟨rfl, fun _ _ => rfl, fun i j hij => by rw [wF_F]; exact if_neg hij⟩
  exact ⟨h.q f h.2.1, f⟩
/-- the last sixteen -/
def hkL (S : ST) (H : List ST) : List ST := (S :: H).take 16
theorem hk_len (S : ST) (H : List ST) : (hkL S H).length = if H.length < 16 then H.length + 1 else 16 := by
  unfold hkL
  rw [List.length_take, List.length_cons]
  split <;> omega
theorem hk_get {j : Nat} (hj : j < 16) : (hkL S H).getD j sD = (S :: H).getD j sD := by
  unfold hkL
  rw [List.getD_eq_getElem?_getD, List.getD_eq_getElem?_getD, List.getElem?_take, if_pos hj]
theorem GoodH.keep (h : GoodH p c H) (hs : GoodS p c S) : GoodH p c (hkL S H) := by
  have hl := h.1
  have e := hk_len S H
  refine ⟨by rw [e]; split <;> omega, fun i hi => ?_⟩
  rw [e] at hi
  rw [hk_get (by split at hi <;> omega)]
  cases i with
  | zero => exact hs
  | succ i => exact h.2 i (by split at hi <;> omega)
theorem rd31_n {k : Nat} (h : k < 16) : rd31 (nI k) = some (32 + 3 * k) := by
  unfold rd31
  rw [nI_clamp (by omega), if_pos ⟨nI_pos (by omega), h⟩]
theorem c_keep (hn : n ≤ 7) (hs : StC V 24 n S) (h : HisC V n H) (hl : H.length ≤ 16) (hN : 1000 < N) : tot (gX0_keep N 24 V) (fun W => HisC W n (hkL S H) ∧ fr (fun a => 32 ≤ a ∧ a ≤ 79) (fun i _ => 30 ≤ i ∧ i ≤ 79) V W) := by
  obtain ⟨nx, h1, h2, h3, h4⟩ := h
  unfold gX0_keep
  rw [h3, rd31_n h1, Option.bind_some]
  refine tot_bd (c_copy (o := 32 + 3 * nx) (o1 := 24) hs hn hN (by omega)) (fun W hW => ?_)
  obtain ⟨w1, w2⟩ := hW
  have f1 : fr (fun a => 32 ≤ a ∧ a ≤ 79) (fun i _ => 30 ≤ i ∧ i ≤ 79) V W := w2.mono (fun a ha => by unfold soA at ha; omega) (fun i k hik => by unfold soF at hik; omega)
  have e2 : W.F 30 2 = nI nx := by rw [w2.2.2.2 30 2 (by unfold soF; omega), h3]
  have e1 : W.F 30 1 = nI H.length := by rw [w2.2.2.2 30 1 (by unfold soF; omega), h2]
  have fin : ∀ nx', nx' = (nx + 1) % 16 → tot (gX0_keep_b38 N (nI nx') W) (fun W => HisC W n (hkL S H) ∧ fr (fun a => 32 ≤ a ∧ a ≤ 79) (fun i _ => 30 ≤ i ∧ i ≤ 79) V W) := by
    intro nx' hx
    unfold gX0_keep_b38
    try simp (disch := omega) only [fa_lit, ne_le, ne_lt, ne_eq', nI_add, pk_mul, pk_sub, rdA_n, wrA_n, rdL_n, wrL_n, nI_one, nI_bit1, nI_bit0, fa_or, fa_and, nI_df, nat31, Option.bind_some, m1_le0, m1_lt0, m1_eq, eq_m1, ite_nI, sub_m, pk_m1', not_lt0]
    try simp (disch := omega) only [wA_A, wF_F, wA_F, wF_A, wA_L, wF_L, wA_G, wF_G, true_and, and_true, and_self, if_true, if_false, if_pos, if_neg, e1]
    try simp (disch := omega) only [fa_lit, ne_le, ne_lt, ne_eq', nI_add, pk_mul, pk_sub, rdA_n, wrA_n, rdL_n, wrL_n, nI_one, nI_bit1, nI_bit0, fa_or, fa_and, nI_df, nat31, Option.bind_some, m1_le0, m1_lt0, m1_eq, eq_m1, ite_nI, sub_m, pk_m1', not_lt0]
    generalize hX : wF (wF W 30 2 (nI nx')) 30 1 (nI (if 16 < H.length + 1 then 16 else H.length + 1)) = X
    have fX : fr (fun _ => False) (fun i k => i = 30 ∧ (k = 1 ∨ k = 2)) W X := by
      rw [← hX]
      exact (fr_F _ (by simp)).trans (fr_F _ (by simp))
    have stX : ∀ {j : Nat} {S2 : ST}, StC W (32 + 3 * j) n S2 → StC X (32 + 3 * j) n S2 := fun {j S2} q => q.fr fX (fun z => z) (fun z => z) (fun z => by omega) (fun z => by omega)
    refine tot_some ⟨⟨nx', by omega, ?_, ?_, fun j hj => ?_⟩, f1.trans (fX.mono (fun a z => False.elim z) (fun i k z => by omega))⟩
    · rw [← hX, wF_F, if_pos ⟨rfl, rfl⟩, hk_len]
      congr 1
      split <;> split <;> omega
    · rw [← hX, wF_F, if_neg (by omega), wF_F, if_pos ⟨rfl, rfl⟩]
    · rw [hk_len] at hj
      have hj16 : j < 16 := by split at hj <;> omega
      rw [hk_get hj16]
      cases j with
      | zero =>
        rw [show (nx' + 15 - 0) % 16 = nx by omega]
        exact stX w1
      | succ j =>
        have hjl : j < H.length := by split at hj <;> omega
        rw [show (nx' + 15 - (j + 1)) % 16 = (nx + 15 - j) % 16 by omega]
        exact stX ((h4 j hjl).fr w2 (by unfold soA; omega) (by unfold soA; omega) (by unfold soF; omega) (by unfold soF; omega))
  rw [e2]
  try simp (disch := omega) only [fa_lit, ne_le, ne_lt, ne_eq', nI_add, pk_mul, pk_sub, rdA_n, wrA_n, rdL_n, wrL_n, nI_one, nI_bit1, nI_bit0, fa_or, fa_and, nI_df, nat31, Option.bind_some, m1_le0, m1_lt0, m1_eq, eq_m1, ite_nI, sub_m, pk_m1', not_lt0]
  by_cases hc : 16 ≤ nx + 1
  · rw [if_pos hc]
    exact fin 0 (by omega)
  · rw [if_neg hc]
    exact fin (nx + 1) (by omega)
theorem keep_st (f : fr (fun a => 32 ≤ a ∧ a ≤ 79) (fun i _ => 30 ≤ i ∧ i ≤ 79) V W) : fr stA stF V W := f.mono (fun a ha => by unfold stA; omega) (fun i k hik => by unfold stF; omega)
theorem m_keep (hs : MSt V n S) (h : HisM V n H) (hl : H.length ≤ 16) (hN : 1000 < N) : tot (gX10_keeps N V) (fun W => MSt W n S ∧ HisM W n (hkL S H) ∧ mt V W) := by
  have copy : ∀ (k : Nat) (W : VT), k < 16 → MSt W n S → W.F 137 47 = nI k → mt V W → (k + 1 = (hkL S H).length) → (∀ j, j + 1 < (hkL S H).length → Row W 171 (16 * (k - 1 - j)) n ((hkL S H).getD (j + 1) sD)) → tot (gX10_keeps_b49 N W) (fun W => MSt W n S ∧ HisM W n (hkL S H) ∧ mt V W) := by
    intro k W hk hs2 e1 hf el hr
    unfold gX10_keeps_b49
    try simp (disch := omega) only [fa_lit, ne_le, ne_lt, ne_eq', nI_add, pk_mul, pk_sub, rdA_n, wrA_n, rdL_n, wrL_n, nI_one, nI_bit1, nI_bit0, fa_or, fa_and, nI_df, nat31, Option.bind_some, m1_le0, m1_lt0, m1_eq, eq_m1, ite_nI, sub_m, pk_m1', not_lt0, e1]
    refine tot_bd (m_copies (V := W) (a1 := 167) (a2 := 171) (x := 0) (y := 16 * k) (by omega) (by omega) (by omega) (by omega) (by omega) hN) (fun X hX => ?_)
    have eF : X.F 137 47 = nI k := by rw [hX.2.2.2.2.2 137 47 (fun q => q), e1]
    rw [eF]
    try simp (disch := omega) only [fa_lit, ne_le, ne_lt, ne_eq', nI_add, pk_mul, pk_sub, rdA_n, wrA_n, rdL_n, wrL_n, nI_one, nI_bit1, nI_bit0, fa_or, fa_and, nI_df, nat31, Option.bind_some, m1_le0, m1_lt0, m1_eq, eq_m1, ite_nI, sub_m, pk_m1', not_lt0]
    refine tot_some ⟨?_, ⟨?_, fun j hj => ?_⟩, (hf.trans (fr_mt hX.2.2 (fun a ha => Or.inr ha) (fun i k q => False.elim q))).trans ⟨rfl, fun _ _ => rfl, fun i j hij => by rw [wF_F]; exact if_neg (fun q => hij (by unfold mtF; omega))⟩⟩
    · exact hs2.at (by rw [wF_A]; exact hX.2.2.2.2.1 167 (by omega))
    · rw [wF_F, if_pos ⟨rfl, rfl⟩, el]
    · rw [← el]
      rw [← el] at hj
      cases j with
      | zero =>
        have e0 : (hkL S H).getD 0 sD = S := by rw [hk_get (by omega)]; rfl
        rw [e0]
        refine hs2.row.cp (fun i hi => ?_)
        rw [wF_A, show 16 * (k + 1 - 1 - 0) = 16 * k by omega]
        exact hX.1 i hi
      | succ j =>
        refine (hr j (by omega)).cp (fun i hi => ?_)
        rw [wF_A, show 16 * (k + 1 - 1 - (j + 1)) = 16 * (k - 1 - j) by omega]
        exact hX.2.1 _ (by omega)
  have e := hk_len S H
  unfold gX10_keeps
  rw [h.1]
  by_cases hc : H.length = 16
  · rw [if_pos (by rw [hc]; rfl)]
    rw [if_neg (by omega)] at e
    refine loop_T (F := fun w (_ : Unit) k V => gX10_keeps_b11 N w (nI k) V) 240 (fun k _ W => (∀ j, j < k → W.A 171 j = V.A 171 (j + 16)) ∧ (∀ j, k ≤ j → W.A 171 j = V.A 171 j) ∧ fr (fun a => a = 171) nof V W) ?_ ?_ N 0 () V (by omega) (by omega) ⟨fun j hj => by omega, fun _ _ => rfl, fr.rf⟩
    · intro w k _ W hk hI hK
      obtain ⟨i1, i2, i3⟩ := hI
      show tot (gX10_keeps_b11 N (w + 1) (nI k) W) _
      unfold gX10_keeps_b11
      try simp (disch := omega) only [fa_lit, ne_le, ne_lt, ne_eq', nI_add, pk_mul, pk_sub, rdA_n, wrA_n, rdL_n, wrL_n, nI_one, nI_bit1, nI_bit0, fa_or, fa_and, nI_df, nat31, Option.bind_some, m1_le0, m1_lt0, m1_eq, eq_m1, ite_nI, sub_m, pk_m1', not_lt0]
      rw [if_neg (by omega)]
      refine hK () _ ⟨fun j hj => ?_, fun j hj => ?_, i3.trans (fr_A _ _ rfl)⟩
      · by_cases e2 : j = k
        · subst e2
          try simp (disch := omega) only [wA_A, wF_F, wA_F, wF_A, wA_L, wF_L, wA_G, wF_G, true_and, and_true, and_self, if_true, if_false, if_pos, if_neg]
          exact i2 _ (by omega)
        · try simp (disch := omega) only [wA_A, wF_F, wA_F, wF_A, wA_L, wF_L, wA_G, wF_G, true_and, and_true, and_self, if_true, if_false, if_pos, if_neg]
          exact i1 j (by omega)
      · try simp (disch := omega) only [wA_A, wF_F, wA_F, wF_A, wA_L, wF_L, wA_G, wF_G, true_and, and_true, and_self, if_true, if_false, if_pos, if_neg]
        exact i2 j (by omega)
    · intro w _ W hI
      obtain ⟨i1, i2, i3⟩ := hI
      show tot (gX10_keeps_b11 N (w + 1) (nI 240) W) _
      unfold gX10_keeps_b11
      have e1 : W.F 137 47 = nI 16 := by rw [i3.2.2.2 137 47 (fun q => q), h.1, hc]
      rw [e1]
      try simp (disch := omega) only [fa_lit, ne_le, ne_lt, ne_eq', nI_add, pk_mul, pk_sub, rdA_n, wrA_n, rdL_n, wrL_n, nI_one, nI_bit1, nI_bit0, fa_or, fa_and, nI_df, nat31, Option.bind_some, m1_le0, m1_lt0, m1_eq, eq_m1, ite_nI, sub_m, pk_m1', not_lt0]
      rw [if_pos (Nat.le_refl _)]
      refine copy 15 _ (by omega) (hs.at (by rw [wF_A]; exact i3.2.2.1 167 (by omega))) (by rw [wF_F, if_pos ⟨rfl, rfl⟩]) ((fr_mt i3 (fun a ha => Or.inr ha) (fun i k q => False.elim q)).trans ⟨rfl, fun _ _ => rfl, fun i j hij => by rw [wF_F]; exact if_neg (fun q => hij (by unfold mtF; omega))⟩) (by omega) (fun j hj => ?_)
      rw [e] at hj
      have h2 := h.2 j (by omega)
      rw [hk_get (by omega)]
      refine h2.cp (fun i hi => ?_)
      rw [wF_A, hc, i1 _ (by omega)]
      congr 1
      omega
  · rw [if_neg (show ¬ nI H.length = 16 from nI_ne (b := 16) hc (by omega) (by omega))]
    rw [if_pos (by omega)] at e
    refine copy H.length V (by omega) hs h.1 mt.rf (by omega) (fun j hj => ?_)
    rw [e] at hj
    rw [hk_get (by omega)]
    exact h.2 j (by omega)
end PHeld
