/-! PURE: the model's reading of an E, a token a step. -/
def mwp (V W : VT) : Prop := W.L = V.L ∧ (∀ a, a ≠ 147 → a ≠ 148 → a ≠ 149 → W.A a = V.A a) ∧ (∀ i, i < 1000 → W.A 147 i = V.A 147 i) ∧ ∀ i k, ¬ (i = 137 ∧ (4 ≤ k ∧ k ≤ 9 ∨ k = 19)) → W.F i k = V.F i k
theorem mwp.rf {V : VT} : mwp V V := ⟨rfl, fun _ _ _ _ => rfl, fun _ _ => rfl, fun _ _ _ => rfl⟩
theorem mwp.trans {V W X : VT} (h : mwp V W) (k : mwp W X) : mwp V X := ⟨k.1.trans h.1, fun a h1 h2 h3 => (k.2.1 a h1 h2 h3).trans (h.2.1 a h1 h2 h3), fun i hi => (k.2.2.1 i hi).trans (h.2.2.1 i hi), fun i j hij => (k.2.2.2 i j hij).trans (h.2.2.2 i j hij)⟩
theorem mwf.p {V W : VT} (h : mwf V W) : mwp V W := ⟨h.2.1, fun a _ _ _ => by rw [h.1], fun i _ => by rw [h.1], fun i k hik => h.2.2 i k (by omega)⟩
theorem mwp_F {V : VT} {k : Nat} (x : Int32) (h : 4 ≤ k ∧ k ≤ 9 ∨ k = 19) : mwp V (wF V 137 k x) := ⟨rfl, fun _ _ _ _ => rfl, fun _ _ => rfl, fun i j hij => by rw [wF_F, if_neg (fun q => hij (by omega))]⟩
theorem mwp_A {V : VT} {a k : Nat} (x : Int32) (h : a = 148 ∨ a = 149 ∨ a = 147 ∧ 1000 ≤ k) : mwp V (wA V a k x) := ⟨rfl, fun b h1 h2 h3 => wA_n V k x (by omega), fun i hi => by rw [wA_A, if_neg (by omega)], fun _ _ _ => rfl⟩
/-- codes read so far -/
def PB (V : VT) (cs : List Nat) : Prop := V.F 137 19 = nI (1000 + cs.length) ∧ ∀ i, i < cs.length → V.A 147 (1000 + i) = nI (cs.getD i 0) ∧ cs.getD i 0 < 20000
def MB (V : VT) (tp : List Nat) (a : Nat) (cs : List Nat) : Prop := MC V tp a ∧ PB V cs ∧ cs.length ≤ a ∧ a ≤ tp.length
def popV (V : VT) : Nat → Nat
  | 0 => 0
  | d + 1 => if V.A 148 (d + 1) = nI 1 then popV V d else d + 1
theorem popV_le (V : VT) : ∀ d, popV V d ≤ d
  | 0 => Nat.le_refl _
  | d + 1 => by
    rw [popV]
    split
    · exact Nat.le_succ_of_le (popV_le V d)
    · exact Nat.le_refl _
theorem popV_cg {V W : VT} : ∀ {d : Nat}, (∀ i, i ≤ d → W.A 148 i = V.A 148 i) → popV W d = popV V d
  | 0, _ => rfl
  | d + 1, h => by rw [popV, popV, h (d + 1) (Nat.le_refl _), popV_cg (fun i hi => h i (by omega))]
section PAuto
variable {V W X : VT} {tp : List Nat} {a d k c N : Nat} {cs : List Nat} {Q : Int32 × VT → Prop}
theorem n_tok (ht : GoodT tp) (hN : 1000 < N) (ha : a ≤ tp.length) (h : MC X tp a) (hp : PB X cs) (hc : cs.length ≤ enN tp a) : tot (gX10_nextToken N X) (fun W => MB W tp (enN tp a) cs ∧ W.A = X.A ∧ mwp X W) := by
  refine tot_mo (m_next ht hN ha h) (fun W hW => ⟨⟨hW.1, ⟨?_, fun i hi => ?_⟩, hc, (en_le ha).2⟩, hW.2.1, hW.2.p⟩)
  · rw [hW.2.2.2 137 19 (by omega)]
    exact hp.1
  · rw [hW.2.1]
    exact hp.2 i hi
/-- a code is put -/
theorem n_put (ht : GoodT tp) (h : MB V tp a cs) (h0 : tyN tp a ≠ 0) (c : Nat) (hcc : c < 20000) : ∃ X, gX10_puts (nI c) V = some X ∧ MC X tp a ∧ PB X (cs ++ [c]) ∧ (cs ++ [c]).length ≤ enN tp a ∧ X.A 148 = V.A 148 ∧ X.A 149 = V.A 149 ∧ mwp V X := by
  obtain ⟨h1, h2, h3, h4⟩ := h
  have hl := ht.1
  have he := en_lt h0
  have hp := pl_le h4
  refine ⟨wF (wA V 147 (1000 + cs.length) (nI c)) 137 19 (nI (1000 + cs.length + 1)), ?_, ?_, ⟨?_, fun i hi => ?_⟩, ?_, ?_, ?_, (mwp_A _ (by omega)).trans (mwp_F _ (by omega))⟩
  · unfold gX10_puts
    rw [h2.1, wrA_n (by omega) (by omega), Option.bind_some, wA_F, h2.1, show nI (1000 + cs.length) + 1 = nI (1000 + cs.length + 1) from nI_1 _]
    rfl
  · refine h1.cg ?_ (fun k hk1 hk2 => ?_) rfl
    · rw [wF_A]
      exact wA_n V _ _ (by omega)
    · rw [wF_F, if_neg (by omega)]
      rfl
  · rw [wF_F, if_pos ⟨rfl, rfl⟩, List.length_append]
    rfl
  · rw [wF_A, wA_A, gd_app]
    simp at hi
    by_cases e : i = cs.length
    · rw [if_pos ⟨rfl, by omega⟩, if_pos e]
      exact ⟨rfl, hcc⟩
    · rw [if_neg (by omega), if_neg e]
      exact h2.2 i (by omega)
  · simp
    omega
  · rw [wF_A]
    exact wA_n V _ _ (by omega)
  · rw [wF_A]
    exact wA_n V _ _ (by omega)
/-- what a step leaves of rows 148 and 149 up to depth d -/
def sam (V W : VT) (d : Nat) : Prop := (∀ i, i ≤ d → W.A 148 i = V.A 148 i) ∧ ∀ i, i ≤ d → W.A 149 i = V.A 149 i
theorem sam.rf : sam V V d := ⟨fun _ _ => rfl, fun _ _ => rfl⟩
theorem sam.trans (h : sam V W d) (k : sam W X d) : sam V X d := ⟨fun i hi => (k.1 i hi).trans (h.1 i hi), fun i hi => (k.2 i hi).trans (h.2 i hi)⟩
theorem sam_A (h1 : W.A 148 = V.A 148) (h2 : W.A 149 = V.A 149) : sam V W d := ⟨fun i _ => by rw [h1], fun i _ => by rw [h2]⟩
/-- out of the nots, then on -/
theorem n_pop152 (ht : GoodT tp) (hN : 1000 < N) (ha : a ≤ tp.length) {K : Int32 → Int32 → VT → Option (Int32 × VT)} (h : MC X tp a) (hp : PB X cs) (hc : cs.length ≤ enN tp a) (hK : ∀ W, MB W tp (enN tp a) cs → W.A = X.A → mwp X W → tot (K (nI (popV X d)) (nI 0) W) Q) : ∀ w, d ≤ 6 → d < w → tot (gX10_reads_b152 N K w (nI d) (nI 0) X) Q := by
  induction d with
  | zero =>
    intro w _ hw
    obtain ⟨w, rfl⟩ : ∃ i, w = i + 1 := ⟨w - 1, by omega⟩
    unfold gX10_reads_b152
    rw [if_pos (by decide)]
    unfold gX10_reads_b172
    exact tot_bd (n_tok ht hN ha h hp hc) (fun W hW => hK W hW.1 hW.2.1 hW.2.2)
  | succ d ih =>
    intro w hd hw
    obtain ⟨w, rfl⟩ : ∃ i, w = i + 1 := ⟨w - 1, by omega⟩
    rw [popV] at hK
    unfold gX10_reads_b152
    rw [if_neg (nI_nle (by omega) (by omega)), rdA_n (by omega) (by omega), Option.bind_some]
    by_cases e : X.A 148 (d + 1) = nI 1
    · rw [if_pos e] at hK
      rw [if_pos (show X.A 148 (d + 1) = 1 from e), show nI (d + 1) + (-1) = nI d from pk_m1 d]
      exact ih hK w (by omega) (by omega)
    · rw [if_neg e] at hK
      rw [if_neg (show ¬ X.A 148 (d + 1) = 1 from e)]
      unfold gX10_reads_b172
      exact tot_bd (n_tok ht hN ha h hp hc) (fun W hW => hK W hW.1 hW.2.1 hW.2.2)
theorem n_pop379 (ht : GoodT tp) (hN : 1000 < N) (ha : a ≤ tp.length) {K : Int32 → Int32 → VT → Option (Int32 × VT)} (h : MC X tp a) (hp : PB X cs) (hc : cs.length ≤ enN tp a) (hK : ∀ W, MB W tp (enN tp a) cs → W.A = X.A → mwp X W → tot (K (nI (popV X d)) (nI 0) W) Q) : ∀ w, d ≤ 6 → d < w → tot (gX10_reads_b379 N K w (nI d) (nI 0) X) Q := by
  induction d with
  | zero =>
    intro w _ hw
    obtain ⟨w, rfl⟩ : ∃ i, w = i + 1 := ⟨w - 1, by omega⟩
    unfold gX10_reads_b379
    rw [if_pos (by decide)]
    unfold gX10_reads_b424
    exact tot_bd (n_tok ht hN ha h hp hc) (fun W hW => hK W hW.1 hW.2.1 hW.2.2)
  | succ d ih =>
    intro w hd hw
    obtain ⟨w, rfl⟩ : ∃ i, w = i + 1 := ⟨w - 1, by omega⟩
    rw [popV] at hK
    unfold gX10_reads_b379
    rw [if_neg (nI_nle (by omega) (by omega)), rdA_n (by omega) (by omega), Option.bind_some]
    by_cases e : X.A 148 (d + 1) = nI 1
    · rw [if_pos e] at hK
      rw [if_pos (show X.A 148 (d + 1) = 1 from e), show nI (d + 1) + (-1) = nI d from pk_m1 d]
      exact ih hK w (by omega) (by omega)
    · rw [if_neg e] at hK
      rw [if_neg (show ¬ X.A 148 (d + 1) = 1 from e)]
      unfold gX10_reads_b424
      exact tot_bd (n_tok ht hN ha h hp hc) (fun W hW => hK W hW.1 hW.2.1 hW.2.2)
/-- a fault of the model -/
def Bad (V : VT) (f : Nat) (Q : Int32 × VT → Prop) : Prop := ∀ W, W.F 137 9 = nI f → mwp V W → Q (0, W)
theorem n_bad (h : MC V tp a) (x : Nat) (hQ : Bad V (x + 16 * plN tp a) Q) : tot ((gX10_fails (nI x) V).bind fun p1 => (qB p1.1).bind fun _ => some (p1.1, p1.2)) Q := by
  rw [m_fails h, Option.bind_some]
  dsimp only
  rw [show qB (nI 0) = some () from rfl, Option.bind_some]
  exact tot_some (hQ _ (by rw [wF_F, if_pos ⟨rfl, rfl⟩]) (mwp_F _ (by omega)))
variable {w : Nat}
/-- a part may begin here -/
abbrev ptB (tp : List Nat) (a : Nat) : Prop := (18 ≤ kN tp a ∧ kN tp a ≤ 21) ∨ tyN tp a = 3 ∨ kN tp a = 15 ∨ tyN tp a = 40
theorem pt_ne {tp : List Nat} {a : Nat} (h : ptB tp a) : tyN tp a ≠ 0 := by
  rcases h with h | h | h | h
  · have := kN_2 (k := kN tp a) (by omega) rfl
    omega
  · omega
  · have := kN_2 (k := 15) (by omega) h
    omega
  · omega
theorem a_w1 (ht : GoodT tp) (h : MC V tp a) (ha : a ≤ tp.length) : gX10_reads_b11 N (w + 1) (nI d) (nI 1) V = (if ptB tp a then gX10_reads_b65 N (gX10_reads_b11 N w) (nI d) (nI 1) (nI (if 18 ≤ kN tp a ∧ kN tp a ≤ 21 then kN tp a - 17 else 0)) (nI (if kN tp a = 15 then 1 else 0)) (nI (if tyN tp a = 40 then 1 else 0)) V else (gX10_fails (nI 1) V).bind fun p9 => (qB p9.1).bind fun _ => some (p9.1, p9.2)) := by
  have hk := kN_le tp a
  have hm := mty_lt (tyN tp a)
  unfold gX10_reads_b11
  rw [if_neg (by decide), m_fact h ha, Option.bind_some]
  dsimp only
  rw [m_isW (k := 15) h ha (by omega) (show (10631 : Int64) = lN (c27L.getD 15 0) from rfl), Option.bind_some]
  dsimp only
  rw [show (40 : Int32) = nI 40 from rfl, m_isS h ht ha (by omega) (by omega), Option.bind_some]
  dsimp only
  unfold ptB
  by_cases e1 : 18 ≤ kN tp a ∧ kN tp a ≤ 21
  · rw [if_pos e1, if_neg (nI_ne0 (by omega) (by omega)), if_pos (Or.inl e1)]
  rw [if_neg e1, if_pos (by rfl)]
  by_cases e2 : kN tp a = 15
  · rw [if_pos e2, if_neg (by decide), if_pos (Or.inr (Or.inr (Or.inl e2)))]
  rw [if_neg e2, if_pos (by rfl)]
  by_cases e3 : tyN tp a = 40
  · rw [if_pos e3, if_neg (by decide), if_pos (Or.inr (Or.inr (Or.inr e3)))]
  rw [if_neg e3, if_pos (by rfl), h.2.2.2.1]
  by_cases e4 : tyN tp a = 3
  · rw [if_pos (by rw [(mty_2 _).mpr e4]; rfl), if_pos (Or.inr (Or.inl e4))]
  · rw [if_neg (show ¬ nI (mty (tyN tp a)) = 2 from nI_ne (b := 2) (fun q => e4 ((mty_2 _).mp q)) (by omega) (by omega)), if_neg (by omega)]
    rfl
theorem a_bad1 (ht : GoodT tp) (h : MC V tp a) (ha : a ≤ tp.length) (hw : 0 < w) (hn : ¬ ptB tp a) (hQ : Bad V (1 + 16 * plN tp a) Q) : tot (gX10_reads_b11 N w (nI d) (nI 1) V) Q := by
  obtain ⟨w, rfl⟩ : ∃ i, w = i + 1 := ⟨w - 1, by omega⟩
  rw [a_w1 ht h ha, if_neg hn]
  exact n_bad h 1 hQ
theorem a_deep (ht : GoodT tp) (h : MC V tp a) (ha : a ≤ tp.length) (hw : 0 < w) (hn : ptB tp a) (hQ : Bad V (5 + 16 * plN tp a) Q) : tot (gX10_reads_b11 N w (nI 5) (nI 1) V) Q := by
  obtain ⟨w, rfl⟩ : ∃ i, w = i + 1 := ⟨w - 1, by omega⟩
  rw [a_w1 ht h ha, if_pos hn]
  unfold gX10_reads_b65
  rw [if_pos (by decide)]
  exact n_bad h 5 hQ
/-- a number or a fact -/
theorem a_atom (ht : GoodT tp) (hN : 1000 < N) (h : MB V tp a cs) (hw : tp.length - a < w) (hd : d < 5) {c : Nat} (hc : (18 ≤ kN tp a ∧ kN tp a ≤ 21) ∧ c = kN tp a - 17 ∨ tyN tp a = 3 ∧ c = 100 + nuN tp a) (hK : ∀ w2 W, tp.length - enN tp a < w2 → MB W tp (enN tp a) (cs ++ [c]) → sam V W d → mwp V W → tot (gX10_reads_b11 N w2 (nI (popV V d)) (nI 0) W) Q) : tot (gX10_reads_b11 N w (nI d) (nI 1) V) Q := by
  have h4 := h.2.2.2
  have hp : ptB tp a := by
    unfold ptB
    omega
  have hk15 : ¬ kN tp a = 15 := by
    intro q
    have := kN_2 (k := 15) (by omega) q
    omega
  have h40 : ¬ tyN tp a = 40 := by
    intro q
    rcases hc with q2 | q2
    · have := kN_2 (k := kN tp a) (by omega) rfl
      omega
    · omega
  have h0 := pt_ne hp
  have he := en_lt h0
  obtain ⟨w, rfl⟩ : ∃ i, w = i + 1 := ⟨w - 1, by omega⟩
  have hcb : c < 20000 := by
    rcases hc with q | q
    · omega
    · have := nu_lt q.1 h4 ht
      omega
  obtain ⟨X, x1, x2, x3, x4, x5, x6, x7⟩ := n_put ht h h0 c hcb
  have go : tot (gX10_reads_b147 N (gX10_reads_b11 N w) (nI d) (nI c) V) Q := by
    unfold gX10_reads_b147
    rw [x1, Option.bind_some, show (0 : Int32) = nI 0 from rfl]
    refine n_pop152 ht hN h4 x2 x3 x4 (fun W w1 w2 w3 => ?_) N (by omega) (by omega)
    rw [popV_cg (V := V) (fun i _ => by rw [x5])]
    have hp2 := pl_le h4
    exact hK w W (by omega) w1 (sam_A (by rw [w2, x5]) (by rw [w2, x6])) (x7.trans w3)
  rw [a_w1 ht h.1 h4, if_pos hp]
  unfold gX10_reads_b65
  rw [if_neg (show ¬ nI d = 5 from nI_ne (b := 5) (by omega) (by omega) (by omega)), if_neg hk15, if_pos (by rfl), if_neg h40, if_pos (by rfl)]
  by_cases e1 : 18 ≤ kN tp a ∧ kN tp a ≤ 21
  · rw [if_pos e1, if_neg (nI_nle (by omega) (by omega))]
    rcases hc with q | q
    · rw [q.2] at go
      exact go
    · have := kN_2 (k := kN tp a) (by omega) rfl
      omega
  · rw [if_neg e1, if_pos (by decide)]
    rcases hc with q | q
    · exact absurd q.1 e1
    · rw [h.1.2.2.2.2.1 q.1, show (100 : Int32) = nI 100 from rfl, nI_add, ← q.2]
      exact go
/-- not, or a bracket -/
theorem a_open (ht : GoodT tp) (hN : 1000 < N) (h : MB V tp a cs) (hw : tp.length - a < w) (hd : d < 5) {c o : Nat} (hc : kN tp a = 15 ∧ c = 30 ∧ o = 1 ∨ tyN tp a = 40 ∧ c = 28 ∧ o = 2) (hK : ∀ w2 W, tp.length - enN tp a < w2 → MB W tp (enN tp a) (cs ++ [c]) → sam V W d → W.A 148 (d + 1) = nI o → W.A 149 (d + 1) = nI 0 → mwp V W → tot (gX10_reads_b11 N w2 (nI (d + 1)) (nI 1) W) Q) : tot (gX10_reads_b11 N w (nI d) (nI 1) V) Q := by
  have h4 := h.2.2.2
  have hp : ptB tp a := by
    unfold ptB
    omega
  have h0 := pt_ne hp
  have he := en_lt h0
  have hp2 := pl_le h4
  have hno : ¬ (18 ≤ kN tp a ∧ kN tp a ≤ 21) := by
    intro q
    have := kN_2 (k := kN tp a) (by omega) rfl
    omega
  obtain ⟨w, rfl⟩ : ∃ i, w = i + 1 := ⟨w - 1, by omega⟩
  obtain ⟨X, x1, x2, x3, x4, x5, x6, x7⟩ := n_put ht h h0 c (by omega)
  have go : ∀ v4 : Int32, (v4 = 0 ∧ o = 2 ∨ v4 = nI 1 ∧ o = 1) → tot (gX10_reads_b99 N (gX10_reads_b11 N w) (nI d) (nI 1) v4 (nI c) V) Q := by
    intro v4 hv
    have b120 : tot (gX10_reads_b120 N (gX10_reads_b11 N w) (nI (d + 1)) (nI 1) (nI o) (nI (d + 1)) 148 7 X) Q := by
      unfold gX10_reads_b120
      rw [wrA_n (by omega) (by omega), Option.bind_some, wrA_n (by omega) (by omega), Option.bind_some, show qnar .boolean 0 = nI 0 by decide]
      unfold gX10_reads_b172
      generalize hY : wA (wA X 148 (d + 1) (nI o)) 149 (d + 1) (nI 0) = Y
      have fY : mwp X Y := by
        rw [← hY]
        exact (mwp_A _ (by omega)).trans (mwp_A _ (by omega))
      have y138 : Y.A 138 = X.A 138 := by rw [← hY, wA_n _ _ _ (by omega), wA_n _ _ _ (by omega)]
      have y147 : Y.A 147 = X.A 147 := by rw [← hY, wA_n _ _ _ (by omega), wA_n _ _ _ (by omega)]
      have yF : Y.F = X.F := by rw [← hY]; rfl
      have yG : Y.G = X.G := by rw [← hY]; rfl
      have y148 : ∀ i, Y.A 148 i = if i = d + 1 then nI o else V.A 148 i := by
        intro i
        rw [← hY, wA_A, if_neg (by omega), wA_A, x5]
        by_cases e : i = d + 1
        · rw [if_pos ⟨rfl, e⟩, if_pos e]
        · rw [if_neg (fun q => e q.2), if_neg e]
      have y149 : ∀ i, Y.A 149 i = if i = d + 1 then nI 0 else V.A 149 i := by
        intro i
        rw [← hY, wA_A]
        by_cases e : i = d + 1
        · rw [if_pos ⟨rfl, e⟩, if_pos e]
        · rw [if_neg (fun q => e q.2), if_neg e, wA_A, if_neg (by omega), x6]
      refine tot_bd (n_tok ht hN h4 (x2.cg y138 (fun k _ _ => by rw [yF]) (by rw [yG])) ⟨by rw [yF]; exact x3.1, fun i hi => by rw [y147]; exact x3.2 i hi⟩ x4) (fun W hW => ?_)
      refine hK w W (by omega) hW.1 ⟨fun i hi => ?_, fun i hi => ?_⟩ ?_ ?_ ((x7.trans fY).trans hW.2.2)
      · rw [hW.2.1, y148, if_neg (by omega)]
      · rw [hW.2.1, y149, if_neg (by omega)]
      · rw [hW.2.1, y148, if_pos rfl]
      · rw [hW.2.1, y149, if_pos rfl]
    unfold gX10_reads_b99
    rw [x1, Option.bind_some, show nI d + 1 = nI (d + 1) from nI_1 d]
    rcases hv with ⟨q1, q2⟩ | ⟨q1, q2⟩
    · rw [if_pos q1]
      rw [q2] at b120
      exact b120
    · rw [if_neg (by rw [q1]; decide)]
      rw [q2] at b120
      exact b120
  rw [a_w1 ht h.1 h4, if_pos hp]
  unfold gX10_reads_b65
  rw [if_neg (show ¬ nI d = 5 from nI_ne (b := 5) (by omega) (by omega) (by omega))]
  unfold gX10_reads_b86
  rcases hc with ⟨q1, q2, q3⟩ | ⟨q1, q2, q3⟩
  · rw [if_pos q1, if_neg (by decide), if_neg (by decide)]
    have g := go (nI 1) (Or.inr ⟨rfl, q3⟩)
    rw [q2] at g
    exact g
  · have hk15 : ¬ kN tp a = 15 := by
      intro q
      have := kN_2 (k := 15) (by omega) q
      omega
    rw [if_neg hk15, if_pos (by rfl), if_pos q1, if_neg (by decide), if_pos (by rfl)]
    have g := go 0 (Or.inl ⟨rfl, q3⟩)
    rw [q2] at g
    exact g
/-- wants nothing: what stands here -/
theorem a_w0 (ht : GoodT tp) (h : MC V tp a) (ha : a ≤ tp.length) : gX10_reads_b11 N (w + 1) (nI d) (nI 0) V = (if tyN tp a = 43 ∨ tyN tp a = 45 ∨ tyN tp a = 42 then gX10_reads_b237 N (gX10_reads_b11 N w) (nI d) (nI (if tyN tp a = 43 then 20 else if tyN tp a = 45 then 21 else 22)) V else if tyN tp a = 60 ∨ tyN tp a = 61 then gX10_reads_b263 N (gX10_reads_b11 N w) (nI d) (nI 0) V else gX10_reads_b304 N (gX10_reads_b11 N w) (nI d) (nI 0) V) := by
  have s := fun (s : Nat) (h1 : 4 ≤ s) (h2 : s < 200) => m_isS (s := s) h ht ha h1 h2
  have s43 := s 43 (by omega) (by omega)
  have s45 := s 45 (by omega) (by omega)
  have s42 := s 42 (by omega) (by omega)
  have s60 := s 60 (by omega) (by omega)
  have s61 := s 61 (by omega) (by omega)
  unfold gX10_reads_b11
  rw [if_pos (by rfl), show (43 : Int32) = nI 43 from rfl, s43, Option.bind_some]
  dsimp only
  have b206 : tyN tp a = 43 ∨ tyN tp a = 45 ∨ tyN tp a = 42 → gX10_reads_b206 N (gX10_reads_b11 N w) (nI d) V = gX10_reads_b237 N (gX10_reads_b11 N w) (nI d) (nI (if tyN tp a = 43 then 20 else if tyN tp a = 45 then 21 else 22)) V := by
    intro _
    unfold gX10_reads_b206
    rw [show (43 : Int32) = nI 43 from rfl, s43, Option.bind_some]
    dsimp only
    by_cases e : tyN tp a = 43
    · rw [if_pos e, if_neg (by decide), if_pos e]
      rfl
    rw [if_neg e, if_pos (by rfl), show (45 : Int32) = nI 45 from rfl, s45, Option.bind_some, if_neg e]
    dsimp only
    by_cases e2 : tyN tp a = 45
    · rw [if_pos e2, if_neg (by decide), if_pos e2]
      rfl
    · rw [if_neg e2, if_pos (by rfl), if_neg e2]
      rfl
  by_cases e43 : tyN tp a = 43
  · rw [if_pos e43, if_neg (by decide), if_pos (Or.inl e43)]
    exact b206 (Or.inl e43)
  rw [if_neg e43, if_pos (by rfl), show (45 : Int32) = nI 45 from rfl, s45, Option.bind_some]
  dsimp only
  by_cases e45 : tyN tp a = 45
  · rw [if_pos e45, if_neg (by decide), if_pos (Or.inr (Or.inl e45))]
    exact b206 (Or.inr (Or.inl e45))
  rw [if_neg e45, if_pos (by rfl), show (42 : Int32) = nI 42 from rfl, s42, Option.bind_some]
  dsimp only
  by_cases e42 : tyN tp a = 42
  · rw [if_pos e42, if_neg (by decide), if_pos (Or.inr (Or.inr e42))]
    exact b206 (Or.inr (Or.inr e42))
  rw [if_neg e42, if_pos (by rfl), show (60 : Int32) = nI 60 from rfl, s60, Option.bind_some, if_neg (show ¬ (tyN tp a = 43 ∨ tyN tp a = 45 ∨ tyN tp a = 42) by omega)]
  dsimp only
  by_cases e60 : tyN tp a = 60
  · rw [if_pos e60, if_neg (by decide), if_pos (Or.inl e60)]
  rw [if_neg e60, if_pos (by rfl), show (61 : Int32) = nI 61 from rfl, s61, Option.bind_some]
  dsimp only
  by_cases e61 : tyN tp a = 61
  · rw [if_pos e61, if_neg (by decide), if_pos (Or.inr e61)]
  · rw [if_neg e61, if_pos (by rfl), if_neg (by omega)]
/-- plus, minus, times -/
theorem a_op (ht : GoodT tp) (hN : 1000 < N) (h : MB V tp a cs) (hw : tp.length - a < w) {c : Nat} (hc : tyN tp a = 43 ∧ c = 20 ∨ tyN tp a = 45 ∧ c = 21 ∨ tyN tp a = 42 ∧ c = 22) (hK : ∀ w2 W, tp.length - enN tp a < w2 → MB W tp (enN tp a) (cs ++ [c]) → sam V W d → mwp V W → tot (gX10_reads_b11 N w2 (nI d) (nI 1) W) Q) : tot (gX10_reads_b11 N w (nI d) (nI 0) V) Q := by
  have h4 := h.2.2.2
  have h0 : tyN tp a ≠ 0 := by omega
  have he := en_lt h0
  have hp2 := pl_le h4
  obtain ⟨w, rfl⟩ : ∃ i, w = i + 1 := ⟨w - 1, by omega⟩
  obtain ⟨X, x1, x2, x3, x4, x5, x6, x7⟩ := n_put ht h h0 c (by omega)
  rw [a_w0 ht h.1 h4, if_pos (by omega)]
  have ec : (if tyN tp a = 43 then 20 else if tyN tp a = 45 then 21 else 22) = c := by
    split
    · omega
    · split <;> omega
  rw [ec]
  unfold gX10_reads_b237 gX10_reads_b424
  rw [x1, Option.bind_some]
  refine tot_bd (n_tok ht hN h4 x2 x3 x4) (fun W hW => ?_)
  exact hK w W (by omega) hW.1 (sam_A (by rw [hW.2.1, x5]) (by rw [hW.2.1, x6])) (x7.trans hW.2.2)
/-- less, equal -/
theorem a_cmp (ht : GoodT tp) (hN : 1000 < N) (h : MB V tp a cs) (hw : tp.length - a < w) (hd : d < 7) {c : Nat} (hc : tyN tp a = 60 ∧ c = 24 ∨ tyN tp a = 61 ∧ c = 25) (h149 : V.A 149 d = nI 0) (hK : ∀ w2 W, tp.length - enN tp a < w2 → MB W tp (enN tp a) (cs ++ [c]) → (∀ i, i ≤ d → W.A 148 i = V.A 148 i) → (∀ i, i < d → W.A 149 i = V.A 149 i) → W.A 149 d = nI 1 → mwp V W → tot (gX10_reads_b11 N w2 (nI d) (nI 1) W) Q) : tot (gX10_reads_b11 N w (nI d) (nI 0) V) Q := by
  have h4 := h.2.2.2
  have h0 : tyN tp a ≠ 0 := by omega
  have he := en_lt h0
  have hp2 := pl_le h4
  obtain ⟨w, rfl⟩ : ∃ i, w = i + 1 := ⟨w - 1, by omega⟩
  obtain ⟨X, x1, x2, x3, x4, x5, x6, x7⟩ := n_put ht h h0 c (by omega)
  rw [a_w0 ht h.1 h4, if_neg (by omega), if_pos (by omega)]
  have go : tot (gX10_reads_b289 N (gX10_reads_b11 N w) (nI d) (nI c) V) Q := by
    unfold gX10_reads_b289 gX10_reads_b424
    rw [x1, Option.bind_some, wrA_n (by omega) (by omega), Option.bind_some, show qnar .boolean 1 = nI 1 by decide]
    generalize hY : wA X 149 d (nI 1) = Y
    have fY : mwp X Y := by
      rw [← hY]
      exact mwp_A _ (by omega)
    have yA : ∀ b, b ≠ 149 → Y.A b = X.A b := fun b hb => by rw [← hY]; exact wA_n _ _ _ hb
    have yF : Y.F = X.F := by rw [← hY]; rfl
    have yG : Y.G = X.G := by rw [← hY]; rfl
    have y149 : ∀ i, Y.A 149 i = if i = d then nI 1 else V.A 149 i := by
      intro i
      rw [← hY, wA_A, x6]
      by_cases e : i = d
      · rw [if_pos ⟨rfl, e⟩, if_pos e]
      · rw [if_neg (fun q => e q.2), if_neg e]
    refine tot_bd (n_tok ht hN h4 (x2.cg (yA 138 (by omega)) (fun k _ _ => by rw [yF]) (by rw [yG])) ⟨by rw [yF]; exact x3.1, fun i hi => by rw [yA 147 (by omega)]; exact x3.2 i hi⟩ x4) (fun W hW => ?_)
    refine hK w W (by omega) hW.1 (fun i hi => ?_) (fun i hi => ?_) ?_ ((x7.trans fY).trans hW.2.2)
    · rw [hW.2.1, yA 148 (by omega), x5]
    · rw [hW.2.1, y149, if_neg (by omega)]
    · rw [hW.2.1, y149, if_pos rfl]
  unfold gX10_reads_b263
  rw [rdA_n (by omega) (by omega), Option.bind_some, if_pos (show V.A 149 d = 0 from h149), show (60 : Int32) = nI 60 from rfl, m_isS h.1 ht h4 (by omega) (by omega), Option.bind_some]
  dsimp only
  rcases hc with ⟨q1, q2⟩ | ⟨q1, q2⟩
  · rw [if_pos q1, if_neg (by decide)]
    rw [q2] at go
    exact go
  · rw [if_neg (show ¬ tyN tp a = 60 by omega), if_pos (by rfl)]
    rw [q2] at go
    exact go
/-- and, or -/
theorem a_ao (ht : GoodT tp) (hN : 1000 < N) (h : MB V tp a cs) (hw : tp.length - a < w) (hd : d < 7) {c : Nat} (hc : kN tp a = 16 ∧ c = 26 ∨ kN tp a = 17 ∧ c = 27) (hK : ∀ w2 W, tp.length - enN tp a < w2 → MB W tp (enN tp a) (cs ++ [c]) → (∀ i, i ≤ d → W.A 148 i = V.A 148 i) → (∀ i, i < d → W.A 149 i = V.A 149 i) → W.A 149 d = nI 0 → mwp V W → tot (gX10_reads_b11 N w2 (nI d) (nI 1) W) Q) : tot (gX10_reads_b11 N w (nI d) (nI 0) V) Q := by
  have h4 := h.2.2.2
  have h2 : tyN tp a = 2 := kN_2 (k := kN tp a) (by omega) rfl
  have h0 : tyN tp a ≠ 0 := by omega
  have he := en_lt h0
  have hp2 := pl_le h4
  obtain ⟨w, rfl⟩ : ∃ i, w = i + 1 := ⟨w - 1, by omega⟩
  obtain ⟨X, x1, x2, x3, x4, x5, x6, x7⟩ := n_put ht h h0 c (by omega)
  rw [a_w0 ht h.1 h4, if_neg (by omega), if_neg (by omega)]
  have go : tot (gX10_reads_b342 N (gX10_reads_b11 N w) (nI d) (nI c) V) Q := by
    unfold gX10_reads_b342 gX10_reads_b424
    rw [x1, Option.bind_some, wrA_n (by omega) (by omega), Option.bind_some, show qnar .boolean 0 = nI 0 by decide]
    generalize hY : wA X 149 d (nI 0) = Y
    have fY : mwp X Y := by
      rw [← hY]
      exact mwp_A _ (by omega)
    have yA : ∀ b, b ≠ 149 → Y.A b = X.A b := fun b hb => by rw [← hY]; exact wA_n _ _ _ hb
    have yF : Y.F = X.F := by rw [← hY]; rfl
    have yG : Y.G = X.G := by rw [← hY]; rfl
    have y149 : ∀ i, Y.A 149 i = if i = d then nI 0 else V.A 149 i := by
      intro i
      rw [← hY, wA_A, x6]
      by_cases e : i = d
      · rw [if_pos ⟨rfl, e⟩, if_pos e]
      · rw [if_neg (fun q => e q.2), if_neg e]
    refine tot_bd (n_tok ht hN h4 (x2.cg (yA 138 (by omega)) (fun k _ _ => by rw [yF]) (by rw [yG])) ⟨by rw [yF]; exact x3.1, fun i hi => by rw [yA 147 (by omega)]; exact x3.2 i hi⟩ x4) (fun W hW => ?_)
    refine hK w W (by omega) hW.1 (fun i hi => ?_) (fun i hi => ?_) ?_ ((x7.trans fY).trans hW.2.2)
    · rw [hW.2.1, yA 148 (by omega), x5]
    · rw [hW.2.1, y149, if_neg (by omega)]
    · rw [hW.2.1, y149, if_pos rfl]
  have b324 : tot (gX10_reads_b324 N (gX10_reads_b11 N w) (nI d) V) Q := by
    unfold gX10_reads_b324
    rw [m_isW (k := 16) h.1 h4 (by omega) (show (1111 : Int64) = lN (c27L.getD 16 0) from rfl), Option.bind_some]
    dsimp only
    rcases hc with ⟨q1, q2⟩ | ⟨q1, q2⟩
    · rw [if_pos q1, if_neg (by decide)]
      rw [q2] at go
      exact go
    · rw [if_neg (show ¬ kN tp a = 16 by omega), if_pos (by rfl)]
      rw [q2] at go
      exact go
  unfold gX10_reads_b304
  rw [m_isW (k := 16) h.1 h4 (by omega) (show (1111 : Int64) = lN (c27L.getD 16 0) from rfl), Option.bind_some]
  dsimp only
  rcases hc with ⟨q1, q2⟩ | ⟨q1, q2⟩
  · rw [if_pos q1, if_neg (by decide)]
    exact b324
  · rw [if_neg (show ¬ kN tp a = 16 by omega), if_pos (by rfl), m_isW (k := 17) h.1 h4 (by omega) (show (423 : Int64) = lN (c27L.getD 17 0) from rfl), Option.bind_some]
    dsimp only
    rw [if_pos q1, if_neg (by decide)]
    exact b324
/-- nothing goes on here: not an operator, no comparison that may stand, not and, or -/
def stopB (V : VT) (tp : List Nat) (a d : Nat) : Prop := tyN tp a ≠ 42 ∧ tyN tp a ≠ 43 ∧ tyN tp a ≠ 45 ∧ kN tp a ≠ 16 ∧ kN tp a ≠ 17 ∧ (tyN tp a = 60 ∨ tyN tp a = 61 → V.A 149 d ≠ nI 0)
theorem a_stop (ht : GoodT tp) (h : MC V tp a) (ha : a ≤ tp.length) (hd : d < 7) (hs : stopB V tp a d) : gX10_reads_b11 N (w + 1) (nI d) (nI 0) V = (if tyN tp a = 41 ∧ 0 < d then (gX10_puts 29 V).bind fun V4 => gX10_reads_b379 N (gX10_reads_b11 N w) N (nI (d - 1)) (nI 0) V4 else gX10_reads_b399 N (nI d) V) := by
  obtain ⟨h1, h2, h3, h4, h5, h6⟩ := hs
  have b304 : gX10_reads_b304 N (gX10_reads_b11 N w) (nI d) (nI 0) V = (if tyN tp a = 41 ∧ 0 < d then (gX10_puts 29 V).bind fun V4 => gX10_reads_b379 N (gX10_reads_b11 N w) N (nI (d - 1)) (nI 0) V4 else gX10_reads_b399 N (nI d) V) := by
    unfold gX10_reads_b304
    rw [m_isW (k := 16) h ha (by omega) (show (1111 : Int64) = lN (c27L.getD 16 0) from rfl), Option.bind_some]
    dsimp only
    rw [if_neg h4, if_pos (by rfl), m_isW (k := 17) h ha (by omega) (show (423 : Int64) = lN (c27L.getD 17 0) from rfl), Option.bind_some]
    dsimp only
    rw [if_neg h5, if_pos (by rfl), show (41 : Int32) = nI 41 from rfl, m_isS h ht ha (by omega) (by omega), Option.bind_some]
    dsimp only
    by_cases e : tyN tp a = 41
    · rw [if_pos e, if_neg (by decide)]
      by_cases e2 : 0 < d
      · rw [if_neg (nI_nle e2 (by omega)), if_pos ⟨e, e2⟩, show nI d + (-1) = nI (d - 1) from pk_m1' (by omega)]
      · rw [if_pos (by rw [show d = 0 by omega]; decide), if_neg (fun q => e2 q.2)]
    · rw [if_neg e, if_pos (by rfl), if_neg (fun q => e q.1)]
  rw [a_w0 ht h ha, if_neg (by omega)]
  by_cases e : tyN tp a = 60 ∨ tyN tp a = 61
  · rw [if_pos e]
    unfold gX10_reads_b263
    rw [rdA_n (by omega) (by omega), Option.bind_some, if_neg (show ¬ V.A 149 d = 0 from h6 e)]
    exact b304
  · rw [if_neg e]
    exact b304
theorem a_close (ht : GoodT tp) (hN : 1000 < N) (h : MB V tp a cs) (hw : tp.length - a < w) (hd : 0 < d ∧ d < 7) (hs : stopB V tp a d) (hc : tyN tp a = 41) (hK : ∀ w2 W, tp.length - enN tp a < w2 → MB W tp (enN tp a) (cs ++ [29]) → sam V W d → mwp V W → tot (gX10_reads_b11 N w2 (nI (popV V (d - 1))) (nI 0) W) Q) : tot (gX10_reads_b11 N w (nI d) (nI 0) V) Q := by
  have h4 := h.2.2.2
  have h0 : tyN tp a ≠ 0 := by omega
  have he := en_lt h0
  have hp2 := pl_le h4
  obtain ⟨w, rfl⟩ : ∃ i, w = i + 1 := ⟨w - 1, by omega⟩
  obtain ⟨X, x1, x2, x3, x4, x5, x6, x7⟩ := n_put ht h h0 29 (by omega)
  rw [a_stop ht h.1 h4 (by omega) hs, if_pos ⟨hc, hd.1⟩, show (29 : Int32) = nI 29 from rfl, x1, Option.bind_some]
  refine n_pop379 ht hN h4 x2 x3 x4 (fun W w1 w2 w3 => ?_) N (by omega) (by omega)
  rw [popV_cg (V := V) (fun i _ => by rw [x5])]
  exact hK w W (by omega) w1 (sam_A (by rw [w2, x5]) (by rw [w2, x6])) (x7.trans w3)
theorem a_bad0 (ht : GoodT tp) (h : MC V tp a) (ha : a ≤ tp.length) (hw : 0 < w) (hd : d < 7) (hs : stopB V tp a d) (hn : (0 < d → tyN tp a ≠ 41) ∧ (d = 0 → tyN tp a ≠ 59)) (hQ : Bad V (1 + 16 * plN tp a) Q) : tot (gX10_reads_b11 N w (nI d) (nI 0) V) Q := by
  obtain ⟨w, rfl⟩ : ∃ i, w = i + 1 := ⟨w - 1, by omega⟩
  rw [a_stop ht h ha hd hs, if_neg (fun q => hn.1 q.2 q.1)]
  unfold gX10_reads_b399 gX10_reads_b418
  by_cases e : d = 0
  · subst e
    rw [if_pos (by rfl), show (59 : Int32) = nI 59 from rfl, m_isS h ht ha (by omega) (by omega), Option.bind_some]
    dsimp only
    rw [if_neg (hn.2 rfl), if_pos (by rfl)]
    exact n_bad h 1 hQ
  · rw [if_neg (nI_ne0 (by omega) (by omega))]
    exact n_bad h 1 hQ
theorem a_end (ht : GoodT tp) (hN : 1000 < N) (h : MB V tp a cs) (hw : 0 < w) (hs : stopB V tp a 0) (hc : tyN tp a = 59) (hQ : ∀ W, MB W tp (enN tp a) cs → mwp V W → Q (1, W)) : tot (gX10_reads_b11 N w (nI 0) (nI 0) V) Q := by
  have h4 := h.2.2.2
  have h0 : tyN tp a ≠ 0 := by omega
  have he := en_lt h0
  have hp2 := pl_le h4
  obtain ⟨w, rfl⟩ : ∃ i, w = i + 1 := ⟨w - 1, by omega⟩
  rw [a_stop ht h.1 h4 (by omega) hs, if_neg (by omega)]
  unfold gX10_reads_b399
  rw [if_pos (by rfl), show (59 : Int32) = nI 59 from rfl, m_isS h.1 ht h4 (by omega) (by omega), Option.bind_some]
  dsimp only
  rw [if_pos hc, if_neg (by decide)]
  have hl := h.2.2.1
  refine tot_bd (n_tok ht hN h4 h.1 h.2.1 (by omega)) (fun W hW => ?_)
  exact tot_some (hQ W hW.1 hW.2.2)
end PAuto
