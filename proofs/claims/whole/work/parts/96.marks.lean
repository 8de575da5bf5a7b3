/-! PURE: marks, feed. -/
section PMarks
variable {E : VE} {V W : VT} {p : PP} {S : ST} {n o c N : Nat} {H : List ST} {ls : LN} {es : SN} {mk : MK} {tp : List Nat} {A : AB}
def llE (V W : VT) (f t : Nat) : Prop := (∀ j, W.A 160 j = if j = t then V.A 160 f else V.A 160 j) ∧ (∀ j, W.A 161 j = if 40 * t ≤ j ∧ j < 40 * t + 40 then V.A 161 (40 * f + (j - 40 * t)) else V.A 161 j) ∧ (∀ j, W.A 162 j = if 40 * t ≤ j ∧ j < 40 * t + 40 then V.A 162 (40 * f + (j - 40 * t)) else V.A 162 j) ∧ fr (fun a => 160 ≤ a ∧ a ≤ 162) nof V W
def slE (V W : VT) (f t : Nat) : Prop := (∀ j, W.A 163 j = if j = t then V.A 163 f else V.A 163 j) ∧ (∀ j, W.A 164 j = if 8 * t ≤ j ∧ j < 8 * t + 8 then V.A 164 (8 * f + (j - 8 * t)) else V.A 164 j) ∧ (∀ j, W.A 165 j = if 8 * t ≤ j ∧ j < 8 * t + 8 then V.A 165 (8 * f + (j - 8 * t)) else V.A 165 j) ∧ (∀ j, W.A 166 j = if 8 * t ≤ j ∧ j < 8 * t + 8 then qnar .boolean (V.A 166 (8 * f + (j - 8 * t))) else V.A 166 j) ∧ fr (fun a => 163 ≤ a ∧ a ≤ 166) nof V W
theorem LinM.lay {f t : Nat} (h : LinM V f ls) (hl : ls.length ≤ 40) (e : llE V W f t) : LinM W t ls := by
  refine ⟨by rw [e.1 t, if_pos rfl]; exact h.1, fun i hi => ?_⟩
  have h2 := h.2 i hi
  rw [e.2.1 (40 * t + i), if_pos (by omega), e.2.2.1 (40 * t + i), if_pos (by omega), show 40 * t + i - 40 * t = i by omega]
  exact h2
theorem LinM.oth {f t r : Nat} (h : LinM V r ls) (hl : ls.length ≤ 40) (hr : r ≠ t) (e : llE V W f t) : LinM W r ls := by
  refine ⟨by rw [e.1 r, if_neg hr]; exact h.1, fun i hi => ?_⟩
  have h2 := h.2 i hi
  rw [e.2.1 (40 * r + i), if_neg (by omega), e.2.2.1 (40 * r + i), if_neg (by omega)]
  exact h2
theorem SeenM.lay {f t : Nat} (h : SeenM V f es) (hl : es.length ≤ 8) (e : slE V W f t) : SeenM W t es := by
  refine ⟨by rw [e.1 t, if_pos rfl]; exact h.1, fun i hi => ?_⟩
  have h2 := h.2 i hi
  rw [e.2.1 (8 * t + i), if_pos (by omega), e.2.2.1 (8 * t + i), if_pos (by omega), e.2.2.2.1 (8 * t + i), if_pos (by omega), show 8 * t + i - 8 * t = i by omega, h2.2.2, qn_b]
  exact ⟨h2.1, h2.2.1, rfl⟩
theorem SeenM.oth {f t r : Nat} (h : SeenM V r es) (hl : es.length ≤ 8) (hr : r ≠ t) (e : slE V W f t) : SeenM W r es := by
  refine ⟨by rw [e.1 r, if_neg hr]; exact h.1, fun i hi => ?_⟩
  have h2 := h.2 i hi
  rw [e.2.1 (8 * r + i), if_neg (by omega), e.2.2.1 (8 * r + i), if_neg (by omega), e.2.2.2.1 (8 * r + i), if_neg (by omega)]
  exact h2
theorem rd90_n {k : Nat} (h : k < 4) : rd90 (nI k) = some (93 + 11 * k) := by
  unfold rd90
  rw [nI_clamp (by omega), if_pos ⟨nI_pos (by omega), h⟩]
def mkU (mk : MK) (k : Nat) (T : ST × LN × SN) : MK := fun j => if j = k then some T else mk j
theorem s_lay (hg : GoodA c A) (hN : 1000 < N) {k : Nat} (hk : k < 4) : Stq E A c (fun V => (rd90 (nI k)).bind fun x2 => (gX3_lay N x2 24 80 86 V).bind fun V8 => some (1, V8)) (fun V => gX10_mark_b29 N (nI k) (nI 0) V) := by
  have hn := hg.1.1
  have gl := hg.2.2.2.1.1
  have ge := hg.2.2.2.2.1.1
  refine ⟨1, (A.p, A.S, A.H, A.ls, A.es, mkU A.mk k (A.S, A.ls, A.es), A.tp), ⟨hg.1, hg.2.1.mono (by omega), hg.2.2.1.mono (by omega), hg.2.2.2.1, hg.2.2.2.2.1, fun j T hj hT => ?_, hg.2.2.2.2.2.2⟩, fun V h => ?_, fun V h => ?_⟩
  · show GoodS A.p (c + 1) T.1 ∧ GoodL A.p T.2.1 ∧ GoodE T.2.2
    have hT : (if j = k then some (A.S, A.ls, A.es) else A.mk j) = some T := hT
    split at hT
    · cases hT
      exact ⟨hg.2.1.mono (by omega), hg.2.2.2.1, hg.2.2.2.2.1⟩
    · have := hg.2.2.2.2.2.1 j T hj hT
      exact ⟨this.1.mono (by omega), this.2⟩
  · obtain ⟨h1, h2, h3, h4, h5, h6, h7, h8⟩ := id h
    dsimp only
    rw [rd90_n hk, Option.bind_some]
    unfold gX3_lay
    have bd : ∀ {X Y : VT} {P : VT → Prop}, True := trivial
    refine tot_bd (R := fun W => StC W (94 + 11 * k) A.p.n A.S ∧ LinC W (97 + 11 * k) A.ls ∧ SeenC W (100 + 11 * k) A.es ∧ W.F (93 + 11 * k) 3 = nI 1 ∧ fr (fun a => 93 + 11 * k ≤ a ∧ a ≤ 103 + 11 * k) (fun i _ => 93 + 11 * k ≤ i ∧ i ≤ 103 + 11 * k) V W) ?_ (fun W hW => ?_)
    · refine tot_bd (c_copy (o := 93 + 11 * k + 1) (o1 := 24) h3 hn hN (by omega)) (fun W1 w1 => ?_)
      have e1 : ∀ a, a ≤ 92 → eqs V W1 a := fun a ha => fr_eqs w1.2 (by unfold soA; omega) (fun j => by unfold soF; omega)
      refine tot_bd (c_lcopy (o := 93 + 11 * k + 4) (o1 := 80) (h5.cg (fun a _ _ => e1 a (by omega))) gl hN (by omega)) (fun W2 w2 => ?_)
      have e2 : ∀ a, a ≤ 92 → eqs V W2 a := fun a ha => (e1 a ha).trans (fr_eqs w2.2 (by omega) (fun j => by omega))
      refine tot_bd (c_scopy (o := 93 + 11 * k + 7) (o1 := 86) (h6.cg (fun a _ _ => e2 a (by omega))) ge hN (by omega)) (fun W3 w3 => ?_)
      rw [Option.bind_some]
      have f4 : fr (fun _ => False) (fun i j => i = 93 + 11 * k ∧ j = 3) W3 (wF W3 (93 + 11 * k) 3 1) := fr_F _ ⟨rfl, rfl⟩
      have s1 : ∀ {X Y : VT}, fr (soA (93 + 11 * k + 1)) (soF (93 + 11 * k + 1)) X Y → fr (fun a => 93 + 11 * k ≤ a ∧ a ≤ 103 + 11 * k) (fun i _ => 93 + 11 * k ≤ i ∧ i ≤ 103 + 11 * k) X Y := fun q => q.mono (fun a ha => by unfold soA at ha; omega) (fun i j hij => by unfold soF at hij; omega)
      refine tot_some ⟨?_, ?_, ?_, by rw [wF_F, if_pos ⟨rfl, rfl⟩]; rfl, (((s1 w1.2).trans (w2.2.mono (fun a ha => by omega) (fun i j hij => by omega))).trans (w3.2.mono (fun a ha => by omega) (fun i j hij => by omega))).trans (f4.mono (fun a q => False.elim q) (fun i j hij => by omega))⟩
      · have q1 : StC W1 (94 + 11 * k) A.p.n A.S := by
          have := w1.1
          rw [show 93 + 11 * k + 1 = 94 + 11 * k by omega] at this
          exact this
        exact ((q1.cg (fun a _ _ => fr_eqs w2.2 (by omega) (fun j => by omega))).cg (fun a _ _ => fr_eqs w3.2 (by omega) (fun j => by omega))).cg (fun a _ _ => fr_eqs f4 (fun q => q) (fun j => by omega))
      · have q1 : LinC W2 (97 + 11 * k) A.ls := by
          have := w2.1
          rw [show 93 + 11 * k + 4 = 97 + 11 * k by omega] at this
          exact this
        exact (q1.cg (fun a _ _ => fr_eqs w3.2 (by omega) (fun j => by omega))).cg (fun a _ _ => fr_eqs f4 (fun q => q) (fun j => by omega))
      · have q1 : SeenC W3 (100 + 11 * k) A.es := by
          have := w3.1
          rw [show 93 + 11 * k + 7 = 100 + 11 * k by omega] at this
          exact this
        exact q1.cg (fun a _ _ => fr_eqs f4 (fun q => q) (fun j => by omega))
    · obtain ⟨w1, w2, w3, w4, w5⟩ := hW
      have e : ∀ a, a < 93 + 11 * k ∨ 103 + 11 * k < a → eqs V W a := fun a ha => fr_eqs w5 (by omega) (fun j => by omega)
      refine tot_some ⟨rfl, ⟨h1, h2.cg (fun a _ _ => e a (by omega)), h3.cg (fun a _ _ => e a (by omega)), h4.cg (fun a _ _ => e a (by omega)), h5.cg (fun a _ _ => e a (by omega)), h6.cg (fun a _ _ => e a (by omega)), fun j hj => ?_, h8.cg (fun a _ _ => e a (by omega))⟩, fr_lo w5 (fun a ha => by omega) (fun i k hik => by omega)⟩
      show ((if j = k then some (A.S, A.ls, A.es) else A.mk j) = none → _) ∧ ∀ T, (if j = k then some (A.S, A.ls, A.es) else A.mk j) = some T → _
      by_cases ej : j = k
      · subst ej
        rw [if_pos rfl]
        refine ⟨fun q => (by cases q), fun T hT => ?_⟩
        cases hT
        exact ⟨w4, w1, w2, w3⟩
      · rw [if_neg ej, (e (93 + 11 * j) (by omega)).2.2]
        obtain ⟨m1, m2⟩ := h7 j hj
        refine ⟨m1, fun T hT => ?_⟩
        obtain ⟨a1, a2, a3, a4⟩ := m2 T hT
        exact ⟨a1, a2.cg (fun a _ _ => e a (by omega)), a3.cg (fun a _ _ => e a (by omega)), a4.cg (fun a _ _ => e a (by omega))⟩
  · obtain ⟨h1, h2, h3, h4, h5, h6, h7⟩ := id h
    dsimp only
    unfold gX10_mark_b29
    rw [wrA_n (by omega) (by omega), Option.bind_some, if_pos (by rfl)]
    unfold gX10_mark_b47
    rw [if_pos (by rfl)]
    unfold gX10_mark_b59
    generalize hX : wA V 172 k (qnar .boolean 1) = X
    have fX : fr (fun a => a = 172) nof V X := by
      rw [← hX]
      exact fr_A _ _ rfl
    have aX : ∀ j, X.A 172 j = if j = k then nI 1 else V.A 172 j := by
      intro j
      rw [← hX, wA_A]
      by_cases ej : j = k
      · rw [if_pos ⟨rfl, ej⟩, if_pos ej]
        decide
      · rw [if_neg (fun q => ej q.2), if_neg ej]
    rw [show (1 : Int32) + nI k = nI (1 + k) from nI_add 1 k, show (0 : Int32) = nI 0 from rfl]
    refine tot_bd (m_llay (V := X) (f := 0) (t := 1 + k) (by omega) (by omega) (by omega) hN) (fun W1 w1 => ?_)
    refine tot_bd (m_slay (V := W1) (f := 0) (t := 1 + k) (by omega) (by omega) (by omega) hN) (fun W2 w2 => ?_)
    rw [if_pos rfl, show (16 : Int32) * nI k = nI (16 * k) from pk_mul 16 k]
    refine tot_bd (m_copies (V := W2) (a1 := 167) (a2 := 170) (x := 0) (y := 16 * k) (by omega) (by omega) (by omega) (by omega) (by omega) hN) (fun W3 w3 => ?_)
    have w1 : llE X W1 0 (1 + k) := w1
    have w2 : slE W1 W2 0 (1 + k) := w2
    have e1 : ∀ a, a ≠ 172 → ¬ (160 ≤ a ∧ a ≤ 162) → eqs V W1 a := fun a h1 h2 => (fr_eqs fX h1 (fun _ q => q)).trans (fr_eqs w1.2.2.2 h2 (fun _ q => q))
    have e3 : ∀ a, a ≠ 172 → ¬ (160 ≤ a ∧ a ≤ 166) → a ≠ 170 → eqs V W3 a := fun a h1 h2 h3 => ((e1 a h1 (by omega)).trans (fr_eqs w2.2.2.2.2 (by omega) (fun _ q => q))).trans (fr_eqs w3.2.2 h3 (fun _ q => q))
    have l3 : ∀ {r : Nat} {ls : LN}, LinM W1 r ls → LinM W3 r ls := fun q => (q.at (w2.2.2.2.2.2.2.1 160 (by omega)) (w2.2.2.2.2.2.2.1 161 (by omega)) (w2.2.2.2.2.2.2.1 162 (by omega))).at (w3.2.2.2.2.1 160 (by omega)) (w3.2.2.2.2.1 161 (by omega)) (w3.2.2.2.2.1 162 (by omega))
    have l0 : ∀ {r : Nat} {ls : LN}, LinM V r ls → LinM X r ls := fun q => q.at (fX.2.2.1 160 (by omega)) (fX.2.2.1 161 (by omega)) (fX.2.2.1 162 (by omega))
    have n0 : ∀ {r : Nat} {es : SN}, SeenM V r es → SeenM W1 r es := fun q => q.at (e1 163 (by omega) (by omega)).1 (e1 164 (by omega) (by omega)).1 (e1 165 (by omega) (by omega)).1 (e1 166 (by omega) (by omega)).1
    have n3 : ∀ {r : Nat} {es : SN}, SeenM W2 r es → SeenM W3 r es := fun q => q.at (w3.2.2.2.2.1 163 (by omega)) (w3.2.2.2.2.1 164 (by omega)) (w3.2.2.2.2.1 165 (by omega)) (w3.2.2.2.2.1 166 (by omega))
    have st2 : MSt W2 A.p.n A.S := h2.at (((e1 167 (by omega) (by omega)).trans (fr_eqs w2.2.2.2.2 (by omega) (fun _ q => q))).1)
    refine tot_some ⟨rfl, ⟨h1.cg (fun a q1 q2 q3 => e3 a (by omega) (by omega) (by omega)), h2.at (e3 167 (by omega) (by omega) (by omega)).1, h3.at (by rw [(e3 137 (by omega) (by omega) (by omega)).2.2]) (e3 171 (by omega) (by omega) (by omega)).1, l3 ((l0 h4).oth gl (by omega) w1), n3 ((n0 h5).oth ge (by omega) w2), fun j hj => ?_, h7.at (by rw [(e3 137 (by omega) (by omega) (by omega)).2.2]) (e3 138 (by omega) (by omega) (by omega)).1⟩, fun a ha => e3 a (by omega) (by omega) (by omega)⟩
    have aW : W3.A 172 j = X.A 172 j := by rw [w3.2.2.2.2.1 172 (by omega), w2.2.2.2.2.2.2.1 172 (by omega), w1.2.2.2.2.2.1 172 (by omega)]
    rw [aW, aX]
    show ((if j = k then some (A.S, A.ls, A.es) else A.mk j) = none → _) ∧ ∀ T, (if j = k then some (A.S, A.ls, A.es) else A.mk j) = some T → _
    by_cases ej : j = k
    · subst ej
      rw [if_pos rfl, if_pos rfl]
      refine ⟨fun q => (by cases q), fun T hT => ?_⟩
      cases hT
      exact ⟨rfl, st2.row.cp w3.1, l3 ((l0 h4).lay gl w1), n3 ((n0 h5).lay ge w2)⟩
    · rw [if_neg ej, if_neg ej]
      obtain ⟨m1, m2⟩ := h6 j hj
      refine ⟨m1, fun T hT => ?_⟩
      obtain ⟨a1, a2, a3, a4⟩ := m2 T hT
      obtain ⟨g1, g2, g3⟩ := hg.2.2.2.2.2.1 j T hj hT
      refine ⟨a1, a2.cp (fun i hi => ?_), l3 ((l0 a3).oth g2.1 (by omega) w1), n3 ((n0 a4).oth g3.1 (by omega) w2)⟩
      rw [w3.2.1 _ (by omega), w2.2.2.2.2.2.2.1 170 (by omega), (e1 170 (by omega) (by omega)).1]
theorem s_back (hg : GoodA c A) (hN : 1000 < N) {k : Nat} (hk : k < 4) {T : ST × LN × SN} (hT : A.mk k = some T) : Stq E A c (fun V => (gX8_copy N 24 (93 + 11 * k + 1) V).bind fun V4 => (gX2_copy N 80 (93 + 11 * k + 4) V4).bind fun V5 => (gX7_copy N 86 (93 + 11 * k + 7) V5).bind fun V6 => (gX0_clear V6).bind fun V7 => some (1, V7)) (fun V => gX10_mark_b29 N (nI k) (nI 1) V) := by
  have hn := hg.1.1
  obtain ⟨g1, g2, g3⟩ := hg.2.2.2.2.2.1 k T hk hT
  refine ⟨1, (A.p, T.1, [], T.2.1, T.2.2, A.mk, A.tp), ⟨hg.1, g1.mono (by omega), ⟨by simp [AB.H], fun i hi => by simp [AB.H] at hi⟩, g2, g3, hg.2.2.2.2.2.1.mono (by omega), hg.2.2.2.2.2.2⟩, fun V h => ?_, fun V h => ?_⟩
  · obtain ⟨h1, h2, h3, h4, h5, h6, h7, h8⟩ := id h
    obtain ⟨m1, m2, m3, m4⟩ := (h7 k hk).2 T hT
    have m2 : StC V (93 + 11 * k + 1) A.p.n T.1 := by
      rw [show 93 + 11 * k + 1 = 94 + 11 * k by omega]
      exact m2
    have m3 : LinC V (93 + 11 * k + 4) T.2.1 := by
      rw [show 93 + 11 * k + 4 = 97 + 11 * k by omega]
      exact m3
    have m4 : SeenC V (93 + 11 * k + 7) T.2.2 := by
      rw [show 93 + 11 * k + 7 = 100 + 11 * k by omega]
      exact m4
    dsimp only
    refine tot_bd (c_copy (o := 24) (o1 := 93 + 11 * k + 1) m2 hn hN (by omega)) (fun W1 w1 => ?_)
    have e1 : ∀ a, ¬ (24 ≤ a ∧ a ≤ 26) → eqs V W1 a := fun a ha => fr_eqs w1.2 (by unfold soA; omega) (fun j => by unfold soF; omega)
    refine tot_bd (c_lcopy (o := 80) (o1 := 93 + 11 * k + 4) (m3.cg (fun a _ _ => e1 a (by omega))) g2.1 hN (by omega)) (fun W2 w2 => ?_)
    have e2 : ∀ a, ¬ (24 ≤ a ∧ a ≤ 26) → ¬ (80 ≤ a ∧ a ≤ 82) → eqs V W2 a := fun a ha hb => (e1 a ha).trans (fr_eqs w2.2 (by omega) (fun j => by omega))
    refine tot_bd (c_scopy (o := 86) (o1 := 93 + 11 * k + 7) (m4.cg (fun a _ _ => e2 a (by omega) (by omega))) g3.1 hN (by omega)) (fun W3 w3 => ?_)
    unfold gX0_clear
    simp only [Option.bind_some]
    generalize hX : wF (wF W3 30 1 0) 30 2 0 = X
    have f4 : fr (fun _ => False) (fun i j => i = 30 ∧ (j = 1 ∨ j = 2)) W3 X := by
      rw [← hX]
      exact (fr_F _ (by simp)).trans (fr_F _ (by simp))
    have e : ∀ a, ¬ (24 ≤ a ∧ a ≤ 26) → ¬ (80 ≤ a ∧ a ≤ 82) → ¬ (86 ≤ a ∧ a ≤ 89) → a ≠ 30 → eqs V X a := fun a ha hb hc hd => ((e2 a ha hb).trans (fr_eqs w3.2 (by omega) (fun j => by omega))).trans (fr_eqs f4 (fun q => q) (fun j => by omega))
    refine tot_some ⟨rfl, ⟨h1, h2.cg (fun a _ _ => e a (by omega) (by omega) (by omega) (by omega)), ((w1.1.cg (fun a _ _ => fr_eqs w2.2 (by omega) (fun j => by omega))).cg (fun a _ _ => fr_eqs w3.2 (by omega) (fun j => by omega))).cg (fun a _ _ => fr_eqs f4 (fun q => q) (fun j => by omega)), ⟨0, by omega, ?_, ?_, fun j hj => by simp [AB.H] at hj⟩, (w2.1.cg (fun a _ _ => fr_eqs w3.2 (by omega) (fun j => by omega))).cg (fun a _ _ => fr_eqs f4 (fun q => q) (fun j => by omega)), w3.1.cg (fun a _ _ => fr_eqs f4 (fun q => q) (fun j => by omega)), h7.cg (fun a _ _ => e a (by omega) (by omega) (by omega) (by omega)), h8.cg (fun a _ _ => e a (by omega) (by omega) (by omega) (by omega))⟩, fun a ha => e a (by omega) (by omega) (by omega) (by omega)⟩
    · rw [← hX, wF_F, if_neg (by omega), wF_F, if_pos ⟨rfl, rfl⟩]
      rfl
    · rw [← hX, wF_F, if_pos ⟨rfl, rfl⟩]
      rfl
  · obtain ⟨h1, h2, h3, h4, h5, h6, h7⟩ := id h
    obtain ⟨m1, m2, m3, m4⟩ := (h6 k hk).2 T hT
    dsimp only
    unfold gX10_mark_b29
    rw [wrA_n (by omega) (by omega), Option.bind_some, if_neg (by decide)]
    unfold gX10_mark_b47
    rw [if_neg (by decide)]
    unfold gX10_mark_b59
    generalize hX : wA V 172 k (qnar .boolean 1) = X
    have fX : fr (fun a => a = 172) nof V X := by
      rw [← hX]
      exact fr_A _ _ rfl
    have aX : X.A 172 = V.A 172 := by
      funext j
      rw [← hX, wA_A]
      by_cases ej : j = k
      · rw [if_pos ⟨rfl, ej⟩, ej, m1]
        decide
      · rw [if_neg (fun q => ej q.2)]
    rw [show (1 : Int32) + nI k = nI (1 + k) from nI_add 1 k, show (0 : Int32) = nI 0 from rfl]
    refine tot_bd (m_llay (V := X) (f := 1 + k) (t := 0) (by omega) (by omega) (by omega) hN) (fun W1 w1 => ?_)
    refine tot_bd (m_slay (V := W1) (f := 1 + k) (t := 0) (by omega) (by omega) (by omega) hN) (fun W2 w2 => ?_)
    rw [if_neg (by decide), show (16 : Int32) * nI k = nI (16 * k) from pk_mul 16 k]
    refine tot_bd (m_copies (V := W2) (a1 := 170) (a2 := 167) (x := 16 * k) (y := 0) (by omega) (by omega) (by omega) (by omega) (by omega) hN) (fun W3 w3 => ?_)
    have w1 : llE X W1 (1 + k) 0 := w1
    have w2 : slE W1 W2 (1 + k) 0 := w2
    rw [Option.bind_some]
    have f4 : fr (fun _ => False) (fun i j => i = 137 ∧ j = 47) W3 (wF W3 137 47 (nI 0)) := fr_F _ ⟨rfl, rfl⟩
    have e1 : ∀ a, a ≠ 172 → ¬ (160 ≤ a ∧ a ≤ 162) → eqs V W1 a := fun a h1 h2 => (fr_eqs fX h1 (fun _ q => q)).trans (fr_eqs w1.2.2.2 h2 (fun _ q => q))
    have e2 : ∀ a, a ≠ 172 → ¬ (160 ≤ a ∧ a ≤ 166) → eqs V W2 a := fun a h1 h2 => (e1 a h1 (by omega)).trans (fr_eqs w2.2.2.2.2 (by omega) (fun _ q => q))
    have e3 : ∀ a, a ≠ 172 → ¬ (160 ≤ a ∧ a ≤ 166) → a ≠ 167 → eqs V W3 a := fun a h1 h2 h3 => (e2 a h1 h2).trans (fr_eqs w3.2.2 h3 (fun _ q => q))
    have l3 : ∀ {r : Nat} {ls : LN}, LinM W1 r ls → LinM W3 r ls := fun q => (q.at (w2.2.2.2.2.2.2.1 160 (by omega)) (w2.2.2.2.2.2.2.1 161 (by omega)) (w2.2.2.2.2.2.2.1 162 (by omega))).at (w3.2.2.2.2.1 160 (by omega)) (w3.2.2.2.2.1 161 (by omega)) (w3.2.2.2.2.1 162 (by omega))
    have l0 : ∀ {r : Nat} {ls : LN}, LinM V r ls → LinM X r ls := fun q => q.at (fX.2.2.1 160 (by omega)) (fX.2.2.1 161 (by omega)) (fX.2.2.1 162 (by omega))
    have n0 : ∀ {r : Nat} {es : SN}, SeenM V r es → SeenM W1 r es := fun q => q.at (e1 163 (by omega) (by omega)).1 (e1 164 (by omega) (by omega)).1 (e1 165 (by omega) (by omega)).1 (e1 166 (by omega) (by omega)).1
    have n3 : ∀ {r : Nat} {es : SN}, SeenM W2 r es → SeenM W3 r es := fun q => q.at (w3.2.2.2.2.1 163 (by omega)) (w3.2.2.2.2.1 164 (by omega)) (w3.2.2.2.2.1 165 (by omega)) (w3.2.2.2.2.1 166 (by omega))
    have sW : MSt W3 A.p.n T.1 := by
      refine (m2.cp (fun i hi => ?_)).st
      rw [w3.1 i hi, (e2 170 (by omega) (by omega)).1]
    have F1 : (wF W3 137 47 (nI 0)).F 137 1 = V.F 137 1 := by rw [wF_F, if_neg (by omega), (e3 137 (by omega) (by omega) (by omega)).2.2]
    refine tot_some ⟨rfl, ⟨(h1.cg (fun a q1 q2 q3 => e3 a (by omega) (by omega) (by omega))).cg (fun a _ _ _ => fr_eqs f4 (fun q => q) (fun j q => by omega)), sW, ⟨by rw [wF_F, if_pos ⟨rfl, rfl⟩]; rfl, fun j hj => by simp [AB.H] at hj⟩, l3 ((l0 m3).lay g2.1 w1), n3 ((n0 m4).lay g3.1 w2), fun j hj => ?_, h7.at F1 (e3 138 (by omega) (by omega) (by omega)).1⟩, fun a ha => (e3 a (by omega) (by omega) (by omega)).trans (fr_eqs f4 (fun q => q) (fun j q => by omega))⟩
    have aW : (wF W3 137 47 (nI 0)).A 172 = V.A 172 := by rw [wF_A, w3.2.2.2.2.1 172 (by omega), w2.2.2.2.2.2.2.1 172 (by omega), w1.2.2.2.2.2.1 172 (by omega), aX]
    rw [aW]
    obtain ⟨q1, q2⟩ := h6 j hj
    refine ⟨q1, fun T2 hT2 => ?_⟩
    obtain ⟨a1, a2, a3, a4⟩ := q2 T2 hT2
    obtain ⟨y1, y2, y3⟩ := hg.2.2.2.2.2.1 j T2 hj hT2
    exact ⟨a1, a2.at (e3 170 (by omega) (by omega) (by omega)).1, l3 ((l0 a3).oth y2.1 (by omega) w1), n3 ((n0 a4).oth y3.1 (by omega) w2)⟩
theorem s_mark (hg : GoodA c A) (hN : 1000 < N) (x : Int32) (b : Bool) : Stq E A c (fun V => gX9_mark E N x (nI (if b = true then 1 else 0)) V) (fun V => gX10_mark N x (nI (if b = true then 1 else 0)) V) := by
  unfold gX9_mark gX10_mark
  refine st_th (st_W hg 0 3 rfl rfl (by omega) (by omega) (fun k _ hk e => ?_))
  subst e
  cases b with
  | false => exact s_lay hg hN (by omega)
  | true =>
    cases hT : A.mk k with
    | none =>
      refine ⟨0, A, hg.mono (by omega), fun V h => ?_, fun V h => ?_⟩
      · dsimp only
        rw [rd90_n (by omega), Option.bind_some, if_neg (by decide), (h.2.2.2.2.2.2.1 k (by omega)).1 hT, if_pos (by rfl)]
        exact tot_some ⟨rfl, h, lo.rf⟩
      · dsimp only
        rw [if_neg (by decide), rdA_n (by omega) (by omega), Option.bind_some, (h.2.2.2.2.2.1 k (by omega)).1 hT, if_pos (by rfl)]
        exact tot_some ⟨rfl, h, hi.rf⟩
    | some T =>
      obtain ⟨v, A', q0, q1, q2⟩ := s_back (E := E) (N := N) hg hN (show k < 4 by omega) hT
      refine ⟨v, A', q0, fun V h => ?_, fun V h => ?_⟩
      · dsimp only
        rw [rd90_n (by omega), Option.bind_some, if_neg (by decide), ((h.2.2.2.2.2.2.1 k (by omega)).2 T hT).1, if_neg (by decide)]
        exact q1 V h
      · dsimp only
        rw [if_neg (by decide), rdA_n (by omega) (by omega), Option.bind_some, ((h.2.2.2.2.2.1 k (by omega)).2 T hT).1, if_neg (by decide)]
        exact q2 V h
end PMarks
