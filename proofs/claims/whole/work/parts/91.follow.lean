/-! PURE: what is done, line by line; years by draws. -/
def folB (p : PP) (S : ST) (v m : Nat) : Bool := if v = 2 then true else if v = 0 then decide (priceN p m ≤ S.po) else decide (¬ S.co m = 0)
def folS (p : PP) (S : ST) (v m : Nat) : ST := if v = 2 then passS p S else if v = 0 then (if priceN p m ≤ S.po then putOn p S m else S) else (if S.co m = 0 then S else takeOff p S m)
theorem GoodS.fol {p : PP} {c : Nat} {S : ST} (g : GoodP p) (h : GoodS p c S) (v m : Nat) : GoodS p (c + 1) (folS p S v m) := by
  unfold folS
  split
  · exact h.pass g
  · split
    · split
      · exact h.put
      · exact h.mono (by omega)
    · split
      · exact h.mono (by omega)
      · exact (h.off g).mono (by omega)
section PFollow
variable {E : VE} {V : VT} {T : Nat} {p : PP} {S : ST} {o c N v m : Nat}
theorem c_follow (hN : 1000 < N) (h : PastC V T p) (hs : StC V o p.n S) (g : GoodS p c S) (hc : c < 2 ^ 30) (hT : T + 8 < o) {x : Int32} (hv : v ≤ 2) (hx : v = 2 ∨ m < p.n ∧ x = nI m) : tot (gX8_follow N o T (nI (8 + v)) x V) (fun r => r.1 = nI (if folB p S v m = true then 1 else 0) ∧ StC r.2 o p.n (folS p S v m) ∧ fr (fun a => soA o a ∨ a = T + 8) (fun i k => soF o i k ∨ i = T + 6 ∧ k = 3) V r.2) := by
  have hn := h.1.1
  have hpr := priceN_le h.1 m
  have gp := g.2
  unfold gX8_follow
  have hv3 : v = 0 ∨ v = 1 ∨ v = 2 := by omega
  rcases hv3 with e | e | e
  · subst e
    obtain ⟨hm, rfl⟩ : m < p.n ∧ x = nI m := by
      rcases hx with q | q
      · omega
      · exact q
    rw [if_neg (by decide), if_neg (nI_pos (by omega)), h.2.1.1, if_pos (nI_lt hm (by omega)), if_pos (by decide), c_can h hs.2.1 g.2.1 hm, Option.bind_some]
    dsimp only
    by_cases hcan : priceN p m ≤ S.po
    · rw [if_neg (show ¬ S.po < priceN p m by omega), if_neg (by decide)]
      refine tot_bd (c_put hN h hs g hc hm hcan hT) (fun W hW => ?_)
      refine tot_some ⟨?_, ?_, hW.2⟩
      · simp [folB, hcan, n1]
      · have e : folS p S 0 m = putOn p S m := by simp [folS, hcan]
        rw [e]
        exact hW.1
    · rw [if_pos (show S.po < priceN p m by omega), if_pos (by decide)]
      unfold gX8_follow_b50
      rw [if_neg (by decide)]
      refine tot_some ⟨?_, ?_, fr.rf⟩
      · simp [folB, hcan, n0]
      · have e : folS p S 0 m = S := by simp [folS, hcan]
        rw [e]
        exact hs
  · subst e
    obtain ⟨hm, rfl⟩ : m < p.n ∧ x = nI m := by
      rcases hx with q | q
      · omega
      · exact q
    have gm := g.1 m hm
    rw [if_neg (by decide), if_neg (nI_pos (by omega)), h.2.1.1, if_pos (nI_lt hm (by omega)), if_neg (by decide)]
    unfold gX8_follow_b50
    rw [if_pos (by decide), rdA_n (by omega) (by omega), Option.bind_some, (hs.1 m hm).2]
    by_cases hcan : S.co m = 0
    · rw [if_pos (by rw [hcan]; decide)]
      refine tot_some ⟨?_, ?_, fr.rf⟩
      · simp [folB, hcan, n0]
      · have e : folS p S 1 m = S := by simp [folS, hcan]
        rw [e]
        exact hs
    · rw [if_neg (nI_nle (by omega) (by omega))]
      refine tot_bd (c_off (N := N) h hs hm (by omega)) (fun W hW => ?_)
      refine tot_some ⟨?_, ?_, hW.2.mono (fun _ q => Or.inl q) (fun _ _ q => Or.inl q)⟩
      · simp [folB, hcan, n1]
      · have e : folS p S 1 m = takeOff p S m := by simp [folS, hcan]
        rw [e]
        exact hW.1
  · subst e
    rw [if_pos (by decide)]
    refine tot_bd (c_pass hN h hs g hc (by omega)) (fun W hW => ?_)
    refine tot_some ⟨?_, ?_, hW.2.mono (fun _ q => Or.inl q) (fun _ _ q => Or.inl q)⟩
    · simp [folB, n1]
    · have e : folS p S 2 m = passS p S := by simp [folS]
      rw [e]
      exact hW.1
theorem m_done {k : Nat} (hN : 1000 < N) (h : PastM V p) (hs : MSt V p.n S) (g : GoodS p c S) (hc : c < 2 ^ 30) (hk : k < 240) (hv : v ≤ 2) (e1 : V.A 161 k = nI v) (e2 : v = 2 ∨ m < p.n ∧ V.A 162 k = nI m) : tot (gX10_isDone N (nI k) V) (fun r => r.1 = nI (if folB p S v m = true then 1 else 0) ∧ MSt r.2 p.n (folS p S v m) ∧ fr (fun a => wkB a ∨ s7 a) nof V r.2) := by
  have hn := h.1.1
  have hpr := priceN_le h.1 m
  have gp := g.2
  unfold gX10_isDone
  rw [rdA_n (by omega) (by omega), rdA_n (by omega) (by omega), Option.bind_some, Option.bind_some, e1]
  have hv3 : v = 0 ∨ v = 1 ∨ v = 2 := by omega
  rcases hv3 with e | e | e
  · subst e
    obtain ⟨hm, ex⟩ : m < p.n ∧ V.A 162 k = nI m := by
      rcases e2 with q | q
      · omega
      · exact q
    rw [if_neg (by decide), Option.bind_some, if_pos (by decide), ex, m_price h hm, Option.bind_some, hs.2.1]
    dsimp only
    by_cases hcan : priceN p m ≤ S.po
    · rw [if_pos (nI_le hcan (by omega))]
      refine tot_bd (m_coats h hs g hc hN hm hcan) (fun W hW => ?_)
      refine tot_some ⟨?_, ?_, hW.2⟩
      · simp [folB, hcan, n1]
      · have e : folS p S 0 m = putOn p S m := by simp [folS, hcan]
        rw [e]
        exact hW.1
    · rw [if_neg (nI_ge (by omega) (by omega))]
      refine tot_some ⟨?_, ?_, fr.rf⟩
      · simp [folB, hcan, n0]
      · have e : folS p S 0 m = S := by simp [folS, hcan]
        rw [e]
        exact hs
  · subst e
    obtain ⟨hm, ex⟩ : m < p.n ∧ V.A 162 k = nI m := by
      rcases e2 with q | q
      · omega
      · exact q
    have gm := g.1 m hm
    rw [if_neg (by decide), Option.bind_some, if_neg (by decide), ex, show (9 : Int32) + nI m = nI (9 + m) from nI_add 9 m, rdA_n (by omega) (by omega), Option.bind_some, (hs.so hn hm).2]
    by_cases hcan : S.co m = 0
    · rw [if_pos (by rw [hcan]; decide)]
      refine tot_some ⟨?_, ?_, fr.rf⟩
      · simp [folB, hcan, n0]
      · have e : folS p S 1 m = S := by simp [folS, hcan]
        rw [e]
        exact hs
    · rw [if_neg (nI_ne0 (by omega) (by omega))]
      refine tot_bd (m_eaten h hs hm) (fun W hW => ?_)
      refine tot_some ⟨?_, ?_, hW.2.mono (fun _ q => Or.inr q) (fun _ _ q => q)⟩
      · simp [folB, hcan, n1]
      · have e : folS p S 1 m = takeOff p S m := by simp [folS, hcan]
        rw [e]
        exact hW.1
  · subst e
    rw [if_pos (by decide)]
    refine tot_bd (m_passes h hs g hc hN) (fun W hW => ?_)
    refine tot_some ⟨?_, ?_, hW.2.mono (fun _ q => Or.inr q) (fun _ _ q => q)⟩
    · simp [folB, n1]
    · have e : folS p S 2 m = passS p S := by simp [folS]
      rw [e]
      exact hW.1
end PFollow
theorem wG_G (V : VT) (o k : Nat) (x : Int64) : (wG V o k x).G o k = x := by
  show va_up V.G o (va_up (V.G o) k x) o k = x
  rw [up_s, up_s]
/-! years by draws -/
def ndN (g : Nat) : Nat := (g * 1103515245 + 12345) % 2147483648
theorem nd_lt (g : Nat) : ndN g < 2 ^ 31 := Nat.mod_lt _ (by decide)
theorem nd_L {g : Nat} (h : g < 2 ^ 31) : ((lN g * 1103515245) + 12345) - ((lN g * 1103515245) + 12345) / 2147483648 * 2147483648 = lN (ndN g) := by
  rw [show (1103515245 : Int64) = lN 1103515245 from rfl, show (12345 : Int64) = lN 12345 from rfl, show (2147483648 : Int64) = lN 2147483648 from rfl, lN_mul, lN_add, pk_lRem (by omega) (by omega) (by omega)]
  rfl
theorem dr_L {g b : Nat} (h : g < 2 ^ 31) (hb : 0 < b) (hb2 : b < 2 ^ 31) : ((lN g / 65536) - (lN g / 65536) / lN b * lN b).toInt32 = nI (g / 65536 % b) := by
  rw [show (65536 : Int64) = lN 65536 from rfl, pk_lDiv (by omega) (by omega) (by omega), pk_lRem (by omega) hb (by omega), lN_i]
theorem qZL_n {b : Nat} (hb : 0 < b) (hb2 : b < 2 ^ 31) : qZL (lN b) = some () := by
  unfold qZL
  refine if_neg (fun q => ?_)
  have := (pk_lEQ (b := 0) (by omega) (by omega)).mp q
  omega
/-- what happens to a matter in a year of draws -/
def drM (p : PP) (g : Nat) : Nat := ndN g / 65536 % p.n
def drD (g : Nat) : Nat := ndN (ndN g) / 65536 % 4
def lvS (p : PP) (g : Nat) (S : ST) : ST := if p.n = 0 then S else if drD g = 0 then folS p S 1 (drM p g) else if drD g ≤ 2 then folS p S 0 (drM p g) else S
def lvB (p : PP) (g : Nat) (S : ST) : Nat := if p.n = 0 then 0 else if drD g = 0 then 0 else if drD g ≤ 2 then (if folB p S 0 (drM p g) = true then 1 else 0) else 0
def lvG (p : PP) (g : Nat) : Nat := if p.n = 0 then g else ndN (ndN g)
def lyN (p : PP) : Nat → ST × Nat × Nat → ST × Nat × Nat
  | 0, x => x
  | k + 1, x => (passS p (lvS p (lyN p k x).2.1 (lyN p k x).1), lvG p (lyN p k x).2.1, (lyN p k x).2.2 + lvB p (lyN p k x).2.1 (lyN p k x).1)
theorem GoodS.lv {p : PP} {c : Nat} {S : ST} (g : GoodP p) (h : GoodS p c S) (q : Nat) : GoodS p (c + 1) (lvS p q S) := by
  unfold lvS
  split
  · exact h.mono (by omega)
  · split
    · exact h.fol g _ _
    · split
      · exact h.fol g _ _
      · exact h.mono (by omega)
theorem ly_ok {p : PP} {c : Nat} {S : ST} {q : Nat} (g : GoodP p) (h : GoodS p c S) (hq : q < 2 ^ 31) : ∀ k, GoodS p (c + 2 * k) (lyN p k (S, q, 0)).1 ∧ (lyN p k (S, q, 0)).2.1 < 2 ^ 31 ∧ (lyN p k (S, q, 0)).2.2 ≤ k
  | 0 => ⟨h, hq, Nat.le_refl _⟩
  | k + 1 => by
    obtain ⟨h1, h2, h3⟩ := ly_ok g h hq k
    refine ⟨(h1.lv g _).pass g, ?_, ?_⟩
    · show lvG p _ < _
      unfold lvG
      split
      · exact h2
      · exact nd_lt _
    · show _ + lvB p _ _ ≤ _
      have : lvB p (lyN p k (S, q, 0)).2.1 (lyN p k (S, q, 0)).1 ≤ 1 := by
        unfold lvB
        repeat' split
        all_goals omega
      omega
section PYears
variable {E : VE} {V : VT} {p : PP} {S : ST} {c N q : Nat}
theorem c_draw {g b : Nat} (h : g < 2 ^ 31) (hb : 0 < b) (hb2 : b < 2 ^ 31) : gX9_drawnBelow (lN g) (nI b) V = some (nI (g / 65536 % b), V) := by
  unfold gX9_drawnBelow
  rw [if_pos (show (0 : Int32) < nI b from nI_lt (a := 0) hb hb2), nI_l hb2, qZL_n hb hb2, Option.bind_some, dr_L h hb hb2]
theorem put_sc {T : Nat} (hE : T = 6 ∨ T = 15) {X Y : VT} (h : fr (fun a => soA 27 a ∨ a = T + 8) (fun i k => soF 27 i k ∨ i = T + 6 ∧ k = 3) X Y) : fr scA scF X Y := h.mono (fun a ha => by unfold soA at ha; unfold scA; omega) (fun i k hik => by unfold soF at hik; unfold scF; omega)
theorem c_live (h : CQ E V p S c) (hN : 1000 < N) {u : Nat} (hu : u ≤ 99) (hq : q < 2 ^ 31) : tot (gX9_liveYears E N (nI q) (nI u) V) (fun r => r.1 = nI (lyN p u (S, q, 0)).2.2 ∧ StC r.2 27 p.n (lyN p u (S, q, 0)).1 ∧ fr scA scF V r.2) := by
  have hn := h.2.1.1.1
  have hE := h.1
  have hcc := h.2.2.2.2
  have g := h.2.1.1
  unfold gX9_liveYears
  refine tot_bd (c_copy (o := 27) (o1 := 24) h.2.2.1 hn hN (by omega)) (fun W hW => ?_)
  have sub : ∀ {X Y : VT}, fr (soA 27) (soF 27) X Y → fr scA scF X Y := fun q => q.mono (fun a ha => by unfold soA at ha; unfold scA; omega) (fun i k hik => by unfold soF at hik; unfold scF; omega)
  rw [nI_l hq]
  refine loop_T (F := fun w (a : ST × Nat × Nat) k V => gX9_liveYears_b20 E N w (nI u) (nI a.2.2) (lN a.2.1) (nI k) V) u (fun k a W => a = lyN p k (S, q, 0) ∧ StC W 27 p.n a.1 ∧ fr scA scF V W) ?_ ?_ N 0 (S, q, 0) W (by omega) (by omega) ⟨rfl, hW.1, sub hW.2⟩
  · intro w k a W hk hI hK
    obtain ⟨i1, i2, i3⟩ := hI
    obtain ⟨o1, o2, o3⟩ := ly_ok g h.2.2.2.1 hq k
    rw [← i1] at o1 o2 o3
    have h1 := h.fr i3
    show tot (gX9_liveYears_b20 E N (w + 1) (nI u) (nI a.2.2) (lN a.2.1) (nI k) W) _
    have fin : ∀ (S2 : ST) (n2 g2 : Nat) (X : VT), lyN p (k + 1) (S, q, 0) = (passS p S2, g2, n2) → GoodS p (c + 2 * k + 1) S2 → StC X 27 p.n S2 → fr scA scF V X → tot (gX9_liveYears_b123 E N (gX9_liveYears_b20 E N w) (nI u) (nI n2) (lN g2) (nI k) X) (fun r => r.1 = nI (lyN p u (S, q, 0)).2.2 ∧ StC r.2 27 p.n (lyN p u (S, q, 0)).1 ∧ fr scA scF V r.2) := by
      intro S2 n2 g2 X e gX sX fX
      unfold gX9_liveYears_b123
      refine tot_bd (c_pass (o := 27) hN (h.fr fX).2.1 sX gX (by omega) (by omega)) (fun Y hY => ?_)
      rw [show nI k + 1 = nI (k + 1) from nI_1 k]
      exact hK (passS p S2, g2, n2) Y ⟨e.symm, hY.1, fX.trans (sub hY.2)⟩
    have ek : lyN p (k + 1) (S, q, 0) = (passS p (lvS p a.2.1 a.1), lvG p a.2.1, a.2.2 + lvB p a.2.1 a.1) := by rw [lyN, ← i1]
    unfold gX9_liveYears_b20
    rw [if_neg (nI_ge hk (by omega)), h1.2.1.2.1.1]
    by_cases hz : p.n = 0
    · rw [if_pos (by rw [hz]; decide)]
      refine fin a.1 a.2.2 a.2.1 W ?_ (o1.mono (by omega)) i2 i3
      rw [ek]
      simp [lvS, lvG, lvB, hz]
    · rw [if_neg (nI_nle (by omega) (by omega))]
      unfold gX9_nextDraw
      rw [nd_L o2, Option.bind_some]
      dsimp only
      rw [h1.2.1.2.1.1, c_draw (nd_lt _) (by omega) (by omega), Option.bind_some]
      dsimp only
      rw [nd_L (nd_lt _), Option.bind_some]
      dsimp only
      rw [show (4 : Int32) = nI 4 from rfl, c_draw (nd_lt _) (by omega) (by omega), Option.bind_some]
      dsimp only
      have hm : drM p a.2.1 < p.n := Nat.mod_lt _ (by omega)
      have hd : drD a.2.1 < 4 := Nat.mod_lt _ (by omega)
      rw [show ndN a.2.1 / 65536 % p.n = drM p a.2.1 from rfl, show ndN (ndN a.2.1) / 65536 % 4 = drD a.2.1 from rfl]
      by_cases d0 : drD a.2.1 = 0
      · rw [if_pos (by rw [d0]; rfl), show (9 : Int32) = nI (8 + 1) from rfl]
        refine tot_bd (c_follow (o := 27) (v := 1) (m := drM p a.2.1) hN h1.2.1 i2 o1 (by omega) (by omega) (by omega) (Or.inr ⟨hm, rfl⟩)) (fun r hr => ?_)
        refine fin _ _ _ r.2 ?_ (o1.fol g 1 (drM p a.2.1)) hr.2.1 (i3.trans (put_sc hE hr.2.2))
        rw [ek]
        simp [lvS, lvG, lvB, hz, d0]
      · rw [if_neg (nI_ne0 (by omega) (by omega))]
        by_cases d2 : drD a.2.1 ≤ 2
        · rw [if_neg (show ¬ (2 : Int32) < nI (drD a.2.1) from nI_nlt (a := 2) d2 (by omega)), show (8 : Int32) = nI (8 + 0) from rfl]
          refine tot_bd (c_follow (o := 27) (v := 0) (m := drM p a.2.1) hN h1.2.1 i2 o1 (by omega) (by omega) (by omega) (Or.inr ⟨hm, rfl⟩)) (fun r hr => ?_)
          rw [hr.1]
          cases hb : folB p a.1 0 (drM p a.2.1) with
          | false =>
            rw [if_pos (by decide)]
            refine fin _ _ _ r.2 ?_ (o1.fol g 0 (drM p a.2.1)) hr.2.1 (i3.trans (put_sc hE hr.2.2))
            rw [ek]
            simp [lvS, lvG, lvB, hz, d0, d2, hb]
          | true =>
            rw [if_neg (by decide), show nI a.2.2 + 1 = nI (a.2.2 + 1) from nI_1 _]
            refine fin _ _ _ r.2 ?_ (o1.fol g 0 (drM p a.2.1)) hr.2.1 (i3.trans (put_sc hE hr.2.2))
            rw [ek]
            simp [lvS, lvG, lvB, hz, d0, d2, hb]
        · rw [if_pos (show (2 : Int32) < nI (drD a.2.1) from nI_lt (a := 2) (by omega) (by omega))]
          refine fin a.1 _ _ W ?_ (o1.mono (by omega)) i2 i3
          rw [ek]
          simp [lvS, lvG, lvB, hz, d0, d2]
  · intro w a W hI
    obtain ⟨i1, i2, i3⟩ := hI
    show tot (gX9_liveYears_b20 E N (w + 1) (nI u) (nI a.2.2) (lN a.2.1) (nI u) W) _
    unfold gX9_liveYears_b20
    rw [if_pos (nI_le (Nat.le_refl _) (by omega))]
    rw [← i1]
    exact tot_some ⟨rfl, i2, i3⟩
theorem m_lives {W : VT} {g : Nat} (h : PastM W p) (hs : MSt W p.n S) (gs : GoodS p c S) (hcc : c < 2 ^ 29) (hN : 1000 < N) (hg : g < 2 ^ 31) (eg : W.G 137 52 = lN g) : tot (gX10_livesYear N W) (fun r => r.1 = nI (lvB p g S) ∧ MSt r.2 p.n (passS p (lvS p g S)) ∧ r.2.G 137 52 = lN (lvG p g) ∧ r.2.A 168 = W.A 168 ∧ mf W r.2) := by
  have hn := h.1.1
  have gd := h.1
  have wsm : ∀ {X Y : VT}, fr (fun a => wkB a ∨ s7 a) nof X Y → Y.G = X.G ∧ Y.A 168 = X.A 168 ∧ mf X Y := fun q => ⟨q.2.1, q.2.2.1 168 (by unfold wkB s7; omega), ws_mf q⟩
  have fin : ∀ (b : Nat) (S2 : ST) (X : VT), b ≤ 1 → b = lvB p g S → S2 = lvS p g S → MSt X p.n S2 → X.G 137 52 = lN (lvG p g) → X.A 168 = W.A 168 → mf W X → tot (gX10_livesYear_b88 N (nI b) X) (fun r => r.1 = nI (lvB p g S) ∧ MSt r.2 p.n (passS p (lvS p g S)) ∧ r.2.G 137 52 = lN (lvG p g) ∧ r.2.A 168 = W.A 168 ∧ mf W r.2) := by
    intro b S2 X hb e1 e2 hM hG hA hf
    have gS2 : GoodS p (c + 1) S2 := by rw [e2]; exact gs.lv gd g
    unfold gX10_livesYear_b88
    refine tot_bd (m_passes (h.mf hf) hM gS2 (by omega) hN) (fun Y hY => ?_)
    have hq : qB (nI b) = some () := by
      unfold qB
      refine if_pos ?_
      have : b = 0 ∨ b = 1 := by omega
      rcases this with q | q
      · exact Or.inl (by rw [q]; rfl)
      · exact Or.inr (by rw [q]; rfl)
    rw [hq, Option.bind_some]
    refine tot_some ⟨by rw [e1], by rw [← e2]; exact hY.1, ?_, ?_, hf.trans (s7_mf hY.2)⟩
    · dsimp only
      rw [hY.2.2.1]
      exact hG
    · rw [hY.2.2.2.1 168 (by unfold s7; omega)]
      exact hA
  have pr := priceN_le gd (drM p g)
  have gp := gs.2
  unfold gX10_livesYear
  rw [h.2.1.1]
  by_cases hz : p.n = 0
  · rw [if_pos (by rw [hz]; decide)]
    exact fin 0 S W (by omega) (by simp [lvB, hz]) (by simp [lvS, hz]) hs (by rw [eg]; simp [lvG, hz]) rfl mf.rf
  · rw [if_neg (nI_nle (by omega) (by omega))]
    have hm : drM p g < p.n := Nat.mod_lt _ (by omega)
    have hd : drD g < 4 := Nat.mod_lt _ (by omega)
    have draw : ∀ {X : VT} {y b : Nat}, y < 2 ^ 31 → 0 < b → b < 2 ^ 31 → X.G 137 52 = lN y → gX10_draws (nI b) X = some (nI (ndN y / 65536 % b), wG X 137 52 (lN (ndN y))) := by
      intro X y b hy hb hb2 e
      unfold gX10_draws
      rw [e, nd_L hy, Option.bind_some, nI_l hb2, qZL_n hb hb2, Option.bind_some]
      rw [wG_G, dr_L (nd_lt _) hb hb2]
    have wGs : ∀ {X : VT} {y : Int64}, (wG X 137 52 y).G 137 52 = y := fun {X y} => wG_G _ _ _ _
    rw [draw hg (by omega) (by omega) eg, Option.bind_some]
    dsimp only
    rw [show (4 : Int32) = nI 4 from rfl, draw (nd_lt _) (by omega) (by omega) wGs, Option.bind_some]
    dsimp only
    rw [show ndN g / 65536 % p.n = drM p g from rfl, show ndN (ndN g) / 65536 % 4 = drD g from rfl]
    generalize hX : wG (wG W 137 52 (lN (ndN g))) 137 52 (lN (ndN (ndN g))) = X
    have hXA : X.A = W.A := by rw [← hX]; rfl
    have hXL : X.L = W.L := by rw [← hX]; rfl
    have hXF : X.F = W.F := by rw [← hX]; rfl
    have hXG : X.G 137 52 = lN (lvG p g) := by
      rw [← hX, wGs]
      simp [lvG, hz]
    have hXf : mf W X := ⟨hXL, fun a _ => by rw [hXA], fun i k _ => by rw [hXF]⟩
    have hXM : MSt X p.n S := hs.at (by rw [hXA])
    have PX := h.mf hXf
    have gm := gs.1 _ hm
    have no : ∀ (S2 : ST) (Y : VT), 0 = lvB p g S → S2 = lvS p g S → MSt Y p.n S2 → Y.G 137 52 = lN (lvG p g) → Y.A 168 = W.A 168 → mf W Y → tot (gX10_livesYear_b77 N (nI (drM p g)) Y) (fun r => r.1 = nI (lvB p g S) ∧ MSt r.2 p.n (passS p (lvS p g S)) ∧ r.2.G 137 52 = lN (lvG p g) ∧ r.2.A 168 = W.A 168 ∧ mf W r.2) := by
      intro S2 Y e1 e2 a1 a2 a3 a4
      unfold gX10_livesYear_b77 gX10_livesYear_b78
      rw [if_pos rfl]
      exact fin 0 S2 Y (by omega) e1 e2 a1 a2 a3 a4
    by_cases d0 : drD g = 0
    · rw [if_pos (by rw [d0]; rfl), show (9 : Int32) + nI (drM p g) = nI (9 + drM p g) from nI_add 9 _, rdA_n (by omega) (by omega), Option.bind_some, (hXM.so hn hm).2, d0]
      have b49 : ∀ (Y : VT), gX10_livesYear_b49 N (nI (drM p g)) (nI 0) Y = gX10_livesYear_b77 N (nI (drM p g)) Y := by
        intro Y
        unfold gX10_livesYear_b49
        rw [if_neg (by decide), if_neg (by decide)]
      rw [b49]
      by_cases hc0 : S.co (drM p g) = 0
      · rw [if_pos (by rw [hc0]; decide)]
        refine no S X (by simp [lvB, hz, d0]) ?_ hXM hXG (by rw [hXA]) hXf
        simp [lvS, folS, hz, d0, hc0]
      · rw [if_neg (nI_nle (by omega) (by omega))]
        refine tot_bd (m_eaten PX hXM hm) (fun Y hY => ?_)
        rw [b49]
        refine no (takeOff p S (drM p g)) Y (by simp [lvB, hz, d0]) (by simp [lvS, folS, hz, d0, hc0]) hY.1 (by rw [hY.2.2.1]; exact hXG) (by rw [hY.2.2.2.1 168 (by unfold s7; omega), hXA]) (hXf.trans (s7_mf hY.2))
    · rw [if_neg (nI_ne0 (by omega) (by omega))]
      by_cases d2 : drD g ≤ 2
      · have b49 : gX10_livesYear_b49 N (nI (drM p g)) (nI (drD g)) X = gX10_livesYear_b59 N (nI (drM p g)) X := by
          unfold gX10_livesYear_b49
          by_cases d1 : drD g = 1
          · rw [if_pos (by rw [d1]; rfl)]
          · rw [if_neg (show ¬ nI (drD g) = 1 from nI_ne (b := 1) d1 (by omega) (by omega)), if_pos (by rw [show drD g = 2 by omega]; rfl)]
        rw [b49]
        unfold gX10_livesYear_b59
        rw [m_price PX hm, Option.bind_some, hXM.2.1]
        dsimp only
        by_cases hcan : priceN p (drM p g) ≤ S.po
        · rw [if_neg (nI_nlt hcan (by omega))]
          unfold gX10_livesYear_b78
          rw [if_neg (by decide)]
          refine tot_bd (m_coats PX hXM gs (by omega) hN hm hcan) (fun Y hY => ?_)
          obtain ⟨y1, y2, y3⟩ := wsm hY.2
          exact fin 1 (putOn p S (drM p g)) Y (by omega) (by simp [lvB, folB, hz, d0, d2, hcan]) (by simp [lvS, folS, hz, d0, d2, hcan]) hY.1 (by rw [y1]; exact hXG) (by rw [y2, hXA]) (hXf.trans y3)
        · rw [if_pos (nI_lt (by omega) (by omega))]
          exact no S X (by simp [lvB, folB, hz, d0, d2, hcan]) (by simp [lvS, folS, hz, d0, d2, hcan]) hXM hXG (by rw [hXA]) hXf
      · have b49 : gX10_livesYear_b49 N (nI (drM p g)) (nI (drD g)) X = gX10_livesYear_b77 N (nI (drM p g)) X := by
          unfold gX10_livesYear_b49
          rw [if_neg (show ¬ nI (drD g) = 1 from nI_ne (b := 1) (by omega) (by omega) (by omega)), if_neg (show ¬ nI (drD g) = 2 from nI_ne (b := 2) (by omega) (by omega) (by omega))]
        rw [b49]
        exact no S X (by simp [lvB, hz, d0, d2]) (by simp [lvS, hz, d0, d2]) hXM hXG (by rw [hXA]) hXf
theorem q_years (g : GoodP p) (hN : 1000 < N) (x y z : Int32) : ∃ v, Qc E p S c (fun V => gX9_years E N x y z V) v ∧ Qm p S c (fun V => gX10_years N x y z V) v := by
  unfold gX9_years gX10_years
  have hn := g.1
  refine qT (qW 0 9999 rfl rfl (by omega) (by omega) (fun q _ hq e => ?_))
  subst e
  refine qW 1 99 rfl rfl (by omega) (by omega) (fun u hu1 hu e => ?_)
  subst e
  refine qW 0 2 rfl rfl (by omega) (by omega) (fun z _ hz e => ?_)
  subst e
  refine ⟨if z = 0 then nI (lyN p u (S, q, 0)).2.2 else if z = 1 then nI (meantN p (lyN p u (S, q, 0)).1) else nI (lyN p u (S, q, 0)).1.po, fun V h => ?_, fun V h => ?_⟩
  · obtain ⟨o1, o2, o3⟩ := ly_ok g h.2.2.2.1 (show q < 2 ^ 31 by omega) u
    dsimp only
    refine tot_bd (c_live h hN hu (by omega)) (fun r hr => ?_)
    have h1 := h.fr hr.2.2
    by_cases z0 : z = 0
    · rw [if_pos (by rw [z0]; rfl), if_pos z0]
      exact tot_some ⟨hr.1, hr.2.2⟩
    · rw [if_neg (show ¬ nI z = 0 from nI_ne (b := 0) z0 (by omega) (by omega)), if_neg z0]
      by_cases z1 : z = 1
      · rw [if_pos (by rw [z1]; rfl), if_pos z1, c_meant hN h1.2.1 hr.2.1 o1, Option.bind_some]
        exact tot_some ⟨rfl, hr.2.2⟩
      · rw [if_neg (show ¬ nI z = 1 from nI_ne (b := 1) z1 (by omega) (by omega)), if_neg z1]
        exact tot_some ⟨hr.2.1.2.1, hr.2.2⟩
  · have hcc := h.2.2.2
    dsimp only
    rw [Option.bind_some, nI_l (show q < 2 ^ 31 by omega)]
    have f0 : mf V (wG V 137 52 (lN q)) := ⟨rfl, fun _ _ => rfl, fun _ _ _ => rfl⟩
    have h0 : MQn (wG V 137 52 (lN q)) p S c := h.mk f0 h.2.1
    have g0 : (wG V 137 52 (lN q)).G 137 52 = lN q := wG_G _ _ _ _
    generalize wG V 137 52 (lN q) = V0 at f0 h0 g0
    rw [show (0 : Int32) = nI 0 from rfl]
    refine tot_bd (m_copies (V := V0) (a1 := 167) (a2 := 168) (x := 0) (y := 0) (by omega) (by omega) (by omega) (by omega) (by omega) hN) (fun W hW => ?_)
    have fW : mf V0 W := fr_mf hW.2.2 (fun a ha => by unfold mxA; omega) (fun i k q => False.elim q)
    refine loop_T (F := fun w (a : ST × Nat × Nat) k V => gX10_years_b62 N w (nI u) (nI z) (nI a.2.2) (nI k) V) u (fun k a W => a = lyN p k (S, q, 0) ∧ MSt W p.n a.1 ∧ W.G 137 52 = lN a.2.1 ∧ Row W 168 0 p.n S ∧ mf V W) ?_ ?_ N 0 (S, q, 0) W (by omega) (by omega) ⟨rfl, h0.2.1.at (hW.2.2.2.2.1 167 (by omega)), by rw [hW.2.2.2.1]; exact g0, h0.2.1.row.cp hW.1, f0.trans fW⟩
    · intro w k a W hk hI hK
      obtain ⟨i1, i2, i3, i4, i5⟩ := hI
      obtain ⟨o1, o2, o3⟩ := ly_ok g h.2.2.1 (show q < 2 ^ 31 by omega) k
      rw [← i1] at o1 o2 o3
      show tot (gX10_years_b62 N (w + 1) (nI u) (nI z) (nI a.2.2) (nI k) W) _
      unfold gX10_years_b62
      rw [if_neg (nI_ge hk (by omega))]
      refine tot_bd (m_lives (h.1.mf i5) i2 o1 (by omega) hN o2 i3) (fun r hr => ?_)
      have ek : lyN p (k + 1) (S, q, 0) = (passS p (lvS p a.2.1 a.1), lvG p a.2.1, a.2.2 + lvB p a.2.1 a.1) := by rw [lyN, ← i1]
      have nx := hK (passS p (lvS p a.2.1 a.1), lvG p a.2.1, a.2.2 + lvB p a.2.1 a.1) r.2 ⟨ek.symm, hr.2.1, hr.2.2.1, i4.cp (fun k _ => by rw [hr.2.2.2.1]), i5.trans hr.2.2.2.2⟩
      dsimp only at nx
      rw [← nI_add, nI_succ] at nx
      have hb1 : lvB p a.2.1 a.1 = 0 ∨ lvB p a.2.1 a.1 = 1 := by
        unfold lvB
        repeat' split
        all_goals omega
      rw [hr.1]
      rcases hb1 with e | e
      · rw [e] at nx ⊢
        rw [if_pos (by decide)]
        exact nx
      · rw [e] at nx ⊢
        rw [if_neg (by decide)]
        exact nx
    · intro w a W hI
      obtain ⟨i1, i2, i3, i4, i5⟩ := hI
      obtain ⟨o1, o2, o3⟩ := ly_ok g h.2.2.1 (show q < 2 ^ 31 by omega) u
      rw [← i1] at o1 o2 o3
      show tot (gX10_years_b62 N (w + 1) (nI u) (nI z) (nI a.2.2) (nI u) W) _
      unfold gX10_years_b62
      rw [if_pos (nI_le (Nat.le_refl _) (by omega)), m_meant (S := a.1) (h.1.mf i5) (fun m hm => ⟨(i2.so hn hm).1, by have := (o1.1 m hm).1; omega⟩) hN, Option.bind_some]
      dsimp only
      rw [show (0 : Int32) = nI 0 from rfl]
      refine tot_bd (m_copies (V := W) (a1 := 168) (a2 := 167) (x := 0) (y := 0) (by omega) (by omega) (by omega) (by omega) (by omega) hN) (fun X hX => ?_)
      have fX : mf V X := i5.trans (fr_mf hX.2.2 (fun a ha => by unfold mxA; omega) (fun i k q => False.elim q))
      have sX : MSt X p.n S := (i4.cp hX.1).st
      rw [← i1]
      by_cases z0 : z = 0
      · rw [if_pos (by rw [z0]), if_pos z0]
        exact tot_some ⟨rfl, sX, fX⟩
      · rw [if_neg (show ¬ nI z = nI 0 from nI_ne (b := 0) z0 (by omega) (by omega)), if_neg z0]
        by_cases z1 : z = 1
        · rw [if_pos (by rw [z1]; rfl), if_pos z1]
          exact tot_some ⟨rfl, sX, fX⟩
        · rw [if_neg (show ¬ nI z = 1 from nI_ne (b := 1) z1 (by omega) (by omega)), if_neg z1]
          exact tot_some ⟨i2.2.1, sX, fX⟩
end PYears
