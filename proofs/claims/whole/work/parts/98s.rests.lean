/-! PURE: rests, thrown. -/
section PRests
variable {E : VE} {V W : VT} {N c : Nat} {A : AB} {v1 v2 v3 v4 : Int32}
def gnF (v0 v1 v2 x y : Int32) : Int32 := if x = 1 then (if y = 1 then v0 else -v1) else (if y = 1 then v2 else 0)
theorem c_gF (x y : Int32) : gX9_gain v1 v2 v3 x y V = some (gnF v1 v2 v3 x y, V) := by
  unfold gX9_gain gnF
  split <;> split <;> rfl
theorem m_gF (x y : Int32) : gX10_getsBy v1 v2 v3 x y V = some (gnF v1 v2 v3 x y, V) := by
  unfold gX10_getsBy gnF
  split <;> split <;> rfl
def thf (V W : VT) : Prop := W.A = V.A ∧ W.L = V.L ∧ ∀ i j, ¬ (i = 137 ∧ j = 0) → W.F i j = V.F i j
theorem thf.rf : thf V V := ⟨rfl, rfl, fun _ _ _ => rfl⟩
theorem thf.trans {X : VT} (h : thf V W) (k : thf W X) : thf V X := ⟨k.1.trans h.1, k.2.1.trans h.2.1, fun i j q => (k.2.2 i j q).trans (h.2.2 i j q)⟩
theorem thf_F (x : Int32) : thf V (wF V 137 0 x) := ⟨rfl, rfl, fun i j h => by rw [wF_F]; exact if_neg h⟩
theorem rests_loop (n : Nat) : ∀ (d k cn : Nat), k + d = 4 → cn ≤ k → ∀ (w wm : Nat) (Vm : VT), d < w → d < wm → Vm.F 137 0 = nI 0 → (∃ v : Int32, fX9_rests_b44 n w v1 v2 v3 v4 (nI cn) (nI k) (hpV E V) = some (v, hpV E V) ∧ ¬ v4 < -1 ∧ ∃ W, gX10_rests_b61 n wm v1 v2 v3 v4 (nI cn) (nI k) Vm = some (v, W) ∧ W.F 137 0 = nI 0 ∧ thf Vm W) ∨ (fX9_rests_b44 n w v1 v2 v3 v4 (nI cn) (nI k) (hpV E V) = none ∧ fX9_restsT_b44 n w v1 v2 v3 v4 (nI cn) (nI k) (hpV E V) = some (qthr (hpV E V)) ∧ ∃ x W, gX10_rests_b61 n wm v1 v2 v3 v4 (nI cn) (nI k) Vm = some (x, W) ∧ W.F 137 0 = nI 1 ∧ thf Vm W) := by
  intro d
  induction d with
  | zero =>
    intro k cn hk hc w wm Vm hw hwm h0
    obtain ⟨w, rfl⟩ : ∃ i, w = i + 1 := ⟨w - 1, by omega⟩
    obtain ⟨wm, rfl⟩ : ∃ i, wm = i + 1 := ⟨wm - 1, by omega⟩
    have e4 : k = 4 := by omega
    subst e4
    unfold fX9_rests_b44 fX9_restsT_b44 gX10_rests_b61
    rw [if_pos (show (4 : Int32) ≤ nI 4 by decide), if_pos (show (4 : Int32) ≤ nI 4 by decide), if_pos (show (4 : Int32) ≤ nI 4 by decide)]
    by_cases z : v4 = -1
    · refine Or.inl ⟨nI cn, by rw [if_pos z], by rw [z]; decide, wF Vm 137 0 0, ?_, by rw [wF_F, if_pos ⟨rfl, rfl⟩]; rfl, thf_F _⟩
      rw [if_pos z]
      unfold gX10_rests_b163
      rw [Option.bind_some, if_pos z]
    · refine Or.inr ⟨by rw [if_neg z], by rw [if_neg z], 0, wF Vm 137 0 1, ?_, by rw [wF_F, if_pos ⟨rfl, rfl⟩]; rfl, thf_F _⟩
      rw [if_neg z]
      unfold gX10_rests_b163
      rw [Option.bind_some, if_neg z]
  | succ d ih =>
    intro k cn hk hc w wm Vm hw hwm h0
    obtain ⟨w, rfl⟩ : ∃ i, w = i + 1 := ⟨w - 1, by omega⟩
    obtain ⟨wm, rfl⟩ : ∃ i, wm = i + 1 := ⟨wm - 1, by omega⟩
    have e4 : ¬ (4 : Int32) ≤ nI k := nI_ge (b := 4) (by omega) (by omega)
    have e1 : nI k / 2 = nI k >>> ((1 : Int32) &&& 31) := by
      have : k = 0 ∨ k = 1 ∨ k = 2 ∨ k = 3 := by omega
      rcases this with q | q | q | q <;> subst q <;> decide
    have e2 : nI k - (nI k >>> ((1 : Int32) &&& 31)) * 2 = nI k &&& 1 := by
      have : k = 0 ∨ k = 1 ∨ k = 2 ∨ k = 3 := by omega
      rcases this with q | q | q | q <;> subst q <;> decide
    unfold fX9_rests_b44 fX9_restsT_b44 gX10_rests_b61
    rw [if_neg e4, if_neg e4, if_neg e4, smX9_isRest]
    unfold gX9_isRest
    rw [e1, e2, c_gF, Option.bind_some]
    dsimp only
    rw [c_gF, Option.bind_some, m_gF, Option.bind_some]
    dsimp only
    rw [m_gF, Option.bind_some]
    dsimp only
    have ec : nI cn + 1 = nI (cn + 1) := nI_1 cn
    have ek : nI k + 1 = nI (k + 1) := nI_1 k
    by_cases c1 : gnF v1 v2 v3 (nI k >>> ((1 : Int32) &&& 31)) (nI k &&& 1) < gnF v1 v2 v3 (1 - (nI k >>> ((1 : Int32) &&& 31))) (nI k &&& 1)
    · rw [if_pos c1, if_pos c1, Option.map_some, Option.bind_some, Option.bind_some]
      dsimp only
      rw [if_pos (by rfl), if_pos (by rfl), ek]
      exact ih (k + 1) cn (by omega) (by omega) w wm Vm (by omega) (by omega) h0
    rw [if_neg c1, if_neg c1, c_gF, Option.bind_some, m_gF, Option.bind_some]
    dsimp only
    rw [c_gF, Option.bind_some, m_gF, Option.bind_some]
    dsimp only
    by_cases c2 : gnF v1 v2 v3 (nI k &&& 1) (nI k >>> ((1 : Int32) &&& 31)) < gnF v1 v2 v3 (1 - (nI k &&& 1)) (nI k >>> ((1 : Int32) &&& 31))
    · rw [if_pos c2, if_neg (Int32.not_le.mpr c2), Option.map_some, Option.bind_some, Option.bind_some]
      dsimp only
      rw [if_pos (by rfl), if_pos (by rfl), ek]
      exact ih (k + 1) cn (by omega) (by omega) w wm Vm (by omega) (by omega) h0
    rw [if_neg c2, if_pos (Int32.not_lt.mp c2), Option.map_some, Option.bind_some, Option.bind_some]
    dsimp only
    rw [if_neg (show ¬ (1 : Int32) = 0 by decide), if_neg (show ¬ (1 : Int32) = 0 by decide)]
    by_cases c3 : nI cn = v4
    · rw [if_pos c3, if_pos c3, if_pos c3]
      exact Or.inl ⟨nI k, rfl, by rw [← c3]; have : cn = 0 ∨ cn = 1 ∨ cn = 2 ∨ cn = 3 := (by omega); rcases this with q | q | q | q <;> subst q <;> decide, Vm, rfl, h0, thf.rf⟩
    · rw [if_neg c3, if_neg c3, if_neg c3, ec, ek]
      exact ih (k + 1) (cn + 1) (by omega) (by omega) w wm Vm (by omega) (by omega) h0
def bmp (E : VE) : VE := (E.1, E.2.1 + 1, E.2.2.1 + 6, E.2.2.2)
theorem hp_thr : qthr (hpV E V) = hpV (bmp E) V := rfl
theorem f_wi (x : Int32) : fX9_within x 0 9 (hpV E V) = some (nI (if wiB x 0 9 = true then 1 else 0), hpV E V) := by
  rw [smX9_within, show (0 : Int32) = nI 0 from rfl, show (9 : Int32) = nI 9 from rfl, c_wi]
  rfl
theorem m_wi9 (x : Int32) (V : VT) : gX10_within x 0 9 V = some (nI (if wiB x 0 9 = true then 1 else 0), V) := by
  rw [show (0 : Int32) = nI 0 from rfl, show (9 : Int32) = nI 9 from rfl, m_wi]
theorem m_r41 : gX10_rests_b41 N v1 v2 v3 v4 V = some (0, wF V 137 0 1) := by
  unfold gX10_rests_b41 gX10_rests_b42
  rw [Option.bind_some, show (wF V 137 0 1).F 137 0 = 1 by rw [wF_F]; exact if_pos ⟨rfl, rfl⟩]
  exact if_pos rfl
theorem s_rests (hN : 1000 < N) (v1 v2 v3 v4 : Int32) : (∃ v : Int32, fL_rests N 2 v1 v2 v3 v4 177 (hpV E V) = some (0, hpV E (wL V 177 0 v.toInt64)) ∧ ∀ Vm, ∃ W, gX10_rests N v1 v2 v3 v4 Vm = some (v, W) ∧ W.F 137 0 = 0 ∧ thf Vm W) ∨ (fL_rests N 2 v1 v2 v3 v4 177 (hpV E V) = some (1, hpV (bmp E) V) ∧ ∀ Vm, ∃ x W, gX10_rests N v1 v2 v3 v4 Vm = some (x, W) ∧ W.F 137 0 = 1 ∧ thf Vm W) := by
  have bad : fX9_rests N 2 v1 v2 v3 v4 (hpV E V) = none → fX9_restsT N 2 v1 v2 v3 v4 (hpV E V) = some (qthr (hpV E V)) → (∀ Vm, gX10_rests N v1 v2 v3 v4 Vm = some (0, wF Vm 137 0 1)) → (fL_rests N 2 v1 v2 v3 v4 177 (hpV E V) = some (1, hpV (bmp E) V) ∧ ∀ Vm, ∃ x W, gX10_rests N v1 v2 v3 v4 Vm = some (x, W) ∧ W.F 137 0 = 1 ∧ thf Vm W) := fun h1 h2 h3 => ⟨by
      unfold fL_rests
      rw [h1]
      dsimp only
      rw [h2]
      rfl, fun Vm => ⟨0, wF Vm 137 0 1, h3 Vm, by rw [wF_F, if_pos ⟨rfl, rfl⟩], thf_F _⟩⟩
  have hO : isO (hpV E V) 2 9 = some () := s_isO rfl
  by_cases w1 : ¬ wiB v1 0 9 = true
  · refine Or.inr (bad ?_ ?_ (fun Vm => ?_))
    · unfold fX9_rests
      rw [hO, Option.bind_some, f_wi, if_neg w1, Option.bind_some]
      dsimp only
      rw [if_pos (by rfl)]
      rfl
    · unfold fX9_restsT
      rw [hO, Option.bind_some, f_wi, if_neg w1, Option.bind_some]
      dsimp only
      rw [if_pos (by rfl)]
      rfl
    · unfold gX10_rests
      rw [m_wi9, if_neg w1, Option.bind_some]
      dsimp only
      rw [if_pos (by rfl), m_r41]
  have w1 := Classical.not_not.mp w1
  by_cases w2 : ¬ wiB v2 0 9 = true
  · refine Or.inr (bad ?_ ?_ (fun Vm => ?_))
    · unfold fX9_rests
      rw [hO, Option.bind_some, f_wi, if_pos w1, Option.bind_some]
      dsimp only
      rw [if_neg (by decide), f_wi, if_neg w2, Option.bind_some]
      dsimp only
      rw [if_pos (by rfl)]
      rfl
    · unfold fX9_restsT
      rw [hO, Option.bind_some, f_wi, if_pos w1, Option.bind_some]
      dsimp only
      rw [if_neg (by decide), f_wi, if_neg w2, Option.bind_some]
      dsimp only
      rw [if_pos (by rfl)]
      rfl
    · unfold gX10_rests
      rw [m_wi9, if_pos w1, Option.bind_some]
      dsimp only
      rw [if_neg (by decide), m_wi9, if_neg w2, Option.bind_some]
      dsimp only
      rw [if_pos (by rfl), m_r41]
  have w2 := Classical.not_not.mp w2
  by_cases w3 : ¬ wiB v3 0 9 = true
  · refine Or.inr (bad ?_ ?_ (fun Vm => ?_))
    · unfold fX9_rests
      rw [hO, Option.bind_some, f_wi, if_pos w1, Option.bind_some]
      dsimp only
      rw [if_neg (by decide), f_wi, if_pos w2, Option.bind_some]
      dsimp only
      rw [if_neg (by decide), f_wi, if_neg w3, Option.bind_some]
      dsimp only
      rw [if_pos (by rfl)]
      rfl
    · unfold fX9_restsT
      rw [hO, Option.bind_some, f_wi, if_pos w1, Option.bind_some]
      dsimp only
      rw [if_neg (by decide), f_wi, if_pos w2, Option.bind_some]
      dsimp only
      rw [if_neg (by decide), f_wi, if_neg w3, Option.bind_some]
      dsimp only
      rw [if_pos (by rfl)]
      rfl
    · unfold gX10_rests
      rw [m_wi9, if_pos w1, Option.bind_some]
      dsimp only
      rw [if_neg (by decide), m_wi9, if_pos w2, Option.bind_some]
      dsimp only
      rw [if_neg (by decide), m_wi9, if_neg w3, Option.bind_some]
      dsimp only
      rw [if_pos (by rfl), m_r41]
  have w3 := Classical.not_not.mp w3
  have cR : fX9_rests N 2 v1 v2 v3 v4 (hpV E V) = fX9_rests_b44 N N v1 v2 v3 v4 (nI 0) (nI 0) (hpV E V) := by
    unfold fX9_rests
    rw [hO, Option.bind_some, f_wi, if_pos w1, Option.bind_some]
    dsimp only
    rw [if_neg (by decide), f_wi, if_pos w2, Option.bind_some]
    dsimp only
    rw [if_neg (by decide), f_wi, if_pos w3, Option.bind_some]
    dsimp only
    rw [if_neg (by decide)]
    rfl
  have cT : fX9_restsT N 2 v1 v2 v3 v4 (hpV E V) = fX9_restsT_b44 N N v1 v2 v3 v4 (nI 0) (nI 0) (hpV E V) := by
    unfold fX9_restsT
    rw [hO, Option.bind_some, f_wi, if_pos w1, Option.bind_some]
    dsimp only
    rw [if_neg (by decide), f_wi, if_pos w2, Option.bind_some]
    dsimp only
    rw [if_neg (by decide), f_wi, if_pos w3, Option.bind_some]
    dsimp only
    rw [if_neg (by decide)]
    rfl
  have mR : ∀ Vm, gX10_rests N v1 v2 v3 v4 Vm = if v4 < -1 then some (0, wF Vm 137 0 1) else gX10_rests_b61 N N v1 v2 v3 v4 (nI 0) (nI 0) (wF Vm 137 0 0) := by
    intro Vm
    unfold gX10_rests
    rw [m_wi9, if_pos w1, Option.bind_some]
    dsimp only
    rw [if_neg (by decide), m_wi9, if_pos w2, Option.bind_some]
    dsimp only
    rw [if_neg (by decide), m_wi9, if_pos w3, Option.bind_some]
    dsimp only
    rw [if_neg (by decide), m_r41]
    by_cases z : v4 < -1
    · rw [if_pos z, if_pos z]
    · rw [if_neg z, if_neg z]
      unfold gX10_rests_b42
      rw [Option.bind_some, show (wF Vm 137 0 0).F 137 0 = 0 by rw [wF_F]; exact if_pos ⟨rfl, rfl⟩]
      exact if_neg (by decide)
  have z0 : ∀ Vm : VT, (wF Vm 137 0 0).F 137 0 = nI 0 := fun Vm => by rw [wF_F, if_pos ⟨rfl, rfl⟩]; rfl
  have key := fun Vm => rests_loop (E := E) (V := V) (v1 := v1) (v2 := v2) (v3 := v3) (v4 := v4) N 4 0 0 (by omega) (by omega) N N (wF Vm 137 0 0) (by omega) (by omega) (z0 Vm)
  have mm : ∀ Vm x W, ¬ v4 < -1 → gX10_rests_b61 N N v1 v2 v3 v4 (nI 0) (nI 0) (wF Vm 137 0 0) = some (x, W) → thf (wF Vm 137 0 0) W → gX10_rests N v1 v2 v3 v4 Vm = some (x, W) ∧ thf Vm W := fun Vm x W h1 h2 h3 => ⟨by rw [mR, if_neg h1, h2], (thf_F _).trans h3⟩
  rcases key V with ⟨v, k1, k2, -⟩ | ⟨k1, k2, -⟩
  · refine Or.inl ⟨v, ?_, fun Vm => ?_⟩
    · unfold fL_rests
      rw [cR, k1]
      dsimp only
      rw [s_sL (n := 1) rfl, show (0 : Int32) = nI 0 from rfl, wrL_at (by omega) (by omega)]
      rfl
    · rcases key Vm with ⟨v', j1, -, W, j2, j3, j4⟩ | ⟨j1, -, -⟩
      · rw [k1] at j1
        cases j1
        obtain ⟨a1, a2⟩ := mm Vm v W k2 j2 j4
        exact ⟨W, a1, j3, a2⟩
      · rw [k1] at j1
        cases j1
  · refine Or.inr ⟨?_, fun Vm => ?_⟩
    · unfold fL_rests
      rw [cR, k1]
      dsimp only
      rw [cT, k2]
      rfl
    · by_cases z : v4 < -1
      · exact ⟨0, wF Vm 137 0 1, by rw [mR, if_pos z], by rw [wF_F, if_pos ⟨rfl, rfl⟩], thf_F _⟩
      · rcases key Vm with ⟨v', j1, -⟩ | ⟨-, -, x, W, j2, j3, j4⟩
        · rw [k1] at j1
          cases j1
        · obtain ⟨a1, a2⟩ := mm Vm x W z j2 j4
          exact ⟨x, W, a1, j3, a2⟩
theorem MR.cg (h : MR V A) (e : ∀ a, 137 ≤ a → a ≤ 176 → eqs V W a) : MR W A := by
  obtain ⟨h1, h2, h3, h4, h5, h6, h7⟩ := h
  refine ⟨h1.cg (fun a _ _ _ => e a (by omega) (by omega)), h2.at (e 167 (by omega) (by omega)).1, h3.at (by rw [(e 137 (by omega) (by omega)).2.2]) (e 171 (by omega) (by omega)).1, h4.at (e 160 (by omega) (by omega)).1 (e 161 (by omega) (by omega)).1 (e 162 (by omega) (by omega)).1, h5.at (e 163 (by omega) (by omega)).1 (e 164 (by omega) (by omega)).1 (e 165 (by omega) (by omega)).1 (e 166 (by omega) (by omega)).1, h6.at (fun a _ _ => (e a (by omega) (by omega)).1) (e 170 (by omega) (by omega)).1 (e 172 (by omega) (by omega)).1, h7.at (by rw [(e 137 (by omega) (by omega)).2.2]) (e 138 (by omega) (by omega)).1⟩
theorem MR.thf (h : MR V A) (f : thf V W) : MR W A ∧ hi V W := by
  have f' : mf V W := ⟨f.2.1, fun a _ => by rw [f.1], fun i j q => f.2.2 i j (fun e => q (by unfold mxF; omega))⟩
  exact ⟨h.q f' (h.2.1.at (by rw [f.1])), mf_hi f'⟩
end PRests
