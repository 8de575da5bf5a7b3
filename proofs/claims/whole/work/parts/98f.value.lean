/-! PURE: what an E is worth, by the class's steps and by the model's codes. -/
abbrev Vf : Type := Int32 → Int32 → Int32 → Int32 → Int32
def PV (b : Nat) (ps : List Int32) (v : Vf) : Prop := ∀ (l c a t : Int32) (st : List Int32), st.length ≤ b → ps.foldl (fun st x => stP l c a t x st) st = v l c a t :: st
theorem PV.mono {b b2 : Nat} {ps : List Int32} {v : Vf} (h : PV b ps v) (e : b2 ≤ b) : PV b2 ps v := fun l c a t st hs => h l c a t st (by omega)
theorem psh_lt {v : Int32} {st : List Int32} (h : st.length < 64) : psh v st = v :: st := if_neg (by omega)
theorem PV_num {b n : Nat} (hb : b < 64) (hn : n < 10000) : PV b [nI n] (fun _ _ _ _ => nI n) := by
  intro l c a t st hs
  have hneg : nI n - nI 10000 < 0 := pk_sneg (by omega) hn
  have h0 : ¬ (0 : Int32) ≤ nI n - 10000 := Int32.not_le.mpr hneg
  have hk : ∀ k : Int32, 0 ≤ k → ¬ nI n - 10000 = k := fun k hk e => h0 (by rw [e]; exact hk)
  show stP l c a t (nI n) st = _
  unfold stP
  rw [if_neg (hk 15 (by decide)), if_neg (hk 18 (by decide)), if_neg (hk 19 (by decide)), if_neg (hk 20 (by decide)), if_neg (hk 21 (by decide)), if_neg h0, psh_lt (by omega)]
def factV (k : Nat) : Vf := fun l c a t => if k = 18 then l else if k = 19 then c else if k = 20 then a else t
theorem PV_fact {b k : Nat} (hb : b < 64) (hk : 18 ≤ k ∧ k ≤ 21) : PV b [10000 + nI k] (factV k) := by
  intro l c a t st hs
  have : k = 18 ∨ k = 19 ∨ k = 20 ∨ k = 21 := by omega
  show stP l c a t (10000 + nI k) st = _
  rcases this with e | e | e | e <;> subst e
  · rw [show stP l c a t (10000 + nI 18) st = psh l st from rfl, psh_lt (by omega)]
    rfl
  · rw [show stP l c a t (10000 + nI 19) st = psh c st from rfl, psh_lt (by omega)]
    rfl
  · rw [show stP l c a t (10000 + nI 20) st = psh a st from rfl, psh_lt (by omega)]
    rfl
  · rw [show stP l c a t (10000 + nI 21) st = psh t st from rfl, psh_lt (by omega)]
    rfl
def notV (v : Vf) : Vf := fun l c a t => if v l c a t = 0 then 1 else 0
theorem PV_not {b : Nat} {ps : List Int32} {v : Vf} (hb : b < 64) (h : PV b ps v) : PV b (ps ++ [10015]) (notV v) := by
  intro l c a t st hs
  rw [List.foldl_append, h l c a t st hs]
  show stP l c a t 10015 (v l c a t :: st) = _
  rw [show stP l c a t 10015 (v l c a t :: st) = psh (if v l c a t = 0 then 1 else 0) st from rfl, psh_lt (by omega)]
  rfl
def jnV (o : Int32) (v1 v2 : Vf) : Vf := fun l c a t => jnd o (v1 l c a t) (v2 l c a t)
theorem PV_bin {b : Nat} {ps1 ps2 : List Int32} {v1 v2 : Vf} {o x : Int32} (hb : b < 64) (h1 : PV b ps1 v1) (h2 : PV (b + 1) ps2 v2) (ho : x - 10000 = o) (hk : ¬ o = 15 ∧ ¬ o = 18 ∧ ¬ o = 19 ∧ ¬ o = 20 ∧ ¬ o = 21 ∧ 0 ≤ o) : PV b (ps1 ++ ps2 ++ [x]) (jnV o v1 v2) := by
  intro l c a t st hs
  rw [List.foldl_append, List.foldl_append, h1 l c a t st hs, h2 l c a t _ (by simp; omega)]
  show stP l c a t x (v2 l c a t :: v1 l c a t :: st) = _
  unfold stP
  rw [ho, if_neg hk.1, if_neg hk.2.1, if_neg hk.2.2.1, if_neg hk.2.2.2.1, if_neg hk.2.2.2.2.1, if_pos hk.2.2.2.2.2]
  exact psh_lt (by simp; omega)
/-! the model's machine -/
section PCode
variable {X : MX} {d i j : Nat} {vl : Nat → Int32}
theorem up2_s (X : MX) (a d : Nat) (x : Int32) : up2 X a d x a d = x := if_pos ⟨rfl, rfl⟩
theorem up2_n (X : MX) {a d i j : Nat} (x : Int32) (h : ¬ (i = a ∧ j = d)) : up2 X a d x i j = X i j := if_neg h
theorem su_154 (X : MX) (d : Nat) : suX d X 154 d = if X 155 d = 21 then X 154 d - X 156 d else X 154 d + X 156 d := by
  unfold suX
  rw [up2_n _ _ (by omega), up2_s]
theorem su_157 (X : MX) (d : Nat) : suX d X 157 d = 0 := up2_s _ _ _ _
theorem su_n (X : MX) {d i j : Nat} (h : ¬ (j = d ∧ (i = 154 ∨ i = 157))) : suX d X i j = X i j := by
  unfold suX
  rw [up2_n _ _ (by omega), up2_n _ _ (by omega)]
theorem te_150 (X : MX) (d : Nat) : teX d X 150 d = tvX d (suX d X) := by
  unfold teX
  rw [up2_n _ _ (by omega), up2_n _ _ (by omega), up2_n _ _ (by omega), up2_s]
theorem te_153 (X : MX) (d : Nat) : teX d X 153 d = 0 := by
  unfold teX
  rw [up2_n _ _ (by omega), up2_n _ _ (by omega), up2_s]
theorem te_154 (X : MX) (d : Nat) : teX d X 154 d = 0 := by
  unfold teX
  rw [up2_n _ _ (by omega), up2_s]
theorem te_155 (X : MX) (d : Nat) : teX d X 155 d = 20 := up2_s _ _ _ _
theorem te_157 (X : MX) (d : Nat) : teX d X 157 d = 0 := by
  unfold teX
  rw [up2_n _ _ (by omega), up2_n _ _ (by omega), up2_n _ _ (by omega), up2_n _ _ (by omega), su_157]
theorem te_n (X : MX) {d i j : Nat} (h : ¬ (j = d ∧ (i = 150 ∨ i = 153 ∨ i = 154 ∨ i = 155 ∨ i = 157))) : teX d X i j = X i j := by
  unfold teX
  rw [up2_n _ _ (by omega), up2_n _ _ (by omega), up2_n _ _ (by omega), up2_n _ _ (by omega), su_n _ (by omega)]
theorem op_all (X : MX) (d : Nat) : opX d X 151 d = 0 ∧ opX d X 153 d = 0 ∧ opX d X 154 d = 0 ∧ opX d X 155 d = 20 ∧ opX d X 157 d = 0 := by
  unfold opX
  refine ⟨?_, ?_, ?_, ?_, ?_⟩
  · rw [up2_n _ _ (by omega), up2_n _ _ (by omega), up2_n _ _ (by omega), up2_n _ _ (by omega), up2_s]
  · rw [up2_n _ _ (by omega), up2_n _ _ (by omega), up2_n _ _ (by omega), up2_s]
  · rw [up2_n _ _ (by omega), up2_n _ _ (by omega), up2_s]
  · rw [up2_n _ _ (by omega), up2_s]
  · rw [up2_s]
theorem op_n (X : MX) {d i j : Nat} (h : ¬ (j = d ∧ (i = 151 ∨ i = 153 ∨ i = 154 ∨ i = 155 ∨ i = 157))) : opX d X i j = X i j := by
  unfold opX
  rw [up2_n _ _ (by omega), up2_n _ _ (by omega), up2_n _ _ (by omega), up2_n _ _ (by omega), up2_n _ _ (by omega)]
theorem mrun_app (vl : Nat → Int32) : ∀ (c1 c2 : List Nat) (s : Nat × MX), mrun vl (c1 ++ c2) s = (mrun vl c1 s).bind (mrun vl c2)
  | [], _, _ => rfl
  | c :: cs, c2, s => by
    rw [List.cons_append, mrun, mrun]
    cases mst vl c s with
    | none => rfl
    | some t => exact mrun_app vl cs c2 t
theorem mrun_1 (vl : Nat → Int32) (c : Nat) (s : Nat × MX) : mrun vl [c] s = mst vl c s := by
  rw [mrun]
  cases mst vl c s <;> rfl
/-- not within a not -/
def nnX (d : Nat) (X : MX) : Prop := d = 0 ∨ ¬ X 158 d = 1
theorem nt_nn {v : Int32} (h : nnX d X) : ntX X d v = (d, v) := by
  cases d with
  | zero => rfl
  | succ d =>
    rw [ntX, if_neg]
    rcases h with q | q
    · omega
    · exact q
def CP (d : Nat) (cs : List Nat) (v : Vf) : Prop := ∀ (l c a t : Int32) (vl : Nat → Int32) (X : MX), vlO vl l c a t → ∃ X', mrun vl cs (d, X) = some (vaX d (v l c a t) X') ∧ ∀ i j, j ≤ d → X' i j = X i j
def CM (d : Nat) (cs : List Nat) (v : Vf) : Prop := ∀ (l c a t : Int32) (vl : Nat → Int32) (X : MX), vlO vl l c a t → nnX d X → X 157 d = 0 → ∃ X', mrun vl cs (d, X) = some (d, X') ∧ (∀ i j, j < d → X' i j = X i j) ∧ (∀ i, i ≠ 156 → i ≠ 157 → X' i d = X i d) ∧ X' 156 d = v l c a t
def CS (d : Nat) (cs : List Nat) (v : Vf) : Prop := ∀ (l c a t : Int32) (vl : Nat → Int32) (X : MX), vlO vl l c a t → nnX d X → X 154 d = 0 → X 155 d = 20 → X 157 d = 0 → ∃ X', mrun vl cs (d, X) = some (d, X') ∧ (∀ i j, j < d → X' i j = X i j) ∧ (∀ i, i < 154 ∨ i = 158 → X' i d = X i d) ∧ suX d X' 154 d = v l c a t
def tsX (d : Nat) (Y : MX) : Int32 := if Y 153 d = 25 then (if Y 152 d = Y 154 d then 1 else 0) else (if Y 153 d = 24 then (if Y 154 d ≤ Y 152 d then 0 else 1) else Y 154 d)
def kcX (k x v : Int32) : Int32 :=
  let v := if k = 26 then (if x = 0 then 0 else if v = 0 then 0 else 1) else v
  if k = 27 then (if x = 0 then (if v = 0 then 0 else 1) else 1) else v
theorem tv_kc (d : Nat) (Y : MX) : tvX d Y = kcX (Y 151 d) (Y 150 d) (tsX d Y) := rfl
def CT (d : Nat) (cs : List Nat) (v : Vf) : Prop := ∀ (l c a t : Int32) (vl : Nat → Int32) (X : MX), vlO vl l c a t → nnX d X → X 153 d = 0 → X 154 d = 0 → X 155 d = 20 → X 157 d = 0 → ∃ X', mrun vl cs (d, X) = some (d, X') ∧ (∀ i j, j < d → X' i j = X i j) ∧ (X' 150 d = X 150 d ∧ X' 151 d = X 151 d ∧ X' 158 d = X 158 d) ∧ tsX d (suX d X') = v l c a t
def CE (d : Nat) (cs : List Nat) (v : Vf) : Prop := ∀ (l c a t : Int32) (vl : Nat → Int32) (X : MX), vlO vl l c a t → nnX d X → X 151 d = 0 → X 153 d = 0 → X 154 d = 0 → X 155 d = 20 → X 157 d = 0 → ∃ X', mrun vl cs (d, X) = some (d, X') ∧ (∀ i j, j < d → X' i j = X i j) ∧ X' 158 d = X 158 d ∧ teX d X' 150 d = v l c a t
theorem CP_num {n : Nat} (d : Nat) : CP d [100 + n] (fun _ _ _ _ => nI n) := by
  intro l c a t vl X hv
  refine ⟨X, ?_, fun _ _ _ => rfl⟩
  rw [mrun_1]
  unfold mst
  rw [if_neg (by omega), if_neg (by omega), if_neg (by omega), if_neg (by omega), if_neg (by omega), if_neg (by omega), if_neg (show ¬ 100 + n < 100 by omega), show 100 + n - 100 = n by omega]
theorem CP_fact {k : Nat} (hk : 18 ≤ k ∧ k ≤ 21) (d : Nat) : CP d [k - 17] (factV k) := by
  intro l c a t vl X hv
  refine ⟨X, ?_, fun _ _ _ => rfl⟩
  rw [mrun_1]
  unfold mst
  rw [if_neg (by omega), if_neg (by omega), if_neg (by omega), if_neg (by omega), if_neg (by omega), if_neg (by omega), if_pos (show k - 17 < 100 by omega), if_neg (show ¬ 20 ≤ k - 17 by omega)]
  have : vl (k - 17) = factV k l c a t := by
    obtain ⟨v1, v2, v3, v4⟩ := hv
    have : k = 18 ∨ k = 19 ∨ k = 20 ∨ k = 21 := by omega
    rcases this with e | e | e | e <;> subst e
    · exact v1
    · exact v2
    · exact v3
    · exact v4
  rw [this]
theorem CP_not {cs : List Nat} {v : Vf} (hd : d < 6) (h : CP (d + 1) cs v) : CP d ([30] ++ cs) (notV v) := by
  intro l c a t vl X hv
  obtain ⟨X', h1, h2⟩ := h l c a t vl (opX (d + 1) (up2 X 158 (d + 1) 1)) hv
  refine ⟨X', ?_, fun i j hj => ?_⟩
  · rw [mrun_app, mrun_1]
    have e : mst vl 30 (d, X) = some (d + 1, opX (d + 1) (up2 X 158 (d + 1) 1)) := by
      unfold mst
      rw [if_pos (by omega)]
      exact if_pos hd
    rw [e, Option.bind_some, h1]
    have e2 : X' 158 (d + 1) = 1 := by rw [h2 158 (d + 1) (by omega), op_n _ (by omega), up2_s]
    unfold vaX
    rw [ntX, if_pos e2]
    rfl
  · rw [h2 i j (by omega), op_n _ (by omega), up2_n _ _ (by omega)]
theorem CP_par {cs : List Nat} {v : Vf} (hd : d < 6) (h : CE (d + 1) cs v) : CP d ([28] ++ cs ++ [29]) v := by
  intro l c a t vl X hv
  have o := op_all (up2 X 158 (d + 1) 0) (d + 1)
  have e8 : opX (d + 1) (up2 X 158 (d + 1) 0) 158 (d + 1) = 0 := by rw [op_n _ (by omega), up2_s]
  obtain ⟨X', h1, h2, h3, h4⟩ := h l c a t vl (opX (d + 1) (up2 X 158 (d + 1) 0)) hv (Or.inr (by rw [e8]; decide)) o.1 o.2.1 o.2.2.1 o.2.2.2.1 o.2.2.2.2
  refine ⟨teX (d + 1) X', ?_, fun i j hj => ?_⟩
  · rw [mrun_app, mrun_app, mrun_1]
    have e : mst vl 28 (d, X) = some (d + 1, opX (d + 1) (up2 X 158 (d + 1) 0)) := by
      unfold mst
      rw [if_pos (by omega)]
      exact if_pos hd
    rw [e, Option.bind_some, h1, Option.bind_some, mrun_1]
    unfold mst
    rw [if_neg (by omega), if_neg (by omega), if_neg (by omega), if_neg (by omega), if_neg (by omega), if_pos rfl, if_pos (by show 0 < d + 1; omega)]
    show some (vaX (d + 1 - 1) (teX (d + 1) X' 150 (d + 1)) (teX (d + 1) X')) = _
    rw [h4]
    rfl
  · rw [te_n _ (by omega), h2 i j (by omega), op_n _ (by omega), up2_n _ _ (by omega)]
theorem CM_one {cs : List Nat} {v : Vf} (h : CP d cs v) : CM d cs v := by
  intro l c a t vl X hv hn h157
  obtain ⟨X', h1, h2⟩ := h l c a t vl X hv
  have hn' : nnX d X' := by
    rcases hn with q | q
    · exact Or.inl q
    · exact Or.inr (by rw [h2 158 d (Nat.le_refl _)]; exact q)
  refine ⟨up2 X' 156 d (v l c a t), ?_, fun i j hj => ?_, fun i h3 h4 => ?_, up2_s _ _ _ _⟩
  · rw [h1]
    unfold vaX
    rw [nt_nn hn']
    dsimp only
    rw [if_pos (by rw [h2 157 d (Nat.le_refl _)]; exact h157)]
  · rw [up2_n _ _ (by omega), h2 i j (by omega)]
  · rw [up2_n _ _ (by omega), h2 i d (Nat.le_refl _)]
theorem nn_cg {X Y : MX} (h : nnX d X) (e : Y 158 d = X 158 d) : nnX d Y := by
  rcases h with q | q
  · exact Or.inl q
  · exact Or.inr (by rw [e]; exact q)
theorem CM_mul {c1 c2 : List Nat} {v1 v2 : Vf} (h1 : CM d c1 v1) (h2 : CP d c2 v2) : CM d (c1 ++ [22] ++ c2) (jnV 42 v1 v2) := by
  intro l c a t vl X hv hn h157
  obtain ⟨X1, a1, a2, a3, a4⟩ := h1 l c a t vl X hv hn h157
  obtain ⟨X2, b1, b2⟩ := h2 l c a t vl (up2 X1 157 d (nI 22)) hv
  have e8 : X2 158 d = X 158 d := by rw [b2 158 d (Nat.le_refl _), up2_n _ _ (by omega), a3 158 (by omega) (by omega)]
  refine ⟨up2 X2 156 d (v1 l c a t * v2 l c a t), ?_, fun i j hj => ?_, fun i h3 h4 => ?_, up2_s _ _ _ _⟩
  · rw [mrun_app, mrun_app, a1, Option.bind_some, mrun_1]
    have e : mst vl 22 (d, X1) = some (d, up2 X1 157 d (nI 22)) := by
      unfold mst
      rw [if_neg (by omega), if_neg (by omega), if_pos rfl]
    rw [e, Option.bind_some, b1]
    unfold vaX
    rw [nt_nn (nn_cg hn e8)]
    dsimp only
    rw [if_neg (by rw [b2 157 d (Nat.le_refl _), up2_s]; decide), b2 156 d (Nat.le_refl _), up2_n _ _ (by omega), a4]
  · rw [up2_n _ _ (by omega), b2 i j (by omega), up2_n _ _ (by omega), a2 i j hj]
  · rw [up2_n _ _ (by omega), b2 i d (Nat.le_refl _), up2_n _ _ (by omega), a3 i h3 h4]
theorem CS_one {cs : List Nat} {v : Vf} (h : CM d cs v) : CS d cs v := by
  intro l c a t vl X hv hn h154 h155 h157
  obtain ⟨X', a1, a2, a3, a4⟩ := h l c a t vl X hv hn h157
  refine ⟨X', a1, a2, fun i hi => a3 i (by omega) (by omega), ?_⟩
  rw [su_154, a3 155 (by omega) (by omega), h155, if_neg (by decide), a3 154 (by omega) (by omega), h154, a4, Int32.zero_add]
theorem CS_add {c1 c2 : List Nat} {v1 v2 : Vf} {k : Nat} {o : Int32} (hk : k = 20 ∧ o = 43 ∨ k = 21 ∧ o = 45) (h1 : CS d c1 v1) (h2 : CM d c2 v2) : CS d (c1 ++ [k] ++ c2) (jnV o v1 v2) := by
  intro l c a t vl X hv hn h154 h155 h157
  obtain ⟨X1, a1, a2, a3, a4⟩ := h1 l c a t vl X hv hn h154 h155 h157
  obtain ⟨X2, b1, b2, b3, b4⟩ := h2 l c a t vl (up2 (suX d X1) 155 d (nI k)) hv (nn_cg hn (by rw [up2_n _ _ (by omega), su_n _ (by omega), a3 158 (by omega)])) (by rw [up2_n _ _ (by omega), su_157])
  refine ⟨X2, ?_, fun i j hj => ?_, fun i hi => ?_, ?_⟩
  · rw [mrun_app, mrun_app, a1, Option.bind_some, mrun_1]
    have e : mst vl k (d, X1) = some (d, up2 (suX d X1) 155 d (nI k)) := by
      unfold mst
      rw [if_neg (by omega), if_pos (by omega)]
    rw [e, Option.bind_some, b1]
  · rw [b2 i j hj, up2_n _ _ (by omega), su_n _ (by omega), a2 i j hj]
  · rw [b3 i (by omega) (by omega), up2_n _ _ (by omega), su_n _ (by omega), a3 i hi]
  · rw [su_154, b3 155 (by omega) (by omega), up2_s, b3 154 (by omega) (by omega), up2_n _ _ (by omega), a4, b4]
    rcases hk with ⟨e1, e2⟩ | ⟨e1, e2⟩
    · subst e1 e2
      rw [if_neg (by decide)]
      rfl
    · subst e1 e2
      rw [if_pos (by decide)]
      rfl
theorem CT_one {cs : List Nat} {v : Vf} (h : CS d cs v) : CT d cs v := by
  intro l c a t vl X hv hn h153 h154 h155 h157
  obtain ⟨X', a1, a2, a3, a4⟩ := h l c a t vl X hv hn h154 h155 h157
  refine ⟨X', a1, a2, ⟨a3 150 (by omega), a3 151 (by omega), a3 158 (by omega)⟩, ?_⟩
  unfold tsX
  rw [su_n _ (show ¬ (d = d ∧ (153 = 154 ∨ 153 = 157)) by omega), a3 153 (by omega), h153, if_neg (by decide), if_neg (by decide), a4]
theorem CT_cmp {c1 c2 : List Nat} {v1 v2 : Vf} {k : Nat} {o : Int32} (hk : k = 24 ∧ o = 60 ∨ k = 25 ∧ o = 61) (h1 : CS d c1 v1) (h2 : CS d c2 v2) : CT d (c1 ++ [k] ++ c2) (jnV o v1 v2) := by
  intro l c a t vl X hv hn h153 h154 h155 h157
  obtain ⟨X1, a1, a2, a3, a4⟩ := h1 l c a t vl X hv hn h154 h155 h157
  generalize hY : up2 (up2 (up2 (up2 (suX d X1) 152 d (suX d X1 154 d)) 153 d (nI k)) 154 d 0) 155 d 20 = Y
  have yn : ∀ i j, ¬ (j = d ∧ (152 ≤ i ∧ i ≤ 155)) → Y i j = suX d X1 i j := by
    intro i j h
    rw [← hY, up2_n _ _ (by omega), up2_n _ _ (by omega), up2_n _ _ (by omega), up2_n _ _ (by omega)]
  have y2 : Y 152 d = v1 l c a t := by rw [← hY, up2_n _ _ (by omega), up2_n _ _ (by omega), up2_n _ _ (by omega), up2_s, a4]
  have y3 : Y 153 d = nI k := by rw [← hY, up2_n _ _ (by omega), up2_n _ _ (by omega), up2_s]
  have y4 : Y 154 d = 0 := by rw [← hY, up2_n _ _ (by omega), up2_s]
  have y5 : Y 155 d = 20 := by rw [← hY, up2_s]
  obtain ⟨X2, b1, b2, b3, b4⟩ := h2 l c a t vl Y hv (nn_cg hn (by rw [yn _ _ (by omega), su_n _ (by omega), a3 158 (by omega)])) y4 y5 (by rw [yn _ _ (by omega), su_157])
  refine ⟨X2, ?_, fun i j hj => ?_, ⟨?_, ?_, ?_⟩, ?_⟩
  · rw [mrun_app, mrun_app, a1, Option.bind_some, mrun_1]
    have e : mst vl k (d, X1) = some (d, Y) := by
      unfold mst
      rw [if_neg (by omega), if_neg (by omega), if_neg (by omega), if_pos (by omega), ← hY]
    rw [e, Option.bind_some, b1]
  · rw [b2 i j hj, yn _ _ (by omega), su_n _ (by omega), a2 i j hj]
  · rw [b3 150 (by omega), yn _ _ (by omega), su_n _ (by omega), a3 150 (by omega)]
  · rw [b3 151 (by omega), yn _ _ (by omega), su_n _ (by omega), a3 151 (by omega)]
  · rw [b3 158 (by omega), yn _ _ (by omega), su_n _ (by omega), a3 158 (by omega)]
  · unfold tsX
    rw [su_n _ (show ¬ (d = d ∧ (153 = 154 ∨ 153 = 157)) by omega), su_n _ (show ¬ (d = d ∧ (152 = 154 ∨ 152 = 157)) by omega), b3 153 (by omega), b3 152 (by omega), y3, y2, b4]
    rcases hk with ⟨e1, e2⟩ | ⟨e1, e2⟩
    · subst e1 e2
      rw [if_neg (by decide), if_pos (by decide)]
      rfl
    · subst e1 e2
      rw [if_pos (by decide)]
      rfl
theorem CE_one {cs : List Nat} {v : Vf} (h : CT d cs v) : CE d cs v := by
  intro l c a t vl X hv hn h151 h153 h154 h155 h157
  obtain ⟨X', a1, a2, ⟨a3, a4, a5⟩, a6⟩ := h l c a t vl X hv hn h153 h154 h155 h157
  refine ⟨X', a1, a2, a5, ?_⟩
  rw [te_150, tv_kc, su_n _ (show ¬ (d = d ∧ (151 = 154 ∨ 151 = 157)) by omega), a4, h151, a6]
  rfl
theorem CE_ao {c1 c2 : List Nat} {v1 v2 : Vf} {k : Nat} {o : Int32} (hk : k = 26 ∧ o = 16 ∨ k = 27 ∧ o = 17) (h1 : CE d c1 v1) (h2 : CT d c2 v2) : CE d (c1 ++ [k] ++ c2) (jnV o v1 v2) := by
  intro l c a t vl X hv hn h151 h153 h154 h155 h157
  obtain ⟨X1, a1, a2, a3, a4⟩ := h1 l c a t vl X hv hn h151 h153 h154 h155 h157
  generalize hY : up2 (teX d X1) 151 d (nI k) = Y
  have yn : ∀ i j, ¬ (j = d ∧ i = 151) → Y i j = teX d X1 i j := by
    intro i j h
    rw [← hY, up2_n _ _ (by omega)]
  have y1 : Y 151 d = nI k := by rw [← hY, up2_s]
  obtain ⟨X2, b1, b2, ⟨b3, b4, b5⟩, b6⟩ := h2 l c a t vl Y hv (nn_cg hn (by rw [yn _ _ (by omega), te_n _ (by omega), a3])) (by rw [yn _ _ (by omega), te_153]) (by rw [yn _ _ (by omega), te_154]) (by rw [yn _ _ (by omega), te_155]) (by rw [yn _ _ (by omega), te_157])
  refine ⟨X2, ?_, fun i j hj => ?_, ?_, ?_⟩
  · rw [mrun_app, mrun_app, a1, Option.bind_some, mrun_1]
    have e : mst vl k (d, X1) = some (d, Y) := by
      unfold mst
      rw [if_neg (by omega), if_neg (by omega), if_neg (by omega), if_neg (by omega), if_pos (by omega), ← hY]
    rw [e, Option.bind_some, b1]
  · rw [b2 i j hj, yn _ _ (by omega), te_n _ (by omega), a2 i j hj]
  · rw [b5, yn _ _ (by omega), te_n _ (by omega), a3]
  · rw [te_150, tv_kc, su_n _ (show ¬ (d = d ∧ (151 = 154 ∨ 151 = 157)) by omega), su_n _ (show ¬ (d = d ∧ (150 = 154 ∨ 150 = 157)) by omega), b3, b4, y1, yn _ _ (by omega), a4, b6]
    rcases hk with ⟨e1, e2⟩ | ⟨e1, e2⟩
    · subst e1 e2
      rfl
    · subst e1 e2
      rfl
end PCode
