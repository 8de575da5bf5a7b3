/-! PURE: tokens: what class and model read alike. -/
def txtL : List Nat := [109, 97, 116, 116, 101, 114, 32, 105, 110, 32, 115, 111, 117, 114, 32, 108, 101, 100, 32, 107, 110, 105, 102, 101, 32, 112, 111, 116, 32, 97, 100, 100, 115, 32, 116, 97, 107, 101, 115, 32, 115, 112, 114, 101, 97, 100, 32, 101, 97, 116, 32, 121, 101, 97, 114, 32, 112, 108, 97, 105, 110, 32, 98, 97, 116, 116, 108, 101, 32, 119, 101, 100, 100, 105, 110, 103, 32, 119, 105, 110, 116, 101, 114, 32, 110, 111, 116, 32, 97, 110, 100, 32, 111, 114, 32, 108, 101, 102, 116, 32, 99, 111, 97, 116, 115, 32, 97, 103, 101, 32, 116, 104, 105, 99, 107, 32]
theorem txt_ok : q_bytes = txtL.map nI := by decide +kernel
/-- the letters of the words -/
def wdL : List (List Nat) := [[13, 1, 20, 20, 5, 18], [9, 14], [19, 15, 21, 18], [12, 5, 4], [11, 14, 9, 6, 5], [16, 15, 20], [1, 4, 4, 19], [20, 1, 11, 5, 19], [19, 16, 18, 5, 1, 4], [5, 1, 20], [25, 5, 1, 18], [16, 12, 1, 9, 14], [2, 1, 20, 20, 12, 5], [23, 5, 4, 4, 9, 14, 7], [23, 9, 14, 20, 5, 18], [14, 15, 20], [1, 14, 4], [15, 18], [12, 5, 6, 20], [3, 15, 1, 20, 19], [1, 7, 5], [20, 8, 9, 3, 11]]
def c32L : List Nat := [437932210, 302, 638642, 12452, 12002501, 16884, 37011, 21015731, 654906404, 5172, 824370, 17171758, 68833669, 24868169159, 781668530, 14836, 1476, 498, 398548, 3638931, 1253, 21242987]
def c27L : List Nat := [187475625, 257, 385497, 8887, 6128141, 12089, 22726, 10656676, 281490259, 3692, 495765, 8740238, 29637824, 8984627224, 335098125, 10631, 1111, 423, 240023, 1890856, 923, 10792937]
def kyL (x : Nat) : List Nat → Nat → Nat
  | [], i => i
  | c :: cs, i => if x = c then i else kyL x cs (i + 1)
def kyM (x : Int64) : List Nat → Nat → Nat
  | [], i => i
  | c :: cs, i => if lN c = x then i else kyM x cs (i + 1)
def kyN (x : Nat) : Nat := kyL x c32L 0
def kyI (x : Int64) : Nat := kyM x c32L 0
def kfI (x : Int64) : List Nat → Nat → Nat → Nat
  | [], _, _ => 22
  | c :: cs, pl, l => if c = 32 then (if lN l = x then pl else kfI x cs (pl + 1) 0) else kfI x cs pl (l * 32 + (c - 96))
set_option maxRecDepth 100000 in
theorem kf_I (x : Int64) : kfI x txtL 0 0 = kyI x := rfl
theorem kyM_L {x : Nat} (h : x < 2 ^ 63) : ∀ (l : List Nat) (i : Nat), (∀ c, c ∈ l → c < 2 ^ 62) → kyM (lN x) l i = kyL x l i
  | [], _, _ => rfl
  | c :: cs, i, hc => by
    have h1 := hc c (by simp)
    rw [kyM, kyL, kyM_L h cs (i + 1) (fun d hd => hc d (by simp [hd]))]
    by_cases e : x = c
    · rw [if_pos e, if_pos (by rw [e])]
    · rw [if_neg e, if_neg (fun q => e ((pk_lEQ (by omega) h).mp q).symm)]
theorem kyI_N {x : Nat} (h : x < 2 ^ 63) : kyI (lN x) = kyN x := kyM_L h c32L 0 (by decide +kernel)
theorem kyM_le (x : Int64) : ∀ (l : List Nat) (i : Nat), kyM x l i ≤ i + l.length
  | [], i => by simp [kyM]
  | c :: cs, i => by
    have := kyM_le x cs (i + 1)
    rw [kyM, List.length_cons]
    split <;> omega
theorem kyI_le (x : Int64) : kyI x ≤ 22 := kyM_le x c32L 0
theorem kyL_le (x : Nat) : ∀ (l : List Nat) (i : Nat), kyL x l i ≤ i + l.length ∧ i ≤ kyL x l i
  | [], i => by simp [kyL]
  | c :: cs, i => by
    have := kyL_le x cs (i + 1)
    rw [kyL, List.length_cons]
    split <;> omega
theorem kyL_get (x : Nat) : ∀ (l : List Nat) (i : Nat), kyL x l i < i + l.length → x = l.getD (kyL x l i - i) 0
  | [], i, h => by simp [kyL] at h
  | c :: cs, i, h => by
    rw [kyL] at h ⊢
    by_cases e : x = c
    · rw [if_pos e, Nat.sub_self]
      exact e
    · rw [if_neg e] at h ⊢
      rw [List.length_cons] at h
      have h1 := kyL_get x cs (i + 1) (by omega)
      have h2 := (kyL_le x cs (i + 1)).2
      rw [show kyL x cs (i + 1) - i = (kyL x cs (i + 1) - (i + 1)) + 1 by omega, List.getD_cons_succ]
      exact h1
def isW (ls : List Nat) : Prop := ∀ d, d ∈ ls → 1 ≤ d ∧ d ≤ 26
theorem e32_app (ls : List Nat) (d : Nat) : e32 (ls ++ [d]) = e32 ls * 32 + d := by
  unfold e32
  rw [List.foldl_append]
  rfl
theorem e32_inj : ∀ (n : Nat) (ls ks : List Nat), ls.length = n → isW ls → isW ks → e32 ls = e32 ks → ls = ks := by
  intro n
  induction n with
  | zero =>
    intro ls ks hl h1 h2 e
    have : ls = [] := List.length_eq_zero_iff.mp hl
    subst this
    rcases List.eq_nil_or_concat ks with q | ⟨ks', d, q⟩
    · exact q.symm
    · rw [List.concat_eq_append] at q
      subst q
      have := h2 d (by simp)
      rw [e32_app] at e
      have : e32 [] = 0 := rfl
      omega
  | succ n ih =>
    intro ls ks hl h1 h2 e
    rcases List.eq_nil_or_concat ls with q | ⟨ls', c, q⟩
    · subst q
      simp at hl
    · rw [List.concat_eq_append] at q
      subst q
      have hc := h1 c (by simp)
      rw [e32_app] at e
      rcases List.eq_nil_or_concat ks with q | ⟨ks', d, q⟩
      · subst q
        have : e32 [] = 0 := rfl
        omega
      · rw [List.concat_eq_append] at q
        subst q
        have hd := h2 d (by simp)
        rw [e32_app] at e
        have hdc : c = d := by omega
        have hee : e32 ls' = e32 ks' := by omega
        rw [ih ls' ks' (by simp at hl; exact hl) (fun x hx => h1 x (by simp [hx])) (fun x hx => h2 x (by simp [hx])) hee, hdc]
theorem e27_app (ls : List Nat) (d : Nat) : e27 (ls ++ [d]) = e27 ls * 27 + d := by
  unfold e27
  rw [List.foldl_append]
  rfl
theorem e27_inj : ∀ (n : Nat) (ls ks : List Nat), ls.length = n → isW ls → isW ks → e27 ls = e27 ks → ls = ks := by
  intro n
  induction n with
  | zero =>
    intro ls ks hl h1 h2 e
    have : ls = [] := List.length_eq_zero_iff.mp hl
    subst this
    rcases List.eq_nil_or_concat ks with q | ⟨ks', d, q⟩
    · exact q.symm
    · rw [List.concat_eq_append] at q
      subst q
      have := h2 d (by simp)
      rw [e27_app] at e
      have : e27 [] = 0 := rfl
      omega
  | succ n ih =>
    intro ls ks hl h1 h2 e
    rcases List.eq_nil_or_concat ls with q | ⟨ls', c, q⟩
    · subst q
      simp at hl
    · rw [List.concat_eq_append] at q
      subst q
      have hc := h1 c (by simp)
      rw [e27_app] at e
      rcases List.eq_nil_or_concat ks with q | ⟨ks', d, q⟩
      · subst q
        have : e27 [] = 0 := rfl
        omega
      · rw [List.concat_eq_append] at q
        subst q
        have hd := h2 d (by simp)
        rw [e27_app] at e
        have hdc : c = d := by omega
        have hee : e27 ls' = e27 ks' := by omega
        rw [ih ls' ks' (by simp at hl; exact hl) (fun x hx => h1 x (by simp [hx])) (fun x hx => h2 x (by simp [hx])) hee, hdc]
theorem e32_lt : ∀ (n : Nat) (ls : List Nat), ls.length = n → isW ls → e32 ls < 32 ^ n := by
  intro n
  induction n with
  | zero =>
    intro ls hl _
    have : ls = [] := List.length_eq_zero_iff.mp hl
    subst this
    decide
  | succ n ih =>
    intro ls hl h1
    rcases List.eq_nil_or_concat ls with q | ⟨ls', c, q⟩
    · subst q
      simp at hl
    · rw [List.concat_eq_append] at q
      subst q
      have hc := h1 c (by simp)
      have h2 := ih ls' (by simp at hl; exact hl) (fun x hx => h1 x (by simp [hx]))
      rw [e32_app, Nat.pow_succ]
      omega
theorem e27_lt : ∀ (n : Nat) (ls : List Nat), ls.length = n → isW ls → e27 ls < 27 ^ n := by
  intro n
  induction n with
  | zero =>
    intro ls hl _
    have : ls = [] := List.length_eq_zero_iff.mp hl
    subst this
    decide
  | succ n ih =>
    intro ls hl h1
    rcases List.eq_nil_or_concat ls with q | ⟨ls', c, q⟩
    · subst q
      simp at hl
    · rw [List.concat_eq_append] at q
      subst q
      have hc := h1 c (by simp)
      have h2 := ih ls' (by simp at hl; exact hl) (fun x hx => h1 x (by simp [hx]))
      rw [e27_app, Nat.pow_succ]
      omega
theorem e32_b {ls : List Nat} (h : isW ls) (hl : ls.length ≤ 8) : e32 ls < 2 ^ 40 := by
  have h1 := e32_lt ls.length ls rfl h
  have h2 : (32 : Nat) ^ ls.length ≤ 32 ^ 8 := Nat.pow_le_pow_right (by decide) hl
  have h3 : (32 : Nat) ^ 8 = 2 ^ 40 := by decide
  omega
theorem e27_b {ls : List Nat} (h : isW ls) (hl : ls.length ≤ 8) : e27 ls < 2 ^ 40 := by
  have h1 := e27_lt ls.length ls rfl h
  have h2 : (27 : Nat) ^ ls.length ≤ 27 ^ 8 := Nat.pow_le_pow_right (by decide) hl
  have h3 : (27 : Nat) ^ 8 < 2 ^ 40 := by decide
  omega
/-- which word of the language it is -/
def kyW (ls : List Nat) : Nat := kyN (e32 ls)
theorem ky_le (ls : List Nat) : kyW ls ≤ 22 := (kyL_le _ c32L 0).1
theorem wd_W : ∀ i, i < 22 → isW (wdL.getD i []) := by
  have h : ∀ i, i < 22 → ∀ d, d ∈ wdL.getD i [] → 1 ≤ d ∧ d ≤ 26 := by decide +kernel
  exact h
theorem wd_32 : ∀ i, i < 22 → e32 (wdL.getD i []) = c32L.getD i 0 := by decide +kernel
theorem wd_27 : ∀ i, i < 22 → e27 (wdL.getD i []) = c27L.getD i 0 := by decide +kernel
theorem ky_lst (x : Nat) : ∀ i, i < 22 → (kyN x = i ↔ x = c32L.getD i 0) := by
  have h1 : kyN x < 22 → x = c32L.getD (kyN x) 0 := fun h => kyL_get x c32L 0 h
  have h2 : ∀ i, i < 22 → kyN (c32L.getD i 0) = i := by decide +kernel
  intro i hi
  constructor
  · intro e
    rw [← e]
    exact h1 (by omega)
  · intro e
    rw [e]
    exact h2 i hi
theorem ky_27 {ls : List Nat} (h : isW ls) {i : Nat} (hi : i < 22) : kyW ls = i ↔ e27 ls = c27L.getD i 0 := by
  unfold kyW
  rw [ky_lst _ i hi, ← wd_32 i hi, ← wd_27 i hi]
  constructor
  · intro e
    rw [e32_inj ls.length ls _ rfl h (wd_W i hi) e]
  · intro e
    rw [e27_inj ls.length ls _ rfl h (wd_W i hi) e]
