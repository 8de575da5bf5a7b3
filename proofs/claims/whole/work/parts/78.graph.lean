/-! PURE: what led to what. -/
theorem mk_false : ∀ n : Nat, mk (fun _ => false) n = 0
  | 0 => rfl
  | n + 1 => by rw [mk, mk_false n]; simp
theorem mk_ne0 {q : Nat → Bool} {n : Nat} : mk q n ≠ 0 ↔ ∃ i, i < n ∧ q i = true := by
  constructor
  · intro h
    refine Classical.byContradiction (fun hn => h ?_)
    rw [← mk_false n]
    refine mk_congr (fun i hi => ?_)
    cases hq : q i with
    | false => rfl
    | true => exact absurd ⟨i, hi, hq⟩ hn
  · intro ⟨i, hi, hq⟩ e
    have h1 := mk_tb q i n
    rw [e, Nat.zero_testBit] at h1
    simp [hi, hq] at h1
theorem and_ne0 {a b n : Nat} (ha : a < 2 ^ n) : a &&& b ≠ 0 ↔ ∃ i, i < n ∧ a.testBit i = true ∧ b.testBit i = true := by
  constructor
  · intro h
    refine Classical.byContradiction (fun hn => h ?_)
    have hl : a &&& b < 2 ^ n := Nat.lt_of_le_of_lt Nat.and_le_left ha
    refine tb_ext hl (Nat.two_pow_pos n) (fun i hi => ?_)
    rw [Nat.testBit_and, Nat.zero_testBit]
    cases h1 : a.testBit i with
    | false => rfl
    | true =>
      cases h2 : b.testBit i with
      | false => rfl
      | true => exact absurd ⟨i, hi, h1, h2⟩ hn
  · intro ⟨i, hi, h1, h2⟩ e
    have h3 := Nat.testBit_and a b i
    rw [e, Nat.zero_testBit, h1, h2] at h3
    cases h3
theorem sm_mono {f g : Nat → Nat} : ∀ {n : Nat}, (∀ i, i < n → f i ≤ g i) → sm f n ≤ sm g n
  | 0, _ => Nat.le_refl _
  | n + 1, h => by
    have h1 := sm_mono (n := n) (fun i hi => h i (by omega))
    have h2 := h n (by omega)
    rw [sm, sm]
    omega
theorem sm_lt {f g : Nat → Nat} {j : Nat} (hj : f j < g j) : ∀ {n : Nat}, j < n → (∀ i, i < n → f i ≤ g i) → sm f n < sm g n
  | 0, h, _ => absurd h (Nat.not_lt_zero _)
  | n + 1, h, hle => by
    have h2 := hle n (by omega)
    rw [sm, sm]
    by_cases e : j = n
    · subst e
      have h1 := sm_mono (n := j) (fun i hi => hle i (by omega))
      omega
    · have h1 := sm_lt hj (n := n) (by omega) (fun i hi => hle i (by omega))
      omega
theorem sm_one : ∀ n : Nat, sm (fun _ => 1) n = n
  | 0 => rfl
  | n + 1 => by rw [sm, sm_one n]
theorem sm_zero : ∀ n : Nat, sm (fun _ => 0) n = 0
  | 0 => rfl
  | n + 1 => by rw [sm, sm_zero n]
theorem sm_add (f g : Nat → Nat) : ∀ n : Nat, sm (fun i => f i + g i) n = sm f n + sm g n
  | 0 => rfl
  | n + 1 => by
    rw [sm, sm, sm, sm_add f g n]
    omega
theorem sm_mul (c : Nat) (f : Nat → Nat) : ∀ n : Nat, sm (fun i => c * f i) n = c * sm f n
  | 0 => by simp [sm]
  | n + 1 => by rw [sm, sm, sm_mul c f n, Nat.mul_add]
theorem sm_swap (f : Nat → Nat → Nat) (k : Nat) : ∀ n : Nat, sm (fun i => sm (fun j => f i j) k) n = sm (fun j => sm (fun i => f i j) n) k
  | 0 => by
    show 0 = _
    rw [show (fun j => sm (fun i => f i j) 0) = fun _ => 0 from rfl, sm_zero]
  | n + 1 => by
    rw [sm, sm_swap f k n, ← sm_add]
    rfl
/-- one alone -/
theorem sm_del (j x : Nat) : ∀ n : Nat, sm (fun i => if i = j then x else 0) n = if j < n then x else 0
  | 0 => by simp [sm]
  | n + 1 => by
    rw [sm, sm_del j x n]
    by_cases h1 : j < n
    · rw [if_pos h1, if_neg (by omega), if_pos (by omega)]
      omega
    · rw [if_neg h1]
      by_cases h2 : n = j
      · rw [if_pos h2, if_pos (by omega)]
        omega
      · rw [if_neg h2, if_neg (by omega)]
def ld (p : PP) (m o : Nat) : Prop := m < p.n ∧ o < p.n ∧ (p.le m).testBit o = true
def cm (p : PP) (m o : Nat) : Prop := m < p.n ∧ o < p.n ∧ (cmN p m).testBit o = true
def rk (p : PP) (m : Nat) : Nat := sm (fun o => if p.bi m < p.bi o then 1 else 0) p.n
def qk (p : PP) (m : Nat) : Nat := sm (fun o => if p.bi o < p.bi m then 1 else 0) p.n
section PGraph
variable {p : PP} {m o x : Nat}
theorem ld_bi (g : GoodP p) (h : ld p m o) : p.bi m < p.bi o := g.2.2.1 m o h.1 h.2.1 h.2.2
theorem rk_lt (ho : o < p.n) (h : p.bi m < p.bi o) : rk p o < rk p m := by
  unfold rk
  refine sm_lt (j := o) ?_ ho (fun i _ => ?_)
  · show (if p.bi o < p.bi o then 1 else 0) < (if p.bi m < p.bi o then 1 else 0)
    rw [if_neg (Nat.lt_irrefl _), if_pos h]
    omega
  · show (if p.bi o < p.bi i then 1 else 0) ≤ (if p.bi m < p.bi i then 1 else 0)
    split
    · rw [if_pos (by omega)]
      omega
    · omega
theorem rk_n (hm : m < p.n) : rk p m < p.n := by
  have := sm_one p.n
  have h2 : rk p m < sm (fun _ => 1) p.n := by
    unfold rk
    refine sm_lt (j := m) ?_ hm (fun i _ => ?_)
    · show (if p.bi m < p.bi m then 1 else 0) < 1
      rw [if_neg (Nat.lt_irrefl _)]
      omega
    · show (if p.bi m < p.bi i then 1 else 0) ≤ 1
      split <;> omega
  omega
theorem qk_lt (hm : m < p.n) (h : p.bi m < p.bi o) : qk p m < qk p o := by
  unfold qk
  refine sm_lt (j := m) ?_ hm (fun i _ => ?_)
  · show (if p.bi m < p.bi m then 1 else 0) < (if p.bi m < p.bi o then 1 else 0)
    rw [if_neg (Nat.lt_irrefl _), if_pos h]
    omega
  · show (if p.bi i < p.bi m then 1 else 0) ≤ (if p.bi i < p.bi o then 1 else 0)
    split
    · rw [if_pos (by omega)]
      omega
    · omega
theorem qk_n (hm : m < p.n) : qk p m < p.n := by
  have := sm_one p.n
  have h2 : qk p m < sm (fun _ => 1) p.n := by
    unfold qk
    refine sm_lt (j := m) ?_ hm (fun i _ => ?_)
    · show (if p.bi m < p.bi m then 1 else 0) < 1
      rw [if_neg (Nat.lt_irrefl _)]
      omega
    · show (if p.bi i < p.bi m then 1 else 0) ≤ 1
      split <;> omega
  omega
theorem rs_tb (p : PP) (j m o : Nat) : (rsN p (j + 1) m).testBit o = true ↔ o < p.n ∧ ((p.le m).testBit o = true ∨ ∃ x, x < p.n ∧ (p.le m).testBit x = true ∧ (rsN p j x).testBit o = true) := by
  rw [rsN, mk_tb, Bool.and_eq_true, decide_eq_true_iff, Bool.or_eq_true, bne_iff_ne, mk_ne0]
  simp only [Bool.and_eq_true]
theorem rs_lt (p : PP) (j m : Nat) : rsN p j m < 2 ^ p.n := by
  cases j with
  | zero => exact Nat.two_pow_pos _
  | succ j => exact mk_lt _ _
theorem rs_stab (g : GoodP p) : ∀ (j m : Nat), m < p.n → rk p m < j → rsN p j m = rsN p (j + 1) m := by
  intro j
  induction j with
  | zero => intro m _ h; omega
  | succ j ih =>
    intro m hm hr
    refine tb_ext (rs_lt p _ _) (rs_lt p _ _) (fun o ho => ?_)
    rw [Bool.eq_iff_iff, rs_tb, rs_tb]
    refine and_congr Iff.rfl (or_congr Iff.rfl (exists_congr (fun x => and_congr_right (fun hx => and_congr_right (fun hl => ?_)))))
    rw [ih x hx (by have := rk_lt (p := p) hx (g.2.2.1 m x hm hx hl); omega)]
theorem came (g : GoodP p) : cm p m o ↔ ld p m o ∨ ∃ x, ld p m x ∧ cm p x o := by
  have h7 := g.1
  constructor
  · intro ⟨hm, ho, h⟩
    unfold cmN at h
    rw [rs_tb] at h
    rcases h.2 with h | ⟨x, hx, h1, h2⟩
    · exact Or.inl ⟨hm, ho, h⟩
    · refine Or.inr ⟨x, ⟨hm, hx, h1⟩, hx, ho, ?_⟩
      unfold cmN
      rw [← rs_stab g 7 x hx (by have := rk_n (p := p) hx; omega)]
      exact h2
  · intro h
    rcases h with ⟨hm, ho, h⟩ | ⟨x, ⟨hm, hx, h1⟩, _, ho, h2⟩
    · refine ⟨hm, ho, ?_⟩
      unfold cmN
      rw [rs_tb]
      exact ⟨ho, Or.inl h⟩
    · refine ⟨hm, ho, ?_⟩
      unfold cmN at h2 ⊢
      rw [rs_tb]
      refine ⟨ho, Or.inr ⟨x, hx, h1, ?_⟩⟩
      rw [rs_stab g 7 x hx (by have := rk_n (p := p) hx; omega)]
      exact h2
theorem cm_lt (p : PP) (m : Nat) : cmN p m < 2 ^ p.n := rs_lt p 8 m
/-- by the rank -/
theorem rk_ind {P : Nat → Prop} (h : ∀ m, m < p.n → (∀ o, o < p.n → p.bi m < p.bi o → P o) → P m) : ∀ m, m < p.n → P m := by
  have key : ∀ r m, m < p.n → rk p m < r → P m := by
    intro r
    induction r with
    | zero => intro m _ h; omega
    | succ r ih =>
      intro m hm hr
      exact h m hm (fun o ho hb => ih o ho (by have := rk_lt (p := p) ho hb; omega))
  exact fun m hm => key (rk p m + 1) m hm (by omega)
theorem cm_bi (g : GoodP p) (h : cm p m o) : p.bi m < p.bi o := by
  have key := rk_ind (p := p) (P := fun m => ∀ o, cm p m o → p.bi m < p.bi o) (fun m hm ih o h => by
    rcases (came g).mp h with h | ⟨x, h1, h2⟩
    · exact ld_bi g h
    · have h3 := ld_bi g h1
      have h4 := ih x h1.2.1 h3 o h2
      omega)
  exact key m h.1 o h
theorem cm_ld (g : GoodP p) (h1 : cm p m x) (h2 : ld p x o) : cm p m o := by
  have key := rk_ind (p := p) (P := fun m => ∀ x o, cm p m x → ld p x o → cm p m o) (fun m hm ih x o h1 h2 => by
    rcases (came g).mp h1 with h | ⟨z, h3, h4⟩
    · exact (came g).mpr (Or.inr ⟨x, h, (came g).mpr (Or.inl h2)⟩)
    · exact (came g).mpr (Or.inr ⟨z, h3, ih z h3.2.1 (ld_bi g h3) x o h4 h2⟩))
  exact key m h1.1 x o h1 h2
theorem came_r (g : GoodP p) : cm p m o ↔ ld p m o ∨ ∃ x, cm p m x ∧ ld p x o := by
  constructor
  · intro h
    have key := rk_ind (p := p) (P := fun m => ∀ o, cm p m o → ld p m o ∨ ∃ x, cm p m x ∧ ld p x o) (fun m hm ih o h => by
      rcases (came g).mp h with h | ⟨x, h1, h2⟩
      · exact Or.inl h
      · rcases ih x h1.2.1 (ld_bi g h1) o h2 with h3 | ⟨y, h3, h4⟩
        · exact Or.inr ⟨x, (came g).mpr (Or.inl h1), h3⟩
        · exact Or.inr ⟨y, (came g).mpr (Or.inr ⟨x, h1, h3⟩), h4⟩)
    exact key m h.1 o h
  · intro h
    rcases h with h | ⟨x, h1, h2⟩
    · exact (came g).mpr (Or.inl h)
    · exact cm_ld g h1 h2
theorem cm_trans (g : GoodP p) (h1 : cm p m x) (h2 : cm p x o) : cm p m o := by
  have key := rk_ind (p := p) (P := fun m => ∀ x o, cm p m x → cm p x o → cm p m o) (fun m hm ih x o h1 h2 => by
    rcases (came g).mp h1 with h | ⟨z, h3, h4⟩
    · exact (came g).mpr (Or.inr ⟨x, h, h2⟩)
    · exact (came g).mpr (Or.inr ⟨z, h3, ih z h3.2.1 (ld_bi g h3) x o h4 h2⟩))
  exact key m h1.1 x o h1 h2
/-- who is right if these are meant -/
def rightN (p : PP) (x : Nat) : Nat := mk (fun m => x.testBit m || (cmN p m &&& x != 0)) p.n
theorem right_tb (g : GoodP p) (y m : Nat) : (rightN p y).testBit m = true ↔ m < p.n ∧ (y.testBit m = true ∨ ∃ o, cm p m o ∧ y.testBit o = true) := by
  unfold rightN
  rw [mk_tb, Bool.and_eq_true, decide_eq_true_iff, Bool.or_eq_true, bne_iff_ne, and_ne0 (cm_lt p m)]
  refine and_congr_right (fun hm => or_congr Iff.rfl (exists_congr (fun o => ?_)))
  constructor
  · intro ⟨h1, h2, h3⟩
    exact ⟨⟨hm, h1, h2⟩, h3⟩
  · intro ⟨⟨_, h1, h2⟩, h3⟩
    exact ⟨h1, h2, h3⟩
theorem right_lt (p : PP) (y : Nat) : rightN p y < 2 ^ p.n := mk_lt _ _
end PGraph
