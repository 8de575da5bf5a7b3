/-! PURE: tasting; the simple questions. -/
theorem pc_and (a b : Nat) : pcN (a &&& b) ≤ pcN a := by
  unfold pcN
  refine sm_mono (fun i _ => ?_)
  rw [Nat.testBit_and]
  cases a.testBit i <;> cases b.testBit i <;> decide
def cnT (p : PP) (S : ST) (es : SN) (k s : Nat) : Nat := pcN (whN p S es es.length &&& nsN p S k s)
def evT (p : PP) (S : ST) (es : SN) : Nat := pcN (whN p S es es.length)
def grT (p : PP) (S : ST) (es : SN) (k s : Nat) : Nat := if cnT p S es k s < evT p S es - cnT p S es k s then evT p S es - cnT p S es k s else cnT p S es k s
def stT (p : PP) (S : ST) (es : SN) (k s : Nat) (x : Nat × Option Nat) : Nat × Option Nat := if grT p S es k s < x.1 then (grT p S es k s, some (100 * k + s)) else x
def tIn (p : PP) (S : ST) (es : SN) (k : Nat) (x : Nat × Option Nat) : Nat → Nat × Option Nat
  | 0 => x
  | s + 1 => stT p S es k s (tIn p S es k x s)
def tOu (p : PP) (S : ST) (es : SN) (B : Nat) : Nat → Nat × Option Nat
  | 0 => (evT p S es, none)
  | k + 1 => tIn p S es k (tOu p S es B k) B
theorem cn_ev (p : PP) (S : ST) (es : SN) (k s : Nat) : cnT p S es k s ≤ evT p S es := pc_and _ _
theorem ev_le (p : PP) (S : ST) (es : SN) : evT p S es ≤ 7 := pcN_le _
theorem gr_le (p : PP) (S : ST) (es : SN) (k s : Nat) : grT p S es k s ≤ 7 := by
  have h1 := cn_ev p S es k s
  have h2 := ev_le p S es
  unfold grT
  split <;> omega
theorem tIn_le (p : PP) (S : ST) (es : SN) (k : Nat) {x : Nat × Option Nat} (hx : x.1 ≤ 7) : ∀ s, (tIn p S es k x s).1 ≤ 7
  | 0 => hx
  | s + 1 => by
    have h1 := tIn_le p S es k hx s
    have h2 := gr_le p S es k s
    rw [tIn, stT]
    split
    · exact h2
    · exact h1
theorem tOu_le (p : PP) (S : ST) (es : SN) (B : Nat) : ∀ k, (tOu p S es B k).1 ≤ 7
  | 0 => ev_le p S es
  | k + 1 => tIn_le p S es k (tOu_le p S es B k) B
section PTaste
variable {E : VE} {V : VT} {p : PP} {S : ST} {m c N : Nat} {es : SN}
theorem c_taste_in {B : Nat} (hB : B = 41) (h : CQ E V p S c) (hA : ∀ k m, k < 10 → m < p.n → V.A 92 (k * 7 + m) = nI (lvN p S m k)) (hN : 1000 < N) : ∀ (K : Int32 → Int32 → Int32 → Int32 → Int32 → VT → Option (Int32 × VT)) (k : Nat) (x : Nat × Option Nat), k < 10 → x.1 ≤ 7 → ∀ w s, s ≤ B → B - s < w → gX9_taste_b32 E N K w (nI (whN p S es es.length)) (nI (evT p S es)) (oI (tIn p S es k x s).2) (nI (tIn p S es k x s).1) (nI k) (nI s) V = K (nI (whN p S es es.length)) (nI (evT p S es)) (oI (tIn p S es k x B).2) (nI (tIn p S es k x B).1) (nI (k + 1)) V := by
  have hn := h.2.1.1.1
  have hp := pw1 hn
  have hwl := wh_lt p S es es.length
  have hev := ev_le p S es
  intro K k x hk hx w
  induction w with
  | zero => intro s _ h; omega
  | succ w ih =>
    intro s hs hw
    unfold gX9_taste_b32
    by_cases hc : s = B
    · subst hc
      try simp (disch := omega) only [fa_lit, ne_le, ne_lt, ne_eq', nI_add, pk_mul, pk_sub, rdA_n, wrA_n, rdL_n, wrL_n, nI_one, nI_bit1, nI_bit0, fa_or, fa_and, nI_df, nat31, Option.bind_some, m1_le0, m1_lt0, m1_eq, eq_m1, ite_nI, sub_m, pk_m1', not_lt0]
      rw [if_pos (by omega)]
    · have h2 := ih (s + 1) (by omega) (by omega)
      have hl := tIn_le p S es k hx s
      have hg := gr_le p S es k s
      have hce := cn_ev p S es k s
      have hand : whN p S es es.length &&& nsN p S k s < 128 := Nat.lt_of_le_of_lt Nat.and_le_left (by omega)
      rw [c_ns h hA hN hk (by omega), Option.bind_some, fa_and, c_bc hand, Option.bind_some]
      rw [show pcN (whN p S es es.length &&& nsN p S k s) = cnT p S es k s from rfl]
      try simp (disch := omega) only [fa_lit, ne_le, ne_lt, ne_eq', nI_add, pk_mul, pk_sub, rdA_n, wrA_n, rdL_n, wrL_n, nI_one, nI_bit1, nI_bit0, fa_or, fa_and, nI_df, nat31, Option.bind_some, m1_le0, m1_lt0, m1_eq, eq_m1, ite_nI, sub_m, pk_m1', not_lt0]
      rw [show (if cnT p S es k s < evT p S es - cnT p S es k s then evT p S es - cnT p S es k s else cnT p S es k s) = grT p S es k s from rfl]
      try simp (disch := omega) only [fa_lit, ne_le, ne_lt, ne_eq', nI_add, pk_mul, pk_sub, rdA_n, wrA_n, rdL_n, wrL_n, nI_one, nI_bit1, nI_bit0, fa_or, fa_and, nI_df, nat31, Option.bind_some, m1_le0, m1_lt0, m1_eq, eq_m1, ite_nI, sub_m, pk_m1', not_lt0]
      rw [if_neg (by omega)]
      rw [tIn, stT] at h2
      by_cases e : grT p S es k s < (tIn p S es k x s).1
      · rw [if_pos e] at h2
        rw [if_neg (by omega)]
        exact h2
      · rw [if_neg e] at h2
        rw [if_pos (by omega)]
        exact h2
theorem c_taste {B C : Nat} (hB : B = 41) (hC : C = 10) (h : CQ E V p S c) (hA : ∀ k m, k < 10 → m < p.n → V.A 92 (k * 7 + m) = nI (lvN p S m k)) (hN : 1000 < N) : gX9_taste_b22 E N N (nI (whN p S es es.length)) (nI (evT p S es)) (-nI 1) (nI (evT p S es)) (nI 0) V = some (oI (tOu p S es B C).2, V) := by
  have hn := h.2.1.1.1
  have hp := pw1 hn
  have hwl := wh_lt p S es es.length
  have hev := ev_le p S es
  have key : ∀ w k, k ≤ C → C - k < w → gX9_taste_b22 E N w (nI (whN p S es es.length)) (nI (evT p S es)) (oI (tOu p S es B k).2) (nI (tOu p S es B k).1) (nI k) V = some (oI (tOu p S es B C).2, V) := by
    intro w
    induction w with
    | zero => intro s _ h; omega
    | succ w ih =>
      intro k hk hw
      unfold gX9_taste_b22
      by_cases hc : k = C
      · subst hc
        try simp (disch := omega) only [fa_lit, ne_le, ne_lt, ne_eq', nI_add, pk_mul, pk_sub, rdA_n, wrA_n, rdL_n, wrL_n, nI_one, nI_bit1, nI_bit0, fa_or, fa_and, nI_df, nat31, Option.bind_some, m1_le0, m1_lt0, m1_eq, eq_m1, ite_nI, sub_m, pk_m1', not_lt0]
        rw [if_pos (by omega)]
      · have h2 := ih (k + 1) (by omega) (by omega)
        try simp (disch := omega) only [fa_lit, ne_le, ne_lt, ne_eq', nI_add, pk_mul, pk_sub, rdA_n, wrA_n, rdL_n, wrL_n, nI_one, nI_bit1, nI_bit0, fa_or, fa_and, nI_df, nat31, Option.bind_some, m1_le0, m1_lt0, m1_eq, eq_m1, ite_nI, sub_m, pk_m1', not_lt0]
        rw [if_neg (by omega)]
        rw [tOu] at h2
        refine (c_taste_in (es := es) hB h hA hN (gX9_taste_b22 E N w) k (tOu p S es B k) (by omega) (tOu_le p S es B k) N 0 (by omega) (by omega)).trans ?_
        exact h2
  have e := key N 0 (by omega) (by omega)
  rw [show tOu p S es B 0 = (evT p S es, none) from rfl] at e
  exact e
theorem cn_sm (hn : p.n ≤ 7) (k s : Nat) : sm (fun m => if (whN p S es es.length).testBit m = true ∧ lvN p S m k ≤ s then 1 else 0) p.n = cnT p S es k s := by
  unfold cnT pcN
  have key : ∀ j, p.n + j = 7 → sm (fun i => if (whN p S es es.length &&& nsN p S k s).testBit i = true then 1 else 0) (p.n + j) = sm (fun m => if (whN p S es es.length).testBit m = true ∧ lvN p S m k ≤ s then 1 else 0) p.n := by
    have gen : ∀ j, sm (fun i => if (whN p S es es.length &&& nsN p S k s).testBit i = true then 1 else 0) (p.n + j) = sm (fun m => if (whN p S es es.length).testBit m = true ∧ lvN p S m k ≤ s then 1 else 0) p.n := by
      intro j
      induction j with
      | zero =>
        refine sm_congr (fun i hi => ?_)
        rw [Nat.testBit_and]
        unfold nsN
        rw [mk_tb]
        by_cases e1 : (whN p S es es.length).testBit i = true
        · by_cases e2 : lvN p S i k ≤ s
          · simp [show i < p.n by omega, e1, e2]
          · simp [e1, e2]
        · simp [e1]
      | succ j ih =>
        rw [← Nat.add_assoc, sm, ih]
        have e : (whN p S es es.length &&& nsN p S k s).testBit (p.n + j) = false := by
          rw [Nat.testBit_and]
          unfold whN
          rw [mk_tb, decide_eq_false (by omega), Bool.false_and, Bool.false_and]
        rw [e]
        simp
    exact fun j _ => gen j
  have := key (7 - p.n) (by omega)
  rw [show p.n + (7 - p.n) = 7 by omega] at this
  exact this.symm
theorem m_taste {B C : Nat} (hB : B = 41) (hC : C = 10) (h : MQn V p S c) (hA : ∀ k m, k < 10 → m < p.n → V.A 176 (10 * m + k) = nI (lvN p S m k)) (hN : 1000 < N) : gX10_taste_b23 N N (nI (whN p S es es.length)) (nI (evT p S es)) (nI (evT p S es)) (-nI 1) (nI 0) V = some (oI (tOu p S es B C).2, V) := by
  have hn := h.1.1.1
  have hp := pw1 hn
  have hwl := wh_lt p S es es.length
  have hev := ev_le p S es
  have inn : ∀ (K : Int32 → Int32 → Int32 → Int32 → Int32 → VT → Option (Int32 × VT)) (k : Nat) (x : Nat × Option Nat), k < 10 → x.1 ≤ 7 → ∀ w s, s ≤ B → B - s < w → gX10_taste_b33 N K w (nI (whN p S es es.length)) (nI (evT p S es)) (nI (tIn p S es k x s).1) (oI (tIn p S es k x s).2) (nI k) (nI s) V = K (nI (whN p S es es.length)) (nI (evT p S es)) (nI (tIn p S es k x B).1) (oI (tIn p S es k x B).2) (nI (k + 1)) V := by
    intro K k x hk hx w
    induction w with
    | zero => intro s _ h; omega
    | succ w ih =>
      intro s hs hw
      unfold gX10_taste_b33
      by_cases hc : s = B
      · subst hc
        try simp (disch := omega) only [fa_lit, ne_le, ne_lt, ne_eq', nI_add, pk_mul, pk_sub, rdA_n, wrA_n, rdL_n, wrL_n, nI_one, nI_bit1, nI_bit0, fa_or, fa_and, nI_df, nat31, Option.bind_some, m1_le0, m1_lt0, m1_eq, eq_m1, ite_nI, sub_m, pk_m1', not_lt0]
        rw [if_pos (by omega)]
      · have h2 := ih (s + 1) (by omega) (by omega)
        have hl := tIn_le p S es k hx s
        have hg := gr_le p S es k s
        have hce := cn_ev p S es k s
        try simp (disch := omega) only [fa_lit, ne_le, ne_lt, ne_eq', nI_add, pk_mul, pk_sub, rdA_n, wrA_n, rdL_n, wrL_n, nI_one, nI_bit1, nI_bit0, fa_or, fa_and, nI_df, nat31, Option.bind_some, m1_le0, m1_lt0, m1_eq, eq_m1, ite_nI, sub_m, pk_m1', not_lt0]
        rw [if_neg (by omega)]
        refine loop_sm (F := fun w2 a j => gX10_taste_b46 N (gX10_taste_b33 N K w) w2 (nI (whN p S es es.length)) (nI (evT p S es)) (nI (tIn p S es k x s).1) (oI (tIn p S es k x s).2) (nI k) (nI s) (nI a) (nI j) V) p.n (fun m => if (whN p S es es.length).testBit m = true ∧ lvN p S m k ≤ s then 1 else 0) (fun _ => K (nI (whN p S es es.length)) (nI (evT p S es)) (nI (tIn p S es k x B).1) (oI (tIn p S es k x B).2) (nI (k + 1)) V) ?_ ?_ N 0 (by omega) (by omega)
        · intro w2 j R hj hR
          have hlv := lvN_le h.2.2.1 hj k
          show gX10_taste_b46 N (gX10_taste_b33 N K w) (w2 + 1) (nI (whN p S es es.length)) (nI (evT p S es)) (nI (tIn p S es k x s).1) (oI (tIn p S es k x s).2) (nI k) (nI s) (nI _) (nI j) V = R
          unfold gX10_taste_b46
          try simp (disch := omega) only [fa_lit, ne_le, ne_lt, ne_eq', nI_add, pk_mul, pk_sub, rdA_n, wrA_n, rdL_n, wrL_n, nI_one, nI_bit1, nI_bit0, fa_or, fa_and, nI_df, nat31, Option.bind_some, m1_le0, m1_lt0, m1_eq, eq_m1, ite_nI, sub_m, pk_m1', not_lt0, h.1.2.1.1, hA k j hk hj]
          rw [if_neg (by omega)]
          by_cases e1 : (whN p S es es.length).testBit j = true
          · rw [if_pos e1]
            by_cases e2 : s < lvN p S j k
            · rw [if_pos e2]
              rw [if_neg (fun q => by omega)] at hR
              exact hR
            · rw [if_neg e2]
              rw [if_pos ⟨e1, by omega⟩] at hR
              exact hR
          · rw [if_neg e1]
            rw [if_neg (fun q => e1 q.1)] at hR
            exact hR
        · intro w2
          show gX10_taste_b46 N (gX10_taste_b33 N K w) (w2 + 1) (nI (whN p S es es.length)) (nI (evT p S es)) (nI (tIn p S es k x s).1) (oI (tIn p S es k x s).2) (nI k) (nI s) (nI _) (nI p.n) V = _
          unfold gX10_taste_b46
          rw [cn_sm hn]
          try simp (disch := omega) only [fa_lit, ne_le, ne_lt, ne_eq', nI_add, pk_mul, pk_sub, rdA_n, wrA_n, rdL_n, wrL_n, nI_one, nI_bit1, nI_bit0, fa_or, fa_and, nI_df, nat31, Option.bind_some, m1_le0, m1_lt0, m1_eq, eq_m1, ite_nI, sub_m, pk_m1', not_lt0, h.1.2.1.1]
          rw [if_pos (Nat.le_refl _), show (if cnT p S es k s < evT p S es - cnT p S es k s then evT p S es - cnT p S es k s else cnT p S es k s) = grT p S es k s from rfl]
          try simp (disch := omega) only [fa_lit, ne_le, ne_lt, ne_eq', nI_add, pk_mul, pk_sub, rdA_n, wrA_n, rdL_n, wrL_n, nI_one, nI_bit1, nI_bit0, fa_or, fa_and, nI_df, nat31, Option.bind_some, m1_le0, m1_lt0, m1_eq, eq_m1, ite_nI, sub_m, pk_m1', not_lt0]
          rw [tIn, stT] at h2
          by_cases e : grT p S es k s < (tIn p S es k x s).1
          · rw [if_pos e] at h2
            rw [if_pos e]
            exact h2
          · rw [if_neg e] at h2
            rw [if_neg e]
            exact h2
  have key : ∀ w k, k ≤ C → C - k < w → gX10_taste_b23 N w (nI (whN p S es es.length)) (nI (evT p S es)) (nI (tOu p S es B k).1) (oI (tOu p S es B k).2) (nI k) V = some (oI (tOu p S es B C).2, V) := by
    intro w
    induction w with
    | zero => intro s _ h; omega
    | succ w ih =>
      intro k hk hw
      unfold gX10_taste_b23
      by_cases hc : k = C
      · subst hc
        try simp (disch := omega) only [fa_lit, ne_le, ne_lt, ne_eq', nI_add, pk_mul, pk_sub, rdA_n, wrA_n, rdL_n, wrL_n, nI_one, nI_bit1, nI_bit0, fa_or, fa_and, nI_df, nat31, Option.bind_some, m1_le0, m1_lt0, m1_eq, eq_m1, ite_nI, sub_m, pk_m1', not_lt0]
        rw [if_pos (by omega)]
      · have h2 := ih (k + 1) (by omega) (by omega)
        try simp (disch := omega) only [fa_lit, ne_le, ne_lt, ne_eq', nI_add, pk_mul, pk_sub, rdA_n, wrA_n, rdL_n, wrL_n, nI_one, nI_bit1, nI_bit0, fa_or, fa_and, nI_df, nat31, Option.bind_some, m1_le0, m1_lt0, m1_eq, eq_m1, ite_nI, sub_m, pk_m1', not_lt0]
        rw [if_neg (by omega)]
        rw [tOu] at h2
        refine (inn (gX10_taste_b23 N w) k (tOu p S es B k) (by omega) (tOu_le p S es B k) N 0 (by omega) (by omega)).trans ?_
        exact h2
  have e := key N 0 (by omega) (by omega)
  rw [show tOu p S es B 0 = (evT p S es, none) from rfl] at e
  exact e
theorem q_taste (hn : p.n ≤ 7) (ge : GoodE es) (hN : 1000 < N) : ∃ v, QcS E p S c es (fun V => gX9_taste E N V) v ∧ QmS p S c es (fun V => gX10_taste N V) v := by
  unfold gX9_taste gX10_taste
  obtain ⟨B, hB⟩ : ∃ B, B = 41 := ⟨_, rfl⟩
  obtain ⟨C, hC⟩ : ∃ C, C = 10 := ⟨_, rfl⟩
  have hp := pw1 hn
  have hwl := wh_lt p S es es.length
  refine ⟨oI (tOu p S es B C).2, fun V h hS => ?_, fun V h hS => ?_⟩
  · refine tot_bd (c_tastes h hN) (fun W hW => ?_)
    have h1 := h.fr hW.2
    rw [c_susp h1 hW.1 (hS.fr hW.2 (by unfold scA; omega) (by unfold scA; omega) (by unfold scA; omega) (by unfold scF; omega)) ge hN]
    simp only [Option.bind_some]
    rw [c_bc (by omega)]
    have e := c_taste (es := es) hB hC h1 hW.1 hN
    simp only [Option.bind_some]
    rw [show (0 : Int32) = nI 0 from rfl, show (-1 : Int32) = -nI 1 from rfl, show pcN (whN p S es es.length) = evT p S es from rfl, e]
    exact tot_some ⟨rfl, hW.2⟩
  · refine th0S h hS (fun V1 h1 hS1 => ?_)
    unfold gX10_who
    have h1' := h1.mk (W := wF V1 137 0 0) ⟨rfl, fun _ _ => rfl, fun i j hij => by rw [wF_F]; exact if_neg hij⟩ h1.2.1
    have fw : mf V1 (wF V1 137 0 0) := ⟨rfl, fun _ _ => rfl, fun i j hij => by rw [wF_F]; exact if_neg hij⟩
    refine tot_bd (R := fun r => r.1 = nI (whN p S es es.length) ∧ (∀ k m, k < 10 → m < p.n → r.2.A 176 (10 * m + k) = nI (lvN p S m k)) ∧ MSt r.2 p.n S ∧ mf V1 r.2) ?_ (fun r hr => ?_)
    · rw [Option.bind_some]
      exact tot_mo (m_who (r0 := fun _ => none) h1' (hS1.mf fw) ge hN) (fun r hr => ⟨hr.1, hr.2.1, hr.2.2.1, fw.trans hr.2.2.2⟩)
    · rw [hr.1, m_bits (by omega) hN]
      have e := m_taste (es := es) hB hC (h1.mk hr.2.2.2 hr.2.2.1) hr.2.1 hN
      simp only [Option.bind_some]
      rw [show (0 : Int32) = nI 0 from rfl, show (-1 : Int32) = -nI 1 from rfl, show pcN (whN p S es es.length) = evT p S es from rfl, e]
      exact tot_some ⟨rfl, hr.2.2⟩
theorem q_meant (hN : 1000 < N) : ∃ v, Qc E p S c (fun V => gX9_meant E N V) v ∧ Qm p S c (fun V => gX10_meant N V) v := by
  unfold gX10_meant
  refine qT ⟨nI (meantN p S), fun V h => tot_eq (c_mnt h hN) ⟨rfl, fr.rf⟩, fun V h => ?_⟩
  dsimp only
  rw [m_mnt h hN]
  exact tot_some ⟨rfl, h.2.1, mf.rf⟩
theorem q_right (hN : 1000 < N) : ∃ v, Qc E p S c (fun V => gX9_right E N V) v ∧ Qm p S c (fun V => gX10_right N V) v := by
  unfold gX10_right
  refine qT ⟨nI (rightN p (meantN p S)), fun V h => tot_eq (c_rgt h hN) ⟨rfl, fr.rf⟩, fun V h => ?_⟩
  dsimp only
  rw [m_mnt h hN]
  simp only [Option.bind_some]
  rw [m_right h.1 (mnt_lt p S) hN]
  exact tot_some ⟨rfl, h.2.1, mf.rf⟩
theorem q_matter (g : GoodP p) (hN : 1000 < N) (x y : Int32) : ∃ v, Qc E p S c (fun V => gX9_matter E N x y V) v ∧ Qm p S c (fun V => gX10_matter N x y V) v := by
  unfold gX9_matter gX10_matter gX9_bit
  have hn := g.1
  have hp := pw1 hn
  have hml := mnt_lt p S
  have hrl := right_lt p (meantN p S)
  refine qT (qM hn (fun m hm e => ?_))
  subst e
  cases hW : wiB y 0 6 with
  | false =>
    have ne : ∀ j, j ≤ 6 → ¬ y = nI j := by
      intro j hj e
      subst e
      have q : wiB (nI j) 0 6 = true := by
        unfold wiB
        rw [Bool.and_eq_true, decide_eq_true_iff, decide_eq_true_iff]
        exact ⟨nI_le (by omega) (by omega), nI_le (by omega) (by omega)⟩
      rw [q] at hW
      cases hW
    refine ⟨-1, fun V h => ?_, fun V h => ?_⟩
    · dsimp only
      simp only [fa_lit]
      rw [if_neg (ne 0 (by omega)), if_neg (ne 1 (by omega)), if_neg (ne 2 (by omega)), if_neg (ne 3 (by omega)), if_neg (ne 4 (by omega)), if_neg (ne 5 (by omega)), if_neg (ne 6 (by omega))]
      exact tot_some ⟨rfl, fr.rf⟩
    · dsimp only
      rw [show gX10_within y 0 6 V = some (nI (if wiB y 0 6 = true then 1 else 0), V) from m_wi y 0 6 V, hW]
      exact tot_some ⟨rfl, h.2.1, mf.rf⟩
  | true =>
    obtain ⟨k, _, hk, e⟩ := wi_of (by omega) (by omega) hW
    refine ⟨nI (if k = 0 then p.kd m else if k = 1 then p.bi m else if k = 2 then S.so m else if k = 3 then S.co m else if k = 4 then (if (meantN p S).testBit m = true then 1 else 0) else if k = 5 then (if (rightN p (meantN p S)).testBit m = true then 1 else 0) else p.le m), fun V h => ?_, fun V h => ?_⟩
    · have e1 := h.2.1.2.2.1 m hm
      have e2 := h.2.2.1.1 m hm
      dsimp only
      rw [c_mnt h hN, c_rgt h hN]
      simp only [Option.bind_some]
      rw [e, rdA_n (by omega) (by omega), rdA_n (by omega) (by omega), rdA_n (by omega) (by omega), rdA_n (by omega) (by omega), rdA_n (by omega) (by omega), e1.1, e1.2.1, e1.2.2.2.1, e2.1, e2.2, show (31 : Int32) = nI 31 from rfl, fa_and, nat31 (by omega), show (1 : Int32) = nI 1 from rfl, nI_bit (by omega) (by omega), nI_bit (by omega) (by omega)]
      try simp (disch := omega) only [fa_lit, ne_le, ne_lt, ne_eq', nI_add, pk_mul, pk_sub, rdA_n, wrA_n, rdL_n, wrL_n, nI_one, nI_bit1, nI_bit0, fa_or, fa_and, nI_df, nat31, Option.bind_some, m1_le0, m1_lt0, m1_eq, eq_m1, ite_nI, sub_m, pk_m1', not_lt0]
      have : k = 0 ∨ k = 1 ∨ k = 2 ∨ k = 3 ∨ k = 4 ∨ k = 5 ∨ k = 6 := by omega
      rcases this with rfl | rfl | rfl | rfl | rfl | rfl | rfl <;> exact tot_some ⟨rfl, fr.rf⟩
    · have e1 := h.1.2.2.1 m hm
      have e2 := h.2.1.so hn hm
      dsimp only
      rw [show gX10_within y 0 6 V = some (nI (if wiB y 0 6 = true then 1 else 0), V) from m_wi y 0 6 V, hW]
      simp only [Option.bind_some, ite1, if_true]
      rw [m_mnt h hN]
      simp only [Option.bind_some]
      rw [m_right h.1 hml hN]
      simp only [Option.bind_some]
      rw [e]
      try simp (disch := omega) only [fa_lit, ne_le, ne_lt, ne_eq', nI_add, pk_mul, pk_sub, rdA_n, wrA_n, rdL_n, wrL_n, nI_one, nI_bit1, nI_bit0, fa_or, fa_and, nI_df, nat31, Option.bind_some, m1_le0, m1_lt0, m1_eq, eq_m1, ite_nI, sub_m, pk_m1', not_lt0, e1.1, e1.2.1, e1.2.2.2.1, e2.1, e2.2, nI_bit]
      have : k = 0 ∨ k = 1 ∨ k = 2 ∨ k = 3 ∨ k = 4 ∨ k = 5 ∨ k = 6 := by omega
      rcases this with rfl | rfl | rfl | rfl | rfl | rfl | rfl <;> exact tot_some ⟨rfl, h.2.1, mf.rf⟩
end PTaste
