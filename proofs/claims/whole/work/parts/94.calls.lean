/-! PURE: calls that change what is held. (wb_ rows pasted from the laws.) -/
theorem wb_tb (n : Nat) : (lN n).toBitVec = BitVec.ofNat 64 n := rfl
theorem wb_inj {a b : Int64} (h : a.toBitVec = b.toBitVec) : a = b := Int64.toBitVec_inj.mp h
theorem wb_tn {n : Nat} (h : n < 2 ^ 64) : (lN n).toBitVec.toNat = n := by rw [wb_tb, BitVec.toNat_ofNat, Nat.mod_eq_of_lt h]
theorem wb_of (x : Int64) : ∃ n, n < 2 ^ 64 ∧ x = lN n := ⟨x.toBitVec.toNat, x.toBitVec.isLt, wb_inj (by rw [wb_tb]; simp)⟩
theorem wb_of32 (x : Int32) : ∃ n, n < 2 ^ 32 ∧ x = nI n := ⟨x.toBitVec.toNat, x.toBitVec.isLt, Int32.toBitVec_inj.mp (by show _ = BitVec.ofNat 32 _; simp)⟩
theorem wb_c : ∀ k, k < 64 → ((nI k).toInt64 &&& 63) = lN k := by decide +kernel
theorem wb_cu : ∀ k, k < 64 → ((nI k).toInt64.toUInt64 &&& Int64.toUInt64 63) = UInt64.ofNat k := by decide +kernel
theorem wb_sm : ∀ k, k < 64 → (BitVec.ofNat 64 k).smod 64 = BitVec.ofNat 64 k := by decide +kernel
theorem wb_pw {a b : Nat} (h : a ≤ b) : 2 ^ b = 2 ^ a * 2 ^ (b - a) := by rw [← Nat.pow_add]; congr 1; omega
theorem wb_lt2 {a b : Nat} (h : a < b) : 2 ^ a < 2 ^ b := Nat.pow_lt_pow_right (by decide) h
theorem wb_mod (n : Nat) : lN n = lN (n % 2 ^ 64) := wb_inj (by rw [wb_tb, wb_tb]; apply BitVec.eq_of_toNat_eq; rw [BitVec.toNat_ofNat, BitVec.toNat_ofNat, Nat.mod_mod])
theorem wb_shr {n k : Nat} (hn : n < 2 ^ 64) (hk : k < 64) : ((lN n).toUInt64 >>> ((nI k).toInt64.toUInt64 &&& Int64.toUInt64 63)).toInt64 = lN (n / 2 ^ k) := by
  rw [wb_cu k hk]
  apply wb_inj
  apply BitVec.eq_of_toNat_eq
  show ((lN n).toUInt64 >>> UInt64.ofNat k).toNat = (BitVec.ofNat 64 _).toNat
  have h1 : (UInt64.ofNat k).toNat = k := by
    show (BitVec.ofNat 64 k).toNat = k
    rw [BitVec.toNat_ofNat, Nat.mod_eq_of_lt (by omega)]
  have h2 : (lN n).toUInt64.toNat = n := wb_tn hn
  rw [UInt64.toNat_shiftRight, h1, h2, Nat.mod_eq_of_lt hk, Nat.shiftRight_eq_div_pow, BitVec.toNat_ofNat, Nat.mod_eq_of_lt (Nat.lt_of_le_of_lt (Nat.div_le_self _ _) hn)]
theorem wb_and {a b : Nat} (ha : a < 2 ^ 64) (hb : b < 2 ^ 64) : lN a &&& lN b = lN (a &&& b) := by
  apply wb_inj
  rw [Int64.toBitVec_and, wb_tb, wb_tb, wb_tb]
  apply BitVec.eq_of_toNat_eq
  rw [BitVec.toNat_and, BitVec.toNat_ofNat, BitVec.toNat_ofNat, BitVec.toNat_ofNat, Nat.mod_eq_of_lt ha, Nat.mod_eq_of_lt hb, Nat.mod_eq_of_lt (Nat.and_lt_two_pow _ hb)]
theorem wb_mask {n k : Nat} (hn : n < 2 ^ 64) (hk : k < 64) : lN n &&& lN (2 ^ k - 1) = lN (n % 2 ^ k) := by
  rw [wb_and hn (by have := wb_lt2 hk; omega), Nat.and_two_pow_sub_one_eq_mod]
section PCalls
variable {E : VE} {V W : VT} {p : PP} {S : ST} {n o c N : Nat} {H : List ST} {ls : LN} {es : SN} {mk : MK} {tp : List Nat} {A : AB}
theorem st_th {f g : VT → Option (Int32 × VT)} (h : Stq E A c f g) : Stq E A c f (fun V => (some (wF V 137 0 0)).bind fun V1 => g V1) := by
  obtain ⟨v, A', h1, h2, h3⟩ := h
  refine ⟨v, A', h1, h2, fun V hV => ?_⟩
  obtain ⟨q1, q2⟩ := hV.th
  exact tot_mo (h3 _ q1) (fun r hr => ⟨hr.1, hr.2.1, (mf_hi q2).trans hr.2.2⟩)
theorem st_M {x d : Int32} {B B' : Int32 × VT → Option (Int32 × VT)} (hg : GoodA c A) (k : ∀ m, m < A.p.n → x = nI m → Stq E A c (fun V => B (nI 1, V)) (fun V => B' (nI 1, V))) : Stq E A c (fun V => (gX9_isMatter E x V).bind fun p1 => if p1.1 = 0 then some (d, p1.2) else B p1) (fun V => (gX10_isMatter x V).bind fun p1 => if p1.1 = 0 then some (d, p1.2) else B' p1) := by
  cases hM : isMb A.p x with
  | false =>
    refine ⟨d, A, hg.mono (by omega), fun V h => ?_, fun V h => ?_⟩
    · dsimp only
      rw [c_isM h.2.1, hM]
      exact tot_some ⟨rfl, h, lo.rf⟩
    · dsimp only
      rw [m_isM h.1, hM]
      exact tot_some ⟨rfl, h, hi.rf⟩
  | true =>
    obtain ⟨m, hm, e⟩ := isM_of hg.1.1 hM
    obtain ⟨v, A', h0, h1, h2⟩ := k m hm e
    refine ⟨v, A', h0, fun V h => ?_, fun V h => ?_⟩
    · dsimp only
      rw [c_isM h.2.1, hM]
      exact h1 V h
    · dsimp only
      rw [m_isM h.1, hM]
      exact h2 V h
theorem st_W {x d a b : Int32} {B B' : Int32 × VT → Option (Int32 × VT)} (hg : GoodA c A) (lo' hi' : Nat) (ha : a = nI lo') (hb : b = nI hi') (hl : lo' < 2 ^ 31) (hh : hi' < 2 ^ 31) (k : ∀ m, lo' ≤ m → m ≤ hi' → x = nI m → Stq E A c (fun V => B (nI 1, V)) (fun V => B' (nI 1, V))) : Stq E A c (fun V => (gX9_within x a b V).bind fun p1 => if p1.1 = 0 then some (d, p1.2) else B p1) (fun V => (gX10_within x a b V).bind fun p1 => if p1.1 = 0 then some (d, p1.2) else B' p1) := by
  subst ha hb
  cases hM : wiB x lo' hi' with
  | false =>
    refine ⟨d, A, hg.mono (by omega), fun V h => ?_, fun V h => ?_⟩
    · dsimp only
      rw [c_wi, hM]
      exact tot_some ⟨rfl, h, lo.rf⟩
    · dsimp only
      rw [m_wi, hM]
      exact tot_some ⟨rfl, h, hi.rf⟩
  | true =>
    obtain ⟨m, hm, hm2, e⟩ := wi_of hl hh hM
    obtain ⟨v, A', h0, h1, h2⟩ := k m hm hm2 e
    refine ⟨v, A', h0, fun V h => ?_, fun V h => ?_⟩
    · dsimp only
      rw [c_wi, hM]
      exact h1 V h
    · dsimp only
      rw [m_wi, hM]
      exact h2 V h
theorem keepC {p : PP} (hE : E.1 = 6 ∨ E.1 = 15) (h : PastC V E.1 p) (hs : StC V 24 p.n S) (f : fr (fun a => 32 ≤ a ∧ a ≤ 79) (fun i _ => 30 ≤ i ∧ i ≤ 79) V W) : PastC W E.1 p ∧ StC W 24 p.n S := ⟨pc_st hE h (keep_st f), hs.fr f (by omega) (by omega) (by omega) (by omega)⟩
/-- history is not touched by what changes the state -/
theorem hisK {n : Nat} (h : HisC V n H) (f : fr (fun a => soA 24 a ∨ a = 14 ∨ a = 23) (fun i k => soF 24 i k ∨ i = 12 ∧ k = 3 ∨ i = 21 ∧ k = 3) V W) : HisC W n H := h.cg (fun a ha hb => fr_eqs f (by unfold soA; omega) (fun k => by unfold soF; omega))
theorem so_st (f : fr (fun a => soA 24 a ∨ a = 14 ∨ a = 23) (fun i k => soF 24 i k ∨ i = 12 ∧ k = 3 ∨ i = 21 ∧ k = 3) V W) : fr stA stF V W := f.mono (fun a ha => by unfold soA at ha; unfold stA; omega) (fun i k hik => by unfold soF at hik; unfold stF; omega)
theorem GoodA.st {S' : ST} (hg : GoodA c A) (hs : GoodS A.p (c + 1) S') : GoodA (c + 1) (A.p, S', hkL A.S A.H, A.ls, A.es, A.mk, A.tp) := ⟨hg.1, hs, (hg.2.2.1.keep hg.2.1).mono (by omega), hg.2.2.2.1, hg.2.2.2.2.1, hg.2.2.2.2.2.1.mono (by omega), hg.2.2.2.2.2.2⟩
theorem s_spread (hg : GoodA c A) (hc : c ≤ 600) (hN : 1000 < N) (x : Int32) : Stq E A c (fun V => gX9_spread E N x V) (fun V => gX10_spread N x V) := by
  unfold gX9_spread gX10_spread
  refine st_th (st_M hg (fun m hm e => ?_))
  subst e
  have hn := hg.1.1
  have hpr := priceN_le hg.1 m
  have gp := hg.2.1.2
  by_cases hcan : priceN A.p m ≤ A.S.po
  · refine ⟨nI ((putOn A.p A.S m).so m), (A.p, putOn A.p A.S m, hkL A.S A.H, A.ls, A.es, A.mk, A.tp), hg.st hg.2.1.put, fun V h => ?_, fun V h => ?_⟩
    · have hE := h.1
      dsimp only
      rw [c_can h.2.1 h.2.2.1.2.1 hg.2.1.2.1 hm, Option.bind_some]
      dsimp only
      rw [if_neg (show ¬ A.S.po < priceN A.p m by omega), if_neg (by decide)]
      refine tot_bd (c_keep hn h.2.2.1 h.2.2.2.1 hg.2.2.1.1 hN) (fun W hW => ?_)
      obtain ⟨k1, k2⟩ := keepC hE h.2.1 h.2.2.1 hW.2
      refine tot_bd (c_put hN k1 k2 hg.2.1 (by omega) hm hcan (by omega)) (fun X hX => ?_)
      have f2 : fr (fun a => soA 24 a ∨ a = 14 ∨ a = 23) (fun i k => soF 24 i k ∨ i = 12 ∧ k = 3 ∨ i = 21 ∧ k = 3) W X := hX.2.mono (fun a ha => ha.elim Or.inl (fun q => Or.inr (by omega))) (fun i k hik => hik.elim Or.inl (fun q => Or.inr (by omega)))
      rw [rdA_n (by omega) (by omega), Option.bind_some]
      have f3 := (keep_st hW.2).trans (so_st f2)
      exact tot_some ⟨(hX.1.1 m hm).1, h.st f3 hX.1 (hisK hW.1 f2), st_lo f3⟩
    · dsimp only
      rw [m_price h.1 hm, Option.bind_some, h.2.1.2.1]
      dsimp only
      rw [if_pos (nI_le hcan (by omega))]
      refine tot_bd (m_keep h.2.1 h.2.2.1 hg.2.2.1.1 hN) (fun W hW => ?_)
      refine tot_bd (m_coats (h.1.mt hW.2.2) hW.1 hg.2.1 (by omega) hN hm hcan) (fun X hX => ?_)
      rw [show (2 : Int32) + nI m = nI (2 + m) from nI_add 2 m, rdA_n (by omega) (by omega), Option.bind_some]
      have f3 := hW.2.2.trans (mf_mt (ws_mf hX.2))
      exact tot_some ⟨(hX.1.so hn hm).1, h.mt f3 hX.1 (hW.2.1.at (by rw [hX.2.2.2.2 137 47 (fun q => q)]) (hX.2.2.2.1 171 (by unfold wkB s7; omega))), mt_hi f3⟩
  · refine ⟨-1, A, hg.mono (by omega), fun V h => ?_, fun V h => ?_⟩
    · dsimp only
      rw [c_can h.2.1 h.2.2.1.2.1 hg.2.1.2.1 hm, Option.bind_some]
      dsimp only
      rw [if_pos (show A.S.po < priceN A.p m by omega), if_pos (by decide)]
      exact tot_some ⟨rfl, h, lo.rf⟩
    · dsimp only
      rw [m_price h.1 hm, Option.bind_some, h.2.1.2.1]
      dsimp only
      rw [if_neg (nI_ge (by omega) (by omega))]
      exact tot_some ⟨rfl, h, hi.rf⟩
theorem s_eat (hg : GoodA c A) (hc : c ≤ 600) (hN : 1000 < N) (x : Int32) : Stq E A c (fun V => gX9_eat E N x V) (fun V => gX10_eat N x V) := by
  unfold gX9_eat gX10_eat
  refine st_th (st_M hg (fun m hm e => ?_))
  subst e
  have hn := hg.1.1
  have gm := hg.2.1.1 m hm
  by_cases hcan : A.S.co m = 0
  · refine ⟨-1, A, hg.mono (by omega), fun V h => ?_, fun V h => ?_⟩
    · dsimp only
      rw [rdA_n (by omega) (by omega), Option.bind_some, (h.2.2.1.1 m hm).2, if_pos (by rw [hcan]; rfl)]
      exact tot_some ⟨rfl, h, lo.rf⟩
    · dsimp only
      rw [show (9 : Int32) + nI m = nI (9 + m) from nI_add 9 m, rdA_n (by omega) (by omega), Option.bind_some, (h.2.1.so hn hm).2, if_pos (by rw [hcan]; rfl)]
      exact tot_some ⟨rfl, h, hi.rf⟩
  · refine ⟨nI ((takeOff A.p A.S m).so m), (A.p, takeOff A.p A.S m, hkL A.S A.H, A.ls, A.es, A.mk, A.tp), hg.st ((hg.2.1.off hg.1).mono (by omega)), fun V h => ?_, fun V h => ?_⟩
    · have hE := h.1
      dsimp only
      rw [rdA_n (by omega) (by omega), Option.bind_some, (h.2.2.1.1 m hm).2, if_neg (nI_ne0 (by omega) (by omega))]
      refine tot_bd (c_keep hn h.2.2.1 h.2.2.2.1 hg.2.2.1.1 hN) (fun W hW => ?_)
      obtain ⟨k1, k2⟩ := keepC hE h.2.1 h.2.2.1 hW.2
      refine tot_bd (c_off (N := N) k1 k2 hm (by omega)) (fun X hX => ?_)
      have f2 : fr (fun a => soA 24 a ∨ a = 14 ∨ a = 23) (fun i k => soF 24 i k ∨ i = 12 ∧ k = 3 ∨ i = 21 ∧ k = 3) W X := hX.2.mono (fun a ha => Or.inl ha) (fun i k hik => Or.inl hik)
      rw [rdA_n (by omega) (by omega), Option.bind_some]
      have f3 := (keep_st hW.2).trans (so_st f2)
      exact tot_some ⟨(hX.1.1 m hm).1, h.st f3 hX.1 (hisK hW.1 f2), st_lo f3⟩
    · dsimp only
      rw [show (9 : Int32) + nI m = nI (9 + m) from nI_add 9 m, rdA_n (by omega) (by omega), Option.bind_some, (h.2.1.so hn hm).2, if_neg (nI_ne0 (by omega) (by omega))]
      refine tot_bd (m_keep h.2.1 h.2.2.1 hg.2.2.1.1 hN) (fun W hW => ?_)
      refine tot_bd (m_eaten (h.1.mt hW.2.2) hW.1 hm) (fun X hX => ?_)
      rw [show (2 : Int32) + nI m = nI (2 + m) from nI_add 2 m, rdA_n (by omega) (by omega), Option.bind_some]
      have f3 := hW.2.2.trans (mf_mt (s7_mf hX.2))
      exact tot_some ⟨(hX.1.so hn hm).1, h.mt f3 hX.1 (hW.2.1.at (by rw [hX.2.2.2.2 137 47 (fun q => q)]) (hX.2.2.2.1 171 (by unfold s7; omega))), mt_hi f3⟩
theorem s_year (hg : GoodA c A) (hc : c ≤ 600) (hN : 1000 < N) : Stq E A c (fun V => gX9_year E N V) (fun V => gX10_year N V) := by
  unfold gX9_year gX10_year
  have hn := hg.1.1
  have hp := pw_lt hg.1
  have hml := mnt_lt A.p (passS A.p A.S)
  have gs := hg.2.1.pass hg.1
  refine st_th ⟨nI (pcN (meantN A.p (passS A.p A.S))), (A.p, passS A.p A.S, hkL A.S A.H, A.ls, A.es, A.mk, A.tp), hg.st gs, fun V h => ?_, fun V h => ?_⟩
  · have hE := h.1
    dsimp only
    refine tot_bd (c_keep hn h.2.2.1 h.2.2.2.1 hg.2.2.1.1 hN) (fun W hW => ?_)
    obtain ⟨k1, k2⟩ := keepC hE h.2.1 h.2.2.1 hW.2
    refine tot_bd (c_pass hN k1 k2 hg.2.1 (by omega) (by omega)) (fun X hX => ?_)
    have f2 : fr (fun a => soA 24 a ∨ a = 14 ∨ a = 23) (fun i k => soF 24 i k ∨ i = 12 ∧ k = 3 ∨ i = 21 ∧ k = 3) W X := hX.2.mono (fun a ha => Or.inl ha) (fun i k hik => Or.inl hik)
    have f3 := (keep_st hW.2).trans (so_st f2)
    have h3 := h.st f3 hX.1 (hisK hW.1 f2)
    rw [c_mnt (h3.cq (hg.st gs) (by omega)) hN, Option.bind_some]
    dsimp only
    rw [show meantN (AB.p (A.p, passS A.p A.S, hkL A.S A.H, A.ls, A.es, A.mk, A.tp)) (AB.S (A.p, passS A.p A.S, hkL A.S A.H, A.ls, A.es, A.mk, A.tp)) = meantN A.p (passS A.p A.S) from rfl, c_bc (by omega), Option.bind_some]
    exact tot_some ⟨rfl, h3, st_lo f3⟩
  · dsimp only
    refine tot_bd (m_keep h.2.1 h.2.2.1 hg.2.2.1.1 hN) (fun W hW => ?_)
    refine tot_bd (m_passes (h.1.mt hW.2.2) hW.1 hg.2.1 (by omega) hN) (fun X hX => ?_)
    have f3 := hW.2.2.trans (mf_mt (s7_mf hX.2))
    have h3 := h.mt f3 hX.1 (hW.2.1.at (by rw [hX.2.2.2.2 137 47 (fun q => q)]) (hX.2.2.2.1 171 (by unfold s7; omega)))
    rw [m_mnt (h3.mq (hg.st gs) (by omega)) hN, Option.bind_some]
    dsimp only
    rw [show meantN (AB.p (A.p, passS A.p A.S, hkL A.S A.H, A.ls, A.es, A.mk, A.tp)) (AB.S (A.p, passS A.p A.S, hkL A.S A.H, A.ls, A.es, A.mk, A.tp)) = meantN A.p (passS A.p A.S) from rfl, m_bits (by omega) hN, Option.bind_some]
    exact tot_some ⟨rfl, h3, mt_hi f3⟩
theorem GoodH.tail (h : GoodH p c (S :: H)) : GoodH p c H := ⟨by have := h.1; simp at this; omega, fun i hi => h.2 (i + 1) (by simp; exact hi)⟩
theorem s_undo (hg : GoodA c A) (hc : c ≤ 600) (hN : 1000 < N) : Stq E A c (fun V => gX9_undo E N V) (fun V => gX10_undo N V) := by
  unfold gX9_undo gX10_undo
  have hn := hg.1.1
  have gH := hg.2.2.1
  refine st_th ?_
  cases hH : A.H with
  | nil =>
    refine ⟨0, A, hg.mono (by omega), fun V h => ?_, fun V h => ?_⟩
    · obtain ⟨nx, h1, h2, h3, h4⟩ := h.2.2.2.1
      dsimp only
      unfold gX0_giveBack
      rw [h2, hH, if_pos (by rfl), Option.bind_some]
      exact tot_some ⟨rfl, h, lo.rf⟩
    · dsimp only
      rw [h.2.2.1.1, hH, if_pos (by rfl)]
      exact tot_some ⟨rfl, h, hi.rf⟩
  | cons S0 H =>
    rw [hH] at gH
    have hl : H.length + 1 ≤ 16 := gH.1
    have gS0 : GoodS A.p c S0 := gH.2 0 (by simp)
    refine ⟨1, (A.p, S0, H, A.ls, A.es, A.mk, A.tp), ⟨hg.1, gS0.mono (by omega), gH.tail.mono (by omega), hg.2.2.2.1, hg.2.2.2.2.1, hg.2.2.2.2.2.1.mono (by omega), hg.2.2.2.2.2.2⟩, fun V h => ?_, fun V h => ?_⟩
    · obtain ⟨nx, h1, h2, h3, h4⟩ := h.2.2.2.1
      rw [hH] at h2 h4
      simp only [List.length_cons] at h2 h4
      have fin : ∀ nx', nx' = (nx + 15) % 16 → tot (gX0_giveBack_b33 N 24 (nI nx') V) (fun r => r.1 = 1 ∧ CR E r.2 (A.p, S0, H, A.ls, A.es, A.mk, A.tp) ∧ lo V r.2) := by
        intro nx' hx
        unfold gX0_giveBack_b33
        try simp (disch := omega) only [fa_lit, ne_le, ne_lt, ne_eq', nI_add, pk_mul, pk_sub, rdA_n, wrA_n, rdL_n, wrL_n, nI_one, nI_bit1, nI_bit0, fa_or, fa_and, nI_df, nat31, Option.bind_some, m1_le0, m1_lt0, m1_eq, eq_m1, ite_nI, sub_m, pk_m1', not_lt0]
        try simp (disch := omega) only [wA_A, wF_F, wA_F, wF_A, wA_L, wF_L, wA_G, wF_G, true_and, and_true, and_self, if_true, if_false, if_pos, if_neg, h2]
        try simp (disch := omega) only [fa_lit, ne_le, ne_lt, ne_eq', nI_add, pk_mul, pk_sub, rdA_n, wrA_n, rdL_n, wrL_n, nI_one, nI_bit1, nI_bit0, fa_or, fa_and, nI_df, nat31, Option.bind_some, m1_le0, m1_lt0, m1_eq, eq_m1, ite_nI, sub_m, pk_m1', not_lt0]
        rw [Nat.add_sub_cancel]
        generalize hX : wF (wF V 30 2 (nI nx')) 30 1 (nI H.length) = X
        have fX : fr (fun _ => False) (fun i k => i = 30 ∧ (k = 1 ∨ k = 2)) V X := by
          rw [← hX]
          exact (fr_F _ (by simp)).trans (fr_F _ (by simp))
        have stX : ∀ {j : Nat} {S2 : ST}, StC V (32 + 3 * j) A.p.n S2 → StC X (32 + 3 * j) A.p.n S2 := fun {j S2} q => q.fr fX (fun z => z) (fun z => z) (fun z => by omega) (fun z => by omega)
        have eX2 : X.F 30 2 = nI nx' := by rw [← hX, wF_F, if_neg (by omega), wF_F, if_pos ⟨rfl, rfl⟩]
        have eX1 : X.F 30 1 = nI H.length := by rw [← hX, wF_F, if_pos ⟨rfl, rfl⟩]
        rw [rd31_n (by omega), Option.bind_some]
        have q0 := h4 0 (by omega)
        rw [show (nx + 15 - 0) % 16 = nx' by omega] at q0
        refine tot_bd (c_copy (o := 24) (o1 := 32 + 3 * nx') (stX q0) hn hN (by omega)) (fun Y hY => ?_)
        have f2 : fr (fun a => soA 24 a ∨ a = 14 ∨ a = 23) (fun i k => soF 24 i k ∨ i = 12 ∧ k = 3 ∨ i = 21 ∧ k = 3) X Y := hY.2.mono (fun a ha => Or.inl ha) (fun i k hik => Or.inl hik)
        have f3 : fr stA stF V Y := (fX.mono (fun a z => False.elim z) (fun i k z => by unfold stF; omega)).trans (so_st f2)
        refine tot_some ⟨rfl, h.st f3 hY.1 (hisK ⟨nx', by omega, eX1, eX2, fun j hj => ?_⟩ f2), st_lo f3⟩
        have q1 := h4 (j + 1) (by omega)
        rw [show (nx + 15 - (j + 1)) % 16 = (nx' + 15 - j) % 16 by omega] at q1
        exact stX q1
      dsimp only
      unfold gX0_giveBack
      rw [h2, if_neg (nI_ne0 (by omega) (by omega)), h3]
      have post : ∀ {o : Option (Int32 × VT)}, tot o (fun r => r.1 = 1 ∧ CR E r.2 (A.p, S0, H, A.ls, A.es, A.mk, A.tp) ∧ lo V r.2) → tot (o.bind fun p1 => (qB p1.1).bind fun _ => some (p1.1, p1.2)) (fun r => r.1 = 1 ∧ CR E r.2 (A.p, S0, H, A.ls, A.es, A.mk, A.tp) ∧ lo V r.2) := by
        intro o ho
        refine tot_bd ho (fun r hr => ?_)
        have : qB r.1 = some () := by
          rw [hr.1]
          rfl
        rw [this, Option.bind_some]
        exact tot_some hr
      refine post ?_
      by_cases hz : nx = 0
      · subst hz
        rw [if_pos (by decide), show (16 : Int32) - 1 = nI 15 from rfl]
        exact fin 15 (by omega)
      · rw [if_neg (nI_nle (by omega) (by omega)), show nI nx - 1 = nI (nx - 1) from pk_sub (b := 1) (by omega)]
        exact fin (nx - 1) (by omega)
    · have hM := h.2.2.1
      rw [hH] at hM
      have e1 : V.F 137 47 = nI (H.length + 1) := hM.1
      dsimp only
      rw [e1, if_neg (nI_ne0 (by omega) (by omega)), show nI (H.length + 1) - 1 = nI H.length from nI_pred _, Option.bind_some]
      generalize hX : wF V 137 47 (nI H.length) = X
      have fX : mt V X := by
        rw [← hX]
        exact ⟨rfl, fun _ _ => rfl, fun i j hij => by rw [wF_F]; exact if_neg (fun q => hij (by unfold mtF; omega))⟩
      have eX : X.F 137 47 = nI H.length := by rw [← hX, wF_F, if_pos ⟨rfl, rfl⟩]
      have aX : X.A = V.A := by rw [← hX]; rfl
      rw [eX, show (16 : Int32) * nI H.length = nI (16 * H.length) from pk_mul 16 _, show (0 : Int32) = nI 0 from rfl]
      refine tot_bd (m_copies (V := X) (a1 := 171) (a2 := 167) (x := 16 * H.length) (y := 0) (by omega) (by omega) (by omega) (by omega) (by omega) hN) (fun Y hY => ?_)
      have q0 := hM.2 0 (by simp)
      have sY : MSt Y A.p.n S0 := by
        refine (q0.cp (fun k hk => ?_)).st
        rw [hY.1 k hk, aX]
        simp
      have f3 : mt V Y := fX.trans (fr_mt hY.2.2 (fun a ha => by unfold mtA mxA; omega) (fun i k q => False.elim q))
      refine tot_some ⟨rfl, h.mt f3 sY ⟨?_, fun j hj => ?_⟩, mt_hi f3⟩
      · rw [hY.2.2.2.2.2 137 47 (fun q => q), eX]
      · have q1 := hM.2 (j + 1) (by simp; exact hj)
        refine q1.cp (fun k hk => ?_)
        rw [hY.2.2.2.2.1 171 (by omega), aX]
        simp only [List.length_cons]
        congr 1
        omega
theorem c_sum {a : Nat} {f : Nat → Nat} (h : PastC V E.1 p) (hA : ∀ m, m < p.n → V.A a m = nI (f m)) (hN : 1000 < N) : gX9_sumOf E N a 7 V = some (nI (sm f p.n), V) := by
  have hn := h.1.1
  unfold gX9_sumOf
  refine loop_sm (F := fun w x k => gX9_sumOf_b4 E N w a 7 (nI x) (nI k) V) p.n f (fun x => some (nI x, V)) ?_ ?_ N 0 (by omega) (by omega)
  · intro w k R hk hR
    show gX9_sumOf_b4 E N (w + 1) a 7 (nI (sm f k)) (nI k) V = R
    unfold gX9_sumOf_b4
    rw [h.2.1.1, if_neg (nI_ge hk (by omega)), if_neg (nI_ge (show k < 7 by omega) (by omega)), rdA_n (by omega) (by omega), Option.bind_some, hA k hk, nI_add, show nI k + 1 = nI (k + 1) from nI_1 k]
    exact hR
  · intro w
    show gX9_sumOf_b4 E N (w + 1) a 7 (nI (sm f p.n)) (nI p.n) V = _
    unfold gX9_sumOf_b4
    rw [h.2.1.1, if_pos (nI_le (Nat.le_refl _) (by omega))]
theorem sm_cut {f : Nat → Nat} {n : Nat} : ∀ k, sm (fun m => if m < n then f m else 0) (n + k) = sm f n
  | 0 => sm_congr (fun i hi => if_pos hi)
  | k + 1 => by
    rw [← Nat.add_assoc, sm, sm_cut k, if_neg (by omega)]
    rfl
theorem m_sum {a : Nat} {f : Nat → Nat} {n : Nat} (hn : n ≤ 7) (ha : a ≤ 9) (hA : ∀ m, m < 7 → V.A 167 (a + m) = nI (if m < n then f m else 0)) (hN : 1000 < N) : gX10_allOf N (nI a) V = some (nI (sm f n), V) := by
  have e : sm f n = sm (fun m => if m < n then f m else 0) 7 := by
    have := sm_cut (f := f) (n := n) (7 - n)
    rw [show n + (7 - n) = 7 by omega] at this
    exact this.symm
  rw [e]
  unfold gX10_allOf
  refine loop_sm (F := fun w x k => gX10_allOf_b4 N w (nI a) (nI x) (nI k) V) 7 (fun m => if m < n then f m else 0) (fun x => some (nI x, V)) ?_ ?_ N 0 (by omega) (by omega)
  · intro w k R hk hR
    show gX10_allOf_b4 N (w + 1) (nI a) (nI (sm _ k)) (nI k) V = R
    unfold gX10_allOf_b4
    rw [if_neg (show ¬ (7 : Int32) ≤ nI k from nI_ge (b := 7) hk (by omega)), nI_add, rdA_n (by omega) (by omega), Option.bind_some, hA k hk, nI_add, show nI k + 1 = nI (k + 1) from nI_1 k]
    exact hR
  · intro w
    show gX10_allOf_b4 N (w + 1) (nI a) (nI (sm _ 7)) (nI 7) V = _
    unfold gX10_allOf_b4
    rw [if_pos (by decide)]
def cntN (A : AB) (k : Nat) : Nat := if k = 0 then A.p.n else if k = 1 then A.p.kn else if k = 2 then A.p.ad else if k = 3 then A.S.ye else if k = 4 then A.S.po else if k = 5 then sm A.S.so A.p.n else if k = 6 then sm A.S.co A.p.n else if k = 7 then A.ls.length else if k = 8 then A.es.length else if k = 9 then A.H.length else A.tp.length
theorem cn_no {k : Nat} {x : Int32} (h : wiB x 0 10 = false) (hk : k ≤ 10) : ¬ x = nI k := by
  intro e
  subst e
  unfold wiB at h
  rw [decide_eq_true (nI_le (Nat.zero_le k) (by omega)), decide_eq_true (nI_le hk (by omega))] at h
  cases h
theorem s_count (hg : GoodA c A) (hc : c ≤ 600) (hN : 1000 < N) (x : Int32) : Stq E A c (fun V => gX9_count E N x V) (fun V => gX10_count N x V) := by
  have hn := hg.1.1
  cases hw : wiB x 0 10 with
  | false =>
    refine ⟨-1, A, hg.mono (by omega), fun V h => ?_, fun V h => ?_⟩
    · dsimp only
      unfold gX9_count
      rw [if_neg (show ¬ x = 0 from cn_no (k := 0) hw (by omega)), if_neg (show ¬ x = 1 from cn_no (k := 1) hw (by omega)), if_neg (show ¬ x = 2 from cn_no (k := 2) hw (by omega)), if_neg (show ¬ x = 3 from cn_no (k := 3) hw (by omega)), if_neg (show ¬ x = 4 from cn_no (k := 4) hw (by omega)), if_neg (show ¬ x = 5 from cn_no (k := 5) hw (by omega)), if_neg (show ¬ x = 6 from cn_no (k := 6) hw (by omega)), if_neg (show ¬ x = 7 from cn_no (k := 7) hw (by omega)), if_neg (show ¬ x = 8 from cn_no (k := 8) hw (by omega)), if_neg (show ¬ x = 9 from cn_no (k := 9) hw (by omega)), if_neg (show ¬ x = 10 from cn_no (k := 10) hw (by omega))]
      exact tot_some ⟨rfl, h, lo.rf⟩
    · obtain ⟨q1, q2⟩ := h.th
      dsimp only
      unfold gX10_count
      rw [Option.bind_some, show (10 : Int32) = nI 10 from rfl, show gX10_within x 0 (nI 10) (wF V 137 0 0) = _ from m_wi x 0 10 _, hw, Option.bind_some]
      exact tot_some ⟨rfl, q1, mf_hi q2⟩
  | true =>
    obtain ⟨k, _, hk, rfl⟩ := wi_of (by omega) (by omega) hw
    have hk11 : k = 0 ∨ k = 1 ∨ k = 2 ∨ k = 3 ∨ k = 4 ∨ k = 5 ∨ k = 6 ∨ k = 7 ∨ k = 8 ∨ k = 9 ∨ k = 10 := by omega
    refine ⟨nI (cntN A k), A, hg.mono (by omega), fun V h => ?_, fun V h => ?_⟩
    · obtain ⟨h1, h2, h3, ⟨nx, h41, h42, h43, h44⟩, h5, h6, h7, h8⟩ := id h
      have s1 := c_sum (E := E) (a := 25) (f := A.S.so) h2 (fun m hm => (h3.1 m hm).1) hN
      have s2 := c_sum (E := E) (a := 26) (f := A.S.co) h2 (fun m hm => (h3.1 m hm).2) hN
      dsimp only
      unfold gX9_count
      rw [s1, s2, h2.2.1.1, h2.2.1.2.1, h2.2.1.2.2.2, h3.2.1, h3.2.2, h42, h5.1, h6.1, h8.1]
      rcases hk11 with e | e | e | e | e | e | e | e | e | e | e <;> subst e <;> exact tot_some ⟨rfl, h, lo.rf⟩
    · obtain ⟨q1, q2⟩ := h.th
      obtain ⟨h1, h2, h3, h4, h5, h6, h7⟩ := id q1
      have s1 := m_sum (V := wF V 137 0 0) (a := 2) (f := A.S.so) hn (by omega) (fun m hm => (h2.2.2 m hm).1) hN
      have s2 := m_sum (V := wF V 137 0 0) (a := 9) (f := A.S.co) hn (by omega) (fun m hm => (h2.2.2 m hm).2) hN
      dsimp only
      unfold gX10_count
      rw [Option.bind_some, show (10 : Int32) = nI 10 from rfl, show gX10_within (nI k) 0 (nI 10) (wF V 137 0 0) = _ from m_wi (nI k) 0 10 _, hw, Option.bind_some]
      dsimp only
      rw [show gX10_allOf N 2 (wF V 137 0 0) = _ from s1, show gX10_allOf N 9 (wF V 137 0 0) = _ from s2, h2.1, h2.2.1, h3.1, h4.1, h5.1, h7.1]
      have key : ∀ {v w : Int32}, v = w → tot (some (v, wF V 137 0 0)) (fun r => r.1 = w ∧ MR r.2 A ∧ hi V r.2) := fun e => tot_some ⟨e, q1, mf_hi q2⟩
      have rd : ∀ {j : Nat} {y : Int32}, j < 3 → (wF V 137 0 0).A 139 j = y → rdA 8 ((wF V 137 0 0).A 139) (nI j) = some y := fun {j y} hj e => by rw [rdA_n (by omega) (by omega), e]
      rcases hk11 with e | e | e | e | e | e | e | e | e | e | e <;> subst e
      · rw [if_neg (by decide), if_neg (by decide), rd (by omega) h1.2.1.1, Option.bind_some]
        exact key rfl
      · rw [if_neg (by decide), if_neg (by decide), rd (by omega) h1.2.1.2.1, Option.bind_some]
        exact key rfl
      · rw [if_neg (by decide), if_neg (by decide), rd (by omega) h1.2.1.2.2.1, Option.bind_some]
        exact key rfl
      all_goals exact key rfl
end PCalls
