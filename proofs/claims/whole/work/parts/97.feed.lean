/-! PURE: feed. -/
def adB (tp : List Nat) (x : Nat) : List Nat := if (x = 10 ∨ 32 ≤ x ∧ x ≤ 126) ∧ tp.length < 1000 then tp ++ [x] else tp
def bytN (w k : Nat) : Nat := w / 2 ^ (56 - 8 * k) % 256
def adW (tp : List Nat) (w : Nat) : Nat → List Nat
  | 0 => tp
  | k + 1 => adB (adW tp w k) (bytN w k)
def fdN (tp : List Nat) (a b c : Nat) : Nat → List Nat
  | 0 => tp
  | k + 1 => adB (fdN tp a b c k) (bytN (if k < 8 then a else if k < 16 then b else c) (k % 8))
theorem fd_a (tp : List Nat) (a b c : Nat) : ∀ k, k ≤ 8 → fdN tp a b c k = adW tp a k
  | 0, _ => rfl
  | k + 1, h => by rw [fdN, adW, fd_a tp a b c k (by omega), if_pos (by omega), Nat.mod_eq_of_lt (by omega)]
theorem fd_b (tp : List Nat) (a b c : Nat) : ∀ k, k ≤ 8 → fdN tp a b c (8 + k) = adW (adW tp a 8) b k
  | 0, _ => fd_a tp a b c 8 (by omega)
  | k + 1, h => by rw [← Nat.add_assoc, fdN, adW, fd_b tp a b c k (by omega), if_neg (by omega), if_pos (by omega), show (8 + k) % 8 = k by omega]
theorem fd_c (tp : List Nat) (a b c : Nat) : ∀ k, k ≤ 8 → fdN tp a b c (16 + k) = adW (adW (adW tp a 8) b 8) c k
  | 0, _ => fd_b tp a b c 8 (by omega)
  | k + 1, h => by rw [← Nat.add_assoc, fdN, adW, fd_c tp a b c k (by omega), if_neg (by omega), if_neg (by omega), show (16 + k) % 8 = k by omega]
theorem GoodT.add {tp : List Nat} {x : Nat} (h : GoodT tp) : GoodT (adB tp x) := by
  unfold adB
  split
  · rename_i q
    refine ⟨by simp; omega, fun i hi => ?_⟩
    rw [gd_app]
    split
    · exact q.1
    · simp at hi
      exact h.2 i (by omega)
  · exact h
theorem GoodT.adW {tp : List Nat} {w : Nat} (h : GoodT tp) : ∀ k, GoodT (adW tp w k)
  | 0 => h
  | k + 1 => (GoodT.adW h k).add
theorem qn_c : ∀ x, x < 127 → qnar .char (((nI x).toUInt32 % 65536).toInt32) = nI x := by decide +kernel
section PFeed
variable {E : VE} {V W : VT} {c N : Nat} {tp : List Nat} {A : AB}
def tcA (a : Nat) : Prop := a = 4
def tcF (i k : Nat) : Prop := i = 3 ∧ k = 1
theorem c_sign {x : Nat} (h : TpC V tp) (ht : GoodT tp) (hx : x < 256) : tot (gX6_addSign (nI x) V) (fun W => TpC W (adB tp x) ∧ fr tcA tcF V W) := by
  have hl := ht.1
  have add : (x = 10 ∨ 32 ≤ x ∧ x ≤ 126) → tot (gX6_addSign_b18 (nI x) V) (fun W => TpC W (adB tp x) ∧ fr tcA tcF V W) := by
    intro q
    unfold gX6_addSign_b18 adB
    rw [h.1]
    by_cases hc : tp.length < 1000
    · rw [if_neg (show ¬ (1000 : Int32) ≤ nI tp.length from nI_ge (b := 1000) hc (by omega)), wrA_n (by omega) (by omega), Option.bind_some, wA_F, h.1, qn_c x (by omega), Option.bind_some, if_pos ⟨q, hc⟩]
      refine tot_some ⟨⟨?_, fun i hi => ?_⟩, (fr_A (A := tcA) (F := tcF) _ _ rfl).trans (fr_F (A := tcA) (F := tcF) _ ⟨rfl, rfl⟩)⟩
      · rw [wF_F, if_pos ⟨rfl, rfl⟩, List.length_append]
        exact nI_1 _
      · rw [gd_app]
        simp at hi
        by_cases e : i = tp.length
        · subst e
          try simp (disch := omega) only [wA_A, wF_F, wA_F, wF_A, wA_L, wF_L, wA_G, wF_G, true_and, and_true, and_self, if_true, if_false, if_pos, if_neg]
        · try simp (disch := omega) only [wA_A, wF_F, wA_F, wF_A, wA_L, wF_L, wA_G, wF_G, true_and, and_true, and_self, if_true, if_false, if_pos, if_neg]
          exact h.2 i (by omega)
    · rw [if_pos (show (1000 : Int32) ≤ nI tp.length from nI_le (a := 1000) (by omega) (by omega)), if_neg (fun z => hc z.2)]
      exact tot_some ⟨h, fr.rf⟩
  have no : ¬ (x = 10 ∨ 32 ≤ x ∧ x ≤ 126) → tot (some V) (fun W => TpC W (adB tp x) ∧ fr tcA tcF V W) := by
    intro q
    unfold adB
    rw [if_neg (fun z => q z.1)]
    exact tot_some ⟨h, fr.rf⟩
  unfold gX6_addSign
  by_cases h10 : x = 10
  · rw [if_pos (by rw [h10]; rfl)]
    exact add (Or.inl h10)
  rw [if_neg (show ¬ nI x = 10 from nI_ne (b := 10) h10 (by omega) (by omega))]
  by_cases h32 : x < 32
  · rw [if_pos (show nI x < 32 from nI_lt (b := 32) h32 (by omega))]
    exact no (by omega)
  rw [if_neg (show ¬ nI x < 32 from nI_nlt (b := 32) (by omega) (by omega))]
  by_cases h126 : 126 < x
  · rw [if_pos (show (126 : Int32) < nI x from nI_lt (a := 126) h126 (by omega))]
    exact no (by omega)
  · rw [if_neg (show ¬ (126 : Int32) < nI x from nI_nlt (a := 126) (by omega) (by omega))]
    exact add (by omega)
def shI (k : Nat) : Int32 := if k < 8 then nI (56 - 8 * k) else -8
theorem byt_lt (w k : Nat) : bytN w k < 256 := Nat.mod_lt _ (by decide)
theorem c_bytes {w : Nat} (hw : w < 2 ^ 64) (h : TpC V tp) (ht : GoodT tp) (hN : 1000 < N) : tot (gX6_addBytes N (lN w) V) (fun W => TpC W (adW tp w 8) ∧ fr tcA tcF V W) := by
  unfold gX6_addBytes
  refine loop_T (F := fun u (_ : Unit) k V => gX6_addBytes_b3 N u (lN w) (shI k) V) 8 (fun k _ W => TpC W (adW tp w k) ∧ fr tcA tcF V W) ?_ ?_ N 0 () V (by omega) (by omega) ⟨h, fr.rf⟩
  · intro u k _ W hk hI hK
    have nx : shI k + (-8) = shI (k + 1) := by
      have : ∀ k, k < 8 → shI k + (-8) = shI (k + 1) := by decide
      exact this k hk
    have e0 : shI k = nI (56 - 8 * k) := if_pos hk
    show tot (gX6_addBytes_b3 N (u + 1) (lN w) (shI k) W) _
    unfold gX6_addBytes_b3
    rw [nx, e0, if_neg (nI_pos (by omega)), wb_shr hw (by omega), lN_i, show (255 : Int32) = nI 255 from rfl, fa_and, show w / 2 ^ (56 - 8 * k) &&& 255 = bytN w k from Nat.and_two_pow_sub_one_eq_mod _ 8]
    refine tot_bd (c_sign hI.1 (ht.adW k) (byt_lt w k)) (fun X hX => ?_)
    exact hK () X ⟨hX.1, hI.2.trans hX.2⟩
  · intro u _ W hI
    show tot (gX6_addBytes_b3 N (u + 1) (lN w) (shI 8) W) _
    unfold gX6_addBytes_b3
    rw [if_pos (by decide)]
    exact tot_some hI
theorem s_feed (hg : GoodA c A) (hN : 1000 < N) (x y z : Int64) : Stq E A c (fun V => gX9_feed E N x y z V) (fun V => gX10_feed N x y z V) := by
  obtain ⟨a, ha, rfl⟩ := wb_of x
  obtain ⟨b, hb, rfl⟩ := wb_of y
  obtain ⟨d, hd, rfl⟩ := wb_of z
  have gt := hg.2.2.2.2.2.2.1
  have gall : ∀ k, GoodT (fdN A.tp a b d k) := by
    intro k
    induction k with
    | zero => exact gt
    | succ k ih => exact ih.add
  unfold gX9_feed gX10_feed
  refine st_th ⟨nI (fdN A.tp a b d 24).length, (A.p, A.S, A.H, A.ls, A.es, A.mk, fdN A.tp a b d 24), ⟨hg.1, hg.2.1.mono (by omega), hg.2.2.1.mono (by omega), hg.2.2.2.1, hg.2.2.2.2.1, hg.2.2.2.2.2.1.mono (by omega), gall 24, hg.2.2.2.2.2.2.2⟩, fun V h => ?_, fun V h => ?_⟩
  · obtain ⟨h1, h2, h3, h4, h5, h6, h7, h8⟩ := id h
    dsimp only
    refine tot_bd (c_bytes ha h8 gt hN) (fun W1 w1 => ?_)
    refine tot_bd (c_bytes hb w1.1 (gt.adW 8) hN) (fun W2 w2 => ?_)
    refine tot_bd (c_bytes hd w2.1 ((gt.adW 8).adW 8) hN) (fun W3 w3 => ?_)
    have f := (w1.2.trans w2.2).trans w3.2
    have e : ∀ q, 5 ≤ q → eqs V W3 q := fun q hq => fr_eqs f (by unfold tcA; omega) (fun k => by unfold tcF; omega)
    have et : fdN A.tp a b d 24 = adW (adW (adW A.tp a 8) b 8) d 8 := fd_c A.tp a b d 8 (by omega)
    rw [et]
    exact tot_some ⟨w3.1.1, ⟨h1, h2.cg (fun q _ _ => e q (by omega)), h3.cg (fun q _ _ => e q (by omega)), h4.cg (fun q _ _ => e q (by omega)), h5.cg (fun q _ _ => e q (by omega)), h6.cg (fun q _ _ => e q (by omega)), h7.cg (fun q _ _ => e q (by omega)), w3.1⟩, fun q hq => e q (by omega)⟩
  · obtain ⟨h1, h2, h3, h4, h5, h6, h7⟩ := id h
    refine loop_T (F := fun u (_ : Unit) k V => gX10_feed_b8 N u (lN a) (lN b) (lN d) (nI k) V) 24 (fun k _ W => TpM W (fdN A.tp a b d k) ∧ fr (fun q => q = 138) (fun i k => i = 137 ∧ k = 1) V W) ?_ ?_ N 0 () V (by omega) (by omega) ⟨h7, fr.rf⟩
    · intro u k _ W hk hI hK
      obtain ⟨i1, i2⟩ := hI
      have gk := (gall k).1
      show tot (gX10_feed_b8 N (u + 1) (lN a) (lN b) (lN d) (nI k) W) _
      have go : ∀ s, s < 2 ^ 64 → s = (if k < 8 then a else if k < 16 then b else d) → tot (gX10_feed_b39 N (gX10_feed_b8 N u) (lN a) (lN b) (lN d) (nI k) (lN s) W) (fun r => r.1 = nI (fdN A.tp a b d 24).length ∧ MR r.2 (A.p, A.S, A.H, A.ls, A.es, A.mk, fdN A.tp a b d 24) ∧ hi V r.2) := by
        intro s hs es
        have eb : ((((lN s).toUInt64 >>> ((56 - (8 * (nI k &&& 7))).toInt64.toUInt64 &&& Int64.toUInt64 63)).toInt64) &&& 255).toInt32 = nI (bytN s (k % 8)) := by
          rw [show nI k &&& (7 : Int32) = nI (k % 8) from pk_andN (by omega) 3 (by decide), show (8 : Int32) = nI 8 from rfl, show (56 : Int32) = nI 56 from rfl, pk_mul, pk_sub (by omega), wb_shr hs (by omega), show (255 : Int64) = lN (2 ^ 8 - 1) from rfl, wb_mask (Nat.lt_of_le_of_lt (Nat.div_le_self _ _) hs) (by omega), lN_i]
          rfl
        have nx : ∀ X, TpM X (fdN A.tp a b d (k + 1)) → fr (fun q => q = 138) (fun i k => i = 137 ∧ k = 1) W X → tot (gX10_feed_b8 N u (lN a) (lN b) (lN d) (nI k + 1) X) (fun r => r.1 = nI (fdN A.tp a b d 24).length ∧ MR r.2 (A.p, A.S, A.H, A.ls, A.es, A.mk, fdN A.tp a b d 24) ∧ hi V r.2) := fun X x1 x2 => by
          rw [show nI k + 1 = nI (k + 1) from nI_1 k]
          exact hK () X ⟨x1, i2.trans x2⟩
        have hx := byt_lt s (k % 8)
        have ef : fdN A.tp a b d (k + 1) = adB (fdN A.tp a b d k) (bytN s (k % 8)) := by rw [fdN, ← es]
        generalize bytN s (k % 8) = x at eb hx ef
        unfold gX10_feed_b39
        rw [eb, i1.1]
        have no : adB (fdN A.tp a b d k) x = fdN A.tp a b d k → tot (gX10_feed_b8 N u (lN a) (lN b) (lN d) (nI k + 1) W) (fun r => r.1 = nI (fdN A.tp a b d 24).length ∧ MR r.2 (A.p, A.S, A.H, A.ls, A.es, A.mk, fdN A.tp a b d 24) ∧ hi V r.2) := fun q => nx W (by rw [ef, q]; exact i1) fr.rf
        by_cases hc : (fdN A.tp a b d k).length < 1000
        · rw [if_neg (show ¬ (1000 : Int32) ≤ nI _ from nI_ge (b := 1000) hc (by omega))]
          have put : (x = 10 ∨ 32 ≤ x ∧ x ≤ 126) → tot (gX10_feed_b93 N (gX10_feed_b8 N u) (lN a) (lN b) (lN d) (nI k) (nI x) W) (fun r => r.1 = nI (fdN A.tp a b d 24).length ∧ MR r.2 (A.p, A.S, A.H, A.ls, A.es, A.mk, fdN A.tp a b d 24) ∧ hi V r.2) := by
            intro q
            unfold gX10_feed_b93
            rw [i1.1, wrA_n (by omega) (by omega), Option.bind_some, wA_F, i1.1, Option.bind_some]
            refine nx _ ?_ ((fr_A (A := fun q => q = 138) (F := fun i k => i = 137 ∧ k = 1) _ _ rfl).trans (fr_F (A := fun q => q = 138) (F := fun i k => i = 137 ∧ k = 1) _ ⟨rfl, rfl⟩))
            rw [ef]
            unfold adB
            rw [if_pos ⟨q, hc⟩]
            refine ⟨?_, fun i hi => ?_⟩
            · rw [wF_F, if_pos ⟨rfl, rfl⟩, List.length_append]
              exact nI_1 _
            · rw [gd_app]
              simp at hi
              by_cases e : i = (fdN A.tp a b d k).length
              · rw [if_pos e, e]
                try simp (disch := omega) only [wA_A, wF_F, wA_F, wF_A, wA_L, wF_L, wA_G, wF_G, true_and, and_true, and_self, if_true, if_false, if_pos, if_neg]
              · rw [if_neg e]
                have e9 := i1.2 i (by omega)
                try simp (disch := omega) only [wA_A, wF_F, wA_F, wF_A, wA_L, wF_L, wA_G, wF_G, true_and, and_true, and_self, if_true, if_false, if_pos, if_neg]
                exact e9
          by_cases h10 : x = 10
          · rw [if_pos (by rw [h10]; rfl)]
            exact put (Or.inl h10)
          rw [if_neg (show ¬ nI x = 10 from nI_ne (b := 10) h10 (by omega) (by omega))]
          by_cases h32 : x < 32
          · rw [if_pos (show nI x < 32 from nI_lt (b := 32) h32 (by omega))]
            exact no (by unfold adB; rw [if_neg (by omega)])
          rw [if_neg (show ¬ nI x < 32 from nI_nlt (b := 32) (by omega) (by omega))]
          by_cases h126 : 126 < x
          · rw [if_pos (show (126 : Int32) < nI x from nI_lt (a := 126) h126 (by omega))]
            exact no (by unfold adB; rw [if_neg (by omega)])
          · rw [if_neg (show ¬ (126 : Int32) < nI x from nI_nlt (a := 126) (by omega) (by omega))]
            exact put (by omega)
        · rw [if_pos (show (1000 : Int32) ≤ nI _ from nI_le (a := 1000) (by omega) (by omega))]
          exact no (by unfold adB; rw [if_neg (by omega)])
      unfold gX10_feed_b8
      rw [if_neg (show ¬ (24 : Int32) ≤ nI k from nI_ge (b := 24) hk (by omega))]
      by_cases k8 : k < 8
      · rw [if_neg (show ¬ (8 : Int32) ≤ nI k from nI_ge (b := 8) k8 (by omega))]
        exact go a ha (by rw [if_pos k8])
      · rw [if_pos (show (8 : Int32) ≤ nI k from nI_le (a := 8) (by omega) (by omega))]
        by_cases k16 : k < 16
        · rw [if_neg (show ¬ (16 : Int32) ≤ nI k from nI_ge (b := 16) k16 (by omega))]
          exact go b hb (by rw [if_neg k8, if_pos k16])
        · rw [if_pos (show (16 : Int32) ≤ nI k from nI_le (a := 16) (by omega) (by omega))]
          exact go d hd (by rw [if_neg k8, if_neg k16])
    · intro u _ W hI
      obtain ⟨i1, i2⟩ := hI
      show tot (gX10_feed_b8 N (u + 1) (lN a) (lN b) (lN d) (nI 24) W) _
      unfold gX10_feed_b8
      rw [if_pos (by decide)]
      have e : ∀ q, q ≠ 137 → q ≠ 138 → eqs V W q := fun q h1 h2 => fr_eqs i2 h2 (fun k z => h1 z.1)
      refine tot_some ⟨i1.1, ⟨h1.cg (fun q _ _ _ => e q (by omega) (by omega)), h2.at (e 167 (by omega) (by omega)).1, h3.at (i2.2.2.2 137 47 (by omega)) (e 171 (by omega) (by omega)).1, h4.at (e 160 (by omega) (by omega)).1 (e 161 (by omega) (by omega)).1 (e 162 (by omega) (by omega)).1, h5.at (e 163 (by omega) (by omega)).1 (e 164 (by omega) (by omega)).1 (e 165 (by omega) (by omega)).1 (e 166 (by omega) (by omega)).1, h6.at (fun q _ _ => (e q (by omega) (by omega)).1) (e 170 (by omega) (by omega)).1 (e 172 (by omega) (by omega)).1, i1⟩, fun q hq => e q (by omega) (by omega)⟩
end PFeed
