/-! PURE: an E, read by both. -/
def LwS (V : VT) (o : Nat) (sl : List Int32) : Prop := sl.length ≤ 1000 ∧ V.F o 2 = nI sl.length ∧ ∀ i, i < sl.length → V.A (o + 1) i = sl.getD i 0
def pwf (o : Nat) (V W : VT) : Prop := W.L = V.L ∧ (∀ a, a ≠ o + 1 → W.A a = V.A a) ∧ ∀ i k, i ≠ 3 → ¬ (i = o ∧ k = 2) → W.F i k = V.F i k
theorem pwf.rf {o : Nat} {V : VT} : pwf o V V := ⟨rfl, fun _ _ => rfl, fun _ _ _ _ => rfl⟩
theorem pwf.trans {o : Nat} {V W X : VT} (h : pwf o V W) (k : pwf o W X) : pwf o V X := ⟨k.1.trans h.1, fun a ha => (k.2.1 a ha).trans (h.2.1 a ha), fun i j h1 h2 => (k.2.2 i j h1 h2).trans (h.2.2 i j h1 h2)⟩
theorem rwe.p {V W : VT} (o : Nat) (h : rwe V W) : pwf o V W := ⟨h.2.1, fun a _ => by rw [h.1], fun i k h1 _ => by rw [h.2.2 i h1]⟩
theorem LwS.rw {V W : VT} {o : Nat} {sl : List Int32} (ho : o ≠ 3) (h : LwS V o sl) (f : rwe V W) : LwS W o sl := by
  unfold LwS
  rw [f.1, f.2.2 o ho]
  exact h
theorem c_add {V : VT} {o : Nat} {sl : List Int32} (ho : o = 12 ∨ o = 21) (h : LwS V o sl) (x : Int32) : tot (gX1_add o x V) (fun W => (∃ s2, LwS W o s2) ∧ (sl.length < 1000 → LwS W o (sl ++ [x])) ∧ W.A 4 = V.A 4 ∧ W.F 3 = V.F 3 ∧ W.G = V.G ∧ pwf o V W) := by
  obtain ⟨h1, h2, h3⟩ := h
  unfold gX1_add
  rw [h2]
  by_cases hc : 1000 ≤ sl.length
  · rw [if_pos (show (1000 : Int32) ≤ nI sl.length from nI_le (a := 1000) hc (by omega))]
    exact tot_some ⟨⟨sl, h1, h2, h3⟩, fun q => by omega, rfl, rfl, rfl, pwf.rf⟩
  · rw [if_neg (show ¬ (1000 : Int32) ≤ nI sl.length from nI_ge (b := 1000) (by omega) (by omega)), wrA_n (by omega) (by omega), Option.bind_some, wA_F, h2, show nI sl.length + 1 = nI (sl.length + 1) from nI_1 _, Option.bind_some]
    have L : LwS (wF (wA V (o + 1) sl.length x) o 2 (nI (sl.length + 1))) o (sl ++ [x]) := by
      refine ⟨by simp; omega, ?_, fun i hi => ?_⟩
      · rw [wF_F, if_pos ⟨rfl, rfl⟩]
        simp
      · rw [wF_A, wA_A, gd_app]
        simp at hi
        by_cases e : i = sl.length
        · rw [if_pos ⟨rfl, e⟩, if_pos e]
        · rw [if_neg (fun q => e q.2), if_neg e]
          exact h3 i (by omega)
    refine tot_some ⟨⟨_, L⟩, fun _ => L, ?_, ?_, rfl, rfl, fun a ha => ?_, fun i k hi hk => ?_⟩
    · rw [wF_A]
      exact wA_n _ _ _ (by omega)
    · funext k
      rw [wF_F, if_neg (by omega)]
      rfl
    · rw [wF_A]
      exact wA_n _ _ _ ha
    · rw [wF_F, if_neg hk]
      rfl
/-- what the class comes to -/
def Cls (o : Nat) (tp : List Nat) (W : VT) (f a a' : Nat) (sl ps : List Int32) : Prop := (∃ s2, LwS W o s2) ∧ (f ≠ 0 → RD W f) ∧ (f = 0 → RC W tp a' 0 ∧ LwS W o (sl ++ ps) ∧ a < a' ∧ a' ≤ tp.length ∧ ps.length + a ≤ a')
theorem Bad.tr {V W : VT} {f : Nat} {Q : Int32 × VT → Prop} (h : Bad V f Q) (m : mwp V W) : Bad W f Q := fun X hX mX => h X hX (m.trans mX)
def sa1 (V W : VT) (tp : List Nat) (a d : Nat) : Prop := (∀ i, i ≤ d → W.A 148 i = V.A 148 i) ∧ (∀ i, i < d → W.A 149 i = V.A 149 i) ∧ (tyN tp a = 60 ∨ tyN tp a = 61 → W.A 149 d ≠ nI 0)
def MdP (tp : List Nat) (N d a f a' : Nat) (cs : List Nat) : Prop := ∀ (V : VT) (cs0 : List Nat) (w : Nat) (Q : Int32 × VT → Prop), MB V tp a cs0 → tp.length - a < w → (f ≠ 0 → Bad V f Q) → (f = 0 → ∀ w2 W, tp.length - a' < w2 → MB W tp a' (cs0 ++ cs) → sam V W d → mwp V W → tot (gX10_reads_b11 N w2 (nI (popV V d)) (nI 0) W) Q) → tot (gX10_reads_b11 N w (nI d) (nI 1) V) Q
def MdM (tp : List Nat) (N d a f a' : Nat) (cs : List Nat) : Prop := ∀ (V : VT) (cs0 : List Nat) (w : Nat) (Q : Int32 × VT → Prop), MB V tp a cs0 → tp.length - a < w → popV V d = d → (f ≠ 0 → Bad V f Q) → (f = 0 → ∀ w2 W, tp.length - a' < w2 → MB W tp a' (cs0 ++ cs) → sam V W d → mwp V W → tot (gX10_reads_b11 N w2 (nI d) (nI 0) W) Q) → tot (gX10_reads_b11 N w (nI d) (nI 1) V) Q
def MdE (tp : List Nat) (N d a f a' : Nat) (cs : List Nat) : Prop := ∀ (V : VT) (cs0 : List Nat) (w : Nat) (Q : Int32 × VT → Prop), MB V tp a cs0 → tp.length - a < w → popV V d = d → V.A 149 d = nI 0 → (f ≠ 0 → Bad V f Q) → (f = 0 → ∀ w2 W, tp.length - a' < w2 → MB W tp a' (cs0 ++ cs) → sa1 V W tp a' d → mwp V W → tot (gX10_reads_b11 N w2 (nI d) (nI 0) W) Q) → tot (gX10_reads_b11 N w (nI d) (nI 1) V) Q
def noP (tp : List Nat) (a : Nat) : Prop := tyN tp a ≠ 42
def noS (tp : List Nat) (a : Nat) : Prop := tyN tp a ≠ 42 ∧ tyN tp a ≠ 43 ∧ tyN tp a ≠ 45
def noE (tp : List Nat) (a : Nat) : Prop := noS tp a ∧ kN tp a ≠ 16 ∧ kN tp a ≠ 17
abbrev RdF : Type := Nat → Int32 → VT → Option VT
def RdX (o : Nat) (tp : List Nat) (d : Nat) (R : RdF) (M : Nat → Nat → Nat → List Nat → Prop) (n : Nat → Prop) (v : List Int32 → List Nat → Prop) : Prop := ∀ V a sl, RC V tp a 0 → a ≤ tp.length → LwS V o sl → sl.length ≤ a → tot (R o (nI d) V) (fun W => pwf o V W ∧ ∃ f a' ps cs, Cls o tp W f a a' sl ps ∧ M a f a' cs ∧ (f = 0 → n a' ∧ v ps cs))
def PartR (o : Nat) (tp : List Nat) (N d : Nat) (R : RdF) : Prop := RdX o tp d R (MdP tp N d) (fun _ => True) (fun ps cs => ∃ v, PV (4 * d + 4) ps v ∧ CP d cs v)
def ProdR (o : Nat) (tp : List Nat) (N d : Nat) (R : RdF) : Prop := RdX o tp d R (MdM tp N d) (noP tp) (fun ps cs => ∃ v, PV (4 * d + 3) ps v ∧ CM d cs v)
def SumR (o : Nat) (tp : List Nat) (N d : Nat) (R : RdF) : Prop := RdX o tp d R (MdM tp N d) (noS tp) (fun ps cs => ∃ v, PV (4 * d + 2) ps v ∧ CS d cs v)
def TestR (o : Nat) (tp : List Nat) (N d : Nat) (R : RdF) : Prop := RdX o tp d R (MdE tp N d) (noS tp) (fun ps cs => ∃ v, PV (4 * d + 1) ps v ∧ CT d cs v)
def ExprR (o : Nat) (tp : List Nat) (N d : Nat) (R : RdF) : Prop := RdX o tp d R (MdE tp N d) (noE tp) (fun ps cs => ∃ v, PV (4 * d) ps v ∧ CE d cs v)
section PExpr
variable {o : Nat} {tp : List Nat} {N d : Nat} {R RE RP : RdF}
theorem RD.ad {V W : VT} {f : Nat} (h : RD V f) (e : W.F 3 = V.F 3) : RD W f := h.cg (by rw [e])
/-- a loop that joins: dead, nothing is done any more -/
theorem ty_end {a : Nat} (h : tp.length ≤ a) : tyN tp a = 0 := by
  unfold tyN tyB
  exact if_pos (Nat.le_trans h rn_ge)
theorem k_end {a : Nat} (h : tp.length ≤ a) : kN tp a = 22 := by
  unfold kN
  rw [ty_end h, if_neg (by omega)]
theorem MdM_of {a f a' : Nat} {cs : List Nat} (h : MdP tp N d a f a' cs) : MdM tp N d a f a' cs := by
  intro V cs0 w Q hB hw hp h1 h2
  refine h V cs0 w Q hB hw h1 (fun e w2 W a1 a2 a3 a4 => ?_)
  rw [hp]
  exact h2 e w2 W a1 a2 a3 a4
theorem x_prod (ho : o = 12 ∨ o = 21) (ht : GoodT tp) (hN : 1000 < N) (hd : d ≤ 5) (hR : PartR o tp N d R) : ProdR o tp N d (gX4_prod R N) := by
  have hl := ht.1
  have loop : ∀ (w i a0 a1 : Nat) (V : VT) (sl ps1 : List Int32) (cs1 : List Nat) (v1 : Vf), RC V tp a1 0 → a1 ≤ tp.length → LwS V o (sl ++ ps1) → sl.length ≤ a0 → ps1.length + a0 ≤ a1 → i ≤ a1 → a0 < a1 → tp.length - a1 < w → MdM tp N d a0 0 a1 cs1 → PV (4 * d + 3) ps1 v1 → CM d cs1 v1 → tot (gX4_readProduct_b8 R N w o (nI d) (nI i) V) (fun W => pwf o V W ∧ ∃ f a' ps cs, Cls o tp W f a0 a' sl ps ∧ MdM tp N d a0 f a' cs ∧ (f = 0 → noP tp a' ∧ ∃ v, PV (4 * d + 3) ps v ∧ CM d cs v)) := by
    intro w
    induction w with
    | zero => intro i a0 a1 V sl ps1 cs1 v1 _ _ _ _ _ _ _ h; omega
    | succ w ih =>
      intro i a0 a1 V sl ps1 cs1 v1 hC ha hL hs hps hi h01 hw hM hP hV
      have out : tyN tp a1 ≠ 42 → tot (some V) (fun W => pwf o V W ∧ ∃ f a' ps cs, Cls o tp W f a0 a' sl ps ∧ MdM tp N d a0 f a' cs ∧ (f = 0 → noP tp a' ∧ ∃ v, PV (4 * d + 3) ps v ∧ CM d cs v)) := fun q => tot_some ⟨pwf.rf, 0, a1, ps1, cs1, ⟨⟨_, hL⟩, fun z => absurd rfl z, fun _ => ⟨hC, hL, h01, ha, hps⟩⟩, hM, fun _ => ⟨q, v1, hP, hV⟩⟩
      unfold gX4_readProduct_b8
      by_cases hc : 1000 ≤ i
      · rw [if_pos (show (1000 : Int32) ≤ nI i from nI_le (a := 1000) hc (by omega))]
        exact out (by rw [ty_end (by omega)]; omega)
      rw [if_neg (show ¬ (1000 : Int32) ≤ nI i from nI_ge (b := 1000) (by omega) (by omega)), show (42 : Int32) = nI 42 from rfl, c_isT hC ht (by omega), Option.bind_some]
      dsimp only
      by_cases e : tyN tp a1 = 42
      · rw [if_pos e, if_neg (by decide)]
        have he := en_lt (tp := tp) (a := a1) (by omega)
        have hp := pl_le ha
        have hel := (en_le ha).2
        refine tot_bd (c_adv ht hN ha hC) (fun V2 h2 => ?_)
        refine tot_bd (hR V2 (enN tp a1) (sl ++ ps1) h2.1 hel (hL.rw (by omega) h2.2.e) (by simp; omega)) (fun V3 h3 => ?_)
        obtain ⟨p3, f, a2, ps2, cs2, ⟨⟨s3, c1⟩, c2, c3⟩, m3, v3⟩ := h3
        have mm : MdM tp N d a0 f a2 (cs1 ++ [22] ++ cs2) := by
          intro Vm cs0 wm Q hB hwm hpop hbad hgo
          refine hM Vm cs0 wm Q hB hwm hpop (fun z => absurd rfl z) (fun _ w2 W2 b1 b2 b3 b4 => ?_)
          refine a_op ht hN b2 b1 (Or.inr (Or.inr ⟨e, rfl⟩)) (fun w3 W3 d1 d2 d3 d4 => ?_)
          refine m3 W3 _ w3 Q d2 d1 (fun z => (hbad z).tr (b4.trans d4)) (fun z w4 W4 e1 e2 e3 e4 => ?_)
          rw [popV_cg (V := Vm) (fun i hi => by rw [d3.1 i hi, b3.1 i hi]), hpop]
          refine hgo z w4 W4 e1 ?_ ((b3.trans d3).trans e3) ((b4.trans d4).trans e4)
          rw [← List.append_assoc, ← List.append_assoc]
          exact e2
        have q3 := (h2.2.e.p o).trans p3
        by_cases hf : f = 0
        · subst hf
          obtain ⟨g1, g2, g3, g4, g5⟩ := c3 rfl
          obtain ⟨-, v2, hv1, hv2⟩ := v3 rfl
          have hlen : (sl ++ ps1 ++ ps2).length < 1000 := by simp; omega
          refine tot_bd (c_add ho g2 (10042 : Int32)) (fun V4 h4 => ?_)
          obtain ⟨k1, k2, k3, k4, k5, k6⟩ := h4
          have k2 := k2 hlen
          rw [show nI i + 1 = nI (i + 1) from nI_1 i]
          refine tot_mo (ih (i + 1) a0 a2 V4 sl (ps1 ++ ps2 ++ [10042]) (cs1 ++ [22] ++ cs2) (jnV 42 v1 v2) (g1.cg k3 k4 (by rw [k5])) g4 (by rw [← List.append_assoc, ← List.append_assoc]; exact k2) hs (by simp; omega) (by omega) (by omega) (by omega) mm (PV_bin (by omega) hP hv1 (by decide) (by decide)) (CM_mul hV hv2)) (fun W hW => ⟨(q3.trans k6).trans hW.1, hW.2⟩)
        · have hD := c2 hf
          refine tot_bd (c_add ho c1 (10042 : Int32)) (fun V4 h4 => ?_)
          obtain ⟨k1, k2, k3, k4, k5, k6⟩ := h4
          have hD4 := hD.ad k4
          have last : ∀ w, 0 < w → tot (gX4_readProduct_b8 R N w o (nI d) (nI i + 1) V4) (fun W => pwf o V W ∧ ∃ f a' ps cs, Cls o tp W f a0 a' sl ps ∧ MdM tp N d a0 f a' cs ∧ (f = 0 → noP tp a' ∧ ∃ v, PV (4 * d + 3) ps v ∧ CM d cs v)) := by
            intro w hw0
            obtain ⟨w, rfl⟩ : ∃ i, w = i + 1 := ⟨w - 1, by omega⟩
            have fin : tot (some V4) (fun W => pwf o V W ∧ ∃ f a' ps cs, Cls o tp W f a0 a' sl ps ∧ MdM tp N d a0 f a' cs ∧ (f = 0 → noP tp a' ∧ ∃ v, PV (4 * d + 3) ps v ∧ CM d cs v)) := tot_some ⟨q3.trans k6, f, a2, [], _, ⟨k1, fun _ => hD4, fun z => absurd z hf⟩, mm, fun z => absurd z hf⟩
            unfold gX4_readProduct_b8
            by_cases h9 : (1000 : Int32) ≤ nI i + 1
            · rw [if_pos h9]
              exact fin
            · rw [if_neg h9, d_isT hD4, Option.bind_some, if_pos (by rfl)]
              exact fin
          exact last w (by omega)
      · rw [if_neg e, if_pos (by rfl)]
        exact out e
  intro V a sl hC ha hL hs
  unfold gX4_prod gX4_readProduct_g
  refine tot_bd (hR V a sl hC ha hL hs) (fun V1 h1 => ?_)
  obtain ⟨p1, f, a1, ps1, cs1, ⟨⟨s1, c1⟩, c2, c3⟩, m1, v1⟩ := h1
  by_cases hf : f = 0
  · subst hf
    obtain ⟨g1, g2, g3, g4, g5⟩ := c3 rfl
    obtain ⟨-, v, hv1, hv2⟩ := v1 rfl
    exact tot_mo (loop N 0 a a1 V1 sl ps1 cs1 v g1 g4 g2 hs g5 (by omega) g3 (by omega) (MdM_of m1) (hv1.mono (by omega)) (CM_one hv2)) (fun W hW => ⟨p1.trans hW.1, hW.2⟩)
  · have hD := c2 hf
    obtain ⟨M, rfl⟩ : ∃ i, N = i + 1 := ⟨N - 1, by omega⟩
    unfold gX4_readProduct_b8
    rw [if_neg (by decide), d_isT hD, Option.bind_some, if_pos (by rfl)]
    exact tot_some ⟨p1, f, a1, [], cs1, ⟨⟨s1, c1⟩, fun _ => hD, fun z => absurd z hf⟩, MdM_of m1, fun z => absurd z hf⟩
theorem x_sum (ho : o = 12 ∨ o = 21) (ht : GoodT tp) (hN : 1000 < N) (hd : d ≤ 5) (hR : ProdR o tp N d R) : SumR o tp N d (gX4_readSum_g R N) := by
  have hl := ht.1
  have loop : ∀ (w i a0 a1 : Nat) (V : VT) (sl ps1 : List Int32) (cs1 : List Nat) (v1 : Vf), RC V tp a1 0 → a1 ≤ tp.length → LwS V o (sl ++ ps1) → sl.length ≤ a0 → ps1.length + a0 ≤ a1 → i ≤ a1 → a0 < a1 → tp.length - a1 < w → noP tp a1 → MdM tp N d a0 0 a1 cs1 → PV (4 * d + 2) ps1 v1 → CS d cs1 v1 → tot (gX4_readSum_b8 R N w o (nI d) (nI i) V) (fun W => pwf o V W ∧ ∃ f a' ps cs, Cls o tp W f a0 a' sl ps ∧ MdM tp N d a0 f a' cs ∧ (f = 0 → noS tp a' ∧ ∃ v, PV (4 * d + 2) ps v ∧ CS d cs v)) := by
    intro w
    induction w with
    | zero => intro i a0 a1 V sl ps1 cs1 v1 _ _ _ _ _ _ _ h; omega
    | succ w ih =>
      intro i a0 a1 V sl ps1 cs1 v1 hC ha hL hs hps hi h01 hw hnp hM hP hV
      have out : tyN tp a1 ≠ 43 → tyN tp a1 ≠ 45 → tot (some V) (fun W => pwf o V W ∧ ∃ f a' ps cs, Cls o tp W f a0 a' sl ps ∧ MdM tp N d a0 f a' cs ∧ (f = 0 → noS tp a' ∧ ∃ v, PV (4 * d + 2) ps v ∧ CS d cs v)) := fun q1 q2 => tot_some ⟨pwf.rf, 0, a1, ps1, cs1, ⟨⟨_, hL⟩, fun z => absurd rfl z, fun _ => ⟨hC, hL, h01, ha, hps⟩⟩, hM, fun _ => ⟨⟨hnp, q1, q2⟩, v1, hP, hV⟩⟩
      have go : ∀ (k ty : Nat) (ov : Int32), tyN tp a1 = ty → (ty = 43 ∧ k = 20 ∧ ov = 43 ∨ ty = 45 ∧ k = 21 ∧ ov = 45) → tot (gX4_readSum_b39 R N (gX4_readSum_b8 R N w) o (nI d) (nI i) V) (fun W => pwf o V W ∧ ∃ f a' ps cs, Cls o tp W f a0 a' sl ps ∧ MdM tp N d a0 f a' cs ∧ (f = 0 → noS tp a' ∧ ∃ v, PV (4 * d + 2) ps v ∧ CS d cs v)) := by
        intro k ty ov e hk
        have he := en_lt (tp := tp) (a := a1) (by omega)
        have hp := pl_le ha
        have hel := (en_le ha).2
        unfold gX4_readSum_b39
        rw [hC.2.2.2.1, e]
        refine tot_bd (c_adv ht hN ha hC) (fun V2 h2 => ?_)
        refine tot_bd (hR V2 (enN tp a1) (sl ++ ps1) h2.1 hel (hL.rw (by omega) h2.2.e) (by simp; omega)) (fun V3 h3 => ?_)
        obtain ⟨p3, f, a2, ps2, cs2, ⟨⟨s3, c1⟩, c2, c3⟩, m3, v3⟩ := h3
        have mm : MdM tp N d a0 f a2 (cs1 ++ [k] ++ cs2) := by
          intro Vm cs0 wm Q hB hwm hpop hbad hgo
          refine hM Vm cs0 wm Q hB hwm hpop (fun z => absurd rfl z) (fun _ w2 W2 b1 b2 b3 b4 => ?_)
          refine a_op (c := k) ht hN b2 b1 (by omega) (fun w3 W3 d1 d2 d3 d4 => ?_)
          refine m3 W3 _ w3 Q d2 d1 (by rw [popV_cg (V := Vm) (fun i hi => by rw [d3.1 i hi, b3.1 i hi]), hpop]) (fun z => (hbad z).tr (b4.trans d4)) (fun z w4 W4 e1 e2 e3 e4 => ?_)
          refine hgo z w4 W4 e1 ?_ ((b3.trans d3).trans e3) ((b4.trans d4).trans e4)
          rw [← List.append_assoc, ← List.append_assoc]
          exact e2
        have q3 := (h2.2.e.p o).trans p3
        by_cases hf : f = 0
        · subst hf
          obtain ⟨g1, g2, g3, g4, g5⟩ := c3 rfl
          obtain ⟨hn2, v2, hv1, hv2⟩ := v3 rfl
          have hlen : (sl ++ ps1 ++ ps2).length < 1000 := by simp; omega
          refine tot_bd (c_add ho g2 (10000 + nI ty)) (fun V4 h4 => ?_)
          obtain ⟨k1, k2, k3, k4, k5, k6⟩ := h4
          have k2 := k2 hlen
          rw [show nI i + 1 = nI (i + 1) from nI_1 i]
          refine tot_mo (ih (i + 1) a0 a2 V4 sl (ps1 ++ ps2 ++ [10000 + nI ty]) (cs1 ++ [k] ++ cs2) (jnV ov v1 v2) (g1.cg k3 k4 (by rw [k5])) g4 (by rw [← List.append_assoc, ← List.append_assoc]; exact k2) hs (by simp; omega) (by omega) (by omega) (by omega) hn2 mm ?_ (CS_add (hk.elim (fun q => Or.inl ⟨q.2.1, q.2.2⟩) (fun q => Or.inr ⟨q.2.1, q.2.2⟩)) hV hv2)) (fun W hW => ⟨(q3.trans k6).trans hW.1, hW.2⟩)
          rcases hk with ⟨r1, r2, r3⟩ | ⟨r1, r2, r3⟩
          · subst r1 r3
            exact PV_bin (by omega) hP hv1 (by decide) (by decide)
          · subst r1 r3
            exact PV_bin (by omega) hP hv1 (by decide) (by decide)
        · have hD := c2 hf
          refine tot_bd (c_add ho c1 (10000 + nI ty)) (fun V4 h4 => ?_)
          obtain ⟨k1, k2, k3, k4, k5, k6⟩ := h4
          have hD4 := hD.ad k4
          have last : ∀ w, 0 < w → tot (gX4_readSum_b8 R N w o (nI d) (nI i + 1) V4) (fun W => pwf o V W ∧ ∃ f a' ps cs, Cls o tp W f a0 a' sl ps ∧ MdM tp N d a0 f a' cs ∧ (f = 0 → noS tp a' ∧ ∃ v, PV (4 * d + 2) ps v ∧ CS d cs v)) := by
            intro w hw0
            obtain ⟨w, rfl⟩ : ∃ i, w = i + 1 := ⟨w - 1, by omega⟩
            have fin : tot (some V4) (fun W => pwf o V W ∧ ∃ f a' ps cs, Cls o tp W f a0 a' sl ps ∧ MdM tp N d a0 f a' cs ∧ (f = 0 → noS tp a' ∧ ∃ v, PV (4 * d + 2) ps v ∧ CS d cs v)) := tot_some ⟨q3.trans k6, f, a2, [], _, ⟨k1, fun _ => hD4, fun z => absurd z hf⟩, mm, fun z => absurd z hf⟩
            unfold gX4_readSum_b8
            by_cases h9 : (1000 : Int32) ≤ nI i + 1
            · rw [if_pos h9]
              exact fin
            · rw [if_neg h9, d_isT hD4, Option.bind_some, if_pos (by rfl), d_isT hD4, Option.bind_some, if_pos (by rfl)]
              exact fin
          exact last w (by omega)
      unfold gX4_readSum_b8
      by_cases hc : 1000 ≤ i
      · rw [if_pos (show (1000 : Int32) ≤ nI i from nI_le (a := 1000) hc (by omega))]
        have t0 := ty_end (tp := tp) (a := a1) (by omega)
        exact out (by omega) (by omega)
      rw [if_neg (show ¬ (1000 : Int32) ≤ nI i from nI_ge (b := 1000) (by omega) (by omega)), show (43 : Int32) = nI 43 from rfl, c_isT hC ht (by omega), Option.bind_some]
      dsimp only
      by_cases e : tyN tp a1 = 43
      · rw [if_pos e, if_neg (by decide)]
        exact go 20 43 43 e (Or.inl ⟨rfl, rfl, rfl⟩)
      rw [if_neg e, if_pos (by rfl), show (45 : Int32) = nI 45 from rfl, c_isT hC ht (by omega), Option.bind_some]
      dsimp only
      by_cases e2 : tyN tp a1 = 45
      · rw [if_pos e2, if_neg (by decide)]
        exact go 21 45 45 e2 (Or.inr ⟨rfl, rfl, rfl⟩)
      · rw [if_neg e2, if_pos (by rfl)]
        exact out e e2
  intro V a sl hC ha hL hs
  unfold gX4_readSum_g
  refine tot_bd (hR V a sl hC ha hL hs) (fun V1 h1 => ?_)
  obtain ⟨p1, f, a1, ps1, cs1, ⟨⟨s1, c1⟩, c2, c3⟩, m1, v1⟩ := h1
  by_cases hf : f = 0
  · subst hf
    obtain ⟨g1, g2, g3, g4, g5⟩ := c3 rfl
    obtain ⟨hn, v, hv1, hv2⟩ := v1 rfl
    exact tot_mo (loop N 0 a a1 V1 sl ps1 cs1 v g1 g4 g2 hs g5 (by omega) g3 (by omega) hn m1 (hv1.mono (by omega)) (CS_one hv2)) (fun W hW => ⟨p1.trans hW.1, hW.2⟩)
  · have hD := c2 hf
    obtain ⟨M, rfl⟩ : ∃ i, N = i + 1 := ⟨N - 1, by omega⟩
    unfold gX4_readSum_b8
    rw [if_neg (by decide), d_isT hD, Option.bind_some, if_pos (by rfl), d_isT hD, Option.bind_some, if_pos (by rfl)]
    exact tot_some ⟨p1, f, a1, [], cs1, ⟨⟨s1, c1⟩, fun _ => hD, fun z => absurd z hf⟩, m1, fun z => absurd z hf⟩
theorem MdE_of {a f a' : Nat} {cs : List Nat} (h : MdM tp N d a f a' cs) (hn : f = 0 → tyN tp a' ≠ 60 ∧ tyN tp a' ≠ 61) : MdE tp N d a f a' cs := by
  intro V cs0 w Q hB hw hp h149 h1 h2
  refine h V cs0 w Q hB hw hp h1 (fun e w2 W a1 a2 a3 a4 => ?_)
  exact h2 e w2 W a1 a2 ⟨a3.1, fun i hi => a3.2 i (by omega), fun q => by have := hn e; omega⟩ a4
theorem x_test (ho : o = 12 ∨ o = 21) (ht : GoodT tp) (hN : 1000 < N) (hd : d ≤ 5) (hR : SumR o tp N d R) : TestR o tp N d (gX4_readTest_g R N) := by
  have hl := ht.1
  intro V a sl hC ha hL hs
  unfold gX4_readTest_g
  refine tot_bd (hR V a sl hC ha hL hs) (fun V1 h1 => ?_)
  obtain ⟨p1, f, a1, ps1, cs1, ⟨⟨s1, c1⟩, c2, c3⟩, m1, v1⟩ := h1
  by_cases hf : f = 0
  · subst hf
    obtain ⟨g1, g2, g3, g4, g5⟩ := c3 rfl
    obtain ⟨hn, v, hv1, hv2⟩ := v1 rfl
    have go : ∀ (k ty : Nat) (ov : Int32), tyN tp a1 = ty → (ty = 60 ∧ k = 24 ∧ ov = 60 ∨ ty = 61 ∧ k = 25 ∧ ov = 61) → tot (gX4_readTest_b30 R N o (nI d) V1) (fun W => pwf o V W ∧ ∃ f a' ps cs, Cls o tp W f a a' sl ps ∧ MdE tp N d a f a' cs ∧ (f = 0 → noS tp a' ∧ ∃ v, PV (4 * d + 1) ps v ∧ CT d cs v)) := by
      intro k ty ov e hk
      have he := en_lt (tp := tp) (a := a1) (by omega)
      have hp := pl_le g4
      have hel := (en_le g4).2
      unfold gX4_readTest_b30
      rw [g1.2.2.2.1, e]
      refine tot_bd (c_adv ht hN g4 g1) (fun V2 h2 => ?_)
      refine tot_bd (hR V2 (enN tp a1) (sl ++ ps1) h2.1 hel (g2.rw (by omega) h2.2.e) (by simp; omega)) (fun V3 h3 => ?_)
      obtain ⟨p3, f, a2, ps2, cs2, ⟨⟨s3, c1'⟩, c2', c3'⟩, m3, v3⟩ := h3
      have mm : MdE tp N d a f a2 (cs1 ++ [k] ++ cs2) := by
        intro Vm cs0 wm Q hB hwm hpop h149 hbad hgo
        refine m1 Vm cs0 wm Q hB hwm hpop (fun z => absurd rfl z) (fun _ w2 W2 b1 b2 b3 b4 => ?_)
        refine a_cmp (c := k) ht hN b2 b1 (by omega) (by omega) (by rw [b3.2 d (Nat.le_refl _)]; exact h149) (fun w3 W3 d1 d2 d3 d4 d5 d6 => ?_)
        refine m3 W3 _ w3 Q d2 d1 (by rw [popV_cg (V := Vm) (fun i hi => by rw [d3 i hi, b3.1 i hi]), hpop]) (fun z => (hbad z).tr (b4.trans d6)) (fun z w4 W4 e1 e2 e3 e4 => ?_)
        refine hgo z w4 W4 e1 ?_ ⟨fun i hi => by rw [e3.1 i hi, d3 i hi, b3.1 i hi], fun i hi => by rw [e3.2 i (by omega), d4 i hi, b3.2 i (by omega)], fun _ => by rw [e3.2 d (Nat.le_refl _), d5]; decide⟩ ((b4.trans d6).trans e4)
        rw [← List.append_assoc, ← List.append_assoc]
        exact e2
      have q3 := (p1.trans (h2.2.e.p o)).trans p3
      by_cases hf : f = 0
      · subst hf
        obtain ⟨g1', g2', g3', g4', g5'⟩ := c3' rfl
        obtain ⟨hn2, v2, hv1', hv2'⟩ := v3 rfl
        have hlen : (sl ++ ps1 ++ ps2).length < 1000 := by simp; omega
        refine tot_bd (c_add ho g2' (10000 + nI ty)) (fun V4 h4 => ?_)
        obtain ⟨k1, k2, k3, k4, k5, k6⟩ := h4
        have k2 := k2 hlen
        refine tot_some ⟨q3.trans k6, 0, a2, ps1 ++ ps2 ++ [10000 + nI ty], cs1 ++ [k] ++ cs2, ⟨k1, fun z => absurd rfl z, fun _ => ⟨g1'.cg k3 k4 (by rw [k5]), by rw [← List.append_assoc, ← List.append_assoc]; exact k2, by omega, g4', by simp; omega⟩⟩, mm, fun _ => ⟨hn2, jnV ov v v2, ?_, CT_cmp (hk.elim (fun q => Or.inl ⟨q.2.1, q.2.2⟩) (fun q => Or.inr ⟨q.2.1, q.2.2⟩)) hv2 hv2'⟩⟩
        rcases hk with ⟨r1, r2, r3⟩ | ⟨r1, r2, r3⟩
        · subst r1 r3
          exact PV_bin (by omega) (hv1.mono (by omega)) (hv1'.mono (by omega)) (by decide) (by decide)
        · subst r1 r3
          exact PV_bin (by omega) (hv1.mono (by omega)) (hv1'.mono (by omega)) (by decide) (by decide)
      · have hD := c2' hf
        refine tot_bd (c_add ho c1' (10000 + nI ty)) (fun V4 h4 => ?_)
        obtain ⟨k1, k2, k3, k4, k5, k6⟩ := h4
        exact tot_some ⟨q3.trans k6, f, a2, [], _, ⟨k1, fun _ => hD.ad k4, fun z => absurd z hf⟩, mm, fun z => absurd z hf⟩
    rw [show (60 : Int32) = nI 60 from rfl, c_isT g1 ht (by omega), Option.bind_some]
    dsimp only
    by_cases e : tyN tp a1 = 60
    · rw [if_pos e, if_neg (by decide)]
      exact go 24 60 60 e (Or.inl ⟨rfl, rfl, rfl⟩)
    rw [if_neg e, if_pos (by rfl), show (61 : Int32) = nI 61 from rfl, c_isT g1 ht (by omega), Option.bind_some]
    dsimp only
    by_cases e2 : tyN tp a1 = 61
    · rw [if_pos e2, if_neg (by decide)]
      exact go 25 61 61 e2 (Or.inr ⟨rfl, rfl, rfl⟩)
    · rw [if_neg e2, if_pos (by rfl)]
      exact tot_some ⟨p1, 0, a1, ps1, cs1, ⟨⟨s1, c1⟩, fun z => absurd rfl z, fun _ => ⟨g1, g2, g3, g4, g5⟩⟩, MdE_of m1 (fun _ => ⟨e, e2⟩), fun _ => ⟨hn, v, hv1.mono (by omega), CT_one hv2⟩⟩
  · have hD := c2 hf
    rw [d_isT hD, Option.bind_some, if_pos (by rfl), d_isT hD, Option.bind_some, if_pos (by rfl)]
    exact tot_some ⟨p1, f, a1, [], cs1, ⟨⟨s1, c1⟩, fun _ => hD, fun z => absurd z hf⟩, MdE_of m1 (fun z => absurd z hf), fun z => absurd z hf⟩
theorem x_expr (ho : o = 12 ∨ o = 21) (ht : GoodT tp) (hN : 1000 < N) (hd : d ≤ 5) (hR : TestR o tp N d R) : ExprR o tp N d (gX4_readE_g R N) := by
  have hl := ht.1
  have loop : ∀ (w i a0 a1 : Nat) (V : VT) (sl ps1 : List Int32) (cs1 : List Nat) (v1 : Vf), RC V tp a1 0 → a1 ≤ tp.length → LwS V o (sl ++ ps1) → sl.length ≤ a0 → ps1.length + a0 ≤ a1 → i ≤ a1 → a0 < a1 → tp.length - a1 < w → noS tp a1 → MdE tp N d a0 0 a1 cs1 → PV (4 * d) ps1 v1 → CE d cs1 v1 → tot (gX4_readE_b8 R N w o (nI d) (nI i) V) (fun W => pwf o V W ∧ ∃ f a' ps cs, Cls o tp W f a0 a' sl ps ∧ MdE tp N d a0 f a' cs ∧ (f = 0 → noE tp a' ∧ ∃ v, PV (4 * d) ps v ∧ CE d cs v)) := by
    intro w
    induction w with
    | zero => intro i a0 a1 V sl ps1 cs1 v1 _ _ _ _ _ _ _ h; omega
    | succ w ih =>
      intro i a0 a1 V sl ps1 cs1 v1 hC ha hL hs hps hi h01 hw hnp hM hP hV
      have out : kN tp a1 ≠ 16 → kN tp a1 ≠ 17 → tot (some V) (fun W => pwf o V W ∧ ∃ f a' ps cs, Cls o tp W f a0 a' sl ps ∧ MdE tp N d a0 f a' cs ∧ (f = 0 → noE tp a' ∧ ∃ v, PV (4 * d) ps v ∧ CE d cs v)) := fun q1 q2 => tot_some ⟨pwf.rf, 0, a1, ps1, cs1, ⟨⟨_, hL⟩, fun z => absurd rfl z, fun _ => ⟨hC, hL, h01, ha, hps⟩⟩, hM, fun _ => ⟨⟨hnp, q1, q2⟩, v1, hP, hV⟩⟩
      have go : ∀ (k ty : Nat) (ov : Int32), kN tp a1 = ty → (ty = 16 ∧ k = 26 ∧ ov = 16 ∨ ty = 17 ∧ k = 27 ∧ ov = 17) → tot (gX4_readE_b39 R N (gX4_readE_b8 R N w) o (nI d) (nI i) V) (fun W => pwf o V W ∧ ∃ f a' ps cs, Cls o tp W f a0 a' sl ps ∧ MdE tp N d a0 f a' cs ∧ (f = 0 → noE tp a' ∧ ∃ v, PV (4 * d) ps v ∧ CE d cs v)) := by
        intro k ty ov e hk
        have t2 : tyN tp a1 = 2 := kN_2 (k := ty) (by omega) e
        have e7 : kyW (woN tp a1) = ty := by
          unfold kN at e
          rw [if_pos t2] at e
          exact e
        have he := en_lt (tp := tp) (a := a1) (by omega)
        have hp := pl_le ha
        have hel := (en_le ha).2
        unfold gX4_readE_b39
        rw [(hC.2.2.2.2.2.1 t2).2, e7]
        refine tot_bd (c_adv ht hN ha hC) (fun V2 h2 => ?_)
        refine tot_bd (hR V2 (enN tp a1) (sl ++ ps1) h2.1 hel (hL.rw (by omega) h2.2.e) (by simp; omega)) (fun V3 h3 => ?_)
        obtain ⟨p3, f, a2, ps2, cs2, ⟨⟨s3, c1⟩, c2, c3⟩, m3, v3⟩ := h3
        have mm : MdE tp N d a0 f a2 (cs1 ++ [k] ++ cs2) := by
          intro Vm cs0 wm Q hB hwm hpop h149 hbad hgo
          refine hM Vm cs0 wm Q hB hwm hpop h149 (fun z => absurd rfl z) (fun _ w2 W2 b1 b2 b3 b4 => ?_)
          refine a_ao (c := k) ht hN b2 b1 (by omega) (by omega) (fun w3 W3 d1 d2 d3 d4 d5 d6 => ?_)
          refine m3 W3 _ w3 Q d2 d1 (by rw [popV_cg (V := Vm) (fun i hi => by rw [d3 i hi, b3.1 i hi]), hpop]) d5 (fun z => (hbad z).tr (b4.trans d6)) (fun z w4 W4 e1 e2 e3 e4 => ?_)
          refine hgo z w4 W4 e1 ?_ ⟨fun i hi => by rw [e3.1 i hi, d3 i hi, b3.1 i hi], fun i hi => by rw [e3.2.1 i hi, d4 i hi, b3.2.1 i hi], e3.2.2⟩ ((b4.trans d6).trans e4)
          rw [← List.append_assoc, ← List.append_assoc]
          exact e2
        have q3 := (h2.2.e.p o).trans p3
        by_cases hf : f = 0
        · subst hf
          obtain ⟨g1, g2, g3, g4, g5⟩ := c3 rfl
          obtain ⟨hn2, v2, hv1, hv2⟩ := v3 rfl
          have hlen : (sl ++ ps1 ++ ps2).length < 1000 := by simp; omega
          refine tot_bd (c_add ho g2 (10000 + nI ty)) (fun V4 h4 => ?_)
          obtain ⟨k1, k2, k3, k4, k5, k6⟩ := h4
          have k2 := k2 hlen
          rw [show nI i + 1 = nI (i + 1) from nI_1 i]
          refine tot_mo (ih (i + 1) a0 a2 V4 sl (ps1 ++ ps2 ++ [10000 + nI ty]) (cs1 ++ [k] ++ cs2) (jnV ov v1 v2) (g1.cg k3 k4 (by rw [k5])) g4 (by rw [← List.append_assoc, ← List.append_assoc]; exact k2) hs (by simp; omega) (by omega) (by omega) (by omega) hn2 mm ?_ (CE_ao (hk.elim (fun q => Or.inl ⟨q.2.1, q.2.2⟩) (fun q => Or.inr ⟨q.2.1, q.2.2⟩)) hV hv2)) (fun W hW => ⟨(q3.trans k6).trans hW.1, hW.2⟩)
          rcases hk with ⟨r1, r2, r3⟩ | ⟨r1, r2, r3⟩
          · subst r1 r3
            exact PV_bin (by omega) hP hv1 (by decide) (by decide)
          · subst r1 r3
            exact PV_bin (by omega) hP hv1 (by decide) (by decide)
        · have hD := c2 hf
          refine tot_bd (c_add ho c1 (10000 + nI ty)) (fun V4 h4 => ?_)
          obtain ⟨k1, k2, k3, k4, k5, k6⟩ := h4
          have hD4 := hD.ad k4
          have last : ∀ w, 0 < w → tot (gX4_readE_b8 R N w o (nI d) (nI i + 1) V4) (fun W => pwf o V W ∧ ∃ f a' ps cs, Cls o tp W f a0 a' sl ps ∧ MdE tp N d a0 f a' cs ∧ (f = 0 → noE tp a' ∧ ∃ v, PV (4 * d) ps v ∧ CE d cs v)) := by
            intro w hw0
            obtain ⟨w, rfl⟩ : ∃ i, w = i + 1 := ⟨w - 1, by omega⟩
            have fin : tot (some V4) (fun W => pwf o V W ∧ ∃ f a' ps cs, Cls o tp W f a0 a' sl ps ∧ MdE tp N d a0 f a' cs ∧ (f = 0 → noE tp a' ∧ ∃ v, PV (4 * d) ps v ∧ CE d cs v)) := tot_some ⟨q3.trans k6, f, a2, [], _, ⟨k1, fun _ => hD4, fun z => absurd z hf⟩, mm, fun z => absurd z hf⟩
            unfold gX4_readE_b8
            by_cases h9 : (1000 : Int32) ≤ nI i + 1
            · rw [if_pos h9]
              exact fin
            · rw [if_neg h9, d_isK hD4, Option.bind_some, if_pos (by rfl), d_isK hD4, Option.bind_some, if_pos (by rfl)]
              exact fin
          exact last w (by omega)
      unfold gX4_readE_b8
      by_cases hc : 1000 ≤ i
      · rw [if_pos (show (1000 : Int32) ≤ nI i from nI_le (a := 1000) hc (by omega))]
        have t0 := k_end (tp := tp) (a := a1) (by omega)
        exact out (by omega) (by omega)
      rw [if_neg (show ¬ (1000 : Int32) ≤ nI i from nI_ge (b := 1000) (by omega) (by omega)), show (16 : Int32) = nI 16 from rfl, c_isK hC ht (by omega), Option.bind_some]
      dsimp only
      by_cases e : kN tp a1 = 16
      · rw [if_pos e, if_neg (by decide)]
        exact go 26 16 16 e (Or.inl ⟨rfl, rfl, rfl⟩)
      rw [if_neg e, if_pos (by rfl), show (17 : Int32) = nI 17 from rfl, c_isK hC ht (by omega), Option.bind_some]
      dsimp only
      by_cases e2 : kN tp a1 = 17
      · rw [if_pos e2, if_neg (by decide)]
        exact go 27 17 17 e2 (Or.inr ⟨rfl, rfl, rfl⟩)
      · rw [if_neg e2, if_pos (by rfl)]
        exact out e e2
  intro V a sl hC ha hL hs
  unfold gX4_readE_g
  refine tot_bd (hR V a sl hC ha hL hs) (fun V1 h1 => ?_)
  obtain ⟨p1, f, a1, ps1, cs1, ⟨⟨s1, c1⟩, c2, c3⟩, m1, v1⟩ := h1
  by_cases hf : f = 0
  · subst hf
    obtain ⟨g1, g2, g3, g4, g5⟩ := c3 rfl
    obtain ⟨hn, v, hv1, hv2⟩ := v1 rfl
    exact tot_mo (loop N 0 a a1 V1 sl ps1 cs1 v g1 g4 g2 hs g5 (by omega) g3 (by omega) hn m1 (hv1.mono (by omega)) (CE_one hv2)) (fun W hW => ⟨p1.trans hW.1, hW.2⟩)
  · have hD := c2 hf
    obtain ⟨M, rfl⟩ : ∃ i, N = i + 1 := ⟨N - 1, by omega⟩
    unfold gX4_readE_b8
    rw [if_neg (by decide), d_isK hD, Option.bind_some, if_pos (by rfl), d_isK hD, Option.bind_some, if_pos (by rfl)]
    exact tot_some ⟨p1, f, a1, [], cs1, ⟨⟨s1, c1⟩, fun _ => hD, fun z => absurd z hf⟩, m1, fun z => absurd z hf⟩
theorem x_e (ho : o = 12 ∨ o = 21) (ht : GoodT tp) (hN : 1000 < N) (hd : d ≤ 5) (hR : PartR o tp N d R) : ExprR o tp N d (gX4_e R N) := x_expr ho ht hN hd (x_test ho ht hN hd (x_sum ho ht hN hd (x_prod ho ht hN hd hR)))
end PExpr
