/-! THE CLASS: what a step folds, by Lay -/
def lnB (P : cr_P) (b : Bool) (fs : Nat) : Nat := if b then fs * 2 ^ gaps P false else fs
theorem lnB_or (P : cr_P) (b : Bool) (x y : Nat) : lnB P b (x ||| y) = lnB P b x ||| lnB P b y := by
  unfold lnB
  cases b with
  | true => simp only [if_true]; rw [← Nat.shiftLeft_eq, ← Nat.shiftLeft_eq, ← Nat.shiftLeft_eq, Nat.shiftLeft_or_distrib]
  | false => rfl
theorem lnB_pow (P : cr_P) (b : Bool) (i : Nat) : lnB P b (2 ^ i) = 2 ^ lnO P b i := by
  unfold lnB lnO
  cases b with
  | true => simp only [if_true]; rw [Nat.pow_add, Nat.mul_comm]
  | false => rfl
theorem lnB_lt {P : cr_P} (ok : cr_ok P) {b : Bool} {fs : Nat} (h : fs < 2 ^ gaps P b) : lnB P b fs < 2 ^ (gaps P false + gaps P true) ∧ lnB P b fs < 256 := by
  have g := ok.gg
  have h8 : 2 ^ (gaps P false + gaps P true) ≤ 2 ^ 8 := Nat.pow_le_pow_right (by decide) g
  have h1 : lnB P b fs < 2 ^ (gaps P false + gaps P true) := by
    unfold lnB
    cases b with
    | true =>
      simp only [if_true]
      rw [Nat.pow_add, Nat.mul_comm]
      exact Nat.mul_lt_mul_of_pos_left h (Nat.two_pow_pos _)
    | false =>
      have : 2 ^ gaps P false ≤ 2 ^ (gaps P false + gaps P true) := Nat.pow_le_pow_right (by decide) (by omega)
      exact Nat.lt_of_lt_of_le h this
  exact ⟨h1, by omega⟩
theorem lnB_0 (P : cr_P) (b : Bool) (fs : Nat) : lnB P b fs = 0 ↔ fs = 0 := by
  unfold lnB
  cases b with
  | true =>
    have := Nat.two_pow_pos (gaps P false)
    simp only [if_true]
    exact ⟨fun h => by rcases Nat.mul_eq_zero.mp h with q | q <;> omega, fun h => by rw [h, Nat.zero_mul]⟩
  | false => exact Iff.rfl
/-- columns' creases lie on columns' lines -/
def cr_t7 (k r c : Nat) : Bool := (List.range (cr_cs k r c).length).all (fun d => (decide (k = 2) && decide (r * (c - 1) ≤ d)) || decide (((cr_cs k r c).getD d (0, 0)).1 % c < c - 1))
theorem cr_t7_all : ∀ k, k < 3 → ∀ r, r < 10 → ∀ c, c < 10 → (!cr_shb k r c || (decide (k = 1) || cr_t7 k r c)) = true := by decide +kernel
theorem cr_ok.col {P : cr_P} (H : cr_ok P) (hk : cr_kd P ≠ 1) {d : Nat} (hd : d < cr_m P) (hr : cr_iR P d = false) : cr_a P d % cr_cl P < gaps P false := by
  obtain ⟨h3, h4⟩ := cr_small H.1
  have := cr_t7_all (cr_kd P) (by have := H.1.1; omega) _ h3 _ h4
  rw [cr_shb_of H.1, decide_eq_false hk] at this
  have : cr_t7 (cr_kd P) (cr_rw P) (cr_cl P) = true := by simpa using this
  unfold cr_t7 at this
  have := List.all_eq_true.mp this d (List.mem_range.mpr hd)
  rw [Bool.or_eq_true] at this
  rcases this with q | q
  · unfold cr_iR at hr
    rw [q] at hr; cases hr
  · exact of_decide_eq_true q
theorem lin_bit {P : cr_P} (ok : cr_ok P) (hk : cr_kd P ≠ 1) {b : Bool} {fs c : Nat} (hc : c < cr_m P) (hf : fs < 2 ^ gaps P b) : (lnB P b fs).testBit (cr_lin P c) = (cr_iR P c == b && fs.testBit (cr_gap P c)) := by
  unfold cr_lin cr_gap lnB
  have e0 : cr_cl P - 1 = gaps P false := rfl
  cases hr : cr_iR P c with
  | true =>
    cases b with
    | true =>
      simp only [if_true, e0]
      rw [← Nat.shiftLeft_eq, Nat.testBit_shiftLeft, decide_eq_true (show gaps P false ≤ gaps P false + cr_a P c / cr_cl P from Nat.le_add_right _ _), Nat.add_sub_cancel_left]
      rfl
    | false =>
      simp only [if_true, Bool.false_eq_true, if_false, e0]
      rw [Nat.testBit_lt_two_pow (Nat.lt_of_lt_of_le hf (Nat.pow_le_pow_right (by decide) (Nat.le_add_right _ _)))]
      rfl
  | false =>
    have hcol := ok.col hk hc hr
    cases b with
    | true =>
      simp only [if_true, Bool.false_eq_true, if_false]
      rw [← Nat.shiftLeft_eq, Nat.testBit_shiftLeft, decide_eq_false (show ¬ gaps P false ≤ cr_a P c % cr_cl P by omega)]
      rfl
    | false =>
      simp only [Bool.false_eq_true, if_false]
      rfl
theorem w1_unit {P : cr_P} (hu : ∀ f, cr_ln P f = 1) (ly : Nat) (x : Int) (f : Nat) : w1 P ly x f = false := by
  unfold w1
  rw [lA, hu f]
  cases gU ly f with
  | true =>
    simp only [if_true]
    by_cases q : min (lA (cr_ln P) ly f) (lA (cr_ln P) ly f + ((1 : Nat) : Int)) < x
    · rw [decide_eq_false (show ¬ x < max (lA (cr_ln P) ly f) (lA (cr_ln P) ly f + ((1 : Nat) : Int)) by omega), Bool.and_false]
    · rw [decide_eq_false q]; rfl
  | false =>
    simp only [Bool.false_eq_true, if_false]
    by_cases q : min (lA (cr_ln P) ly f) (lA (cr_ln P) ly f + -((1 : Nat) : Int)) < x
    · rw [decide_eq_false (show ¬ x < max (lA (cr_ln P) ly f) (lA (cr_ln P) ly f + -((1 : Nat) : Int)) by omega), Bool.and_false]
    · rw [decide_eq_false q]; rfl
section Y2
variable {h : pz_H} {a y : Nat} {VP : Nat → Int} {A AP : Nat → Int → Int} {P : cr_P} {F : Nat} {Q : Int32 → pz_H → Prop} {K : pz_H → Prop}
theorem c_layUp {f : Nat} (R : rY h y F A) (L : lyS A P F) (RP : rP h a VP AP) (B : cB VP AP P) (hf : f < cr_n P) (hq : Q (iI (bI (upIn P (fsO P false F) (fsO P true F) f))) h) : F_X0_isFrontUp y a (iI f) h Q := by
  obtain ⟨ok, -, -, -, -, -, q1, q2, -⟩ := id B
  have hn := ok.n9
  have c1 := ok.1.2.2.1
  have r1 := ok.1.2.1
  have m1 : f % cr_cl P < cr_cl P := Nat.mod_lt _ c1
  have m2 : f / cr_cl P < cr_rw P := by
    rw [Nat.div_lt_iff_lt_mul c1]; exact hf
  have b0 := bnd_g ok false
  have b1 := bnd_g ok true
  have bc : bnd P false = cr_cl P := rfl
  have br : bnd P true = cr_rw P := rfl
  have p1 := Int.natCast_nonneg (f % cr_cl P)
  have p2 := Int.natCast_nonneg (f / cr_cl P)
  have t0 := (L false).2 (f % cr_cl P) (by omega)
  have t1 := (L true).2 (f / cr_cl P) (by omega)
  unfold F_X0_isFrontUp B_X0_isFrontUp_34
  have z0 : (0 : Int32) = iI (bI false) := rfl
  have z1 : (1 : Int32) = iI (bI true) := rfl
  rw [(ylE R).2.2.2.1, z0, (ylE R).2.2.2.2.2.1]
  refine rg_gA RP rfl ?_
  rw [ar_e (rg_ar RP (j := 2) (by decide) (by decide) rfl) (by decide) _ _ (by omega) (by simp only [lP]; omega), q2 f hf]
  rw [(ylE R).2.2.2.2.2.2.2 false _ _ (by omega) (by omega), t0]
  rw [(ylE R).2.2.2.1, z1, (ylE R).2.2.2.2.2.1]
  refine rg_gA RP rfl ?_
  rw [ar_e (rg_ar RP (j := 1) (by decide) (by decide) rfl) (by decide) _ _ (by omega) (by simp only [lP]; omega), q1 f hf]
  rw [(ylE R).2.2.2.2.2.2.2 true _ _ (by omega) (by omega), t1]
  unfold upIn at hq
  cases g1 : gU (fsO P false F) (f % cr_cl P) <;> cases g2 : gU (fsO P true F) (f / cr_cl P) <;> rw [g1, g2] at hq
  · exact br_tt rfl (rg_z (Or.inr rfl) hq)
  · exact br_ff (by decide) (rg_z (Or.inl rfl) hq)
  · exact br_ff (by decide) (rg_z (Or.inl rfl) hq)
  · exact br_tt rfl (rg_z (Or.inr rfl) hq)
theorem c_unfolded_loop {b : Bool} {x : Int} (hx : iB x) (hF : F < 2 ^ 31) (R : rY h y F A) (L : lyS A P F) (RP : rP h a VP AP) (B : cB VP AP P) (hq : Q (iI (lnB P b (foldsAt P b (fsO P b F) x))) h) : ∀ k u i : Nat, i + k = gaps P b → k < u → L_X0_unfoldedAt_6 y a (iI (bI b)) (iI x) Q u (iI (lnB P b (nu_bm (fun g => !(fsO P b F).testBit g && decide (lA (cr_ln P) (fsO P b F) (g + 1) = x)) i))) (iI i) h := by
  intro k
  have ok := B.1
  have hb := bnd_g ok b
  have g8 := (ok.g8 b).1
  induction k with
  | zero =>
    intro u i hi hu
    obtain ⟨u, rfl⟩ : ∃ v, u = v + 1 := ⟨u - 1, by omega⟩
    unfold L_X0_unfoldedAt_6
    rw [(ylE R).1]
    refine c_bands RP B ?_
    rw [iI_1, iI_sub]
    refine br_le (by omega) (by omega) (fun _ => ?_) (fun w => by omega)
    rw [show i = gaps P b by omega]
    exact hq
  | succ k ih =>
    intro u i hi hu
    obtain ⟨u, rfl⟩ : ∃ v, u = v + 1 := ⟨u - 1, by omega⟩
    have h1 := ih u (i + 1) (by omega) (by omega)
    rw [nu_bm, lnB_or] at h1
    have hlt := lnO_lt ok (b := b) (i := i) (by omega)
    have hl31 : lnO P b i < 31 := by
      have g1 := (ok.g8 false).1
      unfold lnO
      split <;> omega
    have e1 := (L b).1 (i + 1) (by omega)
    have bl := ok.lB (fsO P b F) (f := i + 1) (by omega)
    have ei : iI (i : Int) + (1 : Int32) = iI ((i + 1 : Nat) : Int) := by rw [iI_1, iI_add]; rfl
    unfold L_X0_unfoldedAt_6 B_X0_unfoldedAt_65
    rw [ei, (ylE R).1]
    refine c_bands RP B ?_
    rw [iI_1, iI_sub]
    refine br_le (by omega) (by omega) (fun w => by omega) (fun _ => ?_)
    rw [(ylE R).1]
    refine c_lineBehind RP B ?_
    rw [(ylE R).2.1]
    refine c_has hF hlt ?_
    rw [lnO_bit (by omega), show iI 1 <<< (iI (lnO P b i : Int) &&& 31) = iI ((2 ^ lnO P b i : Nat) : Int) from iI_shl hl31]
    cases q : (fsO P b F).testBit i with
    | true =>
      rw [q] at h1
      refine br_ff (by decide) ?_
      have e0 : lnB P b 0 = 0 := (lnB_0 P b 0).mpr rfl
      simpa [e0] using h1
    | false =>
      rw [q] at h1
      refine br_tt rfl ?_
      rw [(ylE R).2.2.1, (ylE R).2.2.2.2.1, (ylE R).2.2.2.2.2.2.1 b _ _ (by omega) (by omega), e1]
      refine br_eq (by omega) hx (fun w => ?_) (fun w => ?_)
      · rw [decide_eq_true w] at h1
        rw [iI_or, ← lnB_pow]
        exact h1
      · rw [decide_eq_false w] at h1
        have e0 : lnB P b 0 = 0 := (lnB_0 P b 0).mpr rfl
        simpa [e0] using h1
theorem c_within_loop {b : Bool} {x : Int} (hx : iB x) (R : rY h y F A) (L : lyS A P F) (RP : rP h a VP AP) (B : cB VP AP P) : ∀ k u i : Nat, i + k = gaps P b + 1 → k < u → Q (iI (bI ((List.range' i k).any (w1 P (fsO P b F) x)))) h → L_X0_isWithinOne_3 y a (iI (bI b)) (iI x) Q u (iI i) h := by
  intro k
  have ok := B.1
  have hb := bnd_g ok b
  have g8 := (ok.g8 b).1
  induction k with
  | zero =>
    intro u i hi hu hq
    obtain ⟨u, rfl⟩ : ∃ v, u = v + 1 := ⟨u - 1, by omega⟩
    unfold L_X0_isWithinOne_3
    rw [(ylE R).1]
    refine c_bands RP B ?_
    exact br_le (by omega) (by omega) (fun _ => hq) (fun w => by omega)
  | succ k ih =>
    intro u i hi hu hq
    obtain ⟨u, rfl⟩ : ∃ v, u = v + 1 := ⟨u - 1, by omega⟩
    rw [any_step] at hq
    have e1 := (L b).1 (i + 1) (by omega)
    have e0 := (L b).1 i (by omega)
    have b0 := ok.lB (fsO P b F) (f := i) (by omega)
    have b1 := ok.lB (fsO P b F) (f := i + 1) (by omega)
    have ei : iI (i : Int) + (1 : Int32) = iI ((i + 1 : Nat) : Int) := by rw [iI_1, iI_add]; rfl
    unfold L_X0_isWithinOne_3
    rw [ei, (ylE R).1]
    refine c_bands RP B ?_
    refine br_le (by omega) (by omega) (fun w => by omega) (fun _ => ?_)
    rw [(ylE R).2.2.1, (ylE R).2.2.2.2.1, (ylE R).2.2.2.2.2.2.1 b _ _ (by omega) (by omega), (ylE R).2.2.1, (ylE R).2.2.2.2.1, (ylE R).2.2.2.2.2.2.1 b _ _ (by omega) (by omega), e0, e1]
    refine c_isBetween hx (by omega) (by omega) ?_
    show pq_br (iI (bI (w1 P (fsO P b F) x i)) = 0) _ _
    cases q : w1 P (fsO P b F) x i with
    | false =>
      rw [q] at hq
      exact br_tt rfl (ih u (i + 1) (by omega) (by omega) hq)
    | true =>
      rw [q] at hq
      exact br_ff (by decide) hq
theorem c_marks_loop {b un : Bool} {fs : Nat} (hf : fs < 2 ^ gaps P b) (hk : cr_kd P ≠ 1) (R : rY h y F A) (L : lyS A P F) (RP : rP h a VP AP) (C : cP VP AP P) : ∀ k u c : Nat, c + k = cr_m P → k < u → Q (iI (bI ((List.range' c k).all (dM P (fsO P false F) (fsO P true F) b un fs)))) h → L_X0_marksAllow_3 y a (iI (lnB P b fs)) (iI (bI un)) Q u (iI c) h := by
  intro k
  obtain ⟨ok, -, -, -, -, k4, -, -, -, q5, q6, q7, -⟩ := id C.1
  have q8 := C.2.2.1
  have hm := ok.m12
  have hn := ok.n9
  have lb := lnB_lt ok hf
  induction k with
  | zero =>
    intro u c hc hu hq
    obtain ⟨u, rfl⟩ : ∃ v, u = v + 1 := ⟨u - 1, by omega⟩
    unfold L_X0_marksAllow_3
    simp (disch := omega) only [pE RP, k4, ebr_le, lits, iI_add, iI_sub, iI_mul, iI_neg]
    rw [if_pos (by omega)]
    exact hq
  | succ k ih =>
    intro u c hc hu hq
    obtain ⟨u, rfl⟩ : ∃ v, u = v + 1 := ⟨u - 1, by omega⟩
    have hc' : c < cr_m P := by omega
    rw [all_step] at hq
    have b8 := ok.2.2.1 c
    obtain ⟨a1, a2, -⟩ := ok.ab hc'
    have go : dM P (fsO P false F) (fsO P true F) b un fs c = true → L_X0_marksAllow_3 y a (iI (lnB P b fs)) (iI (bI un)) Q u (iI ((c + 1 : Nat) : Int)) h := fun e => by
      rw [e] at hq
      exact ih u (c + 1) (by omega) (by omega) hq
    have bad : dM P (fsO P false F) (fsO P true F) b un fs c = false → Q (0 : Int32) h := fun e => by
      rw [e] at hq
      exact hq
    unfold L_X0_marksAllow_3 B_X0_marksAllow_57 B_X0_marksAllow_73
    simp (disch := omega) only [pE RP, k4, ebr_le, q7 c hc', q8 c hc', q5 c hc', iI_s, lits, iI_add, iI_sub, iI_mul, iI_neg]
    rw [if_neg (by omega)]
    refine c_has (by omega) (lin_lt ok hc') ?_
    rw [lin_bit ok hk hc' hf]
    unfold dM at go bad
    cases q : (cr_iR P c == b && fs.testBit (cr_gap P c)) with
    | false =>
      rw [q] at go
      exact br_tt rfl (go rfl)
    | true =>
      rw [q] at go bad
      refine br_ff (by decide) ?_
      simp (disch := omega) only [pE RP, q8 c hc', q5 c hc', lits, iI_add, iI_sub, iI_mul, iI_neg]
      refine br_eq (b := 0) (by omega) (by omega) (fun w => go ?_) (fun w => ?_)
      · rw [decide_eq_true (show cr_mk P c = 0 by omega)]; rfl
      rw [(ylE R).1]
      refine c_layUp R L RP C.1 a1 ?_
      have nz : ¬ cr_mk P c = 0 := by omega
      rw [decide_eq_false nz] at go bad
      refine br_by (fun z => ?_) (fun z => ?_)
      · have z := (bI_e _ _).mp z
        rw [if_neg (by rw [z]; simp)] at go bad
        simp (disch := omega) only [pE RP, q8 c hc', lits, iI_add, iI_sub, iI_mul, iI_neg]
        refine br_eq (b := 1) (by omega) (by omega) (fun w2 => go ?_) (fun w2 => bad ?_)
        · rw [decide_eq_true (show cr_mk P c = 1 by omega)]; rfl
        · rw [decide_eq_false (show ¬ cr_mk P c = 1 by omega)]; rfl
      · have z := mt (bI_e _ _).mpr z
        rw [if_pos (by simpa using z)] at go bad
        simp (disch := omega) only [pE RP, q8 c hc', lits, iI_add, iI_sub, iI_mul, iI_neg]
        refine br_eq (b := 2) (by omega) (by omega) (fun w2 => go ?_) (fun w2 => bad ?_)
        · rw [decide_eq_true (show cr_mk P c = 2 by omega)]; rfl
        · rw [decide_eq_false (show ¬ cr_mk P c = 2 by omega)]; rfl
theorem iI_sh1 {z : Int} (hz : iB z) : (iI z >>> ((1 : Int32) &&& 31)) &&& (1 : Int32) = iI (bI (decide (z / 2 % 2 ≠ 0))) := by
  have e : iI z >>> ((1 : Int32) &&& 31) = iI (z / 2) := by
    apply Int32.toInt_inj.mp
    rw [← Int32.toInt_toBitVec, Int32.toBitVec_shiftRight, BitVec.toInt_sshiftRight', Int32.toInt_toBitVec, iI_toInt hz.1 hz.2, iI_toInt (by omega) (by omega)]
    have e : (((1 : Int32) &&& 31).toBitVec.smod 32).toNat = 1 := by decide
    rw [e, Int.shiftRight_eq_div_pow]
    rfl
  rw [e, iI_b0]
  by_cases q : z / 2 % 2 = 0
  · rw [decide_eq_false (not_not_intro q), q]; rfl
  · rw [decide_eq_true q, show z / 2 % 2 = 1 by omega]; rfl
theorem c_lines {z : Int} (hz : iB z) (hF : F < 2 ^ 31) (hk : cr_kd P ≠ 1) (R : rY h y F A) (L : lyS A P F) (RP : rP h a VP AP) (C : cP VP AP P) (hq : Q (iI (lnB P (isRow z) (s_done P (fsO P false F) (fsO P true F) z))) h) : F_X0_linesFoldedBy y a (iI z) h Q := by
  have ok := C.1.1
  have hkd := ok.1.1
  unfold F_X0_linesFoldedBy
  rw [iI_b0, iI_sh1 hz, iI_sh2 hz]
  unfold s_done isRow at hq
  have ely : (if decide (z / 2 % 2 ≠ 0) = true then fsO P true F else fsO P false F) = fsO P (decide (z / 2 % 2 ≠ 0)) F := by cases decide (z / 2 % 2 ≠ 0) <;> rfl
  rw [ely] at hq
  generalize decide (z / 2 % 2 ≠ 0) = b at *
  have g8 := (ok.g8 b).1
  have key : ∀ un : Bool, un = decide (z % 2 ≠ 0) → B_X0_linesFoldedBy_22 y a (iI (bI b)) (iI (z / 4)) (iI (bI un)) Q h := fun un hun => by
    rw [← hun] at hq
    unfold B_X0_linesFoldedBy_22 B_X0_linesFoldedBy_57 B_X0_linesFoldedBy_63
    rw [(ylE R).1]
    have e0 : lnB P b 0 = 0 := (lnB_0 P b 0).mpr rfl
    have st : lnB P b (nu_bm (fun g => !(fsO P b F).testBit g && decide (lA (cr_ln P) (fsO P b F) (g + 1) = z / 4)) 0) = 0 := e0
    have run := c_unfolded_loop (Q := fun v2 h1 => (pq_o h1 y 0 (F_X0_isWithinOne y a (iI (bI b)) (iI (z / 4)) h1 (fun v4 h3 => (pq_br (v4 = 0) (pq_o h3 y 0 (F_X0_marksAllow y a v2 (iI (bI un)) h3 (fun v6 h5 => (pq_br (v6 = 0) (Q (0 : Int32) h5) (Q v2 h5))))) (Q (0 : Int32) h3)))))) (x := z / 4) (b := b) (by omega) hF R L RP C.1 ?_ (gaps P b) 20 0 (by omega) (by omega)
    · rw [st] at run
      exact ⟨20, run⟩
    have fl := foldsAt_lt ok b (fsO P b F) (z / 4)
    rw [(ylE R).1]
    refine ⟨20, c_within_loop (by omega) R L RP C.1 (gaps P b + 1) 20 0 (by omega) (by omega) ?_⟩
    rw [← List.range_eq_range']
    unfold s_dn at hq
    -- rows of a strip have no lines
    have strip : b = true → cr_kd P ≠ 2 → foldsAt P b (fsO P b F) (z / 4) = 0 := fun hb h2 => by
      have hr1 : cr_rw P = 1 := ok.1.2.2.2.2.1 h2
      subst hb
      unfold foldsAt
      have : gaps P true = 0 := by unfold gaps; rw [hr1]; rfl
      rw [this]; rfl
    have zr : (b && decide (cr_kd P ≠ 2)) = true → lnB P b (foldsAt P b (fsO P b F) (z / 4)) = 0 ∧ Q (iI ((0 : Nat) : Int)) h := fun q => by
      rw [if_pos q, e0] at hq
      rw [Bool.and_eq_true] at q
      exact ⟨by rw [strip q.1 (of_decide_eq_true q.2), e0], hq⟩
    cases hw : (List.range (gaps P b + 1)).any (w1 P (fsO P b F) (z / 4)) with
    | true =>
      refine br_ff (by decide) ?_
      cases q : (b && decide (cr_kd P ≠ 2)) with
      | true => exact (zr q).2
      | false =>
        rw [q, hw] at hq
        by_cases k0 : cr_kd P = 0
        · rw [decide_eq_true k0] at hq
          simp only [Bool.false_eq_true, if_false, Bool.and_self, if_true] at hq
          rw [e0] at hq
          exact hq
        · exfalso
          have hu := ok.2.2.2.2.2 (by omega)
          have : (List.range (gaps P b + 1)).any (w1 P (fsO P b F) (z / 4)) = false := by
            rw [List.any_eq_false]
            intro f _
            rw [w1_unit hu]; decide
          rw [this] at hw; cases hw
    | false =>
      refine br_tt rfl ?_
      rw [(ylE R).1]
      refine ⟨20, c_marks_loop fl.1 hk R L RP C (cr_m P) 20 0 (by omega) (by have := ok.m12; omega) ?_⟩
      rw [all_range]
      cases q : (b && decide (cr_kd P ≠ 2)) with
      | true =>
        obtain ⟨z1, z2⟩ := zr q
        rw [z1]
        exact br_by (fun _ => z2) (fun _ => z2)
      | false =>
        rw [q, hw, Bool.and_false] at hq
        simp only [Bool.false_eq_true, if_false] at hq
        cases hm : (List.range (cr_m P)).all (dM P (fsO P false F) (fsO P true F) b un (foldsAt P b (fsO P b F) (z / 4))) with
        | true =>
          rw [hm] at hq
          exact br_ff (by decide) hq
        | false =>
          rw [hm] at hq
          simp only [Bool.false_eq_true, if_false] at hq
          rw [e0] at hq
          exact br_tt rfl hq
  refine br_eq (b := 0) (by omega) (by omega) (fun w => ?_) (fun w => ?_)
  · exact key false (decide_eq_false (not_not_intro w)).symm
  · exact key true (decide_eq_true w).symm
end Y2
