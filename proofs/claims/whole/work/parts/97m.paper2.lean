/-! THE CLASS: Paper.measure -/
def cr_t4 (r c : Nat) : Bool := (List.range (cr_cs 2 r c).length).all (fun d => decide (((cr_cs 2 r c).getD d (0, 0)).1 / c = ((cr_cs 2 r c).getD d (0, 0)).2 / c) == decide (d < r * (c - 1)))
theorem cr_t4_all : ∀ r, r < 10 → ∀ c, c < 10 → (!cr_shb 2 r c || cr_t4 r c) = true := by decide +kernel
theorem cr_ok.side {P : cr_P} (H : cr_ok P) (hk : cr_kd P = 2) {d : Nat} (hd : d < cr_m P) : (cr_a P d / cr_cl P = cr_b P d / cr_cl P) ↔ d < cr_rw P * (cr_cl P - 1) := by
  obtain ⟨h3, h4⟩ := cr_small H.1
  have := cr_t4_all _ h3 _ h4
  have hs := H.1
  rw [hk] at hs
  rw [cr_shb_of hs] at this
  have : cr_t4 (cr_rw P) (cr_cl P) = true := by simpa using this
  unfold cr_t4 at this
  have hd' : d < (cr_cs 2 (cr_rw P) (cr_cl P)).length := by have := hd; unfold cr_m cr_L at this; rw [hk] at this; exact this
  have := List.all_eq_true.mp this d (List.mem_range.mpr hd')
  rw [beq_iff_eq] at this
  unfold cr_a cr_b cr_L
  rw [hk]
  constructor
  · intro e; rw [decide_eq_true e] at this; exact of_decide_eq_true this.symm
  · intro e; rw [decide_eq_true e] at this; exact of_decide_eq_true this
theorem cB.au {V : Nat → Int} {A : Nat → Int → Int} {P : cr_P} {j : Nat} {i x : Int} (B : cB V A P) (hj : j = 4 ∨ j = 8 ∨ j = 9 ∨ j = 10 ∨ j = 11) : cB V (au A j i x) P := by
  unfold cB at B ⊢
  rw [au_nk (by omega), au_nk (by omega), au_nk (by omega), au_nk (by omega), au_nk (by omega), au_nk (by omega), au_nk (by omega)]
  exact B
section C2
variable {h : pz_H} {a : Nat} {V : Nat → Int} {A : Nat → Int → Int} {P : cr_P} {Q : Int32 → pz_H → Prop} {K : pz_H → Prop}
theorem c_sideOf {c : Nat} (R : rP h a V A) (B : cB V A P) (hk : cr_kd P = 2) (hc : c < cr_m P) (hq : Q (iI (cr_pl P c)) h) : F_X1_sideOf a (iI c) h Q := by
  obtain ⟨ok, -, -, -, -, -, q1, q2, -, q5, q6, -⟩ := id B
  have hm := ok.m12
  have hn := ok.n9
  obtain ⟨a1, a2, -⟩ := ok.ab hc
  have l1 : cr_a P c / cr_cl P ≤ cr_a P c := Nat.div_le_self _ _
  have l2 : cr_b P c / cr_cl P ≤ cr_b P c := Nat.div_le_self _ _
  have l3 : cr_a P c % cr_cl P ≤ cr_a P c := Nat.mod_le _ _
  have sd := ok.side hk hc
  have p1 := Int.natCast_nonneg (cr_a P c / cr_cl P)
  have p2 := Int.natCast_nonneg (cr_b P c / cr_cl P)
  have p3 := Int.natCast_nonneg (cr_a P c % cr_cl P)
  unfold F_X1_sideOf B_X1_sideOf_32 B_X1_sideOf_58
  unfold cr_pl at hq
  rw [if_pos hk] at hq
  have e1 : iI ((cr_a P c % cr_cl P : Nat) : Int) - iI ((cr_a P c % cr_cl P : Nat) : Int) / iI 2 * iI 2 = iI ((cr_a P c % cr_cl P % 2 : Nat) : Int) := m_rem2 (by omega)
  have e2 : iI ((cr_a P c / cr_cl P : Nat) : Int) - iI ((cr_a P c / cr_cl P : Nat) : Int) / iI 2 * iI 2 = iI ((cr_a P c / cr_cl P % 2 : Nat) : Int) := m_rem2 (by omega)
  simp (disch := omega) only [pE R, q5 c hc, q6 c hc, q1 _ a1, q1 _ a2, q2 _ a1, lits, iI_add, iI_sub, iI_mul, iI_neg]
  refine br_eq (by omega) (by omega) (fun w => ?_) (fun w => ?_)
  · rw [if_pos (sd.mp (by omega))] at hq
    refine br_ff (by decide) ⟨by decide, ?_⟩
    rw [e1]
    exact hq
  · rw [if_neg (fun z => w (by have := sd.mpr z; omega))] at hq
    rw [ebr_T]
    refine ⟨by decide, ?_⟩
    rw [e2, iI_add]
    exact hq
theorem c_facesOver_loop {c : Nat} (R : rP h a V A) (B : cB V A P) (hk : cr_kd P ≠ 2) (hc : c < cr_m P) (q4 : ∀ f : Nat, f ≤ cr_n P → A 4 f = cr_e (cr_ln P) f) (q9 : A 9 c = cr_pl P c) (hq : Q (iI (cr_thr P c)) h) : ∀ k u f : Nat, f + k = cr_n P → k < u → L_X1_facesOver_4 a (iI c) Q u (iI (nu_bm (cr_t3 P c) f)) (iI f) h := by
  intro k
  obtain ⟨ok, -, -, -, k3, -, -, -, -, q5, q6, -⟩ := id B
  have hm := ok.m12
  have hn := ok.n9
  have hpl := ok.plB hc
  obtain ⟨a1, a2, -⟩ := ok.ab hc
  induction k with
  | zero =>
    intro u f hf hu
    obtain ⟨u, rfl⟩ : ∃ v, u = v + 1 := ⟨u - 1, by omega⟩
    unfold L_X1_facesOver_4
    simp (disch := omega) only [pE R, k3, ebr_le, lits, iI_add, iI_sub, iI_mul, iI_neg]
    rw [if_pos (by omega), show f = cr_n P by omega]
    exact hq
  | succ k ih =>
    intro u f hf hu
    obtain ⟨u, rfl⟩ : ∃ v, u = v + 1 := ⟨u - 1, by omega⟩
    have h1 := ih u (f + 1) (by omega) (by omega)
    rw [nu_bm] at h1
    have q4a := q4 f (by omega)
    have q4b := q4 (f + 1) (by omega)
    have eb1 := ok.eB (f := f) (by omega)
    have eb2 := ok.eB (f := f + 1) (by omega)
    have no : cr_t3 P c f = false → L_X1_facesOver_4 a (iI c) Q u (iI (nu_bm (cr_t3 P c) f)) (iI ((f + 1 : Nat) : Int)) h := fun e => by
      rw [e] at h1
      simpa using h1
    unfold cr_t3 at no
    unfold L_X1_facesOver_4 B_X1_facesOver_36 B_X1_facesOver_37 B_X1_facesOver_76
    rw [iI_shl (by omega)]
    simp (disch := omega) only [pE R, k3, ebr_le, q5 c hc, q6 c hc, q4a, q4b, q9, iI_s, ebr_eq, ebr_T, lits, iI_add, iI_sub, iI_mul, iI_neg]
    rw [if_neg (by omega)]
    by_cases w1 : f = cr_a P c
    · rw [if_pos (by omega)]
      exact no (by rw [decide_eq_false (not_not_intro w1)]; rfl)
    rw [if_neg (by omega)]
    by_cases w2 : f = cr_b P c
    · rw [if_pos (by omega)]
      exact no (by rw [decide_eq_false (not_not_intro w2)]; simp)
    rw [if_neg (by omega)]
    refine c_isBetween (by omega) (by omega) (by omega) ?_
    have et : cr_t3 P c f = (decide (min (cr_e (cr_ln P) f) (cr_e (cr_ln P) (f + 1)) < cr_pl P c) && decide (cr_pl P c < max (cr_e (cr_ln P) f) (cr_e (cr_ln P) (f + 1)))) := by
      unfold cr_t3 cr_wi
      rw [decide_eq_true w1, decide_eq_true w2, decide_eq_true hk]
      simp
    rw [← et]
    cases e : cr_t3 P c f with
    | false => exact br_tt rfl (by rw [e] at h1; simpa using h1)
    | true =>
      rw [e] at h1
      refine br_ff (by decide) ?_
      rw [iI_or]
      exact h1
theorem c_facesOver {c : Nat} (R : rP h a V A) (B : cB V A P) (hk : cr_kd P ≠ 2) (hc : c < cr_m P) (q4 : ∀ f : Nat, f ≤ cr_n P → A 4 f = cr_e (cr_ln P) f) (q9 : A 9 c = cr_pl P c) (hq : Q (iI (cr_thr P c)) h) : F_X1_facesOver a (iI c) h Q := ⟨20, c_facesOver_loop R B hk hc q4 q9 hq (cr_n P) 20 0 (by omega) (by have := B.1.n9; omega)⟩
theorem c_onOneSide {c d : Nat} (R : rP h a V A) (B : cB V A P) (hc : c < cr_m P) (hd : d < cr_m P) (hq : Q (iI (bI (decide (cr_kd P = 2) || decide (cr_a P c % 2 = cr_a P d % 2)))) h) : F_X1_onOneSide a (iI c) (iI d) h Q := by
  obtain ⟨ok, k0, -, -, -, -, -, -, -, q5, q6, -⟩ := id B
  have hm := ok.m12
  have hkd := ok.1.1
  obtain ⟨a1, a2, -⟩ := ok.ab hc
  obtain ⟨b1, b2, -⟩ := ok.ab hd
  unfold F_X1_onOneSide B_X1_onOneSide_31 B_X1_onOneSide_36
  simp (disch := omega) only [pE R, k0, q5 c hc, q5 d hd, lits, iI_add, iI_sub, iI_mul, iI_neg]
  refine br_eq (b := 2) (by omega) (by omega) (fun w => rg_z (Or.inr rfl) ?_) (fun w => ?_)
  · rw [decide_eq_true (show cr_kd P = 2 by omega)] at hq; exact hq
  · rw [decide_eq_false (show ¬ cr_kd P = 2 by omega), Bool.false_or] at hq
    refine c_isFrontUp R B a1 ?_
    simp (disch := omega) only [pE R, q5 d hd, lits, iI_add, iI_sub, iI_mul, iI_neg]
    refine c_isFrontUp R B b1 ?_
    have u1 : cr_up P (cr_a P c) = decide (cr_a P c % 2 = 0) := by unfold cr_up; rw [if_neg (by omega)]
    have u2 : cr_up P (cr_a P d) = decide (cr_a P d % 2 = 0) := by unfold cr_up; rw [if_neg (by omega)]
    rw [u1, u2]
    refine br_by (fun z => rg_z (Or.inr rfl) ?_) (fun z => rg_z (Or.inl rfl) ?_)
    · have z := (bI_e _ _).mp z
      rw [decide_eq_true (by
        by_cases w1 : cr_a P c % 2 = 0
        · rw [decide_eq_true w1] at z; have := of_decide_eq_true z.symm; omega
        · rw [decide_eq_false w1] at z; have := of_decide_eq_false z.symm; omega)] at hq
      exact hq
    · have z := mt (bI_e _ _).mpr z
      rw [decide_eq_false (fun e => z (by rw [e]))] at hq
      exact hq
theorem c_haveFour {c d : Nat} (R : rP h a V A) (B : cB V A P) (hc : c < cr_m P) (hd : d < cr_m P) (hq : Q (iI (bI (cr_fo P c d))) h) : F_X1_haveFourFaces a (iI c) (iI d) h Q := by
  obtain ⟨ok, k0, -, -, -, -, -, -, -, q5, q6, -⟩ := id B
  have hm := ok.m12
  have hn := ok.n9
  obtain ⟨a1, a2, -⟩ := ok.ab hc
  obtain ⟨b1, b2, -⟩ := ok.ab hd
  unfold F_X1_haveFourFaces B_X1_haveFourFaces_34 B_X1_haveFourFaces_35 B_X1_haveFourFaces_74 B_X1_haveFourFaces_75
  unfold cr_fo at hq
  simp (disch := omega) only [pE R, q5 c hc, q5 d hd, q6 c hc, q6 d hd, ebr_T, lits, iI_add, iI_sub, iI_mul, iI_neg]
  have one : (iI 1 = iI 0) = False := by simp only [eq_iff_iff, iff_false]; decide
  have N : ∀ {x y : Nat}, ¬ (x : Int) = (y : Int) → x ≠ y := fun h e => h (by rw [e])
  refine br_eq (by omega) (by omega) (fun w1 => rg_z (Or.inl rfl) ?_) (fun w1 => ?_)
  · rw [decide_eq_false (show ¬ cr_a P c ≠ cr_a P d by omega)] at hq; exact hq
  rw [decide_eq_true (N w1), Bool.true_and] at hq
  refine br_eq (by omega) (by omega) (fun w2 => rg_z (Or.inl rfl) ?_) (fun w2 => br_ff (by decide) ?_)
  · rw [decide_eq_false (show ¬ cr_a P c ≠ cr_b P d by omega)] at hq; exact hq
  rw [decide_eq_true (N w2), Bool.true_and] at hq
  refine br_eq (by omega) (by omega) (fun w3 => rg_z (Or.inl rfl) ?_) (fun w3 => ?_)
  · rw [decide_eq_false (show ¬ cr_b P c ≠ cr_a P d by omega)] at hq; exact hq
  rw [decide_eq_true (N w3), Bool.true_and] at hq
  refine br_eq (by omega) (by omega) (fun w4 => rg_z (Or.inl rfl) ?_) (fun w4 => rg_z (Or.inr rfl) ?_)
  · rw [decide_eq_false (show ¬ cr_b P c ≠ cr_b P d by omega)] at hq; exact hq
  · rw [decide_eq_true (N w4)] at hq; exact hq
theorem c_rivalsOf_loop {c : Nat} (R : rP h a V A) (B : cB V A P) (hc : c < cr_m P) (q9 : ∀ c : Nat, c < cr_m P → A 9 c = cr_pl P c) (hq : Q (iI (cr_acr P c)) h) : ∀ k u d : Nat, d + k = cr_m P → k < u → L_X1_rivalsOf_4 a (iI c) Q u (iI (nu_bm (fun d => decide (d ≠ c) && (cr_os P d c && cr_fo P d c)) d)) (iI d) h := by
  intro k
  obtain ⟨ok, -, -, -, -, k4, -, -, -, q5, q6, -⟩ := id B
  have hm := ok.m12
  have hpl := ok.plB hc
  induction k with
  | zero =>
    intro u d hd hu
    obtain ⟨u, rfl⟩ : ∃ v, u = v + 1 := ⟨u - 1, by omega⟩
    unfold L_X1_rivalsOf_4
    simp (disch := omega) only [pE R, k4, ebr_le, lits, iI_add, iI_sub, iI_mul, iI_neg]
    rw [if_pos (by omega), show d = cr_m P by omega]
    exact hq
  | succ k ih =>
    intro u d hd hu
    obtain ⟨u, rfl⟩ : ∃ v, u = v + 1 := ⟨u - 1, by omega⟩
    have hd' : d < cr_m P := by omega
    have h1 := ih u (d + 1) (by omega) (by omega)
    rw [nu_bm] at h1
    have hpd := ok.plB hd'
    have no : (decide (d ≠ c) && (cr_os P d c && cr_fo P d c)) = false → L_X1_rivalsOf_4 a (iI c) Q u (iI (nu_bm (fun d => decide (d ≠ c) && (cr_os P d c && cr_fo P d c)) d)) (iI ((d + 1 : Nat) : Int)) h := fun e => by
      rw [e] at h1
      simpa using h1
    unfold L_X1_rivalsOf_4 B_X1_rivalsOf_56
    rw [iI_shl (by omega)]
    simp (disch := omega) only [pE R, k4, ebr_le, iI_s, ebr_eq, q9 d hd', q9 c hc, lits, iI_add, iI_sub, iI_mul, iI_neg]
    rw [if_neg (by omega)]
    by_cases w1 : d = c
    · rw [if_pos (by omega)]
      exact no (by rw [decide_eq_false (not_not_intro w1)]; rfl)
    rw [if_neg (by omega)]
    by_cases w2 : cr_pl P d = cr_pl P c
    · rw [if_pos w2]
      refine c_onOneSide R B hd' hc ?_
      have eo : cr_os P d c = (decide (cr_kd P = 2) || decide (cr_a P d % 2 = cr_a P c % 2)) := by unfold cr_os; rw [decide_eq_true w2, Bool.true_and]
      rw [← eo]
      cases e1 : cr_os P d c with
      | false => exact br_tt rfl (no (by rw [e1]; simp))
      | true =>
        refine br_ff (by decide) ?_
        rw [(pE R).1]
        refine c_haveFour R B hd' hc ?_
        cases e2 : cr_fo P d c with
        | false => exact br_tt rfl (no (by rw [e2]; simp))
        | true =>
          refine br_ff (by decide) ?_
          rw [e1, e2, decide_eq_true w1] at h1
          rw [iI_or]
          exact h1
    · rw [if_neg w2]
      exact no (by unfold cr_os; rw [decide_eq_false w2]; simp)
theorem c_rivalsOf {c : Nat} (R : rP h a V A) (B : cB V A P) (hc : c < cr_m P) (q9 : ∀ c : Nat, c < cr_m P → A 9 c = cr_pl P c) (hq : Q (iI (cr_acr P c)) h) : F_X1_rivalsOf a (iI c) h Q := ⟨20, c_rivalsOf_loop R B hc q9 hq (cr_m P) 20 0 (by omega) (by have := B.1.m12; omega)⟩
/-- measure's arrays may differ -/
def dE (A A' : Nat → Int → Int) : Prop := ∀ j, j ≠ 4 → j ≠ 9 → j ≠ 10 → j ≠ 11 → A' j = A j
theorem c_meas108 : ∀ (k u c : Nat) (h : pz_H) (A : Nat → Int → Int), c + k = cr_m P → k < u → rP h a V A → cB V A P → (cr_kd P ≠ 2 → ∀ f : Nat, f ≤ cr_n P → A 4 f = cr_e (cr_ln P) f) → A 4 0 = 0 → (∀ c : Nat, c < cr_m P → A 9 c = cr_pl P c) → (∀ d : Nat, d < c → A 10 d = cr_thr P d) → (∀ d : Nat, d < c → A 11 d = cr_acr P d) →
    (∀ h' A', rP h' a V A' → cB V A' P → cD A' P → dE A A' → Fr a (a + 13) h h' → K h') → L_X1_measure_108 a K u (iI c) h := by
  intro k
  induction k with
  | zero =>
    intro u c h A hc hu R B q4 q0 q9 q10 q11 hq
    have hm := B.1.m12
    have k4 := B.2.2.2.2.2.1
    obtain ⟨u, rfl⟩ : ∃ v, u = v + 1 := ⟨u - 1, by omega⟩
    unfold L_X1_measure_108
    simp (disch := omega) only [pE R, k4, ebr_le, lits, iI_add, iI_sub, iI_mul, iI_neg]
    rw [if_pos (by omega)]
    exact hq h A R B ⟨q4, q0, q9, fun d hd => q10 d (by omega), fun d hd => q11 d (by omega)⟩ (fun _ _ _ _ _ => rfl) Fr.rf
  | succ k ih =>
    intro u c h A hc hu R B q4 q0 q9 q10 q11 hq
    have ok := B.1
    have hm := ok.m12
    have hkd := ok.1.1
    have k0 := B.2.1
    have k4 := B.2.2.2.2.2.1
    have hc' : c < cr_m P := by omega
    obtain ⟨u, rfl⟩ : ∃ v, u = v + 1 := ⟨u - 1, by omega⟩
    have fin : B_X1_measure_138 a (iI c) (a + 10) (iI c) (iI (cr_thr P c)) (fun z0 hz => L_X1_measure_108 a K u z0 hz) K h := by
      unfold B_X1_measure_138
      refine rg_sI R (by decide) (by decide) rfl (by decide) ⟨by omega, by simp only [lP]; omega⟩ fun h1 R1 f1 => ?_
      have B1 := B.au (j := 10) (i := (c : Int)) (x := (cr_thr P c : Int)) (by decide)
      simp (disch := omega) only [pE R1, iI_s, lits, iI_add, iI_sub, iI_mul, iI_neg]
      refine c_rivalsOf R1 B1 hc' (fun d hd => by rw [au_nk (by decide)]; exact q9 d hd) ?_
      refine rg_sI R1 (by decide) (by decide) rfl (by decide) ⟨by omega, by simp only [lP]; omega⟩ fun h2 R2 f2 => ?_
      refine ih u (c + 1) h2 _ (by omega) (by omega) R2 (B1.au (by decide)) (fun hk f hf => ?_) ?_ (fun d hd => ?_) (fun d hd => ?_) (fun d hd => ?_) (fun h' A' a1 a2 a3 a4 a5 => hq h' A' a1 a2 a3 (fun j b1 b2 b3 b4 => ?_) (f1.tr (f2.tr a5)))
      · rw [au_nk (by decide), au_nk (by decide)]; exact q4 hk f hf
      · rw [au_nk (by decide), au_nk (by decide)]; exact q0
      · rw [au_nk (by decide), au_nk (by decide)]; exact q9 d hd
      · rw [au_nk (by decide)]
        by_cases e : d = c
        · subst e; exact au_at
        · rw [au_ne (by omega)]; exact q10 d (by omega)
      · by_cases e : d = c
        · subst e; exact au_at
        · rw [au_ne (by omega), au_nk (by decide)]; exact q11 d (by omega)
      · rw [a4 j b1 b2 b3 b4, au_nk b4, au_nk b3]
    unfold L_X1_measure_108
    simp (disch := omega) only [pE R, k4, k0, ebr_le, ebr_eq, lits, iI_add, iI_sub, iI_mul, iI_neg]
    rw [if_neg (by omega)]
    by_cases w : cr_kd P = 2
    · rw [if_pos (by omega)]
      have e0 : cr_thr P c = 0 := by
        unfold cr_thr
        have : ∀ n, nu_bm (cr_t3 P c) n = 0 := by
          intro n
          induction n with
          | zero => rfl
          | succ n ih =>
            rw [nu_bm, ih]
            have : cr_t3 P c n = false := by unfold cr_t3 cr_wi; rw [decide_eq_false (not_not_intro w)]; simp
            rw [this]; simp
        exact this _
      rw [e0] at fin
      exact fin
    · rw [if_neg (by omega)]
      exact c_facesOver R B w hc' (q4 w) (q9 c hc') fin
theorem c_meas57 : ∀ (k u c : Nat) (h : pz_H) (A : Nat → Int → Int), c + k = cr_m P → k < u → rP h a V A → cB V A P → (cr_kd P ≠ 2 → ∀ f : Nat, f ≤ cr_n P → A 4 f = cr_e (cr_ln P) f) → A 4 0 = 0 → (∀ d : Nat, d < c → A 9 d = cr_pl P d) →
    (∀ h' A', rP h' a V A' → cB V A' P → cD A' P → dE A A' → Fr a (a + 13) h h' → K h') → L_X1_measure_57 a K u (iI c) h := by
  intro k
  induction k with
  | zero =>
    intro u c h A hc hu R B q4 q0 q9 hq
    have hm := B.1.m12
    have k4 := B.2.2.2.2.2.1
    obtain ⟨u, rfl⟩ : ∃ v, u = v + 1 := ⟨u - 1, by omega⟩
    unfold L_X1_measure_57
    simp (disch := omega) only [pE R, k4, ebr_le, lits, iI_add, iI_sub, iI_mul, iI_neg]
    rw [if_pos (by omega)]
    exact ⟨20, c_meas108 (cr_m P) 20 0 h A (by omega) (by omega) R B q4 q0 (fun d hd => q9 d (by omega)) (fun d hd => by omega) (fun d hd => by omega) hq⟩
  | succ k ih =>
    intro u c h A hc hu R B q4 q0 q9 hq
    have ok := B.1
    have hm := ok.m12
    have hn := ok.n9
    have hkd := ok.1.1
    obtain ⟨-, k0, -, -, -, k4, -, -, -, q5, -⟩ := id B
    have hc' : c < cr_m P := by omega
    have a1 := (ok.ab hc').1
    obtain ⟨u, rfl⟩ : ∃ v, u = v + 1 := ⟨u - 1, by omega⟩
    have fin : B_X1_measure_99 a (iI c) (a + 9) (iI c) (iI (cr_pl P c)) (fun z0 hz => L_X1_measure_57 a K u z0 hz) K h := by
      unfold B_X1_measure_99
      refine rg_sI R (by decide) (by decide) rfl (by decide) ⟨by omega, by simp only [lP]; omega⟩ fun h1 R1 f1 => ?_
      have ec : iI (c : Int) + (1 : Int32) = iI ((c + 1 : Nat) : Int) := by rw [iI_1, iI_add]; rfl
      rw [ec]
      refine ih u (c + 1) h1 _ (by omega) (by omega) R1 (B.au (by decide)) (fun hk f hf => ?_) ?_ (fun d hd => ?_) (fun h' A' a1 a2 a3 a4 a5 => hq h' A' a1 a2 a3 (fun j b1 b2 b3 b4 => ?_) (f1.tr a5))
      · rw [au_nk (by decide)]; exact q4 hk f hf
      · rw [au_nk (by decide)]; exact q0
      · by_cases e : d = c
        · subst e; exact au_at
        · rw [au_ne (by omega)]; exact q9 d (by omega)
      · rw [a4 j b1 b2 b3 b4, au_nk b2]
    unfold L_X1_measure_57
    simp (disch := omega) only [pE R, k4, k0, ebr_le, ebr_eq, q5 c hc', lits, iI_add, iI_sub, iI_mul, iI_neg]
    rw [if_neg (by omega)]
    by_cases w : cr_kd P = 2
    · rw [if_pos (by omega)]
      exact c_sideOf R B w hc' fin
    · rw [if_neg (by omega)]
      have e4 := q4 w (cr_a P c + 1) (by omega)
      rw [show ((cr_a P c + 1 : Nat) : Int) = (cr_a P c : Int) + 1 from rfl] at e4
      simp (disch := omega) only [pE R, e4, lits, iI_add, iI_sub, iI_mul, iI_neg]
      have ep : cr_pl P c = cr_e (cr_ln P) (cr_a P c + 1) := by unfold cr_pl; rw [if_neg w]
      rw [ep] at fin
      exact fin
theorem c_meas2 : ∀ (k u f : Nat) (h : pz_H) (A : Nat → Int → Int), f + k = cr_n P → k < u → rP h a V A → cB V A P → (cr_kd P ≠ 2 → ∀ q : Nat, q ≤ f → A 4 q = cr_e (cr_ln P) q) → A 4 0 = 0 →
    (∀ h' A', rP h' a V A' → cB V A' P → cD A' P → dE A A' → Fr a (a + 13) h h' → K h') → L_X1_measure_2 a K u (iI f) h := by
  intro k
  induction k with
  | zero =>
    intro u f h A hf hu R B q4 q0 hq
    have hm := B.1.m12
    have hn := B.1.n9
    have k3 := B.2.2.2.2.1
    obtain ⟨u, rfl⟩ : ∃ v, u = v + 1 := ⟨u - 1, by omega⟩
    unfold L_X1_measure_2
    simp (disch := omega) only [pE R, k3, ebr_le, lits, iI_add, iI_sub, iI_mul, iI_neg]
    rw [if_pos (by omega)]
    exact ⟨20, c_meas57 (cr_m P) 20 0 h A (by omega) (by omega) R B (fun hk q hq => q4 hk q (by omega)) q0 (fun d hd => by omega) hq⟩
  | succ k ih =>
    intro u f h A hf hu R B q4 q0 hq
    have ok := B.1
    have hn := ok.n9
    obtain ⟨-, k0, -, -, k3, k4, -, -, q3, q5, -⟩ := id B
    have hf' : f < cr_n P := by omega
    obtain ⟨u, rfl⟩ : ∃ v, u = v + 1 := ⟨u - 1, by omega⟩
    have fin : ∀ x : Int, x = (if cr_up P f then (cr_ln P f : Int) else -(cr_ln P f : Int)) → B_X1_measure_47 a (iI f) (a + 4) (iI ((f : Int) + 1)) (iI (A 4 f)) (iI x) (fun z0 hz => L_X1_measure_2 a K u z0 hz) K h := fun x hx => by
      unfold B_X1_measure_47
      rw [iI_add]
      refine rg_sI R (by decide) (by decide) rfl (by decide) ⟨by omega, by simp only [lP]; omega⟩ fun h1 R1 f1 => ?_
      have ec : iI (f : Int) + (1 : Int32) = iI ((f + 1 : Nat) : Int) := by rw [iI_1, iI_add]; rfl
      rw [ec]
      refine ih u (f + 1) h1 _ (by omega) (by omega) R1 (B.au (by decide)) (fun hk q hq => ?_) ?_ (fun h' A' a1 a2 a3 a4 a5 => hq h' A' a1 a2 a3 (fun j b1 b2 b3 b4 => ?_) (f1.tr a5))
      · by_cases e : q = f + 1
        · subst e
          rw [show ((f + 1 : Nat) : Int) = (f : Int) + 1 from rfl, au_at, q4 hk f (Nat.le_refl _), hx, cr_e]
          unfold cr_up
          rw [if_neg hk]
          by_cases w : f % 2 = 0
          · rw [decide_eq_true w, if_pos rfl, if_pos w]
          · rw [decide_eq_false w, if_neg (by decide), if_neg w]
        · rw [au_ne (by omega)]; exact q4 hk q (by omega)
      · rw [au_ne (by omega)]; exact q0
      · rw [a4 j b1 b2 b3 b4, au_nk b1]
    unfold L_X1_measure_2
    simp (disch := omega) only [pE R, k3, ebr_le, lits, iI_add, iI_sub, iI_mul, iI_neg]
    rw [if_neg (by omega)]
    refine c_isFrontUp R B hf' ?_
    simp (disch := omega) only [pE R, q3 f (by omega), lits, iI_add, iI_sub, iI_mul, iI_neg]
    cases e : cr_up P f with
    | false =>
      rw [e] at fin
      exact br_tt rfl (fin _ rfl)
    | true =>
      rw [e] at fin
      exact br_ff (by decide) (fin _ rfl)
theorem c_measure (R : rP h a V A) (B : cB V A P) (q0 : A 4 0 = 0) (hq : ∀ h' A', rP h' a V A' → cB V A' P → cD A' P → dE A A' → Fr a (a + 13) h h' → K h') : F_X1_measure a h K := ⟨20, c_meas2 (cr_n P) 20 0 h A (by omega) (by have := B.1.n9; omega) R B (fun hk q hq => by
  have : q = 0 := by omega
  subst this
  exact q0) q0 hq⟩
end C2
