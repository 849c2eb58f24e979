/-! THE CLASS: what a Paper holds, and what it answers -/
def cr_lin (P : cr_P) (c : Nat) : Nat := if cr_iR P c then cr_cl P - 1 + cr_a P c / cr_cl P else cr_a P c % cr_cl P
def cr_thr (P : cr_P) (c : Nat) : Nat := nu_bm (cr_t3 P c) (cr_n P)
def cr_acr (P : cr_P) (c : Nat) : Nat := nu_bm (fun d => decide (d ≠ c) && (cr_os P d c && cr_fo P d c)) (cr_m P)
def cr_tch (P : cr_P) (f : Nat) : Nat := nu_bm (fun c => decide (cr_a P c = f) || decide (cr_b P c = f)) (cr_m P)
def cr_F (P : cr_P) : Nat := cr_gp P + cr_rg P * 2 ^ gaps P false
def cB (V : Nat → Int) (A : Nat → Int → Int) (P : cr_P) : Prop := cr_ok P ∧ V 0 = cr_kd P ∧ V 1 = cr_rw P ∧ V 2 = cr_cl P ∧ V 3 = cr_n P ∧ V 4 = cr_m P ∧ (∀ f : Nat, f < cr_n P → A 1 f = (f / cr_cl P : Nat)) ∧ (∀ f : Nat, f < cr_n P → A 2 f = (f % cr_cl P : Nat)) ∧ (∀ f : Nat, f < 9 → A 3 f = cr_ln P f) ∧ (∀ c : Nat, c < cr_m P → A 5 c = cr_a P c) ∧ (∀ c : Nat, c < cr_m P → A 6 c = cr_b P c) ∧ (∀ c : Nat, c < cr_m P → A 7 c = cr_lin P c) ∧ (∀ f : Nat, f < cr_n P → A 12 f = cr_tch P f)
def cD (A : Nat → Int → Int) (P : cr_P) : Prop := (cr_kd P ≠ 2 → ∀ f : Nat, f ≤ cr_n P → A 4 f = cr_e (cr_ln P) f) ∧ A 4 0 = 0 ∧ (∀ c : Nat, c < cr_m P → A 9 c = cr_pl P c) ∧ (∀ c : Nat, c < cr_m P → A 10 c = cr_thr P c) ∧ (∀ c : Nat, c < cr_m P → A 11 c = cr_acr P c)
def cK (V : Nat → Int) (A : Nat → Int → Int) (P : cr_P) : Prop := (∀ c : Nat, c < cr_m P → A 8 c = cr_mk P c) ∧ V 17 = cr_F P
def cP (V : Nat → Int) (A : Nat → Int → Int) (P : cr_P) : Prop := cB V A P ∧ cD A P ∧ cK V A P
/-- an array of ints -/
def ar (h : pz_H) (b n : Nat) (f : Int → Int) : Prop := h.1 b = some (rg_c 0 n f)
theorem ar_e {h : pz_H} {b n : Nat} {f : Int → Int} (R : ar h b n f) (hn : n ≤ 65536) (z : Int) (K : Int32 → Prop) (z1 : 0 ≤ z) (z2 : z < n) : pq_aI h b (iI z) K = K (iI (f z)) := by
  obtain ⟨i, rfl⟩ : ∃ i : Nat, z = i := ⟨z.toNat, by omega⟩
  refine propext ⟨fun ⟨l, g, e1, e2, k⟩ => ?_, fun k => ⟨n, _, R, iI_in (by omega) (by omega), by rw [iI_clamp (by omega)]; exact k⟩⟩
  rw [R, rg_c] at e1
  cases e1
  rw [iI_clamp (by omega)] at k
  exact k
theorem rg_ar {ci n : Nat} {F : Nat → (Nat → Int) → List Value} {tg ln : Nat → Nat} {h : pz_H} {a : Nat} {V : Nat → Int} {A : Nat → Int → Int} (R : rg ci F n tg ln h a V A) {j : Nat} (h1 : 1 ≤ j) (h2 : j ≤ n) (ht : tg j = 0) : ar h (a + j) (ln j) (A j) := by
  unfold ar; rw [R.2 j h1 h2, ht]
theorem cr_ok.up {P : cr_P} (ok : cr_ok P) {f : Nat} (hf : f < cr_n P) : cr_up P f = decide ((f / cr_cl P + f % cr_cl P) % 2 = 0) := by
  unfold cr_up
  by_cases e : cr_kd P = 2
  · rw [if_pos e]
  · rw [if_neg e]
    have hr1 : cr_rw P = 1 := ok.1.2.2.2.2.1 e
    have hn1 : cr_n P = cr_cl P := by unfold cr_n; rw [hr1, Nat.one_mul]
    rw [Nat.div_eq_of_lt (show f < cr_cl P by omega), Nat.mod_eq_of_lt (show f < cr_cl P by omega), Nat.zero_add]
theorem mn_e {a b : Int} (ha : iB a) (hb : iB b) : (if iI b < iI a then iI b else iI a) = iI (min a b) := by
  by_cases c : b < a
  · rw [if_pos ((iI_lt hb.1 hb.2 ha.1 ha.2).mpr c), Int.min_eq_right (by omega)]
  · rw [if_neg (mt (iI_lt hb.1 hb.2 ha.1 ha.2).mp c), Int.min_eq_left (by omega)]
theorem mx_e {a b : Int} (ha : iB a) (hb : iB b) : (if iI a < iI b then iI b else iI a) = iI (max a b) := by
  by_cases c : a < b
  · rw [if_pos ((iI_lt ha.1 ha.2 hb.1 hb.2).mpr c), Int.max_eq_right (by omega)]
  · rw [if_neg (mt (iI_lt ha.1 ha.2 hb.1 hb.2).mp c), Int.max_eq_left (by omega)]
section C1
variable {h : pz_H} {a : Nat} {V : Nat → Int} {A : Nat → Int → Int} {P : cr_P} {Q : Int32 → pz_H → Prop} {HH : Nat → Int} {g : Int → Int} {b : Nat}
theorem c_has {s i : Nat} (hs : s < 2 ^ 31) (hi : i < 32) (hq : Q (iI (bI (s.testBit i))) h) : F_X4_has (iI s) (iI i) h Q := by
  unfold F_X4_has B_X4_has_13
  rw [iI_bit hs hi]
  cases e : s.testBit i <;> rw [e] at hq
  · exact br_tt rfl (rg_z (Or.inl rfl) hq)
  · exact br_ff (by decide) (rg_z (Or.inr rfl) hq)
theorem c_isBetween {x y z : Int} (hx : iB x) (hy : iB y) (hz : iB z) (hq : Q (iI (bI (decide (min y z < x) && decide (x < max y z)))) h) : F_X1_isBetween (iI x) (iI y) (iI z) h Q := by
  unfold F_X1_isBetween B_X1_isBetween_22 B_X1_isBetween_23
  rw [mn_e hy hz, mx_e hy hz]
  refine br_le hx (by omega) (fun c => rg_z (Or.inl rfl) ?_) (fun c => br_le (by omega) hx (fun c2 => rg_z (Or.inl rfl) ?_) (fun c2 => rg_z (Or.inr rfl) ?_))
  · rw [decide_eq_false (by omega)] at hq; exact hq
  · rw [decide_eq_false (show ¬ x < max y z by omega), Bool.and_false] at hq; exact hq
  · rw [decide_eq_true c, decide_eq_true c2] at hq; exact hq
theorem c_isFrontUp {f : Nat} (R : rP h a V A) (B : cB V A P) (hf : f < cr_n P) (hq : Q (iI (bI (cr_up P f))) h) : F_X1_isFrontUp a (iI f) h Q := by
  obtain ⟨ok, -, -, -, -, -, q1, q2, -⟩ := B
  have hn := ok.n9
  unfold F_X1_isFrontUp B_X1_isFrontUp_23
  simp (disch := omega) only [pE R, q1 f hf, q2 f hf, lits, iI_add, iI_sub, iI_mul, iI_neg]
  refine ⟨by decide, ?_⟩
  have hlt : f / cr_cl P ≤ f := Nat.div_le_self _ _
  have hmo : f % cr_cl P ≤ f := Nat.mod_le _ _
  have e : iI (((f / cr_cl P : Nat) : Int) + ((f % cr_cl P : Nat) : Int)) - iI (((f / cr_cl P : Nat) : Int) + ((f % cr_cl P : Nat) : Int)) / iI 2 * iI 2 = iI (((f / cr_cl P + f % cr_cl P) % 2 : Nat) : Int) := m_rem2 (a := f / cr_cl P + f % cr_cl P) (by omega)
  rw [e, ok.up hf] at *
  refine br_eq (b := 0) (by omega) (by omega) (fun c => rg_z (Or.inr rfl) ?_) (fun c => rg_z (Or.inl rfl) ?_)
  · rw [decide_eq_true (by omega)] at hq; exact hq
  · rw [decide_eq_false (by omega)] at hq; exact hq
theorem c_hasFace {f : Int} (R : rP h a V A) (B : cB V A P) (hf : iB f) (hq : Q (iI (bI (decide (0 ≤ f ∧ f < cr_n P)))) h) : F_X1_hasFace a (iI f) h Q := by
  obtain ⟨ok, -, -, -, k3, -⟩ := B
  have hn := ok.n9
  unfold F_X1_hasFace B_X1_hasFace_16 B_X1_hasFace_17
  simp (disch := omega) only [pE R, k3, lits, iI_add, iI_sub, iI_mul, iI_neg]
  refine br_lt (b := 0) hf (by omega) (fun c => rg_z (Or.inl rfl) ?_) (fun c => br_le (by omega) hf (fun c2 => rg_z (Or.inl rfl) ?_) (fun c2 => rg_z (Or.inr rfl) ?_))
  · rw [decide_eq_false (by omega)] at hq; exact hq
  · rw [decide_eq_false (by omega)] at hq; exact hq
  · rw [decide_eq_true (by omega)] at hq; exact hq
theorem c_hasCrease {f : Int} (R : rP h a V A) (B : cB V A P) (hf : iB f) (hq : Q (iI (bI (decide (0 ≤ f ∧ f < cr_m P)))) h) : F_X1_hasCrease a (iI f) h Q := by
  obtain ⟨ok, -, -, -, -, k4, -⟩ := B
  have hn := ok.m12
  unfold F_X1_hasCrease B_X1_hasCrease_16 B_X1_hasCrease_17
  simp (disch := omega) only [pE R, k4, lits, iI_add, iI_sub, iI_mul, iI_neg]
  refine br_lt (b := 0) hf (by omega) (fun c => rg_z (Or.inl rfl) ?_) (fun c => br_le (by omega) hf (fun c2 => rg_z (Or.inl rfl) ?_) (fun c2 => rg_z (Or.inr rfl) ?_))
  · rw [decide_eq_false (by omega)] at hq; exact hq
  · rw [decide_eq_false (by omega)] at hq; exact hq
  · rw [decide_eq_true (by omega)] at hq; exact hq
theorem c_isUneven (R : rP h a V A) (C : cP V A P) (hq : Q (iI (bI (cr_un P))) h) : F_X1_isUneven a h Q := by
  obtain ⟨⟨ok, k0, -, -, k3, -⟩, ⟨q4, -⟩, -⟩ := C
  have hn := ok.n9
  have hkd := ok.1.1
  unfold F_X1_isUneven B_X1_isUneven_29 B_X1_isUneven_33 B_X1_isUneven_34
  unfold cr_un at hq
  simp (disch := omega) only [pE R, k0, k3, lits, iI_add, iI_sub, iI_mul, iI_neg]
  refine br_eq (b := 1) (by omega) (by omega) (fun c => ⟨by decide, ?_⟩) (fun c => rg_z (Or.inl rfl) ?_)
  · have e2 : iI (cr_n P : Int) - iI (cr_n P : Int) / iI 2 * iI 2 = iI ((cr_n P % 2 : Nat) : Int) := m_rem2 (by omega)
    have e4 := q4 (by omega) (cr_n P) (Nat.le_refl _)
    have eb := ok.eB (f := cr_n P) (by omega)
    rw [decide_eq_true (show cr_kd P = 1 by omega), Bool.true_and] at hq
    rw [e2, e4]
    refine br_eq (b := 0) (by omega) (by omega) (fun c2 => br_eq (b := 0) (by omega) (by omega) (fun c3 => rg_z (Or.inl rfl) ?_) (fun c3 => rg_z (Or.inr rfl) ?_)) (fun c2 => rg_z (Or.inr rfl) ?_)
    · rw [decide_eq_false (show ¬ cr_n P % 2 = 1 by omega), decide_eq_false (not_not_intro c3)] at hq; exact hq
    · rw [decide_eq_true c3, Bool.or_true] at hq; exact hq
    · rw [decide_eq_true (show cr_n P % 2 = 1 by omega)] at hq; exact hq
  · rw [decide_eq_false (show ¬ cr_kd P = 1 by omega)] at hq; exact hq
theorem c_becomes {c : Nat} (R : rP h a V A) (B : cB V A P) (hb : ar h b 9 g) (hh : ∀ f : Nat, f < cr_n P → g f = HH f ∧ iB (HH f)) (hc : c < cr_m P) (hq : Q (iI (cr_mi P HH c)) h) : F_X1_becomes a (iI c) b h Q := by
  obtain ⟨ok, -, -, -, -, -, -, -, -, q5, q6, -⟩ := id B
  have hm := ok.m12
  have hn := ok.n9
  obtain ⟨a1, a2, -⟩ := ok.ab hc
  obtain ⟨x1, b1⟩ := hh _ a1
  obtain ⟨x2, b2⟩ := hh _ a2
  unfold F_X1_becomes B_X1_becomes_24 B_X1_becomes_44
  unfold cr_mi at hq
  simp (disch := omega) only [pE R, q5 c hc, q6 c hc, ar_e hb (by decide), x1, x2, lits, iI_add, iI_sub, iI_mul, iI_neg]
  refine br_le b2 b1 (fun w => c_isFrontUp R B a1 ?_) (fun w => c_isFrontUp R B a1 ?_)
  · rw [decide_eq_false (by omega)] at hq
    cases e : cr_up P (cr_a P c) <;> rw [e] at hq
    · exact br_tt rfl hq
    · exact br_ff (by decide) hq
  · rw [decide_eq_true (by omega)] at hq
    cases e : cr_up P (cr_a P c) <;> rw [e] at hq
    · exact br_ff (by decide) hq
    · exact br_tt rfl hq
theorem c_liesWithin {f c : Nat} (R : rP h a V A) (B : cB V A P) (hb : ar h b 9 g) (hh : ∀ f : Nat, f < cr_n P → g f = HH f ∧ iB (HH f)) (hf : f < cr_n P) (hc : c < cr_m P) (hq : Q (iI (bI (cr_bt P HH c f))) h) : F_X1_liesWithin a (iI f) (iI c) b h Q := by
  obtain ⟨ok, -, -, -, -, -, -, -, -, q5, q6, -⟩ := id B
  have hm := ok.m12
  have hn := ok.n9
  obtain ⟨a1, a2, -⟩ := ok.ab hc
  obtain ⟨x1, b1⟩ := hh _ a1
  obtain ⟨x2, b2⟩ := hh _ a2
  obtain ⟨x3, b3⟩ := hh f hf
  unfold F_X1_liesWithin
  simp (disch := omega) only [pE R, q5 c hc, q6 c hc, ar_e hb (by decide), x1, x2, x3, lits, iI_add, iI_sub, iI_mul, iI_neg]
  refine c_isBetween b3 b1 b2 (rg_z ?_ hq)
  cases (decide (min (HH (cr_a P c)) (HH (cr_b P c)) < HH f) && decide (HH f < max (HH (cr_a P c)) (HH (cr_b P c))))
  · exact Or.inl rfl
  · exact Or.inr rfl
-- loops over creases
theorem c_valleysIn_loop (R : rP h a V A) (B : cB V A P) (hb : ar h b 9 g) (hh : ∀ f : Nat, f < cr_n P → g f = HH f ∧ iB (HH f)) (hq : Q (iI (nu_bm (fun c => decide (cr_mi P HH c = 2)) (cr_m P))) h) : ∀ k u c : Nat, c + k = cr_m P → k < u → L_X1_valleysIn_4 a b Q u (iI (nu_bm (fun c => decide (cr_mi P HH c = 2)) c)) (iI c) h := by
  intro k
  have hm := B.1.m12
  have k4 := B.2.2.2.2.2.1
  induction k with
  | zero =>
    intro u c hc hu
    obtain ⟨u, rfl⟩ : ∃ v, u = v + 1 := ⟨u - 1, by omega⟩
    unfold L_X1_valleysIn_4
    simp (disch := omega) only [pE R, k4, ebr_le, lits, iI_add, iI_sub, iI_mul, iI_neg]
    rw [if_pos (by omega), show c = cr_m P by omega]
    exact hq
  | succ k ih =>
    intro u c hc hu
    obtain ⟨u, rfl⟩ : ∃ v, u = v + 1 := ⟨u - 1, by omega⟩
    have h1 := ih u (c + 1) (by omega) (by omega)
    rw [nu_bm] at h1
    unfold L_X1_valleysIn_4 B_X1_valleysIn_28
    rw [iI_shl (by omega)]
    simp (disch := omega) only [pE R, k4, ebr_le, iI_s, lits, iI_add, iI_sub, iI_mul, iI_neg]
    rw [if_neg (by omega)]
    refine c_becomes R B hb hh (by omega) ?_
    have hmi := cr_mi12 P HH c
    refine br_eq (b := 2) (by omega) (by omega) (fun w => ?_) (fun w => ?_)
    · rw [decide_eq_true (show cr_mi P HH c = 2 by omega)] at h1
      rw [iI_or]
      exact h1
    · rw [decide_eq_false (show ¬ cr_mi P HH c = 2 by omega)] at h1
      simpa using h1
theorem c_valleysIn (R : rP h a V A) (B : cB V A P) (hb : ar h b 9 g) (hh : ∀ f : Nat, f < cr_n P → g f = HH f ∧ iB (HH f)) (hq : Q (iI (nu_bm (fun c => decide (cr_mi P HH c = 2)) (cr_m P))) h) : F_X1_valleysIn a b h Q := ⟨20, c_valleysIn_loop R B hb hh hq (cr_m P) 20 0 (by omega) (by have := B.1.m12; omega)⟩
theorem c_marked_loop {x : Nat} (hx : x ≤ 2) (R : rP h a V A) (C : cP V A P) (hq : Q (iI (nu_bm (fun c => decide (cr_mk P c = x)) (cr_m P))) h) : ∀ k u c : Nat, c + k = cr_m P → k < u → L_X1_marked_4 a (iI x) Q u (iI (nu_bm (fun c => decide (cr_mk P c = x)) c)) (iI c) h := by
  intro k
  have hm := C.1.1.m12
  have k4 := C.1.2.2.2.2.2.1
  have q8 := C.2.2.1
  induction k with
  | zero =>
    intro u c hc hu
    obtain ⟨u, rfl⟩ : ∃ v, u = v + 1 := ⟨u - 1, by omega⟩
    unfold L_X1_marked_4
    simp (disch := omega) only [pE R, k4, ebr_le, lits, iI_add, iI_sub, iI_mul, iI_neg]
    rw [if_pos (by omega), show c = cr_m P by omega]
    exact hq
  | succ k ih =>
    intro u c hc hu
    obtain ⟨u, rfl⟩ : ∃ v, u = v + 1 := ⟨u - 1, by omega⟩
    have h1 := ih u (c + 1) (by omega) (by omega)
    rw [nu_bm] at h1
    have b8 := C.1.1.2.2.1 c
    unfold L_X1_marked_4 B_X1_marked_28
    rw [iI_shl (by omega)]
    simp (disch := omega) only [pE R, k4, ebr_le, iI_s, q8 c (by omega), ebr_eq, lits, iI_add, iI_sub, iI_mul, iI_neg]
    rw [if_neg (by omega)]
    by_cases w : cr_mk P c = x
    · rw [if_pos (by omega), iI_or]
      rw [decide_eq_true w] at h1
      exact h1
    · rw [if_neg (by omega)]
      rw [decide_eq_false w] at h1
      simpa using h1
theorem c_marked {x : Nat} (hx : x ≤ 2) (R : rP h a V A) (C : cP V A P) (hq : Q (iI (nu_bm (fun c => decide (cr_mk P c = x)) (cr_m P))) h) : F_X1_marked a (iI x) h Q := ⟨20, c_marked_loop hx R C hq (cr_m P) 20 0 (by omega) (by have := C.1.1.m12; omega)⟩
theorem c_brokenMark_loop (R : rP h a V A) (C : cP V A P) (hb : ar h b 9 g) (hh : ∀ f : Nat, f < cr_n P → g f = HH f ∧ iB (HH f)) : ∀ k u c : Nat, c + k = cr_m P → k < u → Q (iI ((fst1 (cr_cM P HH) c k).getD 0)) h → L_X1_brokenMark_2 a b Q u (iI c) h := by
  intro k
  have hm := C.1.1.m12
  have k4 := C.1.2.2.2.2.2.1
  have q8 := C.2.2.1
  induction k with
  | zero =>
    intro u c hc hu hq
    obtain ⟨u, rfl⟩ : ∃ v, u = v + 1 := ⟨u - 1, by omega⟩
    unfold L_X1_brokenMark_2
    simp (disch := omega) only [pE R, k4, ebr_le, lits, iI_add, iI_sub, iI_mul, iI_neg]
    rw [if_pos (by omega)]
    exact hq
  | succ k ih =>
    intro u c hc hu hq
    obtain ⟨u, rfl⟩ : ∃ v, u = v + 1 := ⟨u - 1, by omega⟩
    have b8 := C.1.1.2.2.1 c
    rw [fst1] at hq
    unfold L_X1_brokenMark_2 B_X1_brokenMark_43
    simp (disch := omega) only [pE R, k4, ebr_le, iI_s, q8 c (by omega), ebr_eq, lits, iI_add, iI_sub, iI_mul, iI_neg]
    rw [if_neg (by omega)]
    have go : cr_mok P HH c = true → L_X1_brokenMark_2 a b Q u (iI ((c + 1 : Nat) : Int)) h := fun e => by
      unfold cr_cM at hq
      rw [e] at hq
      exact ih u (c + 1) (by omega) (by omega) hq
    by_cases w : cr_mk P c = 0
    · rw [if_pos (by omega)]
      exact go (by unfold cr_mok; rw [decide_eq_true w]; rfl)
    · rw [if_neg (by omega)]
      refine c_becomes R C.1 hb hh (by omega) ?_
      have hmi := cr_mi12 P HH c
      refine br_eq (by omega) (by omega) (fun w2 => ?_) (fun w2 => ?_)
      · exact go (by unfold cr_mok; rw [decide_eq_true (show cr_mk P c = cr_mi P HH c by omega), Bool.or_true])
      · unfold cr_cM cr_mok at hq
        rw [decide_eq_false w, decide_eq_false (show ¬ cr_mk P c = cr_mi P HH c by omega)] at hq
        exact hq
theorem c_brokenMark (R : rP h a V A) (C : cP V A P) (hb : ar h b 9 g) (hh : ∀ f : Nat, f < cr_n P → g f = HH f ∧ iB (HH f)) (hq : Q (iI ((fst1 (cr_cM P HH) 0 (cr_m P)).getD 0)) h) : F_X1_brokenMark a b h Q := ⟨20, c_brokenMark_loop R C hb hh (cr_m P) 20 0 (by omega) (by have := C.1.1.m12; omega) hq⟩
theorem thr_lt (ok : cr_ok P) (c : Nat) : cr_thr P c < 2 ^ 31 := by
  have h1 : cr_thr P c < 2 ^ cr_n P := nu_bm_lt _ _
  have h2 : 2 ^ cr_n P ≤ 2 ^ 9 := Nat.pow_le_pow_right (by decide) ok.n9.2
  omega
theorem acr_lt (ok : cr_ok P) (c : Nat) : cr_acr P c < 2 ^ 31 := by
  have h1 : cr_acr P c < 2 ^ cr_m P := nu_bm_lt _ _
  have h2 : 2 ^ cr_m P ≤ 2 ^ 12 := Nat.pow_le_pow_right (by decide) ok.m12
  omega
theorem c_bT1 {c : Nat} {kk : Int32 → pz_H → Prop} (R : rP h a V A) (C : cP V A P) (hb : ar h b 9 g) (hh : ∀ f : Nat, f < cr_n P → g f = HH f ∧ iB (HH f)) (hc : c < cr_m P) : ∀ k u f : Nat, f + k = cr_n P → k < u → (∀ x, fst1 (cr_cT1 P HH c) f k = some x → Q (iI x) h) → (fst1 (cr_cT1 P HH c) f k = none → kk (iI ((c + 1 : Nat) : Int)) h) → L_X1_brokenThrough_12 a b (iI c) kk Q u (iI f) h := by
  intro k
  have hm := C.1.1.m12
  have hn := C.1.1.n9
  have k3 := C.1.2.2.2.2.1
  have q10 := C.2.1.2.2.2.1
  induction k with
  | zero =>
    intro u f hf hu h1 h2
    obtain ⟨u, rfl⟩ : ∃ v, u = v + 1 := ⟨u - 1, by omega⟩
    unfold L_X1_brokenThrough_12
    simp (disch := omega) only [pE R, k3, ebr_le, iI_s, lits, iI_add, iI_sub, iI_mul, iI_neg]
    rw [if_pos (by omega)]
    exact h2 rfl
  | succ k ih =>
    intro u f hf hu h1 h2
    obtain ⟨u, rfl⟩ : ∃ v, u = v + 1 := ⟨u - 1, by omega⟩
    rw [fst1] at h1 h2
    have hf' : f < cr_n P := by omega
    have go : cr_cT1 P HH c f = none → L_X1_brokenThrough_12 a b (iI c) kk Q u (iI ((f + 1 : Nat) : Int)) h := fun e => by
      rw [e] at h1 h2
      exact ih u (f + 1) (by omega) (by omega) h1 h2
    unfold L_X1_brokenThrough_12 B_X1_brokenThrough_54
    simp (disch := omega) only [pE R, k3, ebr_le, iI_s, q10 c hc, lits, iI_add, iI_sub, iI_mul, iI_neg]
    rw [if_neg (by omega)]
    refine c_has (thr_lt C.1.1 c) (by omega) ?_
    have et : (cr_thr P c).testBit f = cr_t3 P c f := by unfold cr_thr; rw [nu_bm_bit, decide_eq_true hf', Bool.true_and]
    rw [et]
    unfold cr_cT1 at go h1
    cases e1 : cr_t3 P c f with
    | false => exact br_tt rfl (go (by rw [e1]; rfl))
    | true =>
      refine br_ff (by decide) ?_
      rw [(pE R).1]
      refine c_liesWithin R C.1 hb hh hf' hc ?_
      cases e2 : cr_bt P HH c f with
      | false => exact br_tt rfl (go (by rw [e2, Bool.and_false]; rfl))
      | true => exact br_ff (by decide) (h1 _ (by rw [e1, e2]; rfl))
theorem c_bT (R : rP h a V A) (C : cP V A P) (hb : ar h b 9 g) (hh : ∀ f : Nat, f < cr_n P → g f = HH f ∧ iB (HH f)) : ∀ k u c : Nat, c + k = cr_m P → k < u → Q (iI ((fst1 (cr_cT P HH) c k).getD 0)) h → L_X1_brokenThrough_2 a b Q u (iI c) h := by
  intro k
  have hm := C.1.1.m12
  have hn := C.1.1.n9
  have k4 := C.1.2.2.2.2.2.1
  induction k with
  | zero =>
    intro u c hc hu hq
    obtain ⟨u, rfl⟩ : ∃ v, u = v + 1 := ⟨u - 1, by omega⟩
    unfold L_X1_brokenThrough_2
    simp (disch := omega) only [pE R, k4, ebr_le, lits, iI_add, iI_sub, iI_mul, iI_neg]
    rw [if_pos (by omega)]
    exact hq
  | succ k ih =>
    intro u c hc hu hq
    obtain ⟨u, rfl⟩ : ∃ v, u = v + 1 := ⟨u - 1, by omega⟩
    rw [fst1] at hq
    unfold L_X1_brokenThrough_2
    simp (disch := omega) only [pE R, k4, ebr_le, lits, iI_add, iI_sub, iI_mul, iI_neg]
    rw [if_neg (by omega)]
    refine ⟨20, c_bT1 R C hb hh (by omega) (cr_n P) 20 0 (by omega) (by omega) (fun x e => ?_) (fun e => ?_)⟩
    · have e2 : cr_cT P HH c = some x := e
      rw [e2] at hq; exact hq
    · have e2 : cr_cT P HH c = none := e
      rw [e2] at hq
      exact ih u (c + 1) (by omega) (by omega) hq
theorem c_brokenThrough (R : rP h a V A) (C : cP V A P) (hb : ar h b 9 g) (hh : ∀ f : Nat, f < cr_n P → g f = HH f ∧ iB (HH f)) (hq : Q (iI ((fst1 (cr_cT P HH) 0 (cr_m P)).getD 0)) h) : F_X1_brokenThrough a b h Q := ⟨20, c_bT R C hb hh (cr_m P) 20 0 (by omega) (by have := C.1.1.m12; omega) hq⟩
theorem c_bA1 {c : Nat} {kk : Int32 → pz_H → Prop} (R : rP h a V A) (C : cP V A P) (hb : ar h b 9 g) (hh : ∀ f : Nat, f < cr_n P → g f = HH f ∧ iB (HH f)) (hc : c < cr_m P) : ∀ k u d : Nat, c < d → d + k = cr_m P → k < u → (∀ x, fst1 (cr_cA1 P HH c) d k = some x → Q (iI x) h) → (fst1 (cr_cA1 P HH c) d k = none → kk (iI ((c + 1 : Nat) : Int)) h) → L_X1_brokenAcross_14 a b (iI c) kk Q u (iI d) h := by
  intro k
  have hm := C.1.1.m12
  have hn := C.1.1.n9
  obtain ⟨ok, -, -, -, k3, k4, -, -, -, q5, q6, -⟩ := id C.1
  have q11 := C.2.1.2.2.2.2
  induction k with
  | zero =>
    intro u d hcd hd hu h1 h2
    obtain ⟨u, rfl⟩ : ∃ v, u = v + 1 := ⟨u - 1, by omega⟩
    unfold L_X1_brokenAcross_14
    simp (disch := omega) only [pE R, k4, ebr_le, iI_s, lits, iI_add, iI_sub, iI_mul, iI_neg]
    rw [if_pos (by omega)]
    exact h2 rfl
  | succ k ih =>
    intro u d hcd hd hu h1 h2
    obtain ⟨u, rfl⟩ : ∃ v, u = v + 1 := ⟨u - 1, by omega⟩
    rw [fst1] at h1 h2
    have hd' : d < cr_m P := by omega
    obtain ⟨b1, b2, -⟩ := ok.ab hd'
    have go : cr_cA1 P HH c d = none → L_X1_brokenAcross_14 a b (iI c) kk Q u (iI ((d + 1 : Nat) : Int)) h := fun e => by
      rw [e] at h1 h2
      exact ih u (d + 1) (by omega) (by omega) (by omega) h1 h2
    unfold L_X1_brokenAcross_14 B_X1_brokenAcross_73
    simp (disch := omega) only [pE R, k4, ebr_le, iI_s, q11 c hc, lits, iI_add, iI_sub, iI_mul, iI_neg]
    rw [if_neg (by omega)]
    refine c_has (acr_lt ok c) (by omega) ?_
    have et : (cr_acr P c).testBit d = (cr_os P c d && cr_fo P c d) := by
      unfold cr_acr
      rw [nu_bm_bit, decide_eq_true hd', decide_eq_true (show d ≠ c by omega), Bool.true_and, Bool.true_and]
      have o : cr_os P d c = cr_os P c d := by rw [Bool.eq_iff_iff]; exact ⟨os_sym, os_sym⟩
      have f : cr_fo P d c = cr_fo P c d := by rw [Bool.eq_iff_iff]; exact ⟨fo_sym, fo_sym⟩
      rw [o, f]
    rw [et]
    unfold cr_cA1 at go h1
    rw [← Bool.and_assoc] at go h1
    cases e1 : (cr_os P c d && cr_fo P c d) with
    | false => exact br_tt rfl (go (by rw [e1]; rfl))
    | true =>
      refine br_ff (by decide) ?_
      simp (disch := omega) only [pE R, q5 d hd', lits, iI_add, iI_sub, iI_mul, iI_neg]
      refine c_liesWithin R C.1 hb hh b1 hc ?_
      simp (disch := omega) only [pE R, q6 d hd', lits, iI_add, iI_sub, iI_mul, iI_neg]
      refine c_liesWithin R C.1 hb hh b2 hc ?_
      rw [e1, Bool.true_and] at go h1
      cases e2 : cr_bt P HH c (cr_a P d) <;> cases e3 : cr_bt P HH c (cr_b P d)
      · exact br_tt rfl (go (by rw [e2, e3]; rfl))
      · exact br_ff (by decide) (h1 _ (by rw [e2, e3]; rfl))
      · exact br_ff (by decide) (h1 _ (by rw [e2, e3]; rfl))
      · exact br_tt rfl (go (by rw [e2, e3]; rfl))
theorem c_bA (R : rP h a V A) (C : cP V A P) (hb : ar h b 9 g) (hh : ∀ f : Nat, f < cr_n P → g f = HH f ∧ iB (HH f)) : ∀ k u c : Nat, c + k = cr_m P → k < u → Q (iI ((fst1 (cr_cA P HH) c k).getD 0)) h → L_X1_brokenAcross_2 a b Q u (iI c) h := by
  intro k
  have hm := C.1.1.m12
  have k4 := C.1.2.2.2.2.2.1
  induction k with
  | zero =>
    intro u c hc hu hq
    obtain ⟨u, rfl⟩ : ∃ v, u = v + 1 := ⟨u - 1, by omega⟩
    unfold L_X1_brokenAcross_2
    simp (disch := omega) only [pE R, k4, ebr_le, lits, iI_add, iI_sub, iI_mul, iI_neg]
    rw [if_pos (by omega)]
    exact hq
  | succ k ih =>
    intro u c hc hu hq
    obtain ⟨u, rfl⟩ : ∃ v, u = v + 1 := ⟨u - 1, by omega⟩
    rw [fst1] at hq
    unfold L_X1_brokenAcross_2
    simp (disch := omega) only [pE R, k4, ebr_le, iI_s, lits, iI_add, iI_sub, iI_mul, iI_neg]
    rw [if_neg (by omega)]
    refine ⟨20, c_bA1 R C hb hh (by omega) (cr_m P - (c + 1)) 20 (c + 1) (by omega) (by omega) (by omega) (fun x e => ?_) (fun e => ?_)⟩
    · have e2 : cr_cA P HH c = some x := e
      rw [e2] at hq; exact hq
    · have e2 : cr_cA P HH c = none := e
      rw [e2] at hq
      exact ih u (c + 1) (by omega) (by omega) hq
theorem c_brokenAcross (R : rP h a V A) (C : cP V A P) (hb : ar h b 9 g) (hh : ∀ f : Nat, f < cr_n P → g f = HH f ∧ iB (HH f)) (hq : Q (iI ((fst1 (cr_cA P HH) 0 (cr_m P)).getD 0)) h) : F_X1_brokenAcross a b h Q := ⟨20, c_bA R C hb hh (cr_m P) 20 0 (by omega) (by have := C.1.1.m12; omega) hq⟩
end C1
