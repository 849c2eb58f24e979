/-! THE CLASS: a Pile: put, takeOff, and the search -/
def gq (P : cr_P) (Bw : Nat → Nat) (l : List Nat) (f : Nat) : Bool := decide (f ∉ l) && cdB P Bw l f
def unt (P : cr_P) (Bw : Nat → Nat) (l : List Nat) (fr : Nat) : Nat := nu_bm (fun f => decide (fr ≤ f) && gq P Bw l f) (cr_n P)
theorem brd_st (P : cr_P) (l : List Nat) (f : Nat) (h : (stL l).testBit f = true) : ∀ k, (brd P l k).testBit f = true
  | 0 => h
  | k + 1 => by
    rw [brd]
    split
    · rw [Nat.testBit_or, brd_st P l f h k]; rfl
    · exact brd_st P l f h k
theorem gq_cd {P : cr_P} {Bw : Nat → Nat} {l : List Nat} {f : Nat} (hf : f < 9) : gq P Bw l f = cdB P Bw l f := by
  unfold gq
  by_cases q : f ∈ l
  · have : (brd P l (cr_m P)).testBit f = true := brd_st P l f (by rw [stL_bit, decide_eq_true hf, decide_eq_true q]; rfl) _
    unfold cdB
    rw [decide_eq_false (not_not_intro q), this]; rfl
  · rw [decide_eq_true q, Bool.true_and]
theorem unt_0 {P : cr_P} (ok : cr_ok P) (Bw : Nat → Nat) (l : List Nat) : unt P Bw l 0 = nu_bm (cdB P Bw l) (cr_n P) := by
  have hn := ok.n9
  refine nu_bm_cong _ (fun f hf => ?_)
  rw [gq_cd (by omega)]; simp
theorem unt_lt {P : cr_P} (ok : cr_ok P) (Bw : Nat → Nat) (l : List Nat) (fr : Nat) : unt P Bw l fr < 2 ^ 9 := by
  have h1 : unt P Bw l fr < 2 ^ cr_n P := nu_bm_lt _ _
  have h2 : 2 ^ cr_n P ≤ 2 ^ 9 := Nat.pow_le_pow_right (by decide) ok.n9.2
  omega
theorem unt_bit {P : cr_P} {Bw : Nat → Nat} {l : List Nat} {fr f : Nat} : (unt P Bw l fr).testBit f = (decide (f < cr_n P) && (decide (fr ≤ f) && gq P Bw l f)) := nu_bm_bit _ _ _
theorem unt_full {P : cr_P} {Bw : Nat → Nat} {l : List Nat} {fr : Nat} (h : isR (cr_n P) l) : unt P Bw l fr = 0 := by
  apply Nat.eq_of_testBit_eq
  intro f
  rw [unt_bit, Nat.zero_testBit]
  by_cases q : f < cr_n P
  · have := mem_of_full h.2.1 h.2.2 h.1 f q
    unfold gq
    rw [decide_eq_false (not_not_intro this)]; simp
  · rw [decide_eq_false q]; rfl
/-- taking the least face out -/
theorem unt_next {P : cr_P} (ok : cr_ok P) {Bw : Nat → Nat} {l : List Nat} {fr f : Nat} (h1 : (unt P Bw l fr).testBit f = true) (h2 : ∀ g, g < f → (unt P Bw l fr).testBit g = false) : nu_dif (unt P Bw l fr) (2 ^ f) = unt P Bw l (f + 1) := by
  have ef : fr ≤ f := by
    rw [unt_bit] at h1
    simp only [Bool.and_eq_true, decide_eq_true_eq] at h1
    exact h1.2.1
  refine nu_ext (nu_lt_dif (unt_lt ok Bw l fr)) (unt_lt ok Bw l (f + 1)) (fun g _ => ?_)
  have e2 := unt_bit (P := P) (Bw := Bw) (l := l) (fr := f + 1) (f := g)
  rw [nu_dif_bit, Nat.testBit_two_pow, e2]
  rcases Nat.lt_trichotomy g f with q | q | q
  · rw [h2 g q, decide_eq_false (show ¬ f + 1 ≤ g by omega)]; simp
  · subst q; rw [decide_eq_false (show ¬ g + 1 ≤ g by omega)]; simp
  · have e1 := unt_bit (P := P) (Bw := Bw) (l := l) (fr := fr) (f := g)
    rw [e1, decide_eq_true (show fr ≤ g by omega), decide_eq_true (show f + 1 ≤ g by omega), decide_eq_false (show ¬ f = g by omega)]; simp
theorem stL_new {l : List Nat} {f : Nat} (hf : f < 9) : stL (l ++ [f]) = stL l ||| 2 ^ f := by
  refine nu_ext (stL_lt _) (nu_lt_or (stL_lt _) (nu_lt_pow hf)) (fun g hg => ?_)
  rw [Nat.testBit_or, stL_bit, stL_bit, Nat.testBit_two_pow, decide_eq_true hg, Bool.true_and, Bool.true_and]
  by_cases q1 : g ∈ l
  · rw [decide_eq_true q1, decide_eq_true (show g ∈ l ++ [f] by simp [q1])]; rfl
  · rw [decide_eq_false q1]
    by_cases q2 : f = g
    · subst q2; rw [decide_eq_true (show f ∈ l ++ [f] by simp), decide_eq_true rfl]; rfl
    · rw [decide_eq_false (show ¬ g ∈ l ++ [f] by simp [q1]; exact fun z => q2 z.symm), decide_eq_false q2]; rfl
theorem stL_old {l : List Nat} {f : Nat} (hf : f < 9) (hm : f ∉ l) : nu_dif (stL (l ++ [f])) (2 ^ f) = stL l := by
  refine nu_ext (nu_lt_dif (stL_lt _)) (stL_lt _) (fun g hg => ?_)
  rw [nu_dif_bit, stL_bit, stL_bit, Nat.testBit_two_pow, decide_eq_true hg, Bool.true_and, Bool.true_and]
  by_cases q2 : f = g
  · subst q2; rw [decide_eq_false hm, decide_eq_true rfl]; simp
  · rw [decide_eq_false q2]
    by_cases q1 : g ∈ l
    · rw [decide_eq_true q1, decide_eq_true (show g ∈ l ++ [f] by simp [q1])]; rfl
    · rw [decide_eq_false q1, decide_eq_false (show ¬ g ∈ l ++ [f] by simp [q1]; exact fun z => q2 z.symm)]; rfl
theorem opn_new {P : cr_P} (ok : cr_ok P) {l : List Nat} {f : Nat} (hm : f ∉ l) : opn P (l ++ [f]) = opn P l ^^^ cr_tch P f := by
  have t1 : cr_tch P f < 2 ^ cr_m P := nu_bm_lt _ _
  have o1 : opn P l < 2 ^ cr_m P := nu_bm_lt _ _
  have o2 : opn P (l ++ [f]) < 2 ^ cr_m P := nu_bm_lt _ _
  refine nu_ext o2 (nu_lt_xor o1 t1) (fun c hc => ?_)
  obtain ⟨-, -, a3⟩ := ok.ab hc
  rw [Nat.testBit_xor, opn_bit hc, opn_bit hc]
  have et : (cr_tch P f).testBit c = (decide (cr_a P c = f) || decide (cr_b P c = f)) := by unfold cr_tch; rw [nu_bm_bit, decide_eq_true hc, Bool.true_and]
  rw [et]
  unfold isO
  by_cases q1 : cr_a P c = f
  · have q2 : ¬ cr_b P c = f := fun z => a3 (q1.trans z.symm)
    rw [decide_eq_true q1, decide_eq_false q2, decide_eq_true (show cr_a P c ∈ l ++ [f] by simp [q1]), decide_eq_false (show ¬ cr_a P c ∈ l by rw [q1]; exact hm)]
    have : decide (cr_b P c ∈ l ++ [f]) = decide (cr_b P c ∈ l) := by rw [decide_eq_decide]; simp [q2]
    rw [this]
    cases decide (cr_b P c ∈ l) <;> rfl
  · have e1 : decide (cr_a P c ∈ l ++ [f]) = decide (cr_a P c ∈ l) := by rw [decide_eq_decide]; simp [q1]
    rw [e1]
    by_cases q2 : cr_b P c = f
    · rw [decide_eq_false q1, decide_eq_true q2, decide_eq_true (show cr_b P c ∈ l ++ [f] by simp [q2]), decide_eq_false (show ¬ cr_b P c ∈ l by rw [q2]; exact hm)]
      cases decide (cr_a P c ∈ l) <;> rfl
    · have e2 : decide (cr_b P c ∈ l ++ [f]) = decide (cr_b P c ∈ l) := by rw [decide_eq_decide]; simp [q2]
      rw [e2, decide_eq_false q1, decide_eq_false q2]
      cases decide (cr_a P c ∈ l) <;> cases decide (cr_b P c ∈ l) <;> rfl
/-- the pile stands at the row l, and tries faces from fr on -/
def qS (h : pz_H) (b : Nat) (V : Nat → Int) (A : Nat → Int → Int) (a : Nat) (P : cr_P) (Bw : Nat → Nat) (Dm : Nat) (l : List Nat) (fr : Nat) : Prop := rQ h b V A ∧ V 0 = a ∧ V 9 = 1 ∧ qB V A P Bw Dm l ∧ (∀ i : Nat, i < l.length → A 5 i = unt P Bw (l.take i) (l.getD i 0 + 1)) ∧ A 5 l.length = unt P Bw l fr
section Q2
variable {h : pz_H} {a b : Nat} {V VP : Nat → Int} {A AP : Nat → Int → Int} {P : cr_P} {Bw : Nat → Nat} {Dm : Nat} {l : List Nat} {fr : Nat} {Q : Int32 → pz_H → Prop} {K : pz_H → Prop}
theorem c_least {U : Nat} (R : rQ h b V A) (hl : l.length ≤ 9) (v3 : V 3 = l.length) (hU : A 5 l.length = U) (hU9 : U < 2 ^ 9) (h0 : U ≠ 0) (hq : ∀ f, f < 9 → U.testBit f = true → (∀ g, g < f → U.testBit g = false) → Q (iI f) h) : F_X2_leastUntried b h Q := by
  have loop : ∀ k u f : Nat, f + k = 8 → k < u → (∀ g, g < f → U.testBit g = false) → L_X2_leastUntried_2 b Q u (iI f) h := by
    intro k
    induction k with
    | zero =>
      intro u f hf hu hg
      obtain ⟨u, rfl⟩ : ∃ v, u = v + 1 := ⟨u - 1, by omega⟩
      unfold L_X2_leastUntried_2 B_X2_leastUntried_30
      refine br_le (a := 8) (by omega) (by omega) (fun _ => hq f (by omega) ?_ hg) (fun w => by omega)
      cases e : U.testBit f with
      | true => rfl
      | false =>
        exfalso
        apply h0
        refine nu_ext hU9 (by decide) (fun i hi => ?_)
        rw [Nat.zero_testBit]
        by_cases q : i < f
        · exact hg i q
        · have : i = f := by omega
          rw [this]; exact e
    | succ k ih =>
      intro u f hf hu hg
      obtain ⟨u, rfl⟩ : ∃ v, u = v + 1 := ⟨u - 1, by omega⟩
      unfold L_X2_leastUntried_2 B_X2_leastUntried_30
      refine br_le (a := 8) (by omega) (by omega) (fun w => by omega) (fun _ => ?_)
      simp (disch := omega) only [qE R, v3, hU, iI_s, lits, iI_add, iI_sub, iI_mul, iI_neg]
      refine c_has (by omega) (by omega) ?_
      cases e : U.testBit f with
      | false =>
        refine br_tt rfl (ih u (f + 1) (by omega) (by omega) (fun g hg' => ?_))
        by_cases q : g = f
        · rw [q]; exact e
        · exact hg g (by omega)
      | true => exact br_ff (by decide) (hq f (by omega) e hg)
  exact ⟨9, loop 8 9 0 rfl (by decide) (fun g hg => by omega)⟩
theorem c_takeOff {t : Nat} (S : qS h b V A a P Bw Dm (l ++ [t]) fr) (ok : cr_ok P) (hq : ∀ h' V' A', qS h' b V' A' a P Bw Dm l (t + 1) → Fr b (b + 6) h h' → K h') : F_X2_takeOff b h K := by
  obtain ⟨R, v0, v9, ⟨s3, s4, s6, s1, s2, sb, s5, sB, sD, sN, snd, slt, sle⟩, su, st⟩ := S
  have hn := ok.n9
  have hl : l.length + 1 ≤ cr_n P := by simpa using sle
  have ht : t < cr_n P := slt t (by simp)
  have hm : t ∉ l := fun hm => (List.nodup_append.mp snd).2.2 t hm t (by simp) rfl
  have e3 : V 3 = (l.length : Int) + 1 := by rw [s3]; simp
  have eg : (l ++ [t]).getD l.length 0 = t := by rw [List.getD_eq_getElem?_getD, List.getElem?_append_right (by omega)]; simp
  have g1 := s1 l.length (by simp)
  rw [eg] at g1
  have tk : ∀ i, i ≤ l.length → (l ++ [t]).take i = l.take i := fun i hi => by rw [List.take_append_of_le_length hi]
  have gd' : ∀ i, i < l.length → (l ++ [t]).getD i 0 = l.getD i 0 := fun i hi => by rw [List.getD_eq_getElem?_getD, List.getD_eq_getElem?_getD, List.getElem?_append_left hi]
  unfold F_X2_takeOff
  have e1 : (l.length : Int) + 1 - 1 = l.length := by omega
  simp (disch := omega) only [qE R, e3, e1, lits, iI_add, iI_sub, iI_mul, iI_neg]
  refine rg_p (V' := va_up V 3 (l.length : Int)) R rfl (Nat.le_of_ble_eq_true rfl) fun h1 R1 f1 => ?_
  have w4 : (va_up V 3 (l.length : Int)) 4 = (stL (l ++ [t]) : Nat) := by rw [va_up_ne _ _ (by decide)]; exact s4
  simp (disch := omega) only [qE R1, va_up_self, w4, g1, lits, iI_add, iI_sub, iI_mul, iI_neg, jI_shl, jI_bit, jI_andn, iI_or, iI_and, jI_xor, iI_s]
  rw [stL_old (by omega) hm]
  refine rg_p (V' := va_up (va_up V 3 (l.length : Int)) 4 (stL l : Int)) R1 rfl (Nat.le_of_ble_eq_true rfl) fun h2 R2 f2 => ?_
  refine hq h2 _ A ⟨R2, ?_, ?_, ⟨?_, va_up_self _ _ _, ?_, fun i hi => ?_, fun f hf => ?_, sb, fun i hi => ?_, sB, sD, sN, ?_, ?_, by omega⟩, fun i hi => ?_, ?_⟩ (f1.tr f2)
  · rw [va_up_ne _ _ (by decide), va_up_ne _ _ (by decide)]; exact v0
  · rw [va_up_ne _ _ (by decide), va_up_ne _ _ (by decide)]; exact v9
  · rw [va_up_ne _ _ (by decide), va_up_self]
  · rw [va_up_ne _ _ (by decide), va_up_ne _ _ (by decide)]; exact s6
  · rw [← gd' i hi]; exact s1 i (by simp; omega)
  · have h1 := s2 f (by simp [hf])
    rw [h1]
    exact ps_old (fun e => hm (e ▸ hf))
  · rw [← tk i hi]; exact s5 i (by simp; omega)
  · exact (List.nodup_append.mp snd).1
  · intro f hf; exact slt f (by simp [hf])
  · rw [← tk i (by omega), ← gd' i hi]; exact su i (by simp; omega)
  · have := su l.length (by simp)
    rw [eg, tk l.length (Nat.le_refl _), List.take_length] at this
    exact this
theorem c_put {f : Nat} (S : qS h b V A a P Bw Dm l fr) (RP : rP h a VP AP) (C : cP VP AP P) (dis : a + 13 ≤ b ∨ b + 6 ≤ a) (hl : l.length < cr_n P) (h1 : (unt P Bw l fr).testBit f = true) (h2 : ∀ g, g < f → (unt P Bw l fr).testBit g = false) (hq : ∀ h' V' A', qS h' b V' A' a P Bw Dm (l ++ [f]) 0 → Fr b (b + 6) h h' → K h') : F_X2_put b a (iI f) h K := by
  obtain ⟨R, v0, v9, ⟨s3, s4, s6, s1, s2, sb, s5, sB, sD, sN, snd, slt, sle⟩, su, st⟩ := S
  have ok := C.1.1
  have hn := ok.n9
  have un9 := unt_lt ok Bw l fr
  have nx := unt_next ok h1 h2
  have hf : f < cr_n P ∧ f ∉ l := by
    rw [unt_bit] at h1
    unfold gq at h1
    simp only [Bool.and_eq_true, decide_eq_true_eq] at h1
    exact ⟨h1.1, h1.2.2.1⟩
  obtain ⟨hfn, hm⟩ := hf
  have q12 := C.1.2.2.2.2.2.2.2.2.2.2.2.2
  have k3 := C.1.2.2.2.2.1
  have o1 := s5 l.length (Nat.le_refl _)
  rw [List.take_length] at o1
  have fr0 : ∀ {h' : pz_H}, Fr b (b + 6) h h' → rP h' a VP AP := fun f => RP.fr f (by omega)
  unfold F_X2_put B_X2_put_114
  simp (disch := omega) only [qE R, s3, st, lits, iI_add, iI_sub, iI_mul, iI_neg, jI_shl, jI_bit, jI_andn, iI_or, iI_and, jI_xor, iI_s]
  rw [nx]
  refine rg_sI R (by decide) (by decide) rfl (by decide) ⟨by omega, by simp only [lQ]; omega⟩ fun h3 R3 f3 => ?_
  simp (disch := omega) only [qE R3, s3, lits, iI_add, iI_sub, iI_mul, iI_neg, jI_shl, jI_bit, jI_andn, iI_or, iI_and, jI_xor, iI_s]
  refine rg_sI R3 (by decide) (by decide) rfl (by decide) ⟨by omega, by simp only [lQ]; omega⟩ fun h4 R4 f4 => ?_
  simp (disch := omega) only [qE R4, s3, lits, iI_add, iI_sub, iI_mul, iI_neg, jI_shl, jI_bit, jI_andn, iI_or, iI_and, jI_xor, iI_s]
  refine rg_sI R4 (by decide) (by decide) rfl (by decide) ⟨by omega, by simp only [lQ]; omega⟩ fun h5 R5 f5 => ?_
  simp (disch := omega) only [qE R5, s4, lits, iI_add, iI_sub, iI_mul, iI_neg, jI_shl, jI_bit, jI_andn, iI_or, iI_and, jI_xor, iI_s]
  rw [← stL_new (by omega)]
  refine rg_p (V' := va_up V 4 (stL (l ++ [f]) : Int)) R5 rfl (Nat.le_of_ble_eq_true rfl) fun h6 R6 f6 => ?_
  have F6 := f3.tr (f4.tr (f5.tr f6))
  have RP6 := fr0 F6
  have w3 : (va_up V 4 (stL (l ++ [f]) : Int)) 3 = (l.length : Int) := by rw [va_up_ne _ _ (by decide)]; exact s3
  have A4 : (au (au (au A 5 (l.length : Int) ((unt P Bw l (f + 1) : Nat) : Int)) 1 (l.length : Int) (f : Int)) 2 (f : Int) (l.length : Int)) 4 (l.length : Int) = (opn P l : Nat) := by
    rw [au_nk (by decide), au_nk (by decide), au_nk (by decide)]; exact o1
  simp (disch := omega) only [qE R6, pE RP6, w3, A4, q12 f hfn, lits, iI_add, iI_sub, iI_mul, iI_neg, jI_shl, jI_bit, jI_andn, iI_or, iI_and, jI_xor, iI_s]
  rw [← opn_new ok hm]
  refine rg_sI R6 (by decide) (by decide) rfl (by decide) ⟨by omega, by simp only [lQ]; omega⟩ fun h7 R7 f7 => ?_
  have e1 : ((l.length : Int) + 1) = ((l ++ [f]).length : Int) := by simp
  simp (disch := omega) only [qE R7, w3, lits, iI_add, iI_sub, iI_mul, iI_neg]
  refine rg_p (V' := va_up (va_up V 4 (stL (l ++ [f]) : Int)) 3 ((l.length : Int) + 1)) R7 rfl (Nat.le_of_ble_eq_true rfl) fun h8 R8 f8 => ?_
  have F8 := F6.tr (f7.tr f8)
  have RP8 := fr0 F8
  have tk : ∀ i, i ≤ l.length → (l ++ [f]).take i = l.take i := fun i hi => by rw [List.take_append_of_le_length hi]
  have gd' : ∀ i, i < l.length → (l ++ [f]).getD i 0 = l.getD i 0 := fun i hi => by rw [List.getD_eq_getElem?_getD, List.getD_eq_getElem?_getD, List.getElem?_append_left hi]
  have eg : (l ++ [f]).getD l.length 0 = f := by rw [List.getD_eq_getElem?_getD, List.getElem?_append_right (by omega)]; simp
  have nd : (l ++ [f]).Nodup := List.nodup_append.mpr ⟨snd, by simp, fun a ha b hb => by simp at hb; subst hb; intro e; subst e; exact hm ha⟩
  have lt' : ∀ g ∈ l ++ [f], g < cr_n P := fun g hg => by
    rcases List.mem_append.mp hg with hg | hg
    · exact slt g hg
    · simp at hg; rw [hg]; exact hfn
  generalize hA8 : au (au (au (au A 5 (l.length : Int) ((unt P Bw l (f + 1) : Nat) : Int)) 1 (l.length : Int) (f : Int)) 2 (f : Int) (l.length : Int)) 4 ((l.length + 1 : Nat) : Int) ((opn P (l ++ [f]) : Nat) : Int) = A8 at *
  have B8 : ∀ A9 : Nat → Int → Int, (∀ j, j ≠ 5 → A9 j = A8 j) → qB (va_up (va_up V 4 (stL (l ++ [f]) : Int)) 3 ((l.length : Int) + 1)) A9 P Bw Dm (l ++ [f]) := fun A9 e9 => by
    refine ⟨?_, ?_, ?_, fun i hi => ?_, fun g hg => ?_, fun g hg => ?_, fun i hi => ?_, sB, sD, sN, nd, lt', by simp; omega⟩
    · rw [va_up_self]; exact e1
    · rw [va_up_ne _ _ (by decide), va_up_self]
    · rw [va_up_ne _ _ (by decide), va_up_ne _ _ (by decide)]; exact s6
    · rw [e9 1 (by decide), ← hA8, au_nk (by decide), au_nk (by decide)]
      by_cases q : i = l.length
      · subst q; rw [au_at, eg]
      · have hi' : i < l.length := by simp at hi; omega
        rw [au_ne (by omega), au_nk (by decide), gd' i hi']; exact s1 i hi'
    · rw [e9 2 (by decide), ← hA8, au_nk (by decide)]
      by_cases q : g = f
      · subst q; rw [au_at, ps_new hm]
      · rw [au_ne (by omega), au_nk (by decide), au_nk (by decide), ps_old q]
        have hg' : g ∈ l := by
          rcases List.mem_append.mp hg with hg | hg
          · exact hg
          · simp at hg; exact absurd hg q
        exact s2 g hg'
    · rw [e9 3 (by decide), ← hA8, au_nk (by decide), au_nk (by decide), au_nk (by decide), au_nk (by decide)]; exact sb g hg
    · rw [e9 4 (by decide), ← hA8]
      by_cases q : i = l.length + 1
      · subst q
        rw [au_at, List.take_of_length_le (by simp)]
      · have hi' : i ≤ l.length := by simp at hi; omega
        rw [au_ne (by omega), au_nk (by decide), au_nk (by decide), au_nk (by decide), tk i hi']; exact s5 i hi'
  have fin : ∀ A9 h9, rQ h9 b (va_up (va_up V 4 (stL (l ++ [f]) : Int)) 3 ((l.length : Int) + 1)) A9 → A9 = au A8 5 ((l.length : Int) + 1) ((unt P Bw (l ++ [f]) 0 : Nat) : Int) → Fr b (b + 6) h h9 → K h9 := fun A9 h9 R9 e9 F9 => by
    refine hq h9 _ A9 ⟨R9, ?_, ?_, B8 A9 (fun j hj => by rw [e9, au_nk hj]), fun i hi => ?_, ?_⟩ F9
    · rw [va_up_ne _ _ (by decide), va_up_ne _ _ (by decide)]; exact v0
    · rw [va_up_ne _ _ (by decide), va_up_ne _ _ (by decide)]; exact v9
    · rw [e9, au_ne (by simp at hi; omega), ← hA8, au_nk (by decide), au_nk (by decide), au_nk (by decide)]
      by_cases q : i = l.length
      · subst q; rw [au_at, eg, tk _ (Nat.le_refl _), List.take_length]
      · have hi' : i < l.length := by simp at hi; omega
        rw [au_ne (by omega), gd' i hi', tk i (by omega)]; exact su i hi'
    · rw [e9, ← e1, au_at]
  have w8 : (va_up (va_up V 4 (stL (l ++ [f]) : Int)) 3 ((l.length : Int) + 1)) 3 = (l.length : Int) + 1 := va_up_self _ _ _
  simp (disch := omega) only [qE R8, pE RP8, w8, k3, ebr_le, lits, iI_add, iI_sub, iI_mul, iI_neg]
  by_cases w : cr_n P ≤ l.length + 1
  · rw [if_pos (by omega)]
    have e0 : unt P Bw (l ++ [f]) 0 = 0 := unt_full ⟨by simp; omega, nd, lt'⟩
    refine rg_sI (z := 0) R8 (by decide) (by decide) rfl (by decide) ⟨by omega, by simp only [lQ]; omega⟩ fun h9 R9 f9 => ?_
    exact fin _ h9 R9 (by rw [e0]; rfl) (F8.tr f9)
  · rw [if_neg (by omega)]
    refine c_candidates R8 RP8 C (B8 A8 (fun _ _ => rfl)) ?_
    rw [← unt_0 ok]
    refine rg_sI R8 (by decide) (by decide) rfl (by decide) ⟨by omega, by simp only [lQ]; omega⟩ fun h9 R9 f9 => ?_
    exact fin _ h9 R9 rfl (F8.tr f9)
end Q2
