/-! THE CLASS: a Pile: which faces may come next -/
theorem jI_shl {i : Nat} (hi : i < 31) : iI 1 <<< (iI (i : Int) &&& iI 31) = iI ((2 ^ i : Nat) : Int) := iI_shl hi
theorem jI_bit {s i : Nat} (hs : s < 2147483648) (hi : i < 32) : (iI (s : Int) >>> (iI (i : Int) &&& iI 31)) &&& iI 1 = iI (bI (s.testBit i)) := iI_bit (by omega) hi
theorem jI_andn (a b : Nat) : iI (a : Int) &&& (iI (b : Int) ^^^ iI (-1)) = iI ((nu_dif a b : Nat) : Int) := by rw [iI_nat, iI_nat, iI_nat]; exact nu_andn a b
theorem jI_xor (a b : Nat) : iI (a : Int) ^^^ iI (b : Int) = iI ((a ^^^ b : Nat) : Int) := by rw [iI_nat, iI_nat, iI_nat, nu_xor]
/-- the faces of a row, as bits -/
def stL (l : List Nat) : Nat := nu_bm (fun f => decide (f ∈ l)) 9
/-- the creases with just one face in the row, as bits -/
def isO (P : cr_P) (l : List Nat) (c : Nat) : Bool := decide (cr_a P c ∈ l) != decide (cr_b P c ∈ l)
def opn (P : cr_P) (l : List Nat) : Nat := nu_bm (isO P l) (cr_m P)
def lyg (P : cr_P) (l : List Nat) (c : Nat) : Nat := if cr_a P c ∈ l then cr_a P c else cr_b P c
def msg (P : cr_P) (l : List Nat) (c : Nat) : Nat := if cr_a P c ∈ l then cr_b P c else cr_a P c
def bfc (P : cr_P) (l : List Nat) (c : Nat) : Nat := if nu_dif (opn P l) (opn P (l.take ((ps l (lyg P l c)).toNat + 1))) &&& cr_acr P c = 0 then 0 else 2 ^ msg P l c
def bar1 (P : cr_P) (l : List Nat) (c : Nat) : Nat := if opn P l &&& cr_acr P c = 0 then cr_thr P c else cr_thr P c ||| bfc P l c
def brd (P : cr_P) (l : List Nat) : Nat → Nat
  | 0 => stL l
  | c + 1 => if isO P l c then brd P l c ||| bar1 P l c else brd P l c
def cdB (P : cr_P) (Bw : Nat → Nat) (l : List Nat) (f : Nat) : Bool := !(brd P l (cr_m P)).testBit f && decide (nu_dif (Bw f) (stL l) = 0)
theorem stL_lt (l : List Nat) : stL l < 2 ^ 9 := nu_bm_lt _ _
theorem stL_bit (l : List Nat) (f : Nat) : (stL l).testBit f = (decide (f < 9) && decide (f ∈ l)) := nu_bm_bit _ _ _
theorem opn_lt {P : cr_P} (ok : cr_ok P) (l : List Nat) : opn P l < 2 ^ 12 := by
  have h1 : opn P l < 2 ^ cr_m P := nu_bm_lt _ _
  have h2 : 2 ^ cr_m P ≤ 2 ^ 12 := Nat.pow_le_pow_right (by decide) ok.m12
  omega
theorem opn_bit {P : cr_P} {l : List Nat} {c : Nat} (hc : c < cr_m P) : (opn P l).testBit c = isO P l c := by unfold opn; rw [nu_bm_bit, decide_eq_true hc, Bool.true_and]
theorem thr_9 {P : cr_P} (ok : cr_ok P) (c : Nat) : cr_thr P c < 2 ^ 9 := by
  have h1 : cr_thr P c < 2 ^ cr_n P := nu_bm_lt _ _
  have h2 : 2 ^ cr_n P ≤ 2 ^ 9 := Nat.pow_le_pow_right (by decide) ok.n9.2
  omega
theorem acr_12 {P : cr_P} (ok : cr_ok P) (c : Nat) : cr_acr P c < 2 ^ 12 := by
  have h1 : cr_acr P c < 2 ^ cr_m P := nu_bm_lt _ _
  have h2 : 2 ^ cr_m P ≤ 2 ^ 12 := Nat.pow_le_pow_right (by decide) ok.m12
  omega
theorem msg_9 {P : cr_P} (ok : cr_ok P) (l : List Nat) {c : Nat} (hc : c < cr_m P) : msg P l c < 9 ∧ lyg P l c < 9 ∧ msg P l c < cr_n P ∧ lyg P l c < cr_n P := by
  obtain ⟨a1, a2, -⟩ := ok.ab hc
  have hn := ok.n9
  unfold msg lyg
  split <;> omega
theorem bfc_lt {P : cr_P} (ok : cr_ok P) (l : List Nat) {c : Nat} (hc : c < cr_m P) : bfc P l c < 2 ^ 9 := by
  unfold bfc
  split
  · decide
  · exact nu_lt_pow (msg_9 ok l hc).1
theorem bar1_lt {P : cr_P} (ok : cr_ok P) (l : List Nat) {c : Nat} (hc : c < cr_m P) : bar1 P l c < 2 ^ 9 := by
  unfold bar1
  split
  · exact thr_9 ok c
  · exact nu_lt_or (thr_9 ok c) (bfc_lt ok l hc)
theorem brd_lt {P : cr_P} (ok : cr_ok P) (l : List Nat) : ∀ k, k ≤ cr_m P → brd P l k < 2 ^ 9
  | 0, _ => stL_lt l
  | k + 1, h => by
    rw [brd]
    split
    · exact nu_lt_or (brd_lt ok l k (by omega)) (bar1_lt ok l (by omega))
    · exact brd_lt ok l k (by omega)
/-- what is known of the pile while it works on the row l -/
def qB (V : Nat → Int) (A : Nat → Int → Int) (P : cr_P) (Bw : Nat → Nat) (Dm : Nat) (l : List Nat) : Prop := V 3 = l.length ∧ V 4 = stL l ∧ V 6 = Dm ∧ (∀ i : Nat, i < l.length → A 1 i = (l.getD i 0 : Nat)) ∧ (∀ f : Nat, f ∈ l → A 2 f = ps l f) ∧ (∀ f : Nat, f < 9 → A 3 f = Bw f) ∧ (∀ i : Nat, i ≤ l.length → A 4 i = opn P (l.take i)) ∧ (∀ f, Bw f < 2 ^ 9) ∧ Dm < 2 ^ 9 ∧ (∀ f, f < 9 → Bw f ≠ 0 → Dm.testBit f = true) ∧ l.Nodup ∧ (∀ f ∈ l, f < cr_n P) ∧ l.length ≤ cr_n P
section Q1
variable {h : pz_H} {a b : Nat} {V VP : Nat → Int} {A AP : Nat → Int → Int} {P : cr_P} {Bw : Nat → Nat} {Dm : Nat} {l : List Nat} {Q : Int32 → pz_H → Prop} {K : pz_H → Prop}
theorem c_bfc {c : Nat} (R : rQ h b V A) (RP : rP h a VP AP) (C : cP VP AP P) (S : qB V A P Bw Dm l) (hc : c < cr_m P) (ho : isO P l c = true) (hq : Q (iI (bfc P l c)) h) : F_X2_barredFromClosing b a (iI c) h Q := by
  obtain ⟨s3, s4, s6, s1, s2, sb, s5, sB, sD, sN, snd, slt, sle⟩ := id S
  obtain ⟨ok, -, -, -, -, -, -, -, -, q5, q6, -⟩ := id C.1
  have q11 := C.2.1.2.2.2.2 c hc
  have hm := ok.m12
  have hn := ok.n9
  obtain ⟨a1, a2, a3⟩ := ok.ab hc
  have st9 := stL_lt l
  have ac := acr_12 ok c
  have fin : ∀ x y : Nat, x = lyg P l c → y = msg P l c → B_X2_barredFromClosing_54 b a (iI c) (iI x) (iI y) Q h := fun x y hx hy => by
    have hxl : x ∈ l := by
      rw [hx]
      unfold lyg
      unfold isO at ho
      split
      · rename_i q; exact q
      · rename_i q
        rw [decide_eq_false q] at ho
        simpa using ho
    have hpx := ps_in hxl
    have hil : l.idxOf x < l.length := List.idxOf_lt_length_of_mem hxl
    have e2 := s2 x hxl
    rw [hpx] at e2
    have x9 : x < 9 := by have := slt x hxl; omega
    have y9 : y < 9 := by rw [hy]; exact (msg_9 ok l hc).1
    have o1 := s5 l.length (Nat.le_refl _)
    rw [List.take_length] at o1
    have o2 := s5 (l.idxOf x + 1) (by omega)
    have b1 := opn_lt ok l
    have b2 := opn_lt ok (l.take (l.idxOf x + 1))
    unfold B_X2_barredFromClosing_54 B_X2_barredFromClosing_104
    simp (disch := omega) only [qE R, pE RP, s3, o1, e2, o2, q11, lits, iI_add, iI_sub, iI_mul, iI_neg, jI_shl, jI_bit, jI_andn, iI_or, iI_and, jI_xor, iI_s]
    have b3 : nu_dif (opn P l) (opn P (l.take (l.idxOf x + 1))) &&& cr_acr P c < 2 ^ 12 := nu_lt_and (nu_lt_dif b1)
    have eb : bfc P l c = if nu_dif (opn P l) (opn P (l.take (l.idxOf x + 1))) &&& cr_acr P c = 0 then 0 else 2 ^ y := by
      unfold bfc
      rw [← hx, hpx, ← hy]
      rfl
    rw [eb] at hq
    refine br_eq (b := 0) (by omega) (by omega) (fun w => ?_) (fun w => ?_)
    · rw [if_pos (by omega)] at hq; exact hq
    · rw [if_neg (by omega)] at hq; exact hq
  unfold F_X2_barredFromClosing B_X2_barredFromClosing_33
  simp (disch := omega) only [qE R, pE RP, s4, q5 c hc, q6 c hc, lits, iI_add, iI_sub, iI_mul, iI_neg]
  refine c_has (by omega) (by omega) ?_
  have et : (stL l).testBit (cr_a P c) = decide (cr_a P c ∈ l) := by rw [stL_bit, decide_eq_true (show cr_a P c < 9 by omega), Bool.true_and]
  rw [et]
  by_cases w : cr_a P c ∈ l
  · rw [decide_eq_true w]
    refine br_ff (by decide) ?_
    refine rg_gA RP rfl ?_
    simp (disch := omega) only [pE RP, q5 c hc, q6 c hc, lits, iI_add, iI_sub, iI_mul, iI_neg]
    refine br_ff (by decide) (fin _ _ ?_ ?_)
    · unfold lyg; rw [if_pos w]
    · unfold msg; rw [if_pos w]
  · rw [decide_eq_false w]
    refine br_tt rfl ?_
    refine rg_gA RP rfl ?_
    simp (disch := omega) only [pE RP, q5 c hc, q6 c hc, lits, iI_add, iI_sub, iI_mul, iI_neg]
    refine br_tt rfl (fin _ _ ?_ ?_)
    · unfold lyg; rw [if_neg w]
    · unfold msg; rw [if_neg w]
theorem c_ready_loop {x : Nat} (hx : x < 2 ^ 9) (R : rQ h b V A) (RP : rP h a VP AP) (C : cP VP AP P) (S : qB V A P Bw Dm l) (hq : Q (iI (nu_bm (fun f => x.testBit f && decide (nu_dif (Bw f) (stL l) = 0)) (cr_n P))) h) : ∀ k u f : Nat, f + k = cr_n P → k < u → L_X2_readyAmong_5 b a (iI x) Q u (iI (nu_bm (fun f => x.testBit f && decide (nu_dif (Bw f) (stL l) = 0)) f)) (iI f) h := by
  intro k
  obtain ⟨s3, s4, s6, s1, s2, sb, s5, sB, sD, sN, snd, slt, sle⟩ := id S
  have ok := C.1.1
  have hn := ok.n9
  have k3 := C.1.2.2.2.2.1
  induction k with
  | zero =>
    intro u f hf hu
    obtain ⟨u, rfl⟩ : ∃ v, u = v + 1 := ⟨u - 1, by omega⟩
    unfold L_X2_readyAmong_5
    simp (disch := omega) only [pE RP, k3, ebr_le, lits, iI_add, iI_sub, iI_mul, iI_neg]
    rw [if_pos (by omega), show f = cr_n P by omega]
    exact hq
  | succ k ih =>
    intro u f hf hu
    obtain ⟨u, rfl⟩ : ∃ v, u = v + 1 := ⟨u - 1, by omega⟩
    have h1 := ih u (f + 1) (by omega) (by omega)
    rw [nu_bm] at h1
    unfold L_X2_readyAmong_5 B_X2_readyAmong_47
    simp (disch := omega) only [pE RP, k3, ebr_le, lits, iI_add, iI_sub, iI_mul, iI_neg, jI_shl, jI_bit, jI_andn, iI_or, iI_and, jI_xor, iI_s]
    rw [if_neg (by omega)]
    refine c_has (by omega) (by omega) ?_
    cases e : x.testBit f with
    | false =>
      rw [e] at h1
      refine br_tt rfl ?_
      simpa using h1
    | true =>
      rw [e, Bool.true_and] at h1
      refine br_ff (by decide) ?_
      simp (disch := omega) only [qE R, sb f (by omega), s4, lits, iI_add, iI_sub, iI_mul, iI_neg, jI_shl, jI_bit, jI_andn, iI_or, iI_and, jI_xor, iI_s]
      have b3 : nu_dif (Bw f) (stL l) < 2 ^ 9 := nu_lt_dif (sB f)
      refine br_eq (b := 0) (by omega) (by omega) (fun w => ?_) (fun w => ?_)
      · rw [decide_eq_true (show nu_dif (Bw f) (stL l) = 0 by omega)] at h1
        exact h1
      · rw [decide_eq_false (show ¬ nu_dif (Bw f) (stL l) = 0 by omega)] at h1
        simpa using h1
/-- the candidates, as bits -/
theorem c_cand_loop (R : rQ h b V A) (RP : rP h a VP AP) (C : cP VP AP P) (S : qB V A P Bw Dm l) (hq : Q (iI (nu_bm (cdB P Bw l) (cr_n P))) h) : ∀ k u c : Nat, c + k = cr_m P → k < u → L_X2_candidates_18 b a (iI (opn P l)) Q u (iI (brd P l c)) (iI c) h := by
  intro k
  obtain ⟨s3, s4, s6, s1, s2, sb, s5, sB, sD, sN, snd, slt, sle⟩ := id S
  have ok := C.1.1
  have hn := ok.n9
  have hm := ok.m12
  have k3 := C.1.2.2.2.2.1
  have k4 := C.1.2.2.2.2.2.1
  have q10 := C.2.1.2.2.2.1
  have q11 := C.2.1.2.2.2.2
  have bo := opn_lt ok l
  induction k with
  | zero =>
    intro u c hc hu
    obtain ⟨u, rfl⟩ : ∃ v, u = v + 1 := ⟨u - 1, by omega⟩
    have ec : c = cr_m P := by omega
    subst ec
    have bb := brd_lt ok l (cr_m P) (Nat.le_refl _)
    have p9 : 2 ^ cr_n P ≤ 2 ^ 9 := Nat.pow_le_pow_right (by decide) hn.2
    have p0 : 0 < 2 ^ cr_n P := Nat.two_pow_pos _
    unfold L_X2_candidates_18 B_X2_candidates_110
    have e1 : ((2 ^ cr_n P : Nat) : Int) - 1 = ((2 ^ cr_n P - 1 : Nat) : Int) := by omega
    simp (disch := omega) only [qE R, pE RP, k3, k4, s6, ebr_le, e1, lits, iI_add, iI_sub, iI_mul, iI_neg, jI_shl, jI_bit, jI_andn, iI_or, iI_and, jI_xor, iI_s]
    rw [if_pos (by omega)]
    have bf : nu_dif (2 ^ cr_n P - 1) (brd P l (cr_m P)) < 2 ^ 9 := nu_lt_dif (by omega)
    have bfD : nu_dif (2 ^ cr_n P - 1) (brd P l (cr_m P)) &&& Dm < 2 ^ 9 := nu_lt_and bf
    have fbit : ∀ f, (nu_dif (2 ^ cr_n P - 1) (brd P l (cr_m P))).testBit f = (decide (f < cr_n P) && !(brd P l (cr_m P)).testBit f) := fun f => by rw [nu_dif_bit, Nat.testBit_two_pow_sub_one]
    have bc : nu_bm (cdB P Bw l) (cr_n P) < 2 ^ 9 := by
      have := nu_bm_lt (cdB P Bw l) (cr_n P)
      omega
    refine br_eq (b := 0) (by omega) (by omega) (fun w => ?_) (fun w => ?_)
    · have e : nu_dif (2 ^ cr_n P - 1) (brd P l (cr_m P)) = nu_bm (cdB P Bw l) (cr_n P) := by
        refine nu_ext bf bc (fun f hf => ?_)
        rw [fbit, nu_bm_bit]
        unfold cdB
        by_cases q : f < cr_n P
        · rw [decide_eq_true q, Bool.true_and, Bool.true_and]
          cases q2 : (brd P l (cr_m P)).testBit f with
          | true => rfl
          | false =>
            have hz : Bw f = 0 := by
              by_cases z : Bw f = 0
              · exact z
              · exfalso
                have d1 := sN f (by omega) z
                have : (nu_dif (2 ^ cr_n P - 1) (brd P l (cr_m P)) &&& Dm).testBit f = true := by
                  rw [Nat.testBit_and, fbit, decide_eq_true q, q2, d1]; rfl
                rw [show nu_dif (2 ^ cr_n P - 1) (brd P l (cr_m P)) &&& Dm = 0 by omega, Nat.zero_testBit] at this
                cases this
            have : nu_dif (Bw f) (stL l) = 0 := by
              apply Nat.eq_of_testBit_eq
              intro i
              rw [nu_dif_bit, hz, Nat.zero_testBit]; rfl
            rw [decide_eq_true this]; rfl
        · rw [decide_eq_false q]; rfl
      rw [← e] at hq
      exact hq
    · have e : nu_bm (fun f => (nu_dif (2 ^ cr_n P - 1) (brd P l (cr_m P))).testBit f && decide (nu_dif (Bw f) (stL l) = 0)) (cr_n P) = nu_bm (cdB P Bw l) (cr_n P) := by
        refine nu_bm_cong _ (fun f hf => ?_)
        rw [fbit, decide_eq_true hf, Bool.true_and]
        rfl
      rw [← e] at hq
      exact ⟨20, c_ready_loop bf R RP C S hq (cr_n P) 20 0 (by omega) (by omega)⟩
  | succ k ih =>
    intro u c hc hu
    obtain ⟨u, rfl⟩ : ∃ v, u = v + 1 := ⟨u - 1, by omega⟩
    have hc' : c < cr_m P := by omega
    have h1 := ih u (c + 1) (by omega) (by omega)
    rw [brd] at h1
    have bb := brd_lt ok l c (by omega)
    have ac := acr_12 ok c
    have tc := thr_9 ok c
    unfold L_X2_candidates_18 B_X2_candidates_68
    simp (disch := omega) only [qE R, pE RP, k4, ebr_le, q10 c hc', q11 c hc', lits, iI_add, iI_sub, iI_mul, iI_neg, jI_shl, jI_bit, jI_andn, iI_or, iI_and, jI_xor, iI_s]
    rw [if_neg (by omega), opn_bit hc']
    cases ho : isO P l c with
    | false =>
      rw [ho] at h1
      exact br_tt rfl h1
    | true =>
      rw [ho, if_pos rfl] at h1
      refine br_ff (by decide) ?_
      have b3 : opn P l &&& cr_acr P c < 2 ^ 12 := nu_lt_and bo
      unfold bar1 at h1
      refine br_eq (b := 0) (by omega) (by omega) (fun w => ?_) (fun w => ?_)
      · rw [if_pos (by omega)] at h1
        exact h1
      · rw [if_neg (by omega), ← Nat.or_assoc] at h1
        refine c_bfc R RP C S hc' ho ?_
        rw [iI_or]
        exact h1
theorem c_candidates (R : rQ h b V A) (RP : rP h a VP AP) (C : cP VP AP P) (S : qB V A P Bw Dm l) (hq : Q (iI (nu_bm (cdB P Bw l) (cr_n P))) h) : F_X2_candidates b a h Q := by
  obtain ⟨s3, s4, s6, s1, s2, sb, s5, -⟩ := id S
  have sle := S.2.2.2.2.2.2.2.2.2.2.2.2
  have ok := C.1.1
  have hn := ok.n9
  have o1 := s5 l.length (Nat.le_refl _)
  rw [List.take_length] at o1
  unfold F_X2_candidates
  simp (disch := omega) only [qE R, s4, s3, o1, lits, iI_add, iI_sub, iI_mul, iI_neg]
  exact ⟨20, c_cand_loop R RP C S hq (cr_m P) 20 0 (by omega) (by have := ok.m12; omega)⟩
end Q1
