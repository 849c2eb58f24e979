/-! THE CLASS: a Pile: demands, begin -/
/-- a pile that has begun nothing yet: its paper and its demands -/
def qF (h : pz_H) (b : Nat) (V : Nat → Int) (A : Nat → Int → Int) (a : Nat) (Bw : Nat → Nat) (Dm : Nat) : Prop := rQ h b V A ∧ V 0 = a ∧ V 9 = 0 ∧ V 3 = 0 ∧ V 4 = 0 ∧ V 6 = Dm ∧ A 4 0 = 0 ∧ (∀ f : Nat, f < 9 → A 3 f = Bw f) ∧ (∀ f, Bw f < 2 ^ 9) ∧ Dm < 2 ^ 9 ∧ ∀ f, f < 9 → Bw f ≠ 0 → Dm.testBit f = true
def addD (Bw : Nat → Nat) (x y : Nat) : Nat → Nat := va_up Bw y (Bw y ||| 2 ^ x)
theorem addD_dem {n : Nat} {Bw : Nat → Nat} {x y : Nat} {H : Nat → Int} (hx : x < n) (hn : n ≤ 9) (hy : y < n) : demH n (addD Bw x y) H ↔ demH n Bw H ∧ H x < H y := by
  unfold demH addD
  constructor
  · intro h
    refine ⟨fun f hf g hg hb => h f hf g hg ?_, (h y hy x (by omega) ?_).2⟩
    · by_cases e : f = y
      · subst e; rw [va_up_self, Nat.testBit_or, hb]; rfl
      · rw [va_up_ne _ _ e]; exact hb
    · rw [va_up_self, Nat.testBit_or, Nat.testBit_two_pow, decide_eq_true rfl, Bool.or_true]
  · rintro ⟨h1, h2⟩ f hf g hg hb
    by_cases e : f = y
    · subst e
      rw [va_up_self, Nat.testBit_or, Nat.testBit_two_pow, Bool.or_eq_true, decide_eq_true_eq] at hb
      rcases hb with hb | hb
      · exact h1 f hf g hg hb
      · subst hb; exact ⟨hx, h2⟩
    · rw [va_up_ne _ _ e] at hb
      exact h1 f hf g hg hb
section Q3
variable {h : pz_H} {a b : Nat} {V VP : Nat → Int} {A AP : Nat → Int → Int} {P : cr_P} {Bw : Nat → Nat} {Dm : Nat} {l : List Nat} {fr : Nat} {Q : Int32 → pz_H → Prop} {K : pz_H → Prop}
theorem c_demandBelow {x y : Nat} (S : qF h b V A a Bw Dm) (RP : rP h a VP AP) (C : cP VP AP P) (hx : x < cr_n P) (hy : y < cr_n P) (hq : ∀ h' V' A', qF h' b V' A' a (addD Bw x y) (Dm ||| 2 ^ y) → Fr b (b + 6) h h' → K h') : F_X2_demandBelow b (iI x) (iI y) h K := by
  obtain ⟨R, v0, v9, v3, v4, v6, o0, sb, sB, sD, sN⟩ := id S
  have hn := C.1.1.n9
  have y9 : y < 9 := by omega
  unfold F_X2_demandBelow B_X2_demandBelow_53
  rw [(qE R).2.1, v0, oR_nat]
  show pq_gN h b 2 0 (fun r3 => pq_sw r3 False _)
  rw [(qE R).2.1, v0, oR_nat]
  show pq_o h a 1 _
  refine rg_o RP (c_hasFace RP C.1 (by omega) ?_)
  rw [decide_eq_true (show (0 : Int) ≤ (x : Int) ∧ (x : Int) < (cr_n P : Int) by omega)]
  refine br_ff (by decide) ?_
  rw [(qE R).2.1, v0, oR_nat]
  show pq_o h a 1 _
  refine rg_o RP (c_hasFace RP C.1 (by omega) ?_)
  rw [decide_eq_true (show (0 : Int) ≤ (y : Int) ∧ (y : Int) < (cr_n P : Int) by omega)]
  refine br_ff (by decide) ?_
  have by9 := sB y
  simp (disch := omega) only [qE R, sb y y9, lits, iI_add, iI_sub, iI_mul, iI_neg, jI_shl, jI_bit, jI_andn, iI_or, iI_and, jI_xor, iI_s]
  refine rg_sI R (by decide) (by decide) rfl (by decide) ⟨by omega, by simp only [lQ]; omega⟩ fun h1 R1 f1 => ?_
  simp (disch := omega) only [qE R1, v6, lits, iI_add, iI_sub, iI_mul, iI_neg, jI_shl, jI_bit, jI_andn, iI_or, iI_and, jI_xor, iI_s]
  refine rg_p (V' := va_up V 6 ((Dm ||| 2 ^ y : Nat) : Int)) R1 rfl (Nat.le_of_ble_eq_true rfl) fun h2 R2 f2 => ?_
  refine hq h2 _ _ ⟨R2, ?_, ?_, ?_, ?_, va_up_self _ _ _, ?_, fun f hf => ?_, fun f => ?_, nu_lt_or sD (nu_lt_pow y9), fun f hf hne => ?_⟩ (f1.tr f2)
  · rw [va_up_ne _ _ (by decide)]; exact v0
  · rw [va_up_ne _ _ (by decide)]; exact v9
  · rw [va_up_ne _ _ (by decide)]; exact v3
  · rw [va_up_ne _ _ (by decide)]; exact v4
  · rw [au_nk (by decide)]; exact o0
  · unfold addD
    by_cases e : f = y
    · subst e; rw [au_at, va_up_self]
    · rw [au_ne (by omega), va_up_ne _ _ e]; exact sb f hf
  · unfold addD
    by_cases e : f = y
    · subst e; rw [va_up_self]; exact nu_lt_or by9 (nu_lt_pow (by omega))
    · rw [va_up_ne _ _ e]; exact sB f
  · rw [Nat.testBit_or, Nat.testBit_two_pow]
    by_cases e : y = f
    · rw [decide_eq_true e, Bool.or_true]
    · unfold addD at hne
      rw [va_up_ne _ _ (fun z => e z.symm)] at hne
      rw [sN f hf hne]; rfl
/-- the demand that crease c be turned to t -/
theorem c_demandTurn {c t : Nat} (S : qF h b V A a Bw Dm) (RP : rP h a VP AP) (C : cP VP AP P) (hc : c < cr_m P) (ht : t = 1 ∨ t = 2) (hq : ∀ h' V' A' Bw' Dm', qF h' b V' A' a Bw' Dm' → (∀ H, hts (cr_n P) H → (demH (cr_n P) Bw' H ↔ demH (cr_n P) Bw H ∧ cr_mi P H c = t)) → Fr b (b + 6) h h' → K h') : F_X2_demandTurn b (iI c) (iI t) h K := by
  obtain ⟨R, v0, -⟩ := id S
  obtain ⟨ok, -, -, -, -, -, -, -, -, q5, q6, -⟩ := id C.1
  have hm := ok.m12
  have hn := ok.n9
  obtain ⟨a1, a2, a3⟩ := ok.ab hc
  unfold F_X2_demandTurn B_X2_demandTurn_17 B_X2_demandTurn_50 B_X2_demandTurn_72
  rw [(qE R).2.1, v0, oR_nat]
  show pq_o h a 1 _
  refine rg_o RP (c_hasCrease RP C.1 (by omega) ?_)
  rw [decide_eq_true (show (0 : Int) ≤ (c : Int) ∧ (c : Int) < (cr_m P : Int) by omega)]
  refine br_ff (by decide) ?_
  simp (disch := omega) only [pE RP, q5 c hc, q6 c hc, lits, iI_add, iI_sub, iI_mul, iI_neg]
  refine c_isFrontUp RP C.1 a1 ?_
  have below : ∀ x y, x < cr_n P → y < cr_n P → (∀ H, hts (cr_n P) H → (H x < H y ↔ cr_mi P H c = t)) → F_X2_demandBelow b (iI x) (iI y) h K := fun x y hx hy e =>
    c_demandBelow S RP C hx hy (fun h' V' A' S' f' => hq h' V' A' _ _ S' (fun H hH => by rw [addD_dem hx hn.2 hy, e H hH]) f')
  have mi : ∀ H, hts (cr_n P) H → (cr_mi P H c = 2 ↔ decide (H (cr_a P c) < H (cr_b P c)) = cr_up P (cr_a P c)) := fun H _ => by
    unfold cr_mi
    by_cases q : decide (H (cr_a P c) < H (cr_b P c)) = cr_up P (cr_a P c)
    · rw [if_pos q]; simp [q]
    · rw [if_neg q]; simp [q]
  have tot : ∀ H, hts (cr_n P) H → (H (cr_b P c) < H (cr_a P c) ↔ ¬ H (cr_a P c) < H (cr_b P c)) := fun H hH => by
    have : H (cr_a P c) ≠ H (cr_b P c) := fun z => a3 (hH.2 _ _ a1 a2 z)
    omega
  cases hu : cr_up P (cr_a P c) with
  | true =>
    rw [hu] at mi
    refine br_eq (b := 2) (by omega) (by omega) (fun w => br_tt rfl (rg_o R (below _ _ a1 a2 (fun H hH => ?_)))) (fun w => br_ff (by decide) (rg_o R (below _ _ a2 a1 (fun H hH => ?_))))
    · have m := mi H hH
      rw [show t = 2 by omega, m, decide_eq_true_eq]
    · have m := mi H hH
      have m12 := cr_mi12 P H c
      rw [tot H hH]
      rw [decide_eq_true_eq] at m
      rw [← m]
      omega
  | false =>
    rw [hu] at mi
    refine br_eq (b := 2) (by omega) (by omega) (fun w => br_ff (by decide) (rg_o R (below _ _ a2 a1 (fun H hH => ?_)))) (fun w => br_tt rfl (rg_o R (below _ _ a1 a2 (fun H hH => ?_))))
    · have m := mi H hH
      rw [tot H hH, show t = 2 by omega, m, decide_eq_false_iff_not]
    · have m := mi H hH
      have m12 := cr_mi12 P H c
      rw [decide_eq_false_iff_not] at m
      constructor
      · intro z
        have : ¬ cr_mi P H c = 2 := fun e => (m.mp e) z
        omega
      · intro z
        by_cases q : H (cr_a P c) < H (cr_b P c)
        · exact q
        · have := m.mpr q; omega
/-- what begin demands: the marks of the creases that count -/
def mkd (P : cr_P) (ct : Nat → Bool) (k : Nat) (H : Nat → Int) : Prop := ∀ c, c < k → ct c = true → cr_mk P c ≠ 0 → cr_mi P H c = cr_mk P c
theorem c_begin42 {x : Int32} {ct : Nat → Bool} (hx : ∀ c : Nat, c < 12 → ∀ (h : pz_H) (Q : Int32 → pz_H → Prop), Q (iI (bI (ct c))) h → F_X4_has x (iI c) h Q) (C : cP VP AP P) (dis : a + 13 ≤ b ∨ b + 6 ≤ a) (RP : rP h a VP AP)
    (hq : ∀ h' V' A' Bw' Dm', qF h' b V' A' a Bw' Dm' → (∀ H, hts (cr_n P) H → (demH (cr_n P) Bw' H ↔ mkd P ct (cr_m P) H)) → Fr b (b + 6) h h' → K h') : ∀ (k u c : Nat) (h0 : pz_H) (V0 : Nat → Int) (A0 : Nat → Int → Int) (Bw0 : Nat → Nat) (Dm0 : Nat), c + k = cr_m P → k < u → qF h0 b V0 A0 a Bw0 Dm0 → (∀ H, hts (cr_n P) H → (demH (cr_n P) Bw0 H ↔ mkd P ct c H)) → Fr b (b + 6) h h0 → L_X2_beginWith_42 b a x K u (iI c) h0 := by
  intro k
  have ok := C.1.1
  have hm := ok.m12
  have k4 := C.1.2.2.2.2.2.1
  have q8 := C.2.2.1
  induction k with
  | zero =>
    intro u c h0 V0 A0 Bw0 Dm0 hc hu S e f
    have RP0 : rP h0 a VP AP := RP.fr f (by omega)
    obtain ⟨u, rfl⟩ : ∃ v, u = v + 1 := ⟨u - 1, by omega⟩
    unfold L_X2_beginWith_42
    simp (disch := omega) only [pE RP0, k4, ebr_le, lits, iI_add, iI_sub, iI_mul, iI_neg]
    rw [if_pos (by omega)]
    rw [show c = cr_m P by omega] at e
    exact hq h0 V0 A0 Bw0 Dm0 S e f
  | succ k ih =>
    intro u c h0 V0 A0 Bw0 Dm0 hc hu S e f
    have RP0 : rP h0 a VP AP := RP.fr f (by omega)
    have hc' : c < cr_m P := by omega
    have b8 := ok.2.2.1 c
    obtain ⟨u, rfl⟩ : ∃ v, u = v + 1 := ⟨u - 1, by omega⟩
    unfold L_X2_beginWith_42 B_X2_beginWith_78
    have ec : iI (c : Int) + (1 : Int32) = iI ((c + 1 : Nat) : Int) := by rw [iI_1, iI_add]; rfl
    rw [ec]
    have skip : (ct c = true → cr_mk P c = 0) → L_X2_beginWith_42 b a x K u (iI ((c + 1 : Nat) : Int)) h0 := fun z => by
      refine ih u (c + 1) h0 V0 A0 Bw0 Dm0 (by omega) (by omega) S (fun H hH => ?_) f
      rw [e H hH]
      unfold mkd
      refine ⟨fun w d hd h1 h2 => ?_, fun w d hd => w d (by omega)⟩
      by_cases q : d = c
      · subst q; exact absurd (z h1) h2
      · exact w d (by omega) h1 h2
    refine rg_gI RP0 rfl ?_
    rw [k4]
    refine br_le (by omega) (by omega) (fun w => by omega) (fun _ => ?_)
    refine hx c (by omega) h0 _ ?_
    cases h1 : ct c with
    | false => exact br_tt rfl (skip (fun z => by rw [h1] at z; cases z))
    | true =>
      refine br_ff (by decide) ?_
      simp (disch := omega) only [pE RP0, q8 c hc', lits, iI_add, iI_sub, iI_mul, iI_neg]
      refine br_eq (b := 0) (by omega) (by omega) (fun w => skip (fun _ => by omega)) (fun w => ?_)
      rw [(qE S.1).1]
      refine c_demandTurn S RP0 C hc' (by omega) (fun h' V' A' Bw' Dm' S' e' f' => ?_)
      refine ih u (c + 1) h' V' A' Bw' Dm' (by omega) (by omega) S' (fun H hH => ?_) (f.tr f')
      rw [e' H hH, e H hH]
      unfold mkd
      constructor
      · rintro ⟨w1, w2⟩ d hd h3 h4
        by_cases q : d = c
        · subst q; exact w2
        · exact w1 d (by omega) h3 h4
      · intro w1
        exact ⟨fun d hd => w1 d (by omega), w1 c (by omega) h1 (by omega)⟩
theorem c_beginWith {x : Int32} {ct : Nat → Bool} (hx : ∀ c : Nat, c < 12 → ∀ (h : pz_H) (Q : Int32 → pz_H → Prop), Q (iI (bI (ct c))) h → F_X4_has x (iI c) h Q) (R : rQ h b V A) (C : cP VP AP P) (dis : a + 13 ≤ b ∨ b + 6 ≤ a) (RP : rP h a VP AP)
    (hq : ∀ h' V' A' Bw' Dm', qF h' b V' A' a Bw' Dm' → (∀ H, hts (cr_n P) H → (demH (cr_n P) Bw' H ↔ mkd P ct (cr_m P) H)) → Fr b (b + 6) h h' → K h') : F_X2_beginWith b a x h K := by
  have ok := C.1.1
  have hm := ok.m12
  unfold F_X2_beginWith
  have pr : ∀ z : Int, va_rf (oR z) = va_rf (oR z) := fun _ => rfl
  refine rg_p (V' := va_up V 0 (a : Int)) R (by
    show (fQ b V).set 0 (.ref a) = fQ b (va_up V 0 (a : Int))
    have : va_rf (oR ((va_up V 0 (a : Int)) 0)) = .ref a := by rw [va_up_self, oR_nat]; rfl
    unfold fQ
    rw [this]
    rfl) (Nat.le_of_ble_eq_true rfl) fun h1 R1 f1 => ?_
  refine rg_p (V' := va_up (va_up V 0 (a : Int)) 3 0) R1 rfl (Nat.le_of_ble_eq_true rfl) fun h2 R2 f2 => ?_
  refine rg_p (V' := va_up (va_up (va_up V 0 (a : Int)) 3 0) 4 0) R2 rfl (Nat.le_of_ble_eq_true rfl) fun h3 R3 f3 => ?_
  rw [(qE R3).2.2.2.2.2.2.2.2.1]
  refine rg_sI (x := 0) (z := 0) R3 (by decide) (by decide) rfl (by decide) ⟨by omega, by simp only [lQ]; omega⟩ fun h4 R4 f4 => ?_
  refine rg_p (V' := va_up (va_up (va_up (va_up V 0 (a : Int)) 3 0) 4 0) 9 0) R4 rfl (Nat.le_of_ble_eq_true rfl) fun h5 R5 f5 => ?_
  refine rg_gA R5 rfl (rg_fill (x := 0) R5 (by decide) (by decide) rfl (by decide) (fun h6 A6 R6 e6 l6 f6 => ?_))
  refine rg_p (V' := va_up (va_up (va_up (va_up (va_up V 0 (a : Int)) 3 0) 4 0) 9 0) 6 0) R6 rfl (Nat.le_of_ble_eq_true rfl) fun h7 R7 f7 => ?_
  have F := f1.tr (f2.tr (f3.tr (f4.tr (f5.tr (f6.tr f7)))))
  refine ⟨20, c_begin42 hx C dis RP hq (cr_m P) 20 0 h7 _ A6 (fun _ => 0) 0 (by omega) (by omega) ⟨R7, ?_, ?_, ?_, ?_, va_up_self _ _ _, ?_, fun f hf => l6 f hf, fun _ => show 0 < 2 ^ 9 by decide, by decide, fun f _ z => absurd rfl z⟩ (fun H hH => ?_) F⟩
  · rw [va_up_ne _ _ (by decide), va_up_ne _ _ (by decide), va_up_ne _ _ (by decide), va_up_ne _ _ (by decide), va_up_self]
  · rw [va_up_ne _ _ (by decide), va_up_self]
  · rw [va_up_ne _ _ (by decide), va_up_ne _ _ (by decide), va_up_ne _ _ (by decide), va_up_self]
  · rw [va_up_ne _ _ (by decide), va_up_ne _ _ (by decide), va_up_self]
  · rw [e6 4 (by decide)]; exact au_at
  · unfold demH mkd
    exact ⟨fun _ c hc => by omega, fun _ f _ g _ hb => by rw [Nat.zero_testBit] at hb; cases hb⟩
theorem has_m1 : ∀ c : Nat, c < 12 → ∀ (h : pz_H) (Q : Int32 → pz_H → Prop), Q (iI (bI true)) h → F_X4_has (-1 : Int32) (iI c) h Q := fun c hc h Q hq => by
  have : ∀ c, c < 12 → ((-1 : Int32) >>> (nI c &&& 31)) &&& 1 = 1 := by decide +kernel
  unfold F_X4_has B_X4_has_13
  rw [iI_nat, this c hc]
  exact br_ff (by decide) (rg_z (Or.inr rfl) hq)
theorem c_begin (R : rQ h b V A) (C : cP VP AP P) (dis : a + 13 ≤ b ∨ b + 6 ≤ a) (RP : rP h a VP AP)
    (hq : ∀ h' V' A' Bw' Dm', qF h' b V' A' a Bw' Dm' → (∀ H, hts (cr_n P) H → (demH (cr_n P) Bw' H ↔ alM P H)) → Fr b (b + 6) h h' → K h') : F_X2_begin b a h K := by
  unfold F_X2_begin
  refine rg_o R (c_beginWith (ct := fun _ => true) has_m1 R C dis RP (fun h' V' A' Bw' Dm' S e f => hq h' V' A' Bw' Dm' S (fun H hH => ?_) f))
  rw [e H hH]
  unfold mkd alM cr_mok
  refine forall_congr' (fun c => forall_congr' (fun hc => ?_))
  rw [Bool.or_eq_true, decide_eq_true_eq, decide_eq_true_eq]
  constructor
  · intro w
    by_cases q : cr_mk P c = 0
    · exact Or.inl q
    · exact Or.inr (w rfl q).symm
  · rintro (w | w) - h2
    · exact absurd w h2
    · exact w.symm
end Q3
