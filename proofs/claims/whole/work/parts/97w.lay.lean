/-! THE CLASS: Lay -/
def out2 (p q : Nat) : pz_E := .inl (3, 2, .inr (.inr (.inr (.inr (fun i => if i = 0 then some p else if i = 1 then some q else none)))))
def eA (b : Bool) : Nat := if b then 3 else 2
def tA (b : Bool) : Nat := if b then 6 else 5
/-- a Lay at y: its object, its edges at y + 2 and y + 3, its turns at y + 5 and y + 6 -/
def rY (h : pz_H) (y : Nat) (F : Int) (A : Nat → Int → Int) : Prop := h.1 y = some (.inr (0, [.int (iI F), .ref (y + 1), .ref (y + 4)])) ∧ h.1 (y + 1) = some (out2 (y + 2) (y + 3)) ∧ h.1 (y + 4) = some (out2 (y + 5) (y + 6)) ∧ ∀ b : Bool, ar h (y + eA b) 10 (A (eA b)) ∧ ar h (y + tA b) 9 (A (tA b))
theorem eg_aA {h : pz_H} {a p q : Nat} (e : h.1 a = some (out2 p q)) (b : Bool) (K : Nat → Prop) : pq_aA h a (iI (bI b)) K = K (if b then q else p) := by
  refine propext ⟨fun ⟨n, f, c, e1, e2, e3, k⟩ => ?_, fun k => ⟨2, _, _, e, ?_, ?_, k⟩⟩
  · rw [e, out2] at e1
    cases e1
    cases b with
    | false =>
      have : (if (0 : Nat) = 0 then some p else if (0 : Nat) = 1 then some q else none) = some c := e3
      rw [if_pos rfl] at this
      cases this
      exact k
    | true =>
      have : (if (1 : Nat) = 0 then some p else if (1 : Nat) = 1 then some q else none) = some c := e3
      rw [if_neg (by decide), if_pos rfl] at this
      cases this
      exact k
  · cases b with
    | false => exact iI_in (i := 0) (by decide) (by decide)
    | true => exact iI_in (i := 1) (by decide) (by decide)
  · cases b <;> rfl
theorem ylE {h : pz_H} {y : Nat} {F : Int} {A : Nat → Int → Int} (R : rY h y F A) : (∀ K, pq_o h y 0 K = K) ∧ (∀ K, pq_gI h y 0 0 K = K (iI F)) ∧ (∀ K, pq_gA h y 0 1 K = K (y + 1)) ∧ (∀ K, pq_gA h y 0 2 K = K (y + 4)) ∧ (∀ (b : Bool) K, pq_aA h (y + 1) (iI (bI b)) K = K (y + eA b)) ∧ (∀ (b : Bool) K, pq_aA h (y + 4) (iI (bI b)) K = K (y + tA b)) ∧ (∀ (b : Bool) z K, 0 ≤ z → z < 10 → pq_aI h (y + eA b) (iI z) K = K (iI (A (eA b) z))) ∧ (∀ (b : Bool) z K, 0 ≤ z → z < 9 → pq_aI h (y + tA b) (iI z) K = K (iI (A (tA b) z))) := by
  obtain ⟨r0, r1, r4, ra⟩ := R
  refine ⟨fun K => propext ⟨fun ⟨_, _, k⟩ => k, fun k => ⟨_, r0, k⟩⟩, fun K => propext ⟨fun ⟨fs, v, e1, e2, k⟩ => ?_, fun k => ⟨_, _, r0, rfl, k⟩⟩, fun K => propext ⟨fun ⟨fs, v, e1, e2, k⟩ => ?_, fun k => ⟨_, _, r0, rfl, k⟩⟩, fun K => propext ⟨fun ⟨fs, v, e1, e2, k⟩ => ?_, fun k => ⟨_, _, r0, rfl, k⟩⟩, fun b K => ?_, fun b K => ?_, fun b z K h1 h2 => ar_e (ra b).1 (by decide) z K h1 h2, fun b z K h1 h2 => ar_e (ra b).2 (by decide) z K h1 h2⟩
  · rw [r0] at e1; cases e1; cases e2; exact k
  · rw [r0] at e1; cases e1; cases e2; exact k
  · rw [r0] at e1; cases e1; cases e2; exact k
  · rw [eg_aA r1]; cases b <;> rfl
  · rw [eg_aA r4]; cases b <;> rfl
theorem ar_s {h : pz_H} {b n : Nat} {f : Int → Int} {x z : Int} {K : pz_H → Prop} (R : ar h b n f) (hn : n ≤ 65536) (hx : 0 ≤ x ∧ x < n) (kk : ∀ h', h' = pz_up h b (rg_c 0 n (zu f x z)) → Fr b (b + 1) h h' → K h') : pq_sI h b (iI x) (iI z) K := by
  obtain ⟨i, rfl⟩ : ∃ i : Nat, x = i := ⟨x.toNat, by omega⟩
  refine ⟨n, _, R, iI_in (by omega) (by omega), kk _ ?_ (Fr.up (by omega) (by omega))⟩
  rw [iI_clamp (by omega), rg_upd, rg_c]
theorem eA_t (b : Bool) : eA b < 7 ∧ tA b < 7 ∧ eA b ≠ tA b ∧ 2 ≤ eA b ∧ 2 ≤ tA b ∧ eA b ≠ 4 ∧ tA b ≠ 4 ∧ eA b ≠ tA (!b) ∧ eA b ≠ eA (!b) ∧ tA b ≠ tA (!b) := by cases b <;> decide
theorem rY.setE {h : pz_H} {y : Nat} {F : Int} {A : Nat → Int → Int} (R : rY h y F A) (b : Bool) (x z : Int) : rY (pz_up h (y + eA b) (rg_c 0 10 (zu (A (eA b)) x z))) y F (au A (eA b) x z) := by
  obtain ⟨r0, r1, r4, ra⟩ := R
  have eb := eA_t b
  refine ⟨by rw [pz_up_ne (by omega)]; exact r0, by rw [pz_up_ne (by omega)]; exact r1, by rw [pz_up_ne (by omega)]; exact r4, fun c => ?_⟩
  have ec := eA_t c
  refine ⟨?_, ?_⟩
  · by_cases q : c = b
    · subst q
      unfold ar
      rw [pz_up_at]
      unfold au
      rw [va_up_self]
    · have hne : eA c ≠ eA b := by cases b <;> cases c <;> first | exact absurd rfl q | decide
      unfold ar
      rw [pz_up_ne (by omega), au_nk hne]
      exact (ra c).1
  · have hne : tA c ≠ eA b := by cases b <;> cases c <;> decide
    unfold ar
    rw [pz_up_ne (by omega), au_nk hne]
    exact (ra c).2
theorem rY.setT {h : pz_H} {y : Nat} {F : Int} {A : Nat → Int → Int} (R : rY h y F A) (b : Bool) (x z : Int) : rY (pz_up h (y + tA b) (rg_c 0 9 (zu (A (tA b)) x z))) y F (au A (tA b) x z) := by
  obtain ⟨r0, r1, r4, ra⟩ := R
  have eb := eA_t b
  refine ⟨by rw [pz_up_ne (by omega)]; exact r0, by rw [pz_up_ne (by omega)]; exact r1, by rw [pz_up_ne (by omega)]; exact r4, fun c => ?_⟩
  refine ⟨?_, ?_⟩
  · have hne : eA c ≠ tA b := by cases b <;> cases c <;> decide
    unfold ar
    rw [pz_up_ne (by omega), au_nk hne]
    exact (ra c).1
  · by_cases q : c = b
    · subst q
      unfold ar
      rw [pz_up_at]
      unfold au
      rw [va_up_self]
    · have hne : tA c ≠ tA b := by cases b <;> cases c <;> first | exact absurd rfl q | decide
      unfold ar
      rw [pz_up_ne (by omega), au_nk hne]
      exact (ra c).2
theorem rY.fr {h h' : pz_H} {y : Nat} {F : Int} {A : Nat → Int → Int} {lo hi : Nat} (R : rY h y F A) (f : Fr lo hi h h') (hd : y + 7 ≤ lo ∨ hi ≤ y) : rY h' y F A := by
  obtain ⟨r0, r1, r4, ra⟩ := R
  refine ⟨by rw [f.2 _ (by omega)]; exact r0, by rw [f.2 _ (by omega)]; exact r1, by rw [f.2 _ (by omega)]; exact r4, fun b => ?_⟩
  have eb := eA_t b
  unfold ar
  rw [f.2 _ (by omega), f.2 _ (by omega)]
  exact ra b
def bnd (P : cr_P) (b : Bool) : Nat := if b then cr_rw P else cr_cl P
def lnO (P : cr_P) (b : Bool) (i : Nat) : Nat := if b then gaps P false + i else i
def fsO (P : cr_P) (b : Bool) (F : Nat) : Nat := if b then F / 2 ^ gaps P false else F % 2 ^ gaps P false
theorem lnO_bit {P : cr_P} {F : Nat} {b : Bool} {i : Nat} (hi : i < gaps P b) : F.testBit (lnO P b i) = (fsO P b F).testBit i := by
  unfold lnO fsO
  cases b with
  | true => simp only [if_true]; rw [Nat.testBit_div_two_pow, Nat.add_comm]
  | false => simp only [Bool.false_eq_true, if_false]; rw [Nat.testBit_mod_two_pow, decide_eq_true hi, Bool.true_and]
/-- the paper as it lies, where the lines of F are folded -/
def lyS (A : Nat → Int → Int) (P : cr_P) (F : Nat) : Prop := ∀ b : Bool, (∀ i : Nat, i ≤ bnd P b → A (eA b) i = lA (cr_ln P) (fsO P b F) i) ∧ ∀ i : Nat, i < bnd P b → A (tA b) i = bI (!gU (fsO P b F) i)
section Y1
variable {h : pz_H} {a y : Nat} {VP : Nat → Int} {A AP : Nat → Int → Int} {P : cr_P} {F : Nat} {Q : Int32 → pz_H → Prop} {K : pz_H → Prop}
theorem c_bands {b : Bool} (RP : rP h a VP AP) (B : cB VP AP P) (hq : Q (iI (bnd P b)) h) : F_X0_bands y a (iI (bI b)) h Q := by
  obtain ⟨ok, -, k1, k2, -⟩ := B
  unfold F_X0_bands B_X0_bands_15
  simp (disch := omega) only [pE RP, k1, k2, lits, iI_add, iI_sub, iI_mul, iI_neg]
  cases b with
  | false => exact br_tt rfl hq
  | true => exact br_ff (by decide) hq
theorem c_lineBehind {b : Bool} {i : Nat} (RP : rP h a VP AP) (B : cB VP AP P) (hq : Q (iI (lnO P b i)) h) : F_X0_lineBehind y a (iI (bI b)) (iI i) h Q := by
  obtain ⟨ok, -, k1, k2, -⟩ := B
  have c1 := ok.1.2.2.1
  unfold F_X0_lineBehind B_X0_lineBehind_16
  have e : (cr_cl P : Int) - 1 + (i : Int) = ((gaps P false + i : Nat) : Int) := by unfold gaps; simp; omega
  simp (disch := omega) only [pE RP, k2, e, lits, iI_add, iI_sub, iI_mul, iI_neg]
  cases b with
  | false => exact br_tt rfl hq
  | true => exact br_ff (by decide) hq
theorem bnd_g {P : cr_P} (ok : cr_ok P) (b : Bool) : bnd P b = gaps P b + 1 ∧ bnd P b ≤ 9 := by
  obtain ⟨h1, h2⟩ := cr_small ok.1
  obtain ⟨-, r1, c1, -⟩ := ok.1
  unfold bnd gaps
  cases b <;> simp <;> omega
theorem lnO_lt {P : cr_P} (ok : cr_ok P) {b : Bool} {i : Nat} (hi : i < gaps P b) : lnO P b i < 32 := by
  have g1 := (ok.g8 false).1
  have g2 := (ok.g8 b).1
  unfold lnO
  split <;> omega
theorem c_put18 {b : Bool} {kk : Int32 → pz_H → Prop} (RP : rP h a VP AP) (B : cB VP AP P) (dis : a + 13 ≤ y ∨ y + 7 ≤ a) (hF : F < 2 ^ 31)
    (hq : ∀ h' A', rY h' y F A' → (∀ i : Nat, i ≤ bnd P b → A' (eA b) i = lA (cr_ln P) (fsO P b F) i) → (∀ i : Nat, i < bnd P b → A' (tA b) i = bI (!gU (fsO P b F) i)) → (∀ j, j ≠ eA b → j ≠ tA b → A' j = A j) → Fr y (y + 7) h h' → kk (iI (bI b) + (1 : Int32)) h') : ∀ (k u i : Nat) (h0 : pz_H) (A0 : Nat → Int → Int), i + k = bnd P b → k < u → rY h0 y F A0 → (∀ q : Nat, q ≤ i → A0 (eA b) q = lA (cr_ln P) (fsO P b F) q) → (∀ q : Nat, q < i → A0 (tA b) q = bI (!gU (fsO P b F) q)) → (∀ j, j ≠ eA b → j ≠ tA b → A0 j = A j) → Fr y (y + 7) h h0 → L_X0_put_18 y a (iI (bI b)) kk K u (iI (bI (!gU (fsO P b F) (i - 1)))) (iI i) h0 := by
  intro k
  have ok := B.1
  have hb := bnd_g ok b
  have q3 := B.2.2.2.2.2.2.2.2.1
  have eb := eA_t b
  induction k with
  | zero =>
    intro u i h0 A0 hi hu R e t o f
    have RP0 : rP h0 a VP AP := RP.fr f (by omega)
    obtain ⟨u, rfl⟩ : ∃ v, u = v + 1 := ⟨u - 1, by omega⟩
    unfold L_X0_put_18
    rw [(ylE R).1]
    refine c_bands RP0 B ?_
    refine br_le (by omega) (by omega) (fun _ => ?_) (fun w => by omega)
    exact hq h0 A0 R (fun q hq => e q (by omega)) (fun q hq => t q (by omega)) o f
  | succ k ih =>
    intro u i h0 A0 hi hu R e t o f
    have RP0 : rP h0 a VP AP := RP.fr f (by omega)
    obtain ⟨u, rfl⟩ : ∃ v, u = v + 1 := ⟨u - 1, by omega⟩
    -- with this band's turn
    have fin : B_X0_put_60 y a (iI (bI b)) (iI (bI (!gU (fsO P b F) i))) (iI i) kk (fun z0 z1 hz => L_X0_put_18 y a (iI (bI b)) kk K u z0 z1 hz) K h0 := by
      unfold B_X0_put_60
      have e0 := e i (Nat.le_refl _)
      simp (disch := omega) only [pE RP0, ylE R, q3 i (by omega), lits, iI_add, iI_sub, iI_mul, iI_neg]
      refine ar_s (R.2.2.2 b).2 (by decide) ⟨by omega, by omega⟩ fun h1 e1 f1 => ?_
      have R1 := R.setT b i (bI (!gU (fsO P b F) i))
      rw [← e1] at R1
      have F1 : Fr y (y + 7) h0 h1 := f1.wide (by omega) (by omega)
      have e01 : (au A0 (tA b) (i : Int) (bI (!gU (fsO P b F) i))) (eA b) (i : Int) = lA (cr_ln P) (fsO P b F) i := by rw [au_nk (by omega)]; exact e0
      simp (disch := omega) only [ylE R1, e01, lits, iI_add, iI_sub, iI_mul, iI_neg]
      have last : ∀ x : Int, x = (if gU (fsO P b F) i then (cr_ln P i : Int) else -(cr_ln P i : Int)) → B_X0_put_112 y a (iI (bI b)) (iI (bI (!gU (fsO P b F) i))) (iI i) (y + eA b) (iI ((i : Int) + 1)) (iI (lA (cr_ln P) (fsO P b F) i)) (iI x) kk (fun z0 z1 hz => L_X0_put_18 y a (iI (bI b)) kk K u z0 z1 hz) K h1 := fun x hx => by
        unfold B_X0_put_112
        rw [iI_add]
        refine ar_s (R1.2.2.2 b).1 (by decide) ⟨by omega, by omega⟩ fun h2 e2 f2 => ?_
        have R2 := R1.setE b ((i : Int) + 1) (lA (cr_ln P) (fsO P b F) i + x)
        rw [← e2] at R2
        have F2 : Fr y (y + 7) h1 h2 := f2.wide (by omega) (by omega)
        have ei : iI (i : Int) + (1 : Int32) = iI ((i + 1 : Nat) : Int) := by rw [iI_1, iI_add]; rfl
        rw [ei]
        refine ih u (i + 1) h2 _ (by omega) (by omega) R2 (fun q hq => ?_) (fun q hq => ?_) (fun j j1 j2 => ?_) (f.tr (F1.tr F2))
        · by_cases w : q = i + 1
          · subst w
            rw [show ((i + 1 : Nat) : Int) = (i : Int) + 1 from rfl, au_at, lA, hx]
          · rw [au_ne (by omega), au_nk (by omega)]; exact e q (by omega)
        · rw [au_nk (by omega)]
          by_cases w : q = i
          · subst w; exact au_at
          · rw [au_ne (by omega)]; exact t q (by omega)
        · rw [au_nk j1, au_nk j2]; exact o j j1 j2
      cases hg : gU (fsO P b F) i with
      | true =>
        rw [hg] at last
        exact br_tt rfl (last _ rfl)
      | false =>
        rw [hg] at last
        exact br_ff (by decide) (last _ rfl)
    unfold L_X0_put_18
    rw [(ylE R).1]
    refine c_bands RP0 B ?_
    refine br_le (by omega) (by omega) (fun w => by omega) (fun _ => ?_)
    refine br_le (b := 0) (by omega) (by omega) (fun w => ?_) (fun w => ?_)
    · have : i = 0 := by omega
      subst this
      exact fin
    · obtain ⟨j, rfl⟩ : ∃ j, i = j + 1 := ⟨i - 1, by omega⟩
      have ej : iI ((j + 1 : Nat) : Int) - (1 : Int32) = iI (j : Int) := by rw [iI_1, iI_sub]; congr 1; omega
      rw [ej]
      simp (disch := omega) only [ylE R, lits, iI_add, iI_sub, iI_mul, iI_neg]
      refine c_lineBehind RP0 B ?_
      refine c_has hF (lnO_lt ok (by omega)) ?_
      rw [lnO_bit (by omega)]
      rw [gU] at fin
      rw [Nat.add_sub_cancel]
      cases hb1 : (fsO P b F).testBit j with
      | false =>
        rw [hb1] at fin
        refine br_tt rfl ?_
        simpa using fin
      | true =>
        rw [hb1] at fin
        refine br_ff (by decide) ?_
        have e1 : (1 : Int) - bI (!gU (fsO P b F) j) = bI (!(gU (fsO P b F) j != true)) := by cases gU (fsO P b F) j <;> rfl
        rw [e1]
        exact fin
theorem c_layPut {F0 : Int} (R : rY h y F0 A) (RP : rP h a VP AP) (B : cB VP AP P) (dis : a + 13 ≤ y ∨ y + 7 ≤ a) (hF : F < 2 ^ 31) (z0 : ∀ b, A (eA b) 0 = 0) (hq : ∀ h' A', rY h' y F A' → lyS A' P F → (∀ b, A' (eA b) 0 = 0) → Fr y (y + 7) h h' → K h') : F_X0_put y a (iI F) h K := by
  have ok := B.1
  unfold F_X0_put
  refine ⟨_, R.1, Nat.le_of_ble_eq_true rfl, ?_⟩
  have f1 : Fr y (y + 7) h (pz_up h y (.inr (0, [.int (iI F), .ref (y + 1), .ref (y + 4)]))) := Fr.up (by omega) (by omega)
  have R1 : rY (pz_up h y (.inr (0, [.int (iI F), .ref (y + 1), .ref (y + 4)]))) y F A := by
    obtain ⟨r0, r1, r4, ra⟩ := R
    refine ⟨pz_up_at, by rw [pz_up_ne (by omega)]; exact r1, by rw [pz_up_ne (by omega)]; exact r4, fun b => ?_⟩
    have eb := eA_t b
    unfold ar
    rw [pz_up_ne (by omega), pz_up_ne (by omega)]
    exact ra b
  change pq_ex (fun m7 => L_X0_put_7 y a K m7 (0 : Int32) (pz_up h y (.inr (0, [.int (iI F), .ref (y + 1), .ref (y + 4)]))))
  generalize pz_up h y (.inr (0, [.int (iI F), .ref (y + 1), .ref (y + 4)])) = h1 at *
  have RP1 : rP h1 a VP AP := RP.fr f1 (by omega)
  refine ⟨3, ?_⟩
  have hb0 := bnd_g ok false
  have hb1 := bnd_g ok true
  unfold L_X0_put_7
  refine br_ff (by decide) ⟨20, c_put18 (b := false) (A := A) (h := h1) RP1 B dis hF (fun h2 A2 R2 e2 t2 o2 f2 => ?_) (bnd P false) 20 0 h1 A (by omega) (by omega) R1 (fun q hq => by
    have : q = 0 := by omega
    subst this; exact z0 false) (fun q hq => by omega) (fun _ _ _ => rfl) Fr.rf⟩
  show L_X0_put_7 y a K 2 (1 : Int32) h2
  unfold L_X0_put_7
  have RP2 : rP h2 a VP AP := RP1.fr f2 (by omega)
  refine br_ff (by decide) ⟨20, c_put18 (b := true) (A := A2) (h := h2) RP2 B dis hF (fun h3 A3 R3 e3 t3 o3 f3 => ?_) (bnd P true) 20 0 h2 A2 (by omega) (by omega) R2 (fun q hq => by
    have : q = 0 := by omega
    subst this
    rw [o2 (eA true) (by decide) (by decide)]; exact z0 true) (fun q hq => by omega) (fun _ _ _ => rfl) Fr.rf⟩
  show L_X0_put_7 y a K 1 (2 : Int32) h3
  unfold L_X0_put_7
  refine br_tt (by decide) (hq h3 A3 R3 (fun b => ?_) (fun b => ?_) (f1.tr (f2.tr f3)))
  · cases b with
    | true => exact ⟨e3, t3⟩
    | false =>
      refine ⟨fun i hi => ?_, fun i hi => ?_⟩
      · rw [o3 (eA false) (by decide) (by decide)]; exact e2 i hi
      · rw [o3 (tA false) (by decide) (by decide)]; exact t2 i hi
  · cases b with
    | true => exact e3 0 (by omega)
    | false => rw [o3 (eA false) (by decide) (by decide)]; exact e2 0 (by omega)
end Y1
