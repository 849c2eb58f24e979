/-! THE CLASS: Pile.next as a whole, asNumber -/
def pO (P : cr_P) (Bw : Nat → Nat) : List (List Nat) := if cr_un P then [] else tr (cr_n P) (gq P Bw) (cr_n P) []
theorem filter_iff {α : Type} {p q : α → Bool} {L : List α} (h : ∀ x ∈ L, (p x = true ↔ q x = true)) : L.filter p = L.filter q := List.filter_congr (fun x hx => by rw [Bool.eq_iff_iff]; exact h x hx)
theorem tr_same {P : cr_P} (ok : cr_ok P) {Bw Bw' : Nat → Nat} (h1 : ∀ f, Bw f < 2 ^ 9) (h2 : ∀ f, Bw' f < 2 ^ 9) (e : ∀ H, hts (cr_n P) H → (demH (cr_n P) Bw' H ↔ demH (cr_n P) Bw H)) : tr (cr_n P) (gq P Bw') (cr_n P) [] = tr (cr_n P) (gq P Bw) (cr_n P) [] := by
  rw [tr_pms (gq_g0 P Bw'), tr_pms (gq_g0 P Bw)]
  refine filter_iff (fun l hl => ?_)
  have hR := pms_R hl
  rw [gq_chain ok h2 hR, gq_chain ok h1 hR, e _ (R_hts hR)]
theorem tr_clash {P : cr_P} (ok : cr_ok P) {Bw : Nat → Nat} (h1 : ∀ f, Bw f < 2 ^ 9) {f : Nat} (hf : f < cr_n P) (hb : (Bw f).testBit f = true) : tr (cr_n P) (gq P Bw) (cr_n P) [] = [] := by
  rw [tr_pms (gq_g0 P Bw), List.filter_eq_nil_iff]
  intro l hl hc
  have hR := pms_R hl
  have := ((gq_chain ok h1 hR).mp hc).2 f hf f (by have := ok.n9; omega) hb
  omega
/-- what is left of a pile's rows: xs -/
def qR (h : pz_H) (b : Nat) (V : Nat → Int) (A : Nat → Int → Int) (a : Nat) (P : cr_P) (xs : List (List Nat)) : Prop := (∃ Bw Dm, qF h b V A a Bw Dm ∧ xs = pO P Bw) ∨ (∃ Bw Dm l, qS h b V A a P Bw Dm l 0 ∧ l.length = cr_n P ∧ xs = rs (cr_n P) (gq P Bw) l.reverse ∧ ph (cr_n P) (gq P Bw) l.reverse 0 ≤ 1972818)
/-- the pile holds the row l -/
def qL (V : Nat → Int) (A : Nat → Int → Int) (l : List Nat) : Prop := V 3 = l.length ∧ (∀ i : Nat, i < l.length → A 1 i = (l.getD i 0 : Nat)) ∧ ∀ f : Nat, f ∈ l → A 2 f = ps l f
section Q5
variable {h : pz_H} {a b : Nat} {V VP : Nat → Int} {A AP : Nat → Int → Int} {P : cr_P} {Bw : Nat → Nat} {Dm : Nat} {l : List Nat} {fr : Nat} {Q : Int32 → pz_H → Prop} {K : pz_H → Prop}
theorem qR.rq {xs : List (List Nat)} (N : qR h b V A a P xs) : rQ h b V A := by
  rcases N with ⟨_, _, N, _⟩ | ⟨_, _, _, N, _⟩
  · exact N.1
  · exact N.1
theorem c_empty (R : rQ h b V A) (v3 : V 3 = 0) (a5 : A 5 0 = 0) (hq : Q (0 : Int32) h) : B_X2_next_53 b a Q h := by
  unfold B_X2_next_53
  refine ⟨1, ?_⟩
  unfold L_X2_next_55
  refine br_ff (by decide) ?_
  rw [(qE R).2.2.2.2.2.2.2.2.2.1, (qE R).2.2.2.2.1, v3]
  refine rg_aI (z := 0) R (by decide) (by decide) rfl (by decide) ⟨by omega, by simp only [lQ]; omega⟩ ?_
  rw [a5]
  refine br_tt rfl ?_
  refine rg_gI R rfl ?_
  rw [v3]
  exact br_tt (by decide) hq
theorem c_next {xs : List (List Nat)} (N : qR h b V A a P xs) (RP : rP h a VP AP) (C : cP VP AP P) (dis : a + 13 ≤ b ∨ b + 6 ≤ a)
    (h0 : xs = [] → ∀ h' V' A', rQ h' b V' A' → Fr b (b + 6) h h' → Q (0 : Int32) h')
    (h1 : ∀ l ys, xs = l :: ys → ∀ h' V' A', rQ h' b V' A' → qL V' A' l → isR (cr_n P) l → qR h' b V' A' a P ys → Fr b (b + 6) h h' → Q (1 : Int32) h') : F_X2_next b h Q := by
  have ok := C.1.1
  have hn := ok.n9
  -- from a state of the search on
  have go : ∀ (Bw : Nat → Nat) (Dm : Nat) (s : List Nat) (h2 : pz_H) (V2 : Nat → Int) (A2 : Nat → Int → Int), qS h2 b V2 A2 a P Bw Dm s.reverse 0 → Rm (cr_n P) (gq P Bw) s 0 = xs → ph (cr_n P) (gq P Bw) s 0 ≤ 1972818 → Fr b (b + 6) h h2 → B_X2_next_53 b a Q h2 := fun Bw Dm s h2 V2 A2 S2 e hp f2 => by
    unfold B_X2_next_53
    refine ⟨ph (cr_n P) (gq P Bw) s 0 + 1, c_search C dis _ s 0 0 h2 V2 A2 (by omega) (by omega) S2 (RP.fr f2 (by omega)) (fun e1 h' V' A' b1 b2 => h0 (by rw [← e]; exact e1) h' V' A' b1 (f2.tr b2)) (fun t s' ys e1 e2 h' V' A' b1 b2 b3 b4 => ?_)⟩
    obtain ⟨R', -, -, ⟨t3, -, -, t1, t2, -, -, -, -, -, tnd, tlt, tle⟩, -⟩ := id b1
    refine h1 _ ys (by rw [← e]; exact e1) h' V' A' R' ⟨t3, t1, t2⟩ ⟨by simp; omega, tnd, tlt⟩ (Or.inr ⟨Bw, Dm, _, b1, by simp; omega, by rw [List.reverse_reverse]; exact e2, ?_⟩) (f2.tr b4)
    rw [List.reverse_reverse]; omega
  unfold F_X2_next
  rcases N with ⟨Bw, Dm, S, ex⟩ | ⟨Bw, Dm, l, S, hl, ex, hp⟩
  · obtain ⟨R, v0, v9, v3, v4, v6, o0, sb, sB, sDm, sN⟩ := id S
    rw [(qE R).2.1, v0, oR_nat]
    show pq_gI h b 2 9 _
    rw [(qE R).2.2.2.2.2.2.2.2.2.2.1, v9]
    refine br_tt rfl ?_
    refine rg_p (V' := va_up V 9 1) R rfl (Nat.le_of_ble_eq_true rfl) fun h2 R2 f2 => ?_
    have RP2 : rP h2 a VP AP := RP.fr f2 (by omega)
    rw [(qE R2).2.2.2.2.2.2.2.2.2.1, (pE RP2).1]
    refine c_isUneven RP2 C ?_
    unfold pO at ex
    have w3 : (va_up V 9 1) 3 = 0 := by rw [va_up_ne _ _ (by decide)]; exact v3
    have zero : ∀ (h3 : pz_H) (A3 : Nat → Int → Int), rQ h3 b (va_up V 9 1) A3 → xs = [] → Fr b (b + 6) h h3 → B_X2_next_43 b a (b + 5) (0 : Int32) Q h3 := fun h3 A3 R3 e f3 => by
      unfold B_X2_next_43 B_X2_next_52
      refine rg_sI (x := 0) (z := 0) R3 (by decide) (by decide) rfl (by decide) ⟨by omega, by simp only [lQ]; omega⟩ fun h4 R4 f4 => ?_
      exact c_empty R4 w3 au_at (h0 e h4 _ _ R4 (f3.tr f4))
    cases hu : cr_un P with
    | true =>
      rw [hu] at ex
      exact br_ff (by decide) (zero h2 A R2 ex f2)
    | false =>
      rw [hu] at ex
      simp only [Bool.false_eq_true, if_false] at ex
      refine br_tt rfl ?_
      rw [(qE R2).1]
      refine ⟨20, c_dc2 (V := va_up V 9 1) (A := A) (Bw := Bw) C dis RP2 (fun h3 A3 Bw' r R3 e3 sb' S' hr f3 => ?_) (cr_n P) 20 0 h2 A Bw (by omega) (by omega) R2 (fun _ _ => rfl) sb ⟨sB, fun _ z => z, fun _ => Iff.rfl⟩ Fr.rf⟩
      have esame := tr_same ok sB S'.1 (fun H _ => S'.2.2 H)
      rw [← esame] at ex
      have RP3 : rP h3 a VP AP := RP.fr (f2.tr f3) (by omega)
      cases r with
      | true =>
        obtain ⟨f, hf, hb⟩ := hr rfl
        rw [tr_clash ok S'.1 hf hb] at ex
        exact br_ff (by decide) (zero h3 A3 R3 ex (f2.tr f3))
      | false =>
        refine br_tt rfl ?_
        rw [(qE R3).1]
        have st0 : stL [] = 0 := rfl
        have op0 : opn P [] = 0 := by
          apply Nat.eq_of_testBit_eq
          intro i
          unfold opn
          rw [nu_bm_bit, Nat.zero_testBit]
          unfold isO
          simp
        have B3 : ∀ A4 : Nat → Int → Int, (∀ j, j ≠ 5 → A4 j = A3 j) → qB (va_up V 9 1) A4 P Bw' Dm [] := fun A4 e4 => by
          refine ⟨w3, ?_, ?_, fun i hi => by simp at hi, fun f hf => by simp at hf, fun f hf => ?_, fun i hi => ?_, S'.1, sDm, fun f hf z => sN f hf (S'.2.1 f z), by simp, by simp, by simp⟩
          · rw [va_up_ne _ _ (by decide), st0]; exact v4
          · rw [va_up_ne _ _ (by decide)]; exact v6
          · rw [e4 3 (by decide)]; exact sb' f hf
          · have : i = 0 := by simpa using hi
            subst this
            rw [List.take_zero, op0, e4 4 (by decide), e3 4 (by decide)]; exact o0
        refine c_candidates R3 RP3 C (B3 A3 (fun _ _ => rfl)) ?_
        rw [← unt_0 ok]
        unfold B_X2_next_52
        refine rg_sI (x := 0) R3 (by decide) (by decide) rfl (by decide) ⟨by omega, by simp only [lQ]; omega⟩ fun h4 R4 f4 => ?_
        refine go Bw' Dm [] h4 _ _ ⟨R4, ?_, ?_, B3 _ (fun j hj => au_nk hj), fun i hi => by simp at hi, au_at⟩ ?_ (ph_start hn.2 (gq_g0 P Bw') 0) (f2.tr (f3.tr f4))
        · rw [va_up_ne _ _ (by decide)]; exact v0
        · exact va_up_self _ _ _
        · rw [Rm_0 _ hn.1]; exact ex.symm
  · obtain ⟨R, v0, v9, -⟩ := id S
    rw [(qE R).2.1, v0, oR_nat]
    show pq_gI h b 2 9 _
    rw [(qE R).2.2.2.2.2.2.2.2.2.2.1, v9]
    refine br_ff (by decide) ?_
    refine go Bw Dm l.reverse h V A (by rw [List.reverse_reverse]; exact S) ?_ hp Fr.rf
    -- the full row has no more faces
    obtain ⟨t, s, hts⟩ : ∃ t s, l.reverse = t :: s := by
      cases hr : l.reverse with
      | nil => rw [List.reverse_eq_nil_iff] at hr; subst hr; simp at hl; omega
      | cons t s => exact ⟨t, s, rfl⟩
    obtain ⟨-, -, -, ⟨-, -, -, -, -, -, -, -, -, -, tnd, tlt, -⟩, -⟩ := id S
    rw [hts] at ex ⊢
    rw [Rm_pop (fun q _ hq => ?_), ex]
    · rfl
    · rw [← hts, List.reverse_reverse]
      unfold gq
      rw [decide_eq_false (not_not_intro (mem_of_full tnd tlt hl q hq))]; rfl
theorem c_asNumber {Q : Int64 → pz_H → Prop} {n : Nat} (hn : n ≤ 9) (R : rQ h b V A) (L : qL V A l) (hR : isR n l) (hq : Q (jI (num l)) h) : F_X2_asNumber b h Q := by
  obtain ⟨s3, s1, -⟩ := L
  have hll := hR.1
  have loop : ∀ k u : Nat, k ≤ l.length → k < u → L_X2_asNumber_9 b Q u (jI (num (l.drop k))) (iI ((k : Int) - 1)) h := by
    intro k
    induction k with
    | zero =>
      intro u hk hu
      obtain ⟨u, rfl⟩ : ∃ v, u = v + 1 := ⟨u - 1, by omega⟩
      unfold L_X2_asNumber_9
      exact br_tt (by decide) hq
    | succ k ih =>
      intro u hk hu
      obtain ⟨u, rfl⟩ : ∃ v, u = v + 1 := ⟨u - 1, by omega⟩
      unfold L_X2_asNumber_9
      have e : ((k + 1 : Nat) : Int) - 1 = k := by omega
      rw [e]
      have hk' : k < l.length := by omega
      have b := hR.2.2 _ (List.getElem_mem hk')
      have eg : l.getD k 0 = l[k] := by rw [List.getD_eq_getElem?_getD, List.getElem?_eq_getElem hk']; rfl
      simp (disch := omega) only [qE R, ebr_lt, s1 k hk', eg, lits, iI_add, iI_sub, iI_mul, iI_neg]
      rw [if_neg (by omega), jI_of (by omega)]
      have e2 : jI (num (l.drop (k + 1))) * (10 : Int64) + jI (l[k] : Nat) = jI (num (l.drop k)) := by
        rw [show (10 : Int64) = jI 10 from rfl, jI_mul, jI_add, List.drop_eq_getElem_cons hk', num_cons]
        congr 1
        omega
      rw [e2]
      exact ih u (by omega) (by omega)
  unfold F_X2_asNumber
  rw [(qE R).2.2.2.2.1, s3, iI_1, iI_sub]
  refine ⟨l.length + 1, ?_⟩
  have := loop l.length (l.length + 1) (Nat.le_refl _) (by omega)
  rw [List.drop_length] at this
  exact this
end Q5
