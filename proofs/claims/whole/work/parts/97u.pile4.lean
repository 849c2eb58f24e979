/-! THE CLASS: a Pile: demandsClash, the search and what it may cost, next, asNumber -/
def Wk : Nat → Nat
  | 0 => 2
  | k + 1 => 2 + (k + 1) * Wk k
def cn (n : Nat) (g : List Nat → Nat → Bool) (l : List Nat) (fr : Nat) : Nat := ((List.range n).filter (fun f => decide (fr ≤ f) && g l f)).length
def ph (n : Nat) (g : List Nat → Nat → Bool) : List Nat → Nat → Nat
  | [], fr => cn n g [] fr * Wk (n - 1)
  | t :: s, fr => cn n g (t :: s).reverse fr * Wk (n - s.length - 2) + 1 + ph n g s (t + 1)
theorem cn_found {n fr f : Nat} {g : List Nat → Nat → Bool} {l : List Nat} (h1 : fr ≤ f) (h2 : f < n) (h3 : g l f = true) (h4 : ∀ q, fr ≤ q → q < f → g l q = false) : cn n g l fr = cn n g l (f + 1) + 1 := by
  have a1 : (List.range f).filter (fun q => decide (fr ≤ q) && g l q) = [] := by
    rw [List.filter_eq_nil_iff]
    intro q hq
    have hq := List.mem_range.mp hq
    by_cases c : fr ≤ q
    · rw [h4 q c hq]; simp
    · simp [c]
  have a2 : (List.range f).filter (fun q => decide (f + 1 ≤ q) && g l q) = [] := by
    rw [List.filter_eq_nil_iff]
    intro q hq
    have hq := List.mem_range.mp hq
    simp [show ¬ f + 1 ≤ q by omega]
  have a3 : (List.range' (f + 1) (n - f - 1)).filter (fun q => decide (fr ≤ q) && g l q) = (List.range' (f + 1) (n - f - 1)).filter (fun q => decide (f + 1 ≤ q) && g l q) := by
    apply List.filter_congr
    intro q hq
    have hq := List.mem_range'_1.mp hq
    simp [show fr ≤ q by omega, show f + 1 ≤ q by omega]
  unfold cn
  rw [range_split h2, List.filter_append, List.filter_append, a1, a2, List.filter_cons, List.filter_cons, a3]
  rw [decide_eq_true h1, h3, decide_eq_false (show ¬ f + 1 ≤ f by omega)]
  simp
theorem cn_le {n fr : Nat} {g : List Nat → Nat → Bool} (hg : ∀ l f, g l f = true → g0 l f = true) {l : List Nat} (hd : l.Nodup) (hl : ∀ f ∈ l, f < n) : cn n g l fr + l.length ≤ n := by
  have h1 := free_len n l hd hl
  have h2 : cn n g l fr ≤ ((List.range n).filter (g0 l)).length := by
    refine filter_le _ _ _ (fun f _ hf => ?_)
    rw [Bool.and_eq_true] at hf
    exact hg l f hf.2
  omega
theorem ph_eq (n : Nat) (g : List Nat → Nat → Bool) (s : List Nat) (fr : Nat) : ph n g s fr = cn n g s.reverse fr * Wk (n - s.length - 1) + (match s with | [] => 0 | t :: s => 1 + ph n g s (t + 1)) := by
  cases s with
  | nil => simp [ph]
  | cons t s =>
    rw [ph]
    have e : n - s.length - 2 = n - (t :: s).length - 1 := by simp; omega
    rw [e]
    simp only
    omega
theorem ph_push {n fr f : Nat} {g : List Nat → Nat → Bool} {s : List Nat} (hg : ∀ l f, g l f = true → g0 l f = true) (hd : (f :: s).reverse.Nodup) (hl : ∀ q ∈ (f :: s).reverse, q < n) (h1 : fr ≤ f) (h2 : f < n) (h3 : g s.reverse f = true) (h4 : ∀ q, fr ≤ q → q < f → g s.reverse q = false) (hs : s.length < n) : ph n g (f :: s) 0 + 1 ≤ ph n g s fr := by
  have c1 := cn_found h1 h2 h3 h4
  have c2 := cn_le (fr := 0) hg hd hl
  have e1 := ph_eq n g s fr
  have e2 := ph_eq n g s (f + 1)
  rw [c1, Nat.succ_mul] at e1
  rw [ph]
  obtain ⟨k, hk⟩ : ∃ k, n - s.length - 1 = k := ⟨_, rfl⟩
  rw [hk] at e1 e2
  rw [show n - s.length - 2 = k - 1 by omega]
  have c3 : cn n g (f :: s).reverse 0 ≤ k := by rw [List.length_reverse, List.length_cons] at c2; omega
  cases k with
  | zero =>
    have : cn n g (f :: s).reverse 0 = 0 := by omega
    rw [this, Nat.zero_mul]
    have hw : Wk 0 = 2 := rfl
    omega
  | succ k =>
    have hw : Wk (k + 1) = 2 + (k + 1) * Wk k := rfl
    have := Nat.mul_le_mul_right (Wk k) c3
    rw [Nat.add_sub_cancel]
    generalize cn n g (f :: s).reverse 0 * Wk k = X at *
    generalize (k + 1) * Wk k = Y at *
    omega
theorem cn_0 {n fr : Nat} {g : List Nat → Nat → Bool} {l : List Nat} (h : ∀ q, fr ≤ q → q < n → g l q = false) : cn n g l fr = 0 := by
  unfold cn
  rw [List.length_eq_zero_iff, List.filter_eq_nil_iff]
  intro q hq
  have hq := List.mem_range.mp hq
  by_cases c : fr ≤ q
  · rw [h q c hq]; simp
  · simp [c]
theorem ph_pop {n fr t : Nat} {g : List Nat → Nat → Bool} {s : List Nat} (h : ∀ q, fr ≤ q → q < n → g (t :: s).reverse q = false) : ph n g (t :: s) fr = 1 + ph n g s (t + 1) := by
  rw [ph, cn_0 h, Nat.zero_mul]
theorem Wk_9 : ∀ n, n ≤ 9 → n * Wk (n - 1) ≤ 1972818 := by decide +kernel
theorem ph_start {n : Nat} (hn : n ≤ 9) {g : List Nat → Nat → Bool} (hg : ∀ l f, g l f = true → g0 l f = true) (fr : Nat) : ph n g [] fr ≤ 1972818 := by
  have h1 := cn_le (n := n) (fr := fr) hg (l := []) (by simp) (by simp)
  have h2 := Nat.mul_le_mul_right (Wk (n - 1)) (show cn n g [] fr ≤ n by simpa using h1)
  exact Nat.le_trans h2 (Wk_9 n hn)
theorem gq_g0 (P : cr_P) (Bw : Nat → Nat) (l : List Nat) (f : Nat) (h : gq P Bw l f = true) : g0 l f = true := by
  unfold gq at h; rw [Bool.and_eq_true] at h; exact h.1
section Q4
variable {h : pz_H} {a b : Nat} {V VP : Nat → Int} {A AP : Nat → Int → Int} {P : cr_P} {Bw : Nat → Nat} {Dm : Nat} {l : List Nat} {fr : Nat} {Q : Int32 → pz_H → Prop} {K : pz_H → Prop}
/-- demands that ask the same, and of no other face -/
def sD (n : Nat) (Bw Bw' : Nat → Nat) : Prop := (∀ f, Bw' f < 2 ^ 9) ∧ (∀ f, Bw' f ≠ 0 → Bw f ≠ 0) ∧ ∀ H, demH n Bw' H ↔ demH n Bw H
theorem c_dc12 {md : Nat} {kk : Int32 → pz_H → Prop} (C : cP VP AP P) (dis : a + 13 ≤ b ∨ b + 6 ≤ a) (RP : rP h a VP AP) (hmd : md < cr_n P)
    (hq : ∀ h' A' Bw', rQ h' b V A' → (∀ j, j ≠ 3 → A' j = A j) → (∀ f : Nat, f < 9 → A' 3 f = Bw' f) → sD (cr_n P) Bw Bw' → Fr b (b + 6) h h' → kk (iI ((md + 1 : Nat) : Int)) h') : ∀ (k u f : Nat) (h0 : pz_H) (A0 : Nat → Int → Int) (Bw0 : Nat → Nat), f + k = cr_n P → k < u → rQ h0 b V A0 → (∀ j, j ≠ 3 → A0 j = A j) → (∀ f : Nat, f < 9 → A0 3 f = Bw0 f) → sD (cr_n P) Bw Bw0 → Fr b (b + 6) h h0 → L_X2_demandsClash_12 b a (iI md) kk Q u (iI f) h0 := by
  intro k
  have ok := C.1.1
  have hn := ok.n9
  have k3 := C.1.2.2.2.2.1
  induction k with
  | zero =>
    intro u f h0 A0 Bw0 hf hu R e0 sb S F
    have RP0 : rP h0 a VP AP := RP.fr F (by omega)
    obtain ⟨u, rfl⟩ : ∃ v, u = v + 1 := ⟨u - 1, by omega⟩
    unfold L_X2_demandsClash_12
    simp (disch := omega) only [pE RP0, k3, ebr_le, iI_s, lits, iI_add, iI_sub, iI_mul, iI_neg]
    rw [if_pos (by omega)]
    exact hq h0 A0 Bw0 R e0 sb S F
  | succ k ih =>
    intro u f h0 A0 Bw0 hf hu R e0 sb S F
    have RP0 : rP h0 a VP AP := RP.fr F (by omega)
    have hf' : f < cr_n P := by omega
    have b1 := S.1 f
    have b2 := S.1 md
    obtain ⟨u, rfl⟩ : ∃ v, u = v + 1 := ⟨u - 1, by omega⟩
    unfold L_X2_demandsClash_12 B_X2_demandsClash_48
    simp (disch := omega) only [pE RP0, qE R, k3, ebr_le, iI_s, sb f (by omega), lits, iI_add, iI_sub, iI_mul, iI_neg]
    rw [if_neg (by omega)]
    refine c_has (by omega) (by omega) ?_
    cases e : (Bw0 f).testBit md with
    | false => exact br_tt rfl (ih u (f + 1) h0 A0 Bw0 (by omega) (by omega) R e0 sb S F)
    | true =>
      refine br_ff (by decide) ?_
      simp (disch := omega) only [qE R, sb f (by omega), sb md (by omega), lits, iI_add, iI_sub, iI_mul, iI_neg, jI_shl, jI_bit, jI_andn, iI_or, iI_and, jI_xor, iI_s]
      refine rg_sI R (by decide) (by decide) rfl (by decide) ⟨by omega, by simp only [lQ]; omega⟩ fun h1 R1 f1 => ?_
      refine ih u (f + 1) h1 _ (va_up Bw0 f (Bw0 f ||| Bw0 md)) (by omega) (by omega) R1 (fun j hj => (au_nk hj).trans (e0 j hj)) (fun q hq => ?_) ⟨fun q => ?_, fun q hq => ?_, fun H => ?_⟩ (F.tr f1)
      · by_cases w : q = f
        · subst w; rw [au_at, va_up_self]
        · rw [au_ne (by omega), va_up_ne _ _ w]; exact sb q hq
      · by_cases w : q = f
        · subst w; rw [va_up_self]; exact nu_lt_or b1 b2
        · rw [va_up_ne _ _ w]; exact S.1 q
      · by_cases w : q = f
        · subst w
          refine S.2.1 q (fun z => ?_)
          rw [z, Nat.zero_testBit] at e; cases e
        · rw [va_up_ne _ _ w] at hq; exact S.2.1 q hq
      · rw [← S.2.2 H]
        unfold demH
        constructor
        · intro z q hq g hg hb
          refine z q hq g hg ?_
          by_cases w : q = f
          · subst w; rw [va_up_self, Nat.testBit_or, hb]; rfl
          · rw [va_up_ne _ _ w]; exact hb
        · intro z q hq g hg hb
          by_cases w : q = f
          · subst w
            rw [va_up_self, Nat.testBit_or, Bool.or_eq_true] at hb
            rcases hb with hb | hb
            · exact z q hq g hg hb
            · have z1 := z q hq md (by omega) e
              have z2 := z md hmd g hg hb
              exact ⟨z2.1, by omega⟩
          · rw [va_up_ne _ _ w] at hb
            exact z q hq g hg hb
theorem c_dc62 (C : cP VP AP P) (RP : rP h a VP AP) (R : rQ h b V A) (sb : ∀ f : Nat, f < 9 → A 3 f = Bw f) (sB : ∀ f, Bw f < 2 ^ 9) (hq : ∀ r : Bool, (r = true → ∃ f, f < cr_n P ∧ (Bw f).testBit f = true) → Q (iI (bI r)) h) : ∀ (k u f : Nat), f + k = cr_n P → k < u → L_X2_demandsClash_62 b a Q u (iI f) h := by
  intro k
  have ok := C.1.1
  have hn := ok.n9
  have k3 := C.1.2.2.2.2.1
  induction k with
  | zero =>
    intro u f hf hu
    obtain ⟨u, rfl⟩ : ∃ v, u = v + 1 := ⟨u - 1, by omega⟩
    unfold L_X2_demandsClash_62
    simp (disch := omega) only [pE RP, k3, ebr_le, lits, iI_add, iI_sub, iI_mul, iI_neg]
    rw [if_pos (by omega)]
    exact hq false (fun z => by cases z)
  | succ k ih =>
    intro u f hf hu
    have b1 := sB f
    obtain ⟨u, rfl⟩ : ∃ v, u = v + 1 := ⟨u - 1, by omega⟩
    unfold L_X2_demandsClash_62
    simp (disch := omega) only [pE RP, qE R, k3, ebr_le, iI_s, sb f (by omega), lits, iI_add, iI_sub, iI_mul, iI_neg]
    rw [if_neg (by omega)]
    refine c_has (by omega) (by omega) ?_
    cases e : (Bw f).testBit f with
    | false => exact br_tt rfl (ih u (f + 1) (by omega) (by omega))
    | true => exact br_ff (by decide) (hq true (fun _ => ⟨f, by omega, e⟩))
theorem c_dc2 (C : cP VP AP P) (dis : a + 13 ≤ b ∨ b + 6 ≤ a) (RP : rP h a VP AP)
    (hq : ∀ h' A' Bw' (r : Bool), rQ h' b V A' → (∀ j, j ≠ 3 → A' j = A j) → (∀ f : Nat, f < 9 → A' 3 f = Bw' f) → sD (cr_n P) Bw Bw' → (r = true → ∃ f, f < cr_n P ∧ (Bw' f).testBit f = true) → Fr b (b + 6) h h' → Q (iI (bI r)) h') : ∀ (k u md : Nat) (h0 : pz_H) (A0 : Nat → Int → Int) (Bw0 : Nat → Nat), md + k = cr_n P → k < u → rQ h0 b V A0 → (∀ j, j ≠ 3 → A0 j = A j) → (∀ f : Nat, f < 9 → A0 3 f = Bw0 f) → sD (cr_n P) Bw Bw0 → Fr b (b + 6) h h0 → L_X2_demandsClash_2 b a Q u (iI md) h0 := by
  intro k
  have ok := C.1.1
  have hn := ok.n9
  have k3 := C.1.2.2.2.2.1
  induction k with
  | zero =>
    intro u md h0 A0 Bw0 hmd hu R e0 sb S F
    have RP0 : rP h0 a VP AP := RP.fr F (by omega)
    obtain ⟨u, rfl⟩ : ∃ v, u = v + 1 := ⟨u - 1, by omega⟩
    unfold L_X2_demandsClash_2
    simp (disch := omega) only [pE RP0, k3, ebr_le, lits, iI_add, iI_sub, iI_mul, iI_neg]
    rw [if_pos (by omega)]
    exact ⟨20, c_dc62 C RP0 R sb S.1 (fun r hr => hq h0 A0 Bw0 r R e0 sb S hr F) (cr_n P) 20 0 (by omega) (by omega)⟩
  | succ k ih =>
    intro u md h0 A0 Bw0 hmd hu R e0 sb S F
    have RP0 : rP h0 a VP AP := RP.fr F (by omega)
    obtain ⟨u, rfl⟩ : ∃ v, u = v + 1 := ⟨u - 1, by omega⟩
    unfold L_X2_demandsClash_2
    simp (disch := omega) only [pE RP0, k3, ebr_le, lits, iI_add, iI_sub, iI_mul, iI_neg]
    rw [if_neg (by omega)]
    refine ⟨20, c_dc12 (V := V) (A := A0) (Bw := Bw0) C dis RP0 (by omega) (fun h' A' Bw' R' e' sb' S' F' => ?_) (cr_n P) 20 0 h0 A0 Bw0 (by omega) (by omega) R (fun _ _ => rfl) sb ⟨S.1, fun _ z => z, fun _ => Iff.rfl⟩ Fr.rf⟩
    exact ih u (md + 1) h' A' Bw' (by omega) (by omega) R' (fun j hj => (e' j hj).trans (e0 j hj)) sb' ⟨S'.1, fun f z => S.2.1 f (S'.2.1 f z), fun H => (S'.2.2 H).trans (S.2.2 H)⟩ (F.tr F')
theorem c_search (C : cP VP AP P) (dis : a + 13 ≤ b ∨ b + 6 ≤ a) : ∀ (u : Nat) (s : List Nat) (fr mv : Nat) (h : pz_H) (V : Nat → Int) (A : Nat → Int → Int), ph (cr_n P) (gq P Bw) s fr < u → mv + ph (cr_n P) (gq P Bw) s fr < 2000000 → qS h b V A a P Bw Dm s.reverse fr → rP h a VP AP →
    (Rm (cr_n P) (gq P Bw) s fr = [] → ∀ h' V' A', rQ h' b V' A' → Fr b (b + 6) h h' → Q (0 : Int32) h') →
    (∀ t s' xs, Rm (cr_n P) (gq P Bw) s fr = (t :: s').reverse :: xs → xs = rs (cr_n P) (gq P Bw) (t :: s') → ∀ h' V' A', qS h' b V' A' a P Bw Dm (t :: s').reverse 0 → s'.length + 1 = cr_n P → ph (cr_n P) (gq P Bw) (t :: s') 0 ≤ ph (cr_n P) (gq P Bw) s fr → Fr b (b + 6) h h' → Q (1 : Int32) h') →
    L_X2_next_55 b a Q u (iI mv) h := by
  intro u
  have ok := C.1.1
  have hn := ok.n9
  have k3 := C.1.2.2.2.2.1
  induction u with
  | zero => intro s fr mv h V A hu; omega
  | succ u ih =>
    intro s fr mv h V A hu hmv S RP none some
    obtain ⟨R, v0, v9, ⟨s3, s4, s6, s1, s2, sb, s5, sB, sDm, sN, snd, slt, sle⟩, su, st⟩ := id S
    have un9 := unt_lt ok Bw s.reverse fr
    unfold L_X2_next_55 B_X2_next_111
    refine br_le (a := 2000000) (by omega) (by omega) (fun w => by omega) (fun _ => ?_)
    have em : iI (mv : Int) + (1 : Int32) = iI ((mv + 1 : Nat) : Int) := by rw [iI_1, iI_add]; rfl
    rw [em]
    simp (disch := omega) only [qE R, s3, st, lits, iI_add, iI_sub, iI_mul, iI_neg]
    refine br_eq (b := 0) (by omega) (by omega) (fun w => ?_) (fun w => ?_)
    · -- no face is left here
      have hz : unt P Bw s.reverse fr = 0 := by omega
      have a1 : ∀ q, fr ≤ q → q < cr_n P → gq P Bw s.reverse q = false := fun q h1 h2 => by
        have := unt_bit (P := P) (Bw := Bw) (l := s.reverse) (fr := fr) (f := q)
        rw [hz, Nat.zero_testBit, decide_eq_true h1, decide_eq_true h2] at this
        simpa using this.symm
      cases s with
      | nil =>
        refine br_tt (by decide) ?_
        exact none (Rm_end a1) h V A R Fr.rf
      | cons t s =>
        refine br_le (b := 0) (by simp at sle ⊢; omega) (by omega) (fun w => by simp at w; omega) (fun _ => ?_)
        rw [List.reverse_cons] at S
        refine c_takeOff S ok (fun h1 V1 A1 S1 f1 => ?_)
        have hp := ph_pop (n := cr_n P) (g := gq P Bw) (s := s) (t := t) (fr := fr) a1
        have hr := Rm_pop (n := cr_n P) (g := gq P Bw) (s := s) (t := t) (fr := fr) a1
        refine ih s (t + 1) (mv + 1) h1 V1 A1 (by omega) (by omega) S1 (RP.fr f1 (by omega)) (fun e h' V' A' b1 b2 => none (by rw [hr]; exact e) h' V' A' b1 (f1.tr b2)) (fun t2 s' xs e1 e2 h' V' A' b1 b2 b3 b4 => some t2 s' xs (by rw [hr]; exact e1) e2 h' V' A' b1 b2 (by omega) (f1.tr b4))
    · -- the least one is put on
      have hs : s.length < cr_n P := by
        rcases Nat.lt_or_ge s.length (cr_n P) with q | q
        · exact q
        · exfalso
          apply w
          have : isR (cr_n P) s.reverse := ⟨by simp at sle ⊢; omega, snd, slt⟩
          rw [unt_full this]; rfl
      refine c_least (U := unt P Bw s.reverse fr) R (by simp; omega) s3 st un9 (by omega) (fun f f9 f1 f2 => ?_)
      have fb := f1
      rw [unt_bit, Bool.and_eq_true, Bool.and_eq_true, decide_eq_true_eq, decide_eq_true_eq] at fb
      obtain ⟨g1, g2, g3⟩ := fb
      have g4 : ∀ q, fr ≤ q → q < f → gq P Bw s.reverse q = false := fun q q1 q2 => by
        have := f2 q q2
        rw [unt_bit, decide_eq_true (show q < cr_n P by omega), decide_eq_true q1] at this
        simpa using this
      rw [(qE R).1]
      refine c_put S RP C dis (by simpa using hs) f1 f2 (fun h1 V1 A1 S1 fr1 => ?_)
      have S1' : qS h1 b V1 A1 a P Bw Dm (f :: s).reverse 0 := by rw [List.reverse_cons]; exact S1
      obtain ⟨R1, -, -, ⟨t3, -, -, -, -, -, -, -, -, -, tnd, tlt, tle⟩, -⟩ := id S1'
      have RP1 : rP h1 a VP AP := RP.fr fr1 (by omega)
      have hp := ph_push (gq_g0 P Bw) tnd tlt g2 g1 g3 g4 hs
      simp (disch := omega) only [qE R1, pE RP1, t3, k3, lits, iI_add, iI_sub, iI_mul, iI_neg]
      have el : ((f :: s).reverse.length : Int) = (s.length : Int) + 1 := by simp
      rw [el]
      refine br_eq (by omega) (by omega) (fun w2 => ?_) (fun w2 => ?_)
      · have hfull : s.length + 1 = cr_n P := by omega
        exact some f s _ (by rw [Rm_full g2 g1 g3 g4 hfull, List.reverse_cons]) rfl h1 V1 A1 S1' hfull (by omega) fr1
      · have hr := Rm_push (s := s) g2 g1 g3 g4 (by omega)
        refine ih (f :: s) 0 (mv + 1) h1 V1 A1 (by omega) (by omega) S1' RP1 (fun e h' V' A' b1 b2 => none (by rw [hr]; exact e) h' V' A' b1 (fr1.tr b2)) (fun t2 s' xs e1 e2 h' V' A' b1 b2 b3 b4 => some t2 s' xs (by rw [hr]; exact e1) e2 h' V' A' b1 b2 (by omega) (fr1.tr b4))
end Q4
