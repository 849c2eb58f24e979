/-! SIMPLE FOLDS: how a paper lies; the reference's bits, gapsOf, lengthOf, goesUp, liesAt, creasesIn -/
/-- whether band f goes upwards, where the gaps of s are folded -/
def gU (s : Nat) : Nat → Bool
  | 0 => true
  | k + 1 => gU s k != s.testBit k
/-- where band f begins -/
def lA (ln : Nat → Nat) (s : Nat) : Nat → Int
  | 0 => 0
  | k + 1 => lA ln s k + (if gU s k then (ln k : Int) else -(ln k : Int))
theorem lA_bound {ln : Nat → Nat} (h : ∀ f, 1 ≤ ln f ∧ ln f ≤ 1000) (s : Nat) : ∀ f : Nat, -(1000 * f : Int) ≤ lA ln s f ∧ lA ln s f ≤ 1000 * f
  | 0 => by simp [lA]
  | f + 1 => by
    have := lA_bound h s f
    have h2 := h f
    unfold lA
    split <;> omega
theorem cr_ok.lB {P : cr_P} (h : cr_ok P) (s : Nat) {f : Nat} (hf : f ≤ 20) : -20000 ≤ lA (cr_ln P) s f ∧ lA (cr_ln P) s f ≤ 20000 := by
  have := lA_bound h.2.1 s f
  omega
def pop (v : Nat) : Nat := ((List.range 8).filter (fun i => v.testBit i)).length
theorem pop_step : ∀ v, v < 256 → v ≠ 0 → pop v = pop (v &&& (v - 1)) + 1 := by decide +kernel
theorem pop_le (v : Nat) : pop v ≤ 8 := by
  have := List.length_filter_le (fun i => v.testBit i) (List.range 8)
  rw [List.length_range] at this
  exact this
theorem iI_and (a b : Nat) : iI (a : Int) &&& iI (b : Int) = iI ((a &&& b : Nat) : Int) := by rw [iI_nat, iI_nat, iI_nat, nu_and]
theorem iI_bit {s i : Nat} (hs : s < 2 ^ 31) (hi : i < 32) : (iI (s : Int) >>> (iI (i : Int) &&& 31)) &&& 1 = iI (bI (s.testBit i)) := by
  rw [iI_nat, iI_nat, nu_bit hs hi]
  cases s.testBit i <;> rfl
theorem iI_shl {i : Nat} (hi : i < 31) : (1 : Int32) <<< (iI (i : Int) &&& 31) = iI ((2 ^ i : Nat) : Int) := by rw [iI_nat, iI_nat]; exact nu_shl i hi
theorem bI_1 (b : Bool) : iI (bI b) = 1 ↔ b = true := by cases b <;> decide
theorem bI_e (a b : Bool) : iI (bI a) = iI (bI b) ↔ a = b := by cases a <;> cases b <;> decide
theorem bI_x : ∀ a b : Bool, iI (bI a) ^^^ iI (bI b) = iI (bI (a != b)) := by decide
section ML
variable {h : pz_H} {m np p : Nat} {V : Nat → Int} {A : Nat → Int → Int} {Ps : Nat → cr_P} {P : cr_P} {Q : Int32 → pz_H → Prop}
theorem m_bits_loop : ∀ (u v n : Nat), pop v < u → v < 256 → Q (iI ((n + pop v : Nat) : Int)) h → L_X5_bits_4 Q u (iI n) (iI v) h := by
  intro u
  induction u with
  | zero => intro v n hu; omega
  | succ u ih =>
    intro v n hu hv hq
    unfold L_X5_bits_4
    refine br_eq (b := 0) (by omega) (by omega) (fun c => ?_) (fun c => ?_)
    · have e : v = 0 := by omega
      rw [e] at hq
      exact hq
    · have e := pop_step v hv (by omega)
      have e1 : iI (v : Int) - (1 : Int32) = iI ((v - 1 : Nat) : Int) := by rw [iI_1, iI_sub]; congr 1; omega
      have e2 : iI (n : Int) + (1 : Int32) = iI ((n + 1 : Nat) : Int) := by rw [iI_1, iI_add]; rfl
      rw [e1, iI_and, e2]
      refine ih _ _ (by omega) (Nat.lt_of_le_of_lt Nat.and_le_left hv) ?_
      rw [show n + 1 + pop (v &&& (v - 1)) = n + pop v by omega]
      exact hq
theorem m_bits {v : Nat} (hv : v < 256) (hq : Q (iI (pop v)) h) : F_X5_bits (iI v) h Q := ⟨pop v + 1, m_bits_loop _ v 0 (by omega) hv (by simpa using hq)⟩
theorem m_gapsOf {b : Bool} (R : rM h m V A) (H : mP A p P) (hp : p < 30) (hq : Q (iI (((if b then cr_rw P else cr_cl P) - 1 : Nat) : Int)) h) : F_X5_gapsOf m (iI p) (iI (bI b)) h Q := by
  have r1 := H.1.1.2.1
  have c1 := H.1.1.2.2.1
  unfold F_X5_gapsOf B_X5_gapsOf_19
  simp (disch := omega) only [mE R, H.2.2.2.1, H.2.2.2.2.1, lits, iI_add, iI_sub, iI_mul, iI_neg]
  cases b with
  | false =>
    refine br_tt rfl ?_
    rw [show ((cr_cl P : Int) - 1) = ((cr_cl P - 1 : Nat) : Int) by omega]
    exact hq
  | true =>
    refine br_ff (by decide) ?_
    rw [show ((cr_rw P : Int) - 1) = ((cr_rw P - 1 : Nat) : Int) by omega]
    exact hq
theorem m_lengthOf {f : Nat} (R : rM h m V A) (H : mP A p P) (hp : p < 30) (hf : f < 9) (hq : Q (iI (cr_ln P f)) h) : F_X5_lengthOf m (iI p) (iI f) h Q := by
  have hkd := H.1.1.1
  have e6 : A 6 (9 * (p : Int) + (f : Int)) = cr_ln P f := H.2.2.2.2.2.2.1 f hf
  unfold F_X5_lengthOf B_X5_lengthOf_25
  simp (disch := omega) only [mE R, H.2.1, e6, ebr_eq, lits, iI_add, iI_sub, iI_mul, iI_neg]
  by_cases c : cr_kd P = 2
  · rw [if_pos (by omega)]
    rw [H.1.2.2.2.2.2 c f] at hq
    exact hq
  · rw [if_neg (by omega)]
    exact hq
theorem m_goesUp_loop {s f : Nat} (hs : s < 2 ^ 31) (hf : f ≤ 9) (hq : Q (iI (bI (gU s f))) h) : ∀ (k u i : Nat), i + k = f → k < u → L_X5_goesUp_4 (iI s) (iI f) Q u (iI (bI (gU s i))) (iI i) h := by
  intro k
  induction k with
  | zero =>
    intro u i hi hu
    obtain ⟨u, rfl⟩ : ∃ v, u = v + 1 := ⟨u - 1, by omega⟩
    unfold L_X5_goesUp_4
    refine br_le (by omega) (by omega) (fun _ => rg_z ?_ ?_) (fun c => by omega)
    · cases gU s i
      · exact Or.inl rfl
      · exact Or.inr rfl
    · rw [show i = f by omega]; exact hq
  | succ k ih =>
    intro u i hi hu
    obtain ⟨u, rfl⟩ : ∃ v, u = v + 1 := ⟨u - 1, by omega⟩
    unfold L_X5_goesUp_4 B_X5_goesUp_24
    refine br_le (by omega) (by omega) (fun c => by omega) (fun _ => ?_)
    rw [iI_bit hs (by omega)]
    have e2 : iI (i : Int) + (1 : Int32) = iI ((i + 1 : Nat) : Int) := by rw [iI_1, iI_add]; rfl
    have h1 := ih u (i + 1) (by omega) (by omega)
    rw [e2]
    rw [gU, ← bI_x] at h1
    cases q : s.testBit i with
    | true => rw [q] at h1; exact br_tt rfl h1
    | false => rw [q] at h1; exact br_ff (by decide) h1
theorem m_goesUp {s f : Nat} (hs : s < 2 ^ 31) (hf : f ≤ 9) (hq : Q (iI (bI (gU s f))) h) : F_X5_goesUp (iI s) (iI f) h Q := ⟨f + 1, m_goesUp_loop hs hf hq f (f + 1) 0 (by omega) (by omega)⟩
theorem m_liesAt_loop {s f : Nat} (R : rM h m V A) (H : mP A p P) (hp : p < 30) (hs : s < 2 ^ 31) (hf : f ≤ 9) (hq : Q (iI (lA (cr_ln P) s f)) h) : ∀ (k u i : Nat), i + k = f → k < u → L_X5_liesAt_6 m (iI p) (iI s) (iI f) Q u (iI (lA (cr_ln P) s i)) (iI i) h := by
  intro k
  induction k with
  | zero =>
    intro u i hi hu
    obtain ⟨u, rfl⟩ : ∃ v, u = v + 1 := ⟨u - 1, by omega⟩
    unfold L_X5_liesAt_6
    refine br_le (by omega) (by omega) (fun _ => ?_) (fun c => by omega)
    rw [show i = f by omega]; exact hq
  | succ k ih =>
    intro u i hi hu
    obtain ⟨u, rfl⟩ : ∃ v, u = v + 1 := ⟨u - 1, by omega⟩
    unfold L_X5_liesAt_6 B_X5_liesAt_41
    refine br_le (by omega) (by omega) (fun c => by omega) (fun _ => ?_)
    have h1 := ih u (i + 1) (by omega) (by omega)
    rw [lA] at h1
    refine m_goesUp hs (by omega) ?_
    have e2 : iI (i : Int) + (1 : Int32) = iI ((i + 1 : Nat) : Int) := by rw [iI_1, iI_add]; rfl
    rw [e2]
    cases q : gU s i with
    | false =>
      refine br_tt rfl (rg_o R (m_lengthOf R H hp (by omega) ?_))
      rw [q] at h1
      rw [iI_neg, iI_add]
      exact h1
    | true =>
      refine br_ff (by decide) (rg_o R (m_lengthOf R H hp (by omega) ?_))
      rw [q] at h1
      rw [iI_add]
      exact h1
theorem m_liesAt {s f : Nat} (R : rM h m V A) (H : mP A p P) (hp : p < 30) (hs : s < 2 ^ 31) (hf : f ≤ 9) (hq : Q (iI (lA (cr_ln P) s f)) h) : F_X5_liesAt m (iI p) (iI s) (iI f) h Q := ⟨f + 1, m_liesAt_loop R H hp hs hf hq f (f + 1) 0 (by omega) (by omega)⟩
def cr_per (P : cr_P) (b : Bool) : Nat := if cr_kd P = 2 then (if b then cr_cl P else cr_rw P) else 1
theorem m_creasesIn {v : Nat} {b : Bool} (R : rM h m V A) (H : mP A p P) (hp : p < 30) (hv : v < 256) (hq : Q (iI ((pop v * cr_per P b : Nat) : Int)) h) : F_X5_creasesIn m (iI p) (iI v) (iI (bI b)) h Q := by
  have hkd := H.1.1.1
  unfold F_X5_creasesIn B_X5_creasesIn_37
  refine m_bits hv ?_
  unfold cr_per at hq
  simp (disch := omega) only [mE R, H.2.1, H.2.2.2.1, H.2.2.2.2.1, ebr_eq, lits, iI_add, iI_sub, iI_mul, iI_neg]
  by_cases c : cr_kd P = 2
  · rw [if_pos (by omega)]
    rw [if_pos c] at hq
    cases b with
    | false => exact br_tt rfl hq
    | true => exact br_ff (by decide) hq
  · rw [if_neg (by omega)]
    rw [if_neg c] at hq
    exact hq
end ML
