/-! THE REFERENCE: check -/
/-- the first answer from i on, among k -/
def fst1 (a : Nat → Option Int) : Nat → Nat → Option Int
  | _, 0 => none
  | i, k + 1 => match a i with
    | some x => some x
    | none => fst1 a (i + 1) k
def cr_bt (P : cr_P) (H : Nat → Int) (c f : Nat) : Bool := decide (min (H (cr_a P c)) (H (cr_b P c)) < H f) && decide (H f < max (H (cr_a P c)) (H (cr_b P c)))
def cr_cM (P : cr_P) (H : Nat → Int) (c : Nat) : Option Int := if cr_mok P H c then none else some (10000 + 100 * c)
def cr_t3 (P : cr_P) (c f : Nat) : Bool := decide (f ≠ cr_a P c) && (decide (f ≠ cr_b P c) && cr_wi P f (cr_pl P c))
def cr_cT1 (P : cr_P) (H : Nat → Int) (c f : Nat) : Option Int := if cr_t3 P c f && cr_bt P H c f then some (20000 + 100 * c + f) else none
def cr_cT (P : cr_P) (H : Nat → Int) (c : Nat) : Option Int := fst1 (cr_cT1 P H c) 0 (cr_n P)
def cr_cA1 (P : cr_P) (H : Nat → Int) (c d : Nat) : Option Int := if cr_os P c d && (cr_fo P c d && (cr_bt P H c (cr_a P d) != cr_bt P H c (cr_b P d))) then some (30000 + 100 * c + d) else none
def cr_cA (P : cr_P) (H : Nat → Int) (c : Nat) : Option Int := fst1 (cr_cA1 P H c) (c + 1) (cr_m P - (c + 1))
def cr_chk (P : cr_P) (H : Nat → Int) : Int := if cr_un P then 40000 else match fst1 (cr_cM P H) 0 (cr_m P) with
  | some x => x
  | none => match fst1 (cr_cT P H) 0 (cr_m P) with
    | some x => x
    | none => (fst1 (cr_cA P H) 0 (cr_m P)).getD 0
def rd (n : Nat) : Nat → Nat → List Nat → Option (List Nat)
  | 0, v, l => if v = 0 then some l else none
  | k + 1, v, l => if v % 10 < n ∧ v % 10 ∉ l then rd n k (v / 10) (l ++ [v % 10]) else none
def s_read (n : Nat) (z : Int) : Option (List Nat) := if z < 0 then none else rd n n z.toNat []
def s_check (np : Nat) (Ps : Nat → cr_P) (z v : Int) : Int := if vN np z then (match s_read (cr_n (Ps z.toNat)) v with
  | none => -102
  | some l => cr_chk (Ps z.toNat) (ps l)) else -101
section MG
variable {h : pz_H} {m np p : Nat} {V : Nat → Int} {A : Nat → Int → Int} {Ps : Nat → cr_P} {P : cr_P} {td : Option (Nat × List Nat)} {cl : List Nat} {st : List Int} {Q : Int32 → pz_H → Prop} {HH : Nat → Int}
theorem m_isBetween {c f : Nat} (R : rM h m V A) (H : mP A p P) (hp : p < 30) (hv : V 12 = p) (hh : ∀ f : Nat, f < cr_n P → A 13 (f : Int) = HH f ∧ iB (HH f)) (hc : c < cr_m P) (hf : f < cr_n P) (hq : Q (iI (bI (cr_bt P HH c f))) h) : F_X5_isBetween m (iI c) (iI f) h Q := by
  have hm := H.1.m12
  have hn := H.1.n9
  obtain ⟨a1, a2, -⟩ := H.1.ab hc
  have e7 : A 7 (12 * (p : Int) + (c : Int)) = cr_a P c := H.2.2.2.2.2.2.2.1 c hc
  have e8 : A 8 (12 * (p : Int) + (c : Int)) = cr_b P c := H.2.2.2.2.2.2.2.2.1 c hc
  obtain ⟨x1, x2⟩ := hh _ a1
  obtain ⟨y1, y2⟩ := hh _ a2
  obtain ⟨f1, f2⟩ := hh _ hf
  unfold F_X5_isBetween B_X5_isBetween_75 B_X5_isBetween_76
  unfold cr_bt at hq
  simp (disch := omega) only [mE R, hv, e7, e8, x1, y1, f1, lits, iI_add, iI_sub, iI_mul, iI_neg]
  refine m_lesser x2 y2 ?_
  refine br_le f2 (by omega) (fun c1 => rg_z (Or.inl rfl) ?_) (fun c1 => ?_)
  · rw [decide_eq_false (by omega)] at hq; exact hq
  simp (disch := omega) only [mE R, f1, lits, iI_add, iI_sub, iI_mul, iI_neg]
  refine m_greater x2 y2 ?_
  refine br_le (by omega) f2 (fun c2 => rg_z (Or.inl rfl) ?_) (fun c2 => rg_z (Or.inr rfl) ?_)
  · rw [decide_eq_false (show ¬ HH f < _ by omega), Bool.and_false] at hq; exact hq
  · rw [decide_eq_true c1, decide_eq_true c2] at hq; exact hq
theorem m_checkA1 {c : Nat} {kk : Int32 → pz_H → Prop} (R : rM h m V A) (H : mP A p P) (hp : p < 30) (hv : V 12 = p) (hpl : mPl A P) (hh : ∀ f : Nat, f < cr_n P → A 13 (f : Int) = HH f ∧ iB (HH f)) (hc : c < cr_m P) : ∀ k u i : Nat, i + k = cr_m P → k < u → (∀ x, fst1 (cr_cA1 P HH c) i k = some x → Q (iI x) h) → (fst1 (cr_cA1 P HH c) i k = none → kk (iI ((c + 1 : Nat) : Int)) h) → L_X5_check_334 m (iI p) (iI c) kk Q u (iI i) h := by
  intro k
  have hm := H.1.m12
  have hn := H.1.n9
  induction k with
  | zero =>
    intro u i hi hu h1 h2
    obtain ⟨u, rfl⟩ : ∃ v, u = v + 1 := ⟨u - 1, by omega⟩
    unfold L_X5_check_334
    simp (disch := omega) only [mE R, H.2.2.2.2.2.1, ebr_le, lits, iI_add, iI_sub, iI_mul, iI_neg]
    rw [if_pos (by omega)]
    exact h2 rfl
  | succ k ih =>
    intro u i hi hu h1 h2
    obtain ⟨u, rfl⟩ : ∃ v, u = v + 1 := ⟨u - 1, by omega⟩
    unfold L_X5_check_334 B_X5_check_419
    have hi' : i < cr_m P := by omega
    obtain ⟨a1, a2, -⟩ := H.1.ab hi'
    have e7 : A 7 (12 * (p : Int) + (i : Int)) = cr_a P i := H.2.2.2.2.2.2.2.1 i hi'
    have e8 : A 8 (12 * (p : Int) + (i : Int)) = cr_b P i := H.2.2.2.2.2.2.2.2.1 i hi'
    simp (disch := omega) only [mE R, H.2.2.2.2.2.1, ebr_le, e7, e8, iI_s, lits, iI_add, iI_sub, iI_mul, iI_neg]
    rw [if_neg (by omega)]
    rw [fst1] at h1 h2
    have go : cr_cA1 P HH c i = none → L_X5_check_334 m (iI p) (iI c) kk Q u (iI ((i + 1 : Nat) : Int)) h := fun e => by
      rw [e] at h1 h2
      exact ih u (i + 1) (by omega) (by omega) h1 h2
    refine m_isOneSide R H hp hv hpl hc hi' ?_
    unfold cr_cA1 at go h1
    cases ho : cr_os P c i with
    | false => exact br_tt rfl (go (by rw [ho]; rfl))
    | true =>
      refine br_ff (by decide) ?_
      simp (disch := omega) only [mE R, lits, iI_add, iI_sub, iI_mul, iI_neg]
      refine m_isFour R H hp hv hc hi' ?_
      cases h4 : cr_fo P c i with
      | false => exact br_tt rfl (go (by rw [ho, h4]; rfl))
      | true =>
        refine br_ff (by decide) ?_
        simp (disch := omega) only [mE R, e7, lits, iI_add, iI_sub, iI_mul, iI_neg]
        refine m_isBetween R H hp hv hh hc a1 ?_
        simp (disch := omega) only [mE R, e8, lits, iI_add, iI_sub, iI_mul, iI_neg]
        refine m_isBetween R H hp hv hh hc a2 ?_
        rw [ho, h4] at go h1
        simp only [Bool.true_and] at go h1
        cases k1 : cr_bt P HH c (cr_a P i) <;> cases k2 : cr_bt P HH c (cr_b P i)
        · exact br_tt rfl (go (by rw [k1, k2]; rfl))
        · exact br_ff (by decide) (h1 _ (by rw [k1, k2]; rfl))
        · exact br_ff (by decide) (h1 _ (by rw [k1, k2]; rfl))
        · exact br_tt rfl (go (by rw [k1, k2]; rfl))
theorem m_checkA (R : rM h m V A) (H : mP A p P) (hp : p < 30) (hv : V 12 = p) (hpl : mPl A P) (hh : ∀ f : Nat, f < cr_n P → A 13 (f : Int) = HH f ∧ iB (HH f)) : ∀ k u i : Nat, i + k = cr_m P → k < u → Q (iI ((fst1 (cr_cA P HH) i k).getD 0)) h → L_X5_check_317 m (iI p) Q u (iI i) h := by
  intro k
  have hm := H.1.m12
  induction k with
  | zero =>
    intro u i hi hu hq
    obtain ⟨u, rfl⟩ : ∃ v, u = v + 1 := ⟨u - 1, by omega⟩
    unfold L_X5_check_317
    simp (disch := omega) only [mE R, H.2.2.2.2.2.1, ebr_le, lits, iI_add, iI_sub, iI_mul, iI_neg]
    rw [if_pos (by omega)]
    exact hq
  | succ k ih =>
    intro u i hi hu hq
    obtain ⟨u, rfl⟩ : ∃ v, u = v + 1 := ⟨u - 1, by omega⟩
    unfold L_X5_check_317
    simp (disch := omega) only [mE R, H.2.2.2.2.2.1, ebr_le, iI_s, lits, iI_add, iI_sub, iI_mul, iI_neg]
    rw [if_neg (by omega)]
    rw [fst1] at hq
    refine ⟨20, m_checkA1 R H hp hv hpl hh (by omega) (cr_m P - (i + 1)) 20 (i + 1) (by omega) (by omega) (fun x e => ?_) (fun e => ?_)⟩
    · have e2 : cr_cA P HH i = some x := e
      rw [e2] at hq; exact hq
    · have e2 : cr_cA P HH i = none := e
      rw [e2] at hq
      exact ih u (i + 1) (by omega) (by omega) hq
theorem m_checkT1 {c : Nat} {kk : Int32 → pz_H → Prop} (R : rM h m V A) (H : mP A p P) (hp : p < 30) (hv : V 12 = p) (hpl : mPl A P) (hh : ∀ f : Nat, f < cr_n P → A 13 (f : Int) = HH f ∧ iB (HH f)) (hc : c < cr_m P) : ∀ k u i : Nat, i + k = cr_n P → k < u → (∀ x, fst1 (cr_cT1 P HH c) i k = some x → Q (iI x) h) → (fst1 (cr_cT1 P HH c) i k = none → kk (iI ((c + 1 : Nat) : Int)) h) → L_X5_check_217 m (iI p) (iI c) kk Q u (iI i) h := by
  intro k
  have hm := H.1.m12
  have hn := H.1.n9
  have hplB := H.1.plB hc
  obtain ⟨a1, a2, -⟩ := H.1.ab hc
  induction k with
  | zero =>
    intro u i hi hu h1 h2
    obtain ⟨u, rfl⟩ : ∃ v, u = v + 1 := ⟨u - 1, by omega⟩
    unfold L_X5_check_217
    simp (disch := omega) only [mE R, H.2.2.1, ebr_le, lits, iI_add, iI_sub, iI_mul, iI_neg]
    rw [if_pos (by omega)]
    exact h2 rfl
  | succ k ih =>
    intro u i hi hu h1 h2
    obtain ⟨u, rfl⟩ : ∃ v, u = v + 1 := ⟨u - 1, by omega⟩
    unfold L_X5_check_217 B_X5_check_302
    have e7 : A 7 (12 * (p : Int) + (c : Int)) = cr_a P c := H.2.2.2.2.2.2.2.1 c hc
    have e8 : A 8 (12 * (p : Int) + (c : Int)) = cr_b P c := H.2.2.2.2.2.2.2.2.1 c hc
    have epl := hpl c hc
    simp (disch := omega) only [mE R, H.2.2.1, ebr_le, e7, e8, iI_s, ebr_eq, lits, iI_add, iI_sub, iI_mul, iI_neg]
    rw [if_neg (by omega)]
    rw [fst1] at h1 h2
    have go : cr_cT1 P HH c i = none → L_X5_check_217 m (iI p) (iI c) kk Q u (iI ((i + 1 : Nat) : Int)) h := fun e => by
      rw [e] at h1 h2
      exact ih u (i + 1) (by omega) (by omega) h1 h2
    unfold cr_cT1 cr_t3 at go h1
    by_cases q1 : i = cr_a P c
    · rw [if_pos (by omega)]
      exact go (by rw [decide_eq_false (not_not_intro q1)]; rfl)
    · rw [if_neg (by omega)]
      rw [decide_eq_true q1] at go h1
      by_cases q2 : i = cr_b P c
      · rw [if_pos (by omega)]
        exact go (by rw [decide_eq_false (not_not_intro q2)]; rfl)
      · rw [if_neg (by omega)]
        rw [decide_eq_true q2] at go h1
        refine m_isBetween R H hp hv hh hc (by omega) ?_
        cases hb : cr_bt P HH c i with
        | false => exact br_tt rfl (go (by rw [hb, Bool.and_false]; rfl))
        | true =>
          refine br_ff (by decide) ?_
          simp (disch := omega) only [mE R, epl, lits, iI_add, iI_sub, iI_mul, iI_neg]
          refine m_isWithin R H hp hv (by omega) (by omega) ?_
          cases hw : cr_wi P i (cr_pl P c) with
          | false => exact br_tt rfl (go (by rw [hw]; rfl))
          | true => exact br_ff (by decide) (h1 _ (by rw [hb, hw]; rfl))
theorem m_checkT (R : rM h m V A) (H : mP A p P) (hp : p < 30) (hv : V 12 = p) (hpl : mPl A P) (hh : ∀ f : Nat, f < cr_n P → A 13 (f : Int) = HH f ∧ iB (HH f)) : ∀ k u i : Nat, i + k = cr_m P → k < u → Q (iI (match fst1 (cr_cT P HH) i k with | some x => x | none => (fst1 (cr_cA P HH) 0 (cr_m P)).getD 0)) h → L_X5_check_203 m (iI p) Q u (iI i) h := by
  intro k
  have hm := H.1.m12
  have hn := H.1.n9
  induction k with
  | zero =>
    intro u i hi hu hq
    obtain ⟨u, rfl⟩ : ∃ v, u = v + 1 := ⟨u - 1, by omega⟩
    unfold L_X5_check_203
    simp (disch := omega) only [mE R, H.2.2.2.2.2.1, ebr_le, lits, iI_add, iI_sub, iI_mul, iI_neg]
    rw [if_pos (by omega)]
    exact ⟨20, m_checkA R H hp hv hpl hh (cr_m P) 20 0 (by omega) (by omega) hq⟩
  | succ k ih =>
    intro u i hi hu hq
    obtain ⟨u, rfl⟩ : ∃ v, u = v + 1 := ⟨u - 1, by omega⟩
    unfold L_X5_check_203
    simp (disch := omega) only [mE R, H.2.2.2.2.2.1, ebr_le, iI_s, lits, iI_add, iI_sub, iI_mul, iI_neg]
    rw [if_neg (by omega)]
    rw [fst1] at hq
    refine ⟨20, m_checkT1 R H hp hv hpl hh (by omega) (cr_n P) 20 0 (by omega) (by omega) (fun x e => ?_) (fun e => ?_)⟩
    · have e2 : cr_cT P HH i = some x := e
      rw [e2] at hq; exact hq
    · have e2 : cr_cT P HH i = none := e
      rw [e2] at hq
      exact ih u (i + 1) (by omega) (by omega) hq
theorem m_checkM (R : rM h m V A) (H : mP A p P) (hp : p < 30) (hv : V 12 = p) (hpl : mPl A P) (hh : ∀ f : Nat, f < cr_n P → A 13 (f : Int) = HH f ∧ iB (HH f)) : ∀ k u i : Nat, i + k = cr_m P → k < u → Q (iI (match fst1 (cr_cM P HH) i k with | some x => x | none => match fst1 (cr_cT P HH) 0 (cr_m P) with | some x => x | none => (fst1 (cr_cA P HH) 0 (cr_m P)).getD 0)) h → L_X5_check_143 m (iI p) Q u (iI i) h := by
  intro k
  have hm := H.1.m12
  have hn := H.1.n9
  induction k with
  | zero =>
    intro u i hi hu hq
    obtain ⟨u, rfl⟩ : ∃ v, u = v + 1 := ⟨u - 1, by omega⟩
    unfold L_X5_check_143
    simp (disch := omega) only [mE R, H.2.2.2.2.2.1, ebr_le, lits, iI_add, iI_sub, iI_mul, iI_neg]
    rw [if_pos (by omega)]
    exact ⟨20, m_checkT R H hp hv hpl hh (cr_m P) 20 0 (by omega) (by omega) hq⟩
  | succ k ih =>
    intro u i hi hu hq
    obtain ⟨u, rfl⟩ : ∃ v, u = v + 1 := ⟨u - 1, by omega⟩
    unfold L_X5_check_143 B_X5_check_194
    have hi' : i < cr_m P := by omega
    have e9 : A 9 (12 * (p : Int) + (i : Int)) = cr_mk P i := H.2.2.2.2.2.2.2.2.2.1 i hi'
    have b9 := H.1.2.2.1 i
    simp (disch := omega) only [mE R, H.2.2.2.2.2.1, ebr_le, ebr_eq, iI_s, e9, lits, iI_add, iI_sub, iI_mul, iI_neg]
    rw [if_neg (by omega)]
    rw [fst1] at hq
    have go : cr_mok P HH i = true → L_X5_check_143 m (iI p) Q u (iI ((i + 1 : Nat) : Int)) h := fun e => by
      unfold cr_cM at hq
      rw [e] at hq
      exact ih u (i + 1) (by omega) (by omega) hq
    by_cases q1 : cr_mk P i = 0
    · rw [if_pos (by omega)]
      exact go (by unfold cr_mok; rw [decide_eq_true q1]; rfl)
    · rw [if_neg (by omega)]
      refine m_markIn R H hp hv hh hi' ?_
      have hmi := cr_mi12 P HH i
      rw [ebr_eq (by omega) (by omega)]
      by_cases q2 : cr_mk P i = cr_mi P HH i
      · rw [if_pos (by omega)]
        exact go (by unfold cr_mok; rw [decide_eq_true q2, Bool.or_true])
      · rw [if_neg (by omega)]
        unfold cr_cM cr_mok at hq
        rw [decide_eq_false q1, decide_eq_false q2] at hq
        exact hq
end MG
