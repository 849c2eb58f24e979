/-! THE REFERENCE: isFine -/
section M8
variable {h : pz_H} {m np p : Nat} {V : Nat → Int} {A : Nat → Int → Int} {Ps : Nat → cr_P} {P : cr_P} {Q : Int32 → pz_H → Prop} {HH : Nat → Int}
theorem m_isFine_loop {f : Nat} (R : rM h m V A) (H : mP A p P) (hp : p < 30) (hv : V 12 = p) (hpl : mPl A P) (hh : ∀ f : Nat, f < cr_n P → A 13 (f : Int) = HH f ∧ iB (HH f)) (hf : f < cr_n P) : ∀ (k u i : Nat), i + k = cr_m P → k < u → Q (iI (bI ((List.range' i k).all (cr_f1 P HH f)))) h → L_X5_isFine_2 m (iI f) Q u (iI i) h := by
  intro k
  have hm := H.1.m12
  have hn := H.1.n9
  induction k with
  | zero =>
    intro u i hi hu hq
    obtain ⟨u, rfl⟩ : ∃ v, u = v + 1 := ⟨u - 1, by omega⟩
    unfold L_X5_isFine_2
    refine rg_gA R rfl (rg_gI R rfl ?_)
    rw [hv]
    refine rg_aI R (by decide) (by decide) rfl (by decide) ⟨by omega, by simp only [lM]; omega⟩ ?_
    rw [H.2.2.2.2.2.1]
    exact br_le (by omega) (by omega) (fun _ => hq) (fun c => by omega)
  | succ k ih =>
    intro u i hi hu hq
    obtain ⟨u, rfl⟩ : ∃ v, u = v + 1 := ⟨u - 1, by omega⟩
    rw [all_step] at hq
    unfold L_X5_isFine_2
    refine rg_gA R rfl (rg_gI R rfl ?_)
    rw [hv]
    refine rg_aI R (by decide) (by decide) rfl (by decide) ⟨by omega, by simp only [lM]; omega⟩ ?_
    rw [H.2.2.2.2.2.1]
    refine br_le (by omega) (by omega) (fun c => by omega) (fun _ => ?_)
    have hi' : i < cr_m P := by omega
    have a2 := H.1.ab hi'
    obtain ⟨hx, bx⟩ := hh _ a2.1
    obtain ⟨hy, by_⟩ := hh _ a2.2.1
    have e7 : A 7 (12 * (p : Int) + (i : Int)) = cr_a P i := H.2.2.2.2.2.2.2.1 i hi'
    have e8 : A 8 (12 * (p : Int) + (i : Int)) = cr_b P i := H.2.2.2.2.2.2.2.2.1 i hi'
    have e12 : (12 : Int32) * iI (p : Int) = iI (12 * (p : Int)) := iI_mul 12 p
    have go : cr_f1 P HH f i = true → L_X5_isFine_2 m (iI f) Q u (iI (i : Int) + (1 : Int32)) h := fun ht => by
      rw [ht, Bool.true_and] at hq
      have e1 : iI (i : Int) + (1 : Int32) = iI ((i + 1 : Nat) : Int) := by rw [iI_1, iI_add]; simp
      rw [e1]
      exact ih u (i + 1) (by omega) (by omega) hq
    have no : cr_f1 P HH f i = false → Q (0 : Int32) h := fun ht => by
      rw [ht] at hq
      exact hq
    refine rg_gA R rfl (rg_gI R rfl ?_)
    rw [hv, e12, iI_add]
    refine rg_aI R (by decide) (by decide) rfl (by decide) ⟨by omega, by simp only [lM]; omega⟩ ?_
    rw [e7]
    refine rg_gA R rfl (rg_gI R rfl ?_)
    rw [hv, e12, iI_add]
    refine rg_aI R (by decide) (by decide) rfl (by decide) ⟨by omega, by simp only [lM]; omega⟩ ?_
    rw [e8]
    refine rg_gA R rfl (rg_aI R (by decide) (by decide) rfl (by decide) ⟨by omega, by simp only [lM]; omega⟩ ?_)
    rw [hx]
    -- a face of the crease, both faces lie
    have cl : (cr_a P i = f ∨ cr_b P i = f) → ∀ x y : Bool, decide (HH (cr_a P i) = -1) = !x → decide (HH (cr_b P i) = -1) = !y → B_X5_isFine_92 m (iI f) (iI i) (iI (cr_a P i)) (iI (cr_b P i)) (iI (bI x)) (iI (bI y)) (fun z0 hz => L_X5_isFine_2 m (iI f) Q u z0 hz) Q h := fun hor x y ex ey => by
      unfold B_X5_isFine_92 B_X5_isFine_138
      have hd : cr_f1 P HH f i = ((!x) || ((!y) || cr_clo P HH i)) := by unfold cr_f1; rw [if_pos hor, ex, ey]
      cases x with
      | false => exact br_tt rfl (go (by rw [hd]; rfl))
      | true =>
        refine br_ff (by decide) ?_
        cases y with
        | false => exact br_tt rfl (go (by rw [hd]; rfl))
        | true =>
          refine br_ff (by decide) (rg_o R (m_isClosed R H hp hv hpl hh hi' ?_))
          have hd : cr_f1 P HH f i = cr_clo P HH i := by rw [hd]; rfl
          cases hc : cr_clo P HH i with
          | false => exact br_tt rfl (no (by rw [hd]; exact hc))
          | true => exact br_ff (by decide) (go (by rw [hd]; exact hc))
    have tw : ∀ x y : Bool, decide (HH (cr_a P i) = -1) = !x → decide (HH (cr_b P i) = -1) = !y → B_X5_isFine_79 m (iI f) (iI i) (iI (cr_a P i)) (iI (cr_b P i)) (iI (bI x)) (iI (bI y)) (fun z0 hz => L_X5_isFine_2 m (iI f) Q u z0 hz) Q h := fun x y ex ey => by
      unfold B_X5_isFine_79 B_X5_isFine_138
      refine br_eq (by omega) (by omega) (fun c1 => cl (Or.inl (by omega)) x y ex ey) (fun c1 => ?_)
      refine br_eq (by omega) (by omega) (fun c2 => cl (Or.inr (by omega)) x y ex ey) (fun c2 => ?_)
      have hd : cr_f1 P HH f i = ((!x) == (!y) || !cr_wi P f (cr_pl P i)) := by unfold cr_f1; rw [if_neg (by omega), ex, ey]
      by_cases hxy : x = y
      · subst hxy
        exact br_tt rfl (go (by rw [hd]; simp))
      · refine br_ff (fun z => hxy (by cases x <;> cases y <;> first | rfl | exact absurd z (by decide))) ?_
        have b1 := H.1.plB hi'
        refine rg_gA R rfl (rg_aI R (by decide) (by decide) rfl (by decide) ⟨by omega, by simp only [lM]; omega⟩ ?_)
        rw [hpl i hi']
        refine rg_o R (m_isWithin R H hp hv (by omega) (by omega) ?_)
        have hne : ((!x) == (!y)) = false := by cases x <;> cases y <;> first | rfl | exact absurd rfl hxy
        rw [hne, Bool.false_or] at hd
        cases hw : cr_wi P f (cr_pl P i) with
        | false => exact br_tt rfl (go (by rw [hd, hw]; rfl))
        | true => exact br_ff (by decide) (no (by rw [hd, hw]; rfl))
    have sn : ∀ x : Bool, decide (HH (cr_a P i) = -1) = !x → B_X5_isFine_61 m (iI f) (iI i) (iI (cr_a P i)) (iI (cr_b P i)) (iI (bI x)) (fun z0 hz => L_X5_isFine_2 m (iI f) Q u z0 hz) Q h := fun x ex => by
      unfold B_X5_isFine_61
      refine rg_gA R rfl (rg_aI R (by decide) (by decide) rfl (by decide) ⟨by omega, by simp only [lM]; omega⟩ ?_)
      rw [hy]
      exact br_eq (b := -1) by_ (by omega) (fun c1 => tw x false ex (by rw [decide_eq_true c1]; rfl)) (fun c1 => tw x true ex (by rw [decide_eq_false c1]; rfl))
    exact br_eq (b := -1) bx (by omega) (fun c1 => sn false (by rw [decide_eq_true c1]; rfl)) (fun c1 => sn true (by rw [decide_eq_false c1]; rfl))
theorem m_isFine {f : Nat} (R : rM h m V A) (H : mP A p P) (hp : p < 30) (hv : V 12 = p) (hpl : mPl A P) (hh : ∀ f : Nat, f < cr_n P → A 13 (f : Int) = HH f ∧ iB (HH f)) (hf : f < cr_n P) (hq : Q (iI (bI (cr_fi P HH f))) h) : F_X5_isFine m (iI f) h Q := ⟨20, m_isFine_loop R H hp hv hpl hh hf (cr_m P) 20 0 (by omega) (by have := H.1.m12; omega) (by rw [all_range]; exact hq)⟩
end M8
