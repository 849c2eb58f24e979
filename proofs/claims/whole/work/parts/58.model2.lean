/-! THE REFERENCE: papers are looked up, made, changed -/
def vN (np : Nat) (z : Int) : Bool := decide (0 ≤ z ∧ z < np)
def vF (np : Nat) (Ps : Nat → cr_P) (z f : Int) : Bool := vN np z && decide (0 ≤ f ∧ f < cr_n (Ps z.toNat))
def vC (np : Nat) (Ps : Nat → cr_P) (z c : Int) : Bool := vN np z && decide (0 ≤ c ∧ c < cr_m (Ps z.toNat))
theorem vN_t {np : Nat} {z : Int} (h : vN np z = true) : ∃ p : Nat, p < np ∧ z = p := by
  unfold vN at h
  have := of_decide_eq_true h
  exact ⟨z.toNat, by omega, by omega⟩
theorem vF_t {np : Nat} {Ps : Nat → cr_P} {z f : Int} (h : vF np Ps z f = true) : ∃ p g : Nat, p < np ∧ g < cr_n (Ps p) ∧ z = p ∧ f = g := by
  unfold vF at h
  rw [Bool.and_eq_true] at h
  obtain ⟨p, hp, rfl⟩ := vN_t h.1
  have := of_decide_eq_true h.2
  rw [Int.toNat_natCast] at this
  exact ⟨p, f.toNat, hp, by omega, rfl, by omega⟩
theorem vC_t {np : Nat} {Ps : Nat → cr_P} {z f : Int} (h : vC np Ps z f = true) : ∃ p g : Nat, p < np ∧ g < cr_m (Ps p) ∧ z = p ∧ f = g := by
  unfold vC at h
  rw [Bool.and_eq_true] at h
  obtain ⟨p, hp, rfl⟩ := vN_t h.1
  have := of_decide_eq_true h.2
  rw [Int.toNat_natCast] at this
  exact ⟨p, f.toNat, hp, by omega, rfl, by omega⟩
section M2
variable {h : pz_H} {m np : Nat} {V : Nat → Int} {A : Nat → Int → Int} {Ps : Nat → cr_P} {Q : Int32 → pz_H → Prop}
theorem m_hasFace {z f : Int} (R : rM h m V A) (S : mS V A np Ps) (hz : iB z) (hf : iB f) (hq : Q (iI (bI (vF np Ps z f))) h) : F_X5_hasFace m (iI z) (iI f) h Q := by
  unfold F_X5_hasFace B_X5_hasFace_26 B_X5_hasFace_27
  refine rg_o R (m_has R S.1 S.2.1 hz ?_)
  by_cases hv : vN np z = true
  · obtain ⟨p, hp, rfl⟩ := vN_t hv
    have hM := S.2.2 p hp
    have hn := hM.1.n9
    refine br_ff (fun c => ?_) ?_
    · rw [show decide (0 ≤ (p : Int) ∧ (p : Int) < np) = true from hv] at c
      exact absurd c (by decide)
    have e : vF np Ps (p : Int) f = decide (0 ≤ f ∧ f < cr_n (Ps p)) := by
      unfold vF; rw [hv, Int.toNat_natCast, Bool.true_and]
    rw [e] at hq
    refine br_lt (b := 0) hf (by omega) (fun c => rg_z (Or.inl rfl) ?_) (fun c => ?_)
    · rw [decide_eq_false (by omega)] at hq; exact hq
    refine rg_gA R rfl (rg_aI R (by decide) (by decide) rfl (by decide) ⟨by omega, by have := S.2.1; simp only [lM]; omega⟩ ?_)
    rw [hM.2.2.1]
    refine br_le (by omega) hf (fun c => rg_z (Or.inl rfl) ?_) (fun c => rg_z (Or.inr rfl) ?_)
    · rw [decide_eq_false (by omega)] at hq; exact hq
    · rw [decide_eq_true (by omega)] at hq; exact hq
  · have e : vF np Ps z f = false := by
      unfold vF; rw [Bool.eq_false_iff.mpr hv]; rfl
    rw [e] at hq
    refine br_tt ?_ (rg_z (Or.inl rfl) hq)
    rw [show decide (0 ≤ z ∧ z < (np : Int)) = false from Bool.eq_false_iff.mpr hv]
    rfl
theorem m_hasCrease {z f : Int} (R : rM h m V A) (S : mS V A np Ps) (hz : iB z) (hf : iB f) (hq : Q (iI (bI (vC np Ps z f))) h) : F_X5_hasCrease m (iI z) (iI f) h Q := by
  unfold F_X5_hasCrease B_X5_hasCrease_26 B_X5_hasCrease_27
  refine rg_o R (m_has R S.1 S.2.1 hz ?_)
  by_cases hv : vN np z = true
  · obtain ⟨p, hp, rfl⟩ := vN_t hv
    have hM := S.2.2 p hp
    have hn := hM.1.m12
    refine br_ff (fun c => ?_) ?_
    · rw [show decide (0 ≤ (p : Int) ∧ (p : Int) < np) = true from hv] at c
      exact absurd c (by decide)
    have e : vC np Ps (p : Int) f = decide (0 ≤ f ∧ f < cr_m (Ps p)) := by
      unfold vC; rw [hv, Int.toNat_natCast, Bool.true_and]
    rw [e] at hq
    refine br_lt (b := 0) hf (by omega) (fun c => rg_z (Or.inl rfl) ?_) (fun c => ?_)
    · rw [decide_eq_false (by omega)] at hq; exact hq
    refine rg_gA R rfl (rg_aI R (by decide) (by decide) rfl (by decide) ⟨by omega, by have := S.2.1; simp only [lM]; omega⟩ ?_)
    rw [hM.2.2.2.2.2.1]
    refine br_le (by omega) hf (fun c => rg_z (Or.inl rfl) ?_) (fun c => rg_z (Or.inr rfl) ?_)
    · rw [decide_eq_false (by omega)] at hq; exact hq
    · rw [decide_eq_true (by omega)] at hq; exact hq
  · have e : vC np Ps z f = false := by
      unfold vC; rw [Bool.eq_false_iff.mpr hv]; rfl
    rw [e] at hq
    refine br_tt ?_ (rg_z (Or.inl rfl) hq)
    rw [show decide (0 ≤ z ∧ z < (np : Int)) = false from Bool.eq_false_iff.mpr hv]
    rfl
/-- a crease more of paper p: its number is c -/
theorem m_addCrease {p c : Nat} {x y : Int} {Q : pz_H → Prop} (R : rM h m V A) (hp : p < 30) (hc : c < 12) (h5 : A 5 p = c) (hq : ∀ h', rM h' m V (au (au (au (au A 7 (12 * p + c) x) 8 (12 * p + c) y) 9 (12 * p + c) 0) 5 p (c + 1)) → Fr m (m + 23) h h' → Q h') : F_X5_addCrease m (iI p) (iI x) (iI y) h Q := by
  unfold F_X5_addCrease
  simp only [iI_lit, iI_mul]
  refine rg_gA R rfl (rg_aI R (by decide) (by decide) rfl (by decide) ⟨by omega, by simp only [lM]; omega⟩ ?_)
  rw [h5, iI_add]
  refine rg_gA R rfl (rg_sI R (by decide) (by decide) rfl (by decide) ⟨by omega, by simp only [lM]; omega⟩ fun h1 R1 f1 => ?_)
  refine rg_gA R1 rfl (rg_sI R1 (by decide) (by decide) rfl (by decide) ⟨by omega, by simp only [lM]; omega⟩ fun h2 R2 f2 => ?_)
  refine rg_gA R2 rfl (rg_sI R2 (by decide) (by decide) rfl (by decide) ⟨by omega, by simp only [lM]; omega⟩ fun h3 R3 f3 => ?_)
  refine rg_gA R3 rfl (rg_aI R3 (by decide) (by decide) rfl (by decide) ⟨by omega, by simp only [lM]; omega⟩ ?_)
  rw [au_nk (by decide), au_nk (by decide), au_nk (by decide), h5]
  rw [iI_add]
  refine rg_sI R3 (by decide) (by decide) rfl (by decide) ⟨by omega, by simp only [lM]; omega⟩ fun h4 R4 f4 => ?_
  exact hq h4 R4 (f1.tr (f2.tr (f3.tr f4)))
end M2
