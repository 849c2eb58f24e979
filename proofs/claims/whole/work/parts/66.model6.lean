/-! THE REFERENCE: what the search asks of faces and creases -/
section M6
variable {h : pz_H} {m np p : Nat} {V : Nat → Int} {A : Nat → Int → Int} {Ps : Nat → cr_P} {P : cr_P} {Q : Int32 → pz_H → Prop}
theorem m_crease {z f w : Int} (R : rM h m V A) (S : mS V A np Ps) (hz : iB z) (hf : iB f) (hw : iB w) (h1 : vC np Ps z f = false → Q (-101) h) (h2 : ∀ p g : Nat, p < np → g < cr_m (Ps p) → z = p → f = g → Q (iI (cr_crease (Ps p) g w)) h) : F_X5_crease m (iI z) (iI f) (iI w) h Q := by
  unfold F_X5_crease B_X5_crease_80
  refine rg_o R (m_hasCrease R S hz hf ?_)
  refine br_by (fun c => h1 ((bI_z _).mp c)) (fun c => ?_)
  have hvt : vC np Ps z f = true := Bool.not_eq_false _ ▸ (fun e => c ((bI_z _).mpr e))
  obtain ⟨p, g, hp, hg, rfl, rfl⟩ := vC_t hvt
  have H := S.2.2 p hp
  have hm := H.1.m12
  have h30 := S.2.1
  have hq := h2 p g hp hg rfl rfl
  unfold cr_crease at hq
  have e7 : A 7 (12 * (p : Int) + (g : Int)) = cr_a (Ps p) g := H.2.2.2.2.2.2.2.1 g hg
  have e8 : A 8 (12 * (p : Int) + (g : Int)) = cr_b (Ps p) g := H.2.2.2.2.2.2.2.2.1 g hg
  have e9 : A 9 (12 * (p : Int) + (g : Int)) = cr_mk (Ps p) g := H.2.2.2.2.2.2.2.2.2.1 g hg
  simp only [show (12 : Int32) = iI 12 from rfl, iI_mul, iI_add]
  refine br_eq (b := 0) hw (by omega) (fun c1 => ?_) (fun c1 => ?_)
  · refine rg_gA R rfl (rg_aI R (by decide) (by decide) rfl (by decide) ⟨by omega, by simp only [lM]; omega⟩ ?_)
    rw [if_pos c1] at hq
    rw [e7]; exact hq
  rw [if_neg c1] at hq
  refine br_eq (b := 1) hw (by omega) (fun c2 => ?_) (fun c2 => ?_)
  · refine rg_gA R rfl (rg_aI R (by decide) (by decide) rfl (by decide) ⟨by omega, by simp only [lM]; omega⟩ ?_)
    rw [if_pos c2] at hq
    rw [e8]; exact hq
  rw [if_neg c2] at hq
  refine br_eq (b := 2) hw (by omega) (fun c3 => ?_) (fun c3 => ?_)
  · refine rg_gA R rfl (rg_aI R (by decide) (by decide) rfl (by decide) ⟨by omega, by simp only [lM]; omega⟩ ?_)
    rw [if_pos c3] at hq
    rw [e9]; exact hq
  rw [if_neg c3] at hq
  refine br_eq (b := 3) hw (by omega) (fun c4 => ?_) (fun c4 => ?_)
  · rw [if_pos c4] at hq
    exact rg_o R (m_placeOf R H (by omega) hg hq)
  · rw [if_neg c4] at hq
    exact hq
theorem m_isUp {f : Nat} (R : rM h m V A) (H : mP A p P) (hp : p < 30) (hf : f < 9) (hq : Q (iI (bI (cr_up P f))) h) : F_X5_isUp m (iI p) (iI f) h Q := by
  unfold F_X5_isUp B_X5_isUp_51
  have hkd := H.1.1.1
  obtain ⟨s1, s2⟩ := cr_small H.1.1
  have s3 := H.1.1.2.2.1
  unfold cr_up at hq
  refine rg_gA R rfl (rg_aI R (by decide) (by decide) rfl (by decide) ⟨by omega, by simp only [lM]; omega⟩ ?_)
  rw [H.2.1]
  refine br_eq (b := 2) (by omega) (by omega) (fun c1 => ?_) (fun c1 => ⟨by decide, ?_⟩)
  · rw [if_pos (show cr_kd P = 2 by omega)] at hq
    have hne : ¬ iI (cr_cl P : Int) = 0 := by rw [iI_nat, nu_z (by omega)]; omega
    refine rg_gA R rfl (rg_aI R (by decide) (by decide) rfl (by decide) ⟨by omega, by simp only [lM]; omega⟩ ?_)
    rw [H.2.2.2.2.1]
    refine ⟨hne, rg_gA R rfl (rg_aI R (by decide) (by decide) rfl (by decide) ⟨by omega, by simp only [lM]; omega⟩ ?_)⟩
    rw [H.2.2.2.2.1]
    refine ⟨hne, by decide, ?_⟩
    have hlt : f / cr_cl P ≤ f := Nat.div_le_self _ _
    have hmo : f % cr_cl P ≤ f := Nat.mod_le _ _
    have e1 : iI ((f / cr_cl P : Nat) : Int) + iI ((f % cr_cl P : Nat) : Int) = iI ((f / cr_cl P + f % cr_cl P : Nat) : Int) := by rw [iI_add]; simp
    rw [m_rem (by omega) (by omega) (by omega), m_div (by omega) (by omega) (by omega), e1, m_rem2 (by omega)]
    refine br_eq (b := 0) (by omega) (by omega) (fun c2 => rg_z (Or.inr rfl) ?_) (fun c2 => rg_z (Or.inl rfl) ?_)
    · rw [decide_eq_true (by omega)] at hq; exact hq
    · rw [decide_eq_false (by omega)] at hq; exact hq
  · rw [if_neg (show ¬ cr_kd P = 2 by omega)] at hq
    rw [m_rem2 (by omega)]
    refine br_eq (b := 0) (by omega) (by omega) (fun c2 => rg_z (Or.inr rfl) ?_) (fun c2 => rg_z (Or.inl rfl) ?_)
    · rw [decide_eq_true (by omega)] at hq; exact hq
    · rw [decide_eq_false (by omega)] at hq; exact hq
theorem m_isWithin {f : Nat} {x : Int} (R : rM h m V A) (H : mP A p P) (hp : p < 30) (hv : V 12 = p) (hf : f < 9) (hx : iB x) (hq : Q (iI (bI (cr_wi P f x))) h) : F_X5_isWithin m (iI f) (iI x) h Q := by
  unfold F_X5_isWithin B_X5_isWithin_60 B_X5_isWithin_61
  have hkd := H.1.1.1
  have b1 := H.1.eB (f := f) (by omega)
  have b2 := H.1.eB (f := f + 1) (by omega)
  unfold cr_wi at hq
  refine rg_gI R rfl ?_
  rw [hv]
  refine rg_o R (m_begins R H hp (by omega) ?_)
  refine rg_gI R rfl ?_
  have e1 : iI (f : Int) + (1 : Int32) = iI ((f + 1 : Nat) : Int) := by rw [iI_1, iI_add]; simp
  rw [hv, e1]
  refine rg_o R (m_begins R H hp (by omega) ?_)
  refine rg_gA R rfl (rg_gI R rfl ?_)
  rw [hv]
  refine rg_aI R (by decide) (by decide) rfl (by decide) ⟨by omega, by simp only [lM]; omega⟩ ?_
  rw [H.2.1]
  refine br_eq (b := 2) (by omega) (by omega) (fun c1 => rg_z (Or.inl rfl) ?_) (fun c1 => ?_)
  · rw [decide_eq_false (show ¬ cr_kd P ≠ 2 by omega)] at hq; exact hq
  rw [decide_eq_true (show cr_kd P ≠ 2 by omega), Bool.true_and] at hq
  refine m_lesser (by omega) (by omega) ?_
  refine br_le hx (by omega) (fun c2 => rg_z (Or.inl rfl) ?_) (fun c2 => ?_)
  · rw [decide_eq_false (show ¬ _ < x by omega)] at hq; exact hq
  rw [decide_eq_true c2, Bool.true_and] at hq
  refine m_greater (by omega) (by omega) ?_
  refine br_le (by omega) hx (fun c3 => rg_z (Or.inl rfl) ?_) (fun c3 => rg_z (Or.inr rfl) ?_)
  · rw [decide_eq_false (show ¬ x < _ by omega)] at hq; exact hq
  · rw [decide_eq_true c3] at hq; exact hq
/-- the places of the creases are laid out in the array 14 -/
def mPl (A : Nat → Int → Int) (P : cr_P) : Prop := ∀ c : Nat, c < cr_m P → A 14 (c : Int) = cr_pl P c
theorem m_isOneSide {c d : Nat} (R : rM h m V A) (H : mP A p P) (hp : p < 30) (hv : V 12 = p) (hpl : mPl A P) (hc : c < cr_m P) (hd : d < cr_m P) (hq : Q (iI (bI (cr_os P c d))) h) : F_X5_isOneSide m (iI c) (iI d) h Q := by
  unfold F_X5_isOneSide B_X5_isOneSide_63 B_X5_isOneSide_67 B_X5_isOneSide_68
  have hkd := H.1.1.1
  have hm := H.1.m12
  have hn := H.1.n9
  have b1 := H.1.plB hc
  have b2 := H.1.plB hd
  have a1 := H.1.ab hc
  have a2 := H.1.ab hd
  have e7 : A 7 (12 * (p : Int) + (c : Int)) = cr_a P c := H.2.2.2.2.2.2.2.1 c hc
  have e8 : A 7 (12 * (p : Int) + (d : Int)) = cr_a P d := H.2.2.2.2.2.2.2.1 d hd
  unfold cr_os at hq
  refine rg_gA R rfl (rg_aI R (by decide) (by decide) rfl (by decide) ⟨by omega, by simp only [lM]; omega⟩ ?_)
  rw [hpl c hc]
  refine rg_gA R rfl (rg_aI R (by decide) (by decide) rfl (by decide) ⟨by omega, by simp only [lM]; omega⟩ ?_)
  rw [hpl d hd]
  refine br_eq (by omega) (by omega) (fun c1 => ?_) (fun c1 => rg_z (Or.inl rfl) ?_)
  · rw [decide_eq_true c1, Bool.true_and] at hq
    refine rg_gA R rfl (rg_gI R rfl ?_)
    rw [hv]
    refine rg_aI R (by decide) (by decide) rfl (by decide) ⟨by omega, by simp only [lM]; omega⟩ ?_
    rw [H.2.1]
    refine br_eq (b := 2) (by omega) (by omega) (fun c2 => rg_z (Or.inr rfl) ?_) (fun c2 => ?_)
    · rw [decide_eq_true (show cr_kd P = 2 by omega), Bool.true_or] at hq; exact hq
    rw [decide_eq_false (show ¬ cr_kd P = 2 by omega), Bool.false_or] at hq
    refine rg_gA R rfl (rg_gI R rfl ?_)
    rw [hv]
    simp only [show (12 : Int32) = iI 12 from rfl, iI_mul, iI_add]
    refine rg_aI R (by decide) (by decide) rfl (by decide) ⟨by omega, by simp only [lM]; omega⟩ ?_
    rw [e7]
    refine ⟨by decide, rg_gA R rfl (rg_gI R rfl ?_)⟩
    rw [hv]
    simp only [iI_mul, iI_add]
    refine rg_aI R (by decide) (by decide) rfl (by decide) ⟨by omega, by simp only [lM]; omega⟩ ?_
    rw [e8]
    refine ⟨by decide, ?_⟩
    rw [m_rem2 (by omega), m_rem2 (by omega)]
    refine br_eq (by omega) (by omega) (fun c3 => rg_z (Or.inr rfl) ?_) (fun c3 => rg_z (Or.inl rfl) ?_)
    · rw [decide_eq_true (by omega)] at hq; exact hq
    · rw [decide_eq_false (by omega)] at hq; exact hq
  · rw [decide_eq_false c1, Bool.false_and] at hq; exact hq
theorem m_isFour {c d : Nat} (R : rM h m V A) (H : mP A p P) (hp : p < 30) (hv : V 12 = p) (hc : c < cr_m P) (hd : d < cr_m P) (hq : Q (iI (bI (cr_fo P c d))) h) : F_X5_isFour m (iI c) (iI d) h Q := by
  unfold F_X5_isFour B_X5_isFour_93 B_X5_isFour_94
  have hm := H.1.m12
  have hn := H.1.n9
  have a1 := H.1.ab hc
  have a2 := H.1.ab hd
  have e1 : A 7 (12 * (p : Int) + (c : Int)) = cr_a P c := H.2.2.2.2.2.2.2.1 c hc
  have e2 : A 8 (12 * (p : Int) + (c : Int)) = cr_b P c := H.2.2.2.2.2.2.2.2.1 c hc
  have e3 : A 7 (12 * (p : Int) + (d : Int)) = cr_a P d := H.2.2.2.2.2.2.2.1 d hd
  have e4 : A 8 (12 * (p : Int) + (d : Int)) = cr_b P d := H.2.2.2.2.2.2.2.2.1 d hd
  unfold cr_fo at hq
  simp only [show (12 : Int32) = iI 12 from rfl]
  refine rg_gA R rfl (rg_gI R rfl ?_)
  rw [hv, iI_mul, iI_add]
  refine rg_aI R (by decide) (by decide) rfl (by decide) ⟨by omega, by simp only [lM]; omega⟩ ?_
  rw [e1]
  refine rg_gA R rfl (rg_gI R rfl ?_)
  rw [hv, iI_mul, iI_add]
  refine rg_aI R (by decide) (by decide) rfl (by decide) ⟨by omega, by simp only [lM]; omega⟩ ?_
  rw [e2]
  refine rg_gA R rfl (rg_gI R rfl ?_)
  rw [hv, iI_mul, iI_add]
  refine rg_aI R (by decide) (by decide) rfl (by decide) ⟨by omega, by simp only [lM]; omega⟩ ?_
  rw [e3]
  refine rg_gA R rfl (rg_gI R rfl ?_)
  rw [hv, iI_mul, iI_add]
  refine rg_aI R (by decide) (by decide) rfl (by decide) ⟨by omega, by simp only [lM]; omega⟩ ?_
  rw [e4]
  refine br_eq (by omega) (by omega) (fun c1 => rg_z (Or.inl rfl) ?_) (fun c1 => ?_)
  · rw [decide_eq_false (show ¬ cr_a P c ≠ cr_a P d by omega)] at hq; exact hq
  rw [decide_eq_true (show cr_a P c ≠ cr_a P d by omega), Bool.true_and] at hq
  refine br_eq (by omega) (by omega) (fun c2 => rg_z (Or.inl rfl) ?_) (fun c2 => ?_)
  · rw [decide_eq_false (show ¬ cr_a P c ≠ cr_b P d by omega)] at hq; exact hq
  rw [decide_eq_true (show cr_a P c ≠ cr_b P d by omega), Bool.true_and] at hq
  refine br_eq (by omega) (by omega) (fun c3 => rg_z (Or.inl rfl) ?_) (fun c3 => ?_)
  · rw [decide_eq_false (show ¬ cr_b P c ≠ cr_a P d by omega)] at hq; exact hq
  rw [decide_eq_true (show cr_b P c ≠ cr_a P d by omega), Bool.true_and] at hq
  refine br_eq (by omega) (by omega) (fun c4 => rg_z (Or.inl rfl) ?_) (fun c4 => rg_z (Or.inr rfl) ?_)
  · rw [decide_eq_false (show ¬ cr_b P c ≠ cr_b P d by omega)] at hq; exact hq
  · rw [decide_eq_true (show cr_b P c ≠ cr_b P d by omega)] at hq; exact hq
/-- what crease c is, where the faces' heights are H -/
def cr_mi (P : cr_P) (H : Nat → Int) (c : Nat) : Nat := if decide (H (cr_a P c) < H (cr_b P c)) = cr_up P (cr_a P c) then 2 else 1
theorem m_markIn {c : Nat} {HH : Nat → Int} (R : rM h m V A) (H : mP A p P) (hp : p < 30) (hv : V 12 = p) (hh : ∀ f : Nat, f < cr_n P → A 13 (f : Int) = HH f ∧ iB (HH f)) (hc : c < cr_m P) (hq : Q (iI (cr_mi P HH c)) h) : F_X5_markIn m (iI c) h Q := by
  unfold F_X5_markIn B_X5_markIn_48 B_X5_markIn_67
  have hm := H.1.m12
  have hn := H.1.n9
  have a1 := H.1.ab hc
  have e1 : A 7 (12 * (p : Int) + (c : Int)) = cr_a P c := H.2.2.2.2.2.2.2.1 c hc
  have e2 : A 8 (12 * (p : Int) + (c : Int)) = cr_b P c := H.2.2.2.2.2.2.2.2.1 c hc
  obtain ⟨ha, hb1⟩ := hh _ a1.1
  obtain ⟨hb, hb2⟩ := hh _ a1.2.1
  simp only [show (12 : Int32) = iI 12 from rfl]
  refine rg_gA R rfl (rg_gI R rfl ?_)
  rw [hv, iI_mul, iI_add]
  refine rg_aI R (by decide) (by decide) rfl (by decide) ⟨by omega, by simp only [lM]; omega⟩ ?_
  rw [e1]
  refine rg_gA R rfl (rg_gA R rfl (rg_gI R rfl ?_))
  rw [hv, iI_mul, iI_add]
  refine rg_aI R (by decide) (by decide) rfl (by decide) ⟨by omega, by simp only [lM]; omega⟩ ?_
  rw [e2]
  refine rg_aI R (by decide) (by decide) rfl (by decide) ⟨by omega, by simp only [lM]; omega⟩ ?_
  rw [hb]
  refine rg_gA R rfl (rg_aI R (by decide) (by decide) rfl (by decide) ⟨by omega, by simp only [lM]; omega⟩ ?_)
  rw [ha]
  unfold cr_mi at hq
  refine br_le hb2 hb1 (fun c1 => ?_) (fun c1 => ?_)
  · rw [decide_eq_false (show ¬ HH (cr_a P c) < HH (cr_b P c) by omega)] at hq
    refine rg_gI R rfl ?_
    rw [hv]
    refine rg_o R (m_isUp R H hp (by omega) ?_)
    cases hu : cr_up P (cr_a P c) with
    | false => rw [hu] at hq; exact br_tt rfl hq
    | true => rw [hu] at hq; exact br_ff (by decide) hq
  · rw [decide_eq_true (show HH (cr_a P c) < HH (cr_b P c) by omega)] at hq
    refine rg_gI R rfl ?_
    rw [hv]
    refine rg_o R (m_isUp R H hp (by omega) ?_)
    cases hu : cr_up P (cr_a P c) with
    | false => rw [hu] at hq; exact br_ff (by decide) hq
    | true => rw [hu] at hq; exact br_tt rfl hq
end M6
