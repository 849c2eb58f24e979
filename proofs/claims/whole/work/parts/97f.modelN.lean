/-! THE REFERENCE: fold, flatten, lies -/
def withG (P : cr_P) (g r : Nat) : cr_P := (cr_kd P, cr_rw P, cr_cl P, cr_ln P, cr_mk P, g, r)
def isRow (z : Int) : Bool := decide (z / 2 % 2 ≠ 0)
def foldP (P : cr_P) (z : Int) : cr_P := if isRow z then withG P (cr_gp P) (cr_rg P ||| s_done P (cr_gp P) (cr_rg P) z) else withG P (cr_gp P ||| s_done P (cr_gp P) (cr_rg P) z) (cr_rg P)
def s_fold (np : Nat) (Ps : Nat → cr_P) (z t : Int) : Int := if vN np z then (if cr_kd (Ps z.toNat) = 1 then -103 else ((pop (s_done (Ps z.toNat) (cr_gp (Ps z.toNat)) (cr_rg (Ps z.toNat)) t) * cr_per (Ps z.toNat) (isRow t) : Nat) : Int)) else -101
def s_foldS (np : Nat) (Ps : Nat → cr_P) (z t : Int) : Nat → cr_P := if vN np z then (if cr_kd (Ps z.toNat) = 1 then Ps else va_up Ps z.toNat (foldP (Ps z.toNat) t)) else Ps
def s_flatten (np : Nat) (Ps : Nat → cr_P) (z : Int) : Int := if vN np z then (if cr_kd (Ps z.toNat) = 1 then -103 else ((pop (cr_gp (Ps z.toNat)) * cr_per (Ps z.toNat) false + pop (cr_rg (Ps z.toNat)) * cr_per (Ps z.toNat) true : Nat) : Int)) else -101
def s_flattenS (np : Nat) (Ps : Nat → cr_P) (z : Int) : Nat → cr_P := if vN np z then (if cr_kd (Ps z.toNat) = 1 then Ps else va_up Ps z.toNat (withG (Ps z.toNat) 0 0)) else Ps
def cr_lies (P : cr_P) (f : Nat) (w : Int) : Int := if w = 0 then lA (cr_ln P) (cr_gp P) (f % cr_cl P) else if w = 1 then bI (gU (cr_gp P) (f % cr_cl P)) else if w = 2 then bI (upIn P (cr_gp P) (cr_rg P) f) else lA (cr_ln P) (cr_rg P) (f / cr_cl P)
def s_lies (np : Nat) (Ps : Nat → cr_P) (z f w : Int) : Int := if vF np Ps z f then (if ¬ (0 ≤ w ∧ w ≤ 3) then -102 else if cr_kd (Ps z.toNat) = 1 then -103 else cr_lies (Ps z.toNat) f.toNat w) else -101
theorem cr_ok.gB {P : cr_P} (h : cr_ok P) : cr_gp P < 256 ∧ cr_rg P < 256 ∧ cr_gp P < 2 ^ gaps P false ∧ cr_rg P < 2 ^ gaps P true := by
  obtain ⟨-, -, -, h4, h5, -⟩ := id h
  have g1 : 2 ^ gaps P false ≤ 2 ^ 8 := Nat.pow_le_pow_right (by decide) (h.g8 false).1
  have g2 : 2 ^ gaps P true ≤ 2 ^ 8 := Nat.pow_le_pow_right (by decide) (h.g8 true).1
  have e1 : gaps P false = cr_cl P - 1 := rfl
  have e2 : gaps P true = cr_rw P - 1 := rfl
  rw [e1] at g1 ⊢
  rw [e2] at g2 ⊢
  exact ⟨by omega, by omega, h4, h5⟩
theorem withG_ok {P : cr_P} (h : cr_ok P) {g r : Nat} (h1 : g < 2 ^ gaps P false) (h2 : r < 2 ^ gaps P true) : cr_ok (withG P g r) := by
  obtain ⟨a1, a2, a3, a4, a5, a6⟩ := h
  exact ⟨a1, a2, a3, h1, h2, a6⟩
theorem foldP_ok {P : cr_P} (h : cr_ok P) (z : Int) : cr_ok (foldP P z) := by
  obtain ⟨b1, b2, b3, b4⟩ := h.gB
  have hd := (s_done_lt h (cr_gp P) (cr_rg P) z).1
  unfold foldP isRow
  cases e : decide (z / 2 % 2 ≠ 0) with
  | true => rw [e] at hd; exact withG_ok h b3 (nu_lt_or b4 hd)
  | false => rw [e] at hd; exact withG_ok h (nu_lt_or b3 hd) b4
theorem tdOk_up {np p : Nat} {Ps : Nat → cr_P} {P' : cr_P} {td : Option (Nat × List Nat)} (O : tdOk np Ps td) (e : cr_n P' = cr_n (Ps p)) : tdOk np (va_up Ps p P') td := by
  cases td with
  | none => trivial
  | some t =>
    obtain ⟨q, l⟩ := t
    obtain ⟨h1, h2, h3, h4⟩ := O
    have en : cr_n (va_up Ps p P' q) = cr_n (Ps q) := by
      by_cases c : q = p
      · subst c; rw [va_up_self, e]
      · rw [va_up_ne _ _ c]
    exact ⟨h1, by rw [en]; exact h2, h3, by rw [en]; exact h4⟩
section MN
variable {h : pz_H} {m np p : Nat} {V : Nat → Int} {A : Nat → Int → Int} {Ps : Nat → cr_P} {P : cr_P} {td : Option (Nat × List Nat)} {cl : List Nat} {st : List Int} {Q : Int32 → pz_H → Prop}
/-- a paper changes, the rest stays -/
theorem MR.pap {P' : cr_P} {A' : Nat → Int → Int} {h' : pz_H} (O : okS np Ps td cl st) (W : mW V A np Ps td cl st) (R' : rM h' m V A') (S' : mS V A' np (va_up Ps p P')) (e : ∀ j, 12 ≤ j → A' j = A j) (en : cr_n P' = cr_n (Ps p)) : MR h' m np (va_up Ps p P') td cl st := by
  refine ⟨⟨tdOk_up O.1 en, O.2⟩, V, A', R', S', ?_, ?_, ?_⟩
  · have := W.2.1
    unfold mT at this ⊢
    rw [e 15 (by decide)]; exact this
  · have := W.2.2.1
    unfold mC at this ⊢
    rw [e 19 (by decide)]; exact this
  · have := W.2.2.2
    unfold mL at this ⊢
    rw [e 22 (by decide)]; exact this
theorem mS_g {j : Nat} {x : Int} {P' : cr_P} (S : mS V A np Ps) (hp : p < np) (hj : j = 10 ∨ j = 11) (ok : cr_ok P') (e1 : cr_kd P' = cr_kd (Ps p)) (e2 : cr_rw P' = cr_rw (Ps p)) (e3 : cr_cl P' = cr_cl (Ps p)) (e4 : cr_ln P' = cr_ln (Ps p)) (e5 : cr_mk P' = cr_mk (Ps p)) (g10 : au A j p x 10 p = cr_gp P') (g11 : au A j p x 11 p = cr_rg P') : mS V (au A j p x) np (va_up Ps p P') := by
  have hK : mK p A (au A j (p : Int) x) := mK.au (by omega)
  refine m_setS S hp ?_ hK
  obtain ⟨g0, g1, g2, g3, g4, g5, g6, g7, g8, g9, -, -⟩ := S.2.2 p hp
  have en : cr_n P' = cr_n (Ps p) := by unfold cr_n; rw [e2, e3]
  have eL : cr_L P' = cr_L (Ps p) := by unfold cr_L; rw [e1, e2, e3]
  have em : cr_m P' = cr_m (Ps p) := by unfold cr_m; rw [eL]
  have ea : cr_a P' = cr_a (Ps p) := by funext c; unfold cr_a; rw [eL]
  have eb : cr_b P' = cr_b (Ps p) := by funext c; unfold cr_b; rw [eL]
  refine ⟨ok, ?_, ?_, ?_, ?_, ?_, ?_, ?_, ?_, ?_, g10, g11⟩
  · rw [au_nk (by omega), e1]; exact g1
  · rw [au_nk (by omega), en]; exact g2
  · rw [au_nk (by omega), e2]; exact g3
  · rw [au_nk (by omega), e3]; exact g4
  · rw [au_nk (by omega), em]; exact g5
  · rw [au_nk (by omega), e4]; exact g6
  · rw [au_nk (by omega), em, ea]; exact g7
  · rw [au_nk (by omega), em, eb]; exact g8
  · rw [au_nk (by omega), em, e5]; exact g9
theorem m_fold {z t : Int} (M : MR h m np Ps td cl st) (hz : iB z) (ht : iB t) (hq : ∀ h', MR h' m np (s_foldS np Ps z t) td cl st → Fr m (m + 23) h h' → Q (iI (s_fold np Ps z t)) h') : F_X5_fold m (iI z) (iI t) h Q := by
  obtain ⟨O, V, A, R, W⟩ := id M
  have S := W.1
  unfold F_X5_fold
  unfold s_fold s_foldS at hq
  refine rg_o R (m_has R S.1 S.2.1 hz ?_)
  change pq_br (iI (bI (vN np z)) = 0) _ _
  cases c : vN np z with
  | false => exact br_tt rfl (by rw [c] at hq; exact hq h M Fr.rf)
  | true =>
    obtain ⟨p, hp, rfl⟩ := vN_t c
    rw [c] at hq
    simp only [if_true, Int.toNat_natCast] at hq
    have h30 := S.2.1
    have H := S.2.2 p hp
    have hkd := H.1.1.1
    have g10 := H.2.2.2.2.2.2.2.2.2.2.1
    have g11 := H.2.2.2.2.2.2.2.2.2.2.2
    obtain ⟨b1, b2, b3, b4⟩ := H.1.gB
    refine br_ff (by decide) (rg_gA R rfl (rg_aI R (by decide) (by decide) rfl (by decide) ⟨by omega, by simp only [lM]; omega⟩ ?_))
    rw [H.2.1]
    refine br_eq (b := 1) (by omega) (by omega) (fun k1 => ?_) (fun k1 => ?_)
    · rw [if_pos (show cr_kd (Ps p) = 1 by omega), if_pos (show cr_kd (Ps p) = 1 by omega)] at hq
      exact hq h M Fr.rf
    · rw [if_neg (show ¬ cr_kd (Ps p) = 1 by omega), if_neg (show ¬ cr_kd (Ps p) = 1 by omega)] at hq
      refine rg_gA R rfl (rg_aI R (by decide) (by decide) rfl (by decide) ⟨by omega, by simp only [lM]; omega⟩ ?_)
      refine rg_gA R rfl (rg_aI R (by decide) (by decide) rfl (by decide) ⟨by omega, by simp only [lM]; omega⟩ ?_)
      rw [g10, g11]
      refine rg_o R (m_done R H (by omega) (by omega) (by omega) ht ?_)
      have hd := s_done_lt H.1 (cr_gp (Ps p)) (cr_rg (Ps p)) t
      have ok := foldP_ok H.1 t
      unfold B_X5_fold_54 B_X5_fold_84
      refine br_by (fun q => ?_) (fun q => ?_)
      · have er : isRow t = false := decide_eq_false (not_not_intro ((iI_b1 t).mp q))
        refine br_tt rfl (rg_gA R rfl (rg_aI R (by decide) (by decide) rfl (by decide) ⟨by omega, by simp only [lM]; omega⟩ ?_))
        rw [g10, iI_or]
        refine rg_sI R (by decide) (by decide) rfl (by decide) ⟨by omega, by simp only [lM]; omega⟩ fun h1 R1 f1 => ?_
        have eP : foldP (Ps p) t = withG (Ps p) (cr_gp (Ps p) ||| s_done (Ps p) (cr_gp (Ps p)) (cr_rg (Ps p)) t) (cr_rg (Ps p)) := by unfold foldP; rw [er]; rfl
        rw [eP] at hq ok
        rw [er] at hq
        have S1 := mS_g (j := 10) (x := ((cr_gp (Ps p) ||| s_done (Ps p) (cr_gp (Ps p)) (cr_rg (Ps p)) t : Nat) : Int)) S hp (Or.inl rfl) ok rfl rfl rfl rfl rfl au_at (by rw [au_nk (by decide)]; exact g11)
        have M1 := MR.pap O W R1 S1 (fun j hj => au_nk (by omega)) rfl
        have H1 := S1.2.2 p hp
        rw [va_up_self] at H1
        refine rg_o R1 (m_creasesIn (b := false) R1 H1 (by omega) hd.2 ?_)
        exact hq h1 M1 f1
      · have er : isRow t = true := decide_eq_true (mt (iI_b1 t).mpr q)
        refine br_ff (by decide) (rg_gA R rfl (rg_aI R (by decide) (by decide) rfl (by decide) ⟨by omega, by simp only [lM]; omega⟩ ?_))
        rw [g11, iI_or]
        refine rg_sI R (by decide) (by decide) rfl (by decide) ⟨by omega, by simp only [lM]; omega⟩ fun h1 R1 f1 => ?_
        have eP : foldP (Ps p) t = withG (Ps p) (cr_gp (Ps p)) (cr_rg (Ps p) ||| s_done (Ps p) (cr_gp (Ps p)) (cr_rg (Ps p)) t) := by unfold foldP; rw [er]; rfl
        rw [eP] at hq ok
        rw [er] at hq
        have S1 := mS_g (j := 11) (x := ((cr_rg (Ps p) ||| s_done (Ps p) (cr_gp (Ps p)) (cr_rg (Ps p)) t : Nat) : Int)) S hp (Or.inr rfl) ok rfl rfl rfl rfl rfl (by rw [au_nk (by decide)]; exact g10) au_at
        have M1 := MR.pap O W R1 S1 (fun j hj => au_nk (by omega)) rfl
        have H1 := S1.2.2 p hp
        rw [va_up_self] at H1
        refine rg_o R1 (m_creasesIn (b := true) R1 H1 (by omega) hd.2 ?_)
        exact hq h1 M1 f1
theorem m_flatten {z : Int} (M : MR h m np Ps td cl st) (hz : iB z) (hq : ∀ h', MR h' m np (s_flattenS np Ps z) td cl st → Fr m (m + 23) h h' → Q (iI (s_flatten np Ps z)) h') : F_X5_flatten m (iI z) h Q := by
  obtain ⟨O, V, A, R, W⟩ := id M
  have S := W.1
  unfold F_X5_flatten
  unfold s_flatten s_flattenS at hq
  refine rg_o R (m_has R S.1 S.2.1 hz ?_)
  change pq_br (iI (bI (vN np z)) = 0) _ _
  cases c : vN np z with
  | false => exact br_tt rfl (by rw [c] at hq; exact hq h M Fr.rf)
  | true =>
    obtain ⟨p, hp, rfl⟩ := vN_t c
    rw [c] at hq
    simp only [if_true, Int.toNat_natCast] at hq
    have h30 := S.2.1
    have H := S.2.2 p hp
    have hkd := H.1.1.1
    have g10 := H.2.2.2.2.2.2.2.2.2.2.1
    have g11 := H.2.2.2.2.2.2.2.2.2.2.2
    obtain ⟨b1, b2, b3, b4⟩ := H.1.gB
    refine br_ff (by decide) (rg_gA R rfl (rg_aI R (by decide) (by decide) rfl (by decide) ⟨by omega, by simp only [lM]; omega⟩ ?_))
    rw [H.2.1]
    refine br_eq (b := 1) (by omega) (by omega) (fun k1 => ?_) (fun k1 => ?_)
    · rw [if_pos (show cr_kd (Ps p) = 1 by omega), if_pos (show cr_kd (Ps p) = 1 by omega)] at hq
      exact hq h M Fr.rf
    · rw [if_neg (show ¬ cr_kd (Ps p) = 1 by omega), if_neg (show ¬ cr_kd (Ps p) = 1 by omega)] at hq
      refine rg_gA R rfl (rg_aI R (by decide) (by decide) rfl (by decide) ⟨by omega, by simp only [lM]; omega⟩ ?_)
      rw [g10]
      refine rg_o R (m_creasesIn (b := false) R H (by omega) b1 ?_)
      refine rg_gA R rfl (rg_aI R (by decide) (by decide) rfl (by decide) ⟨by omega, by simp only [lM]; omega⟩ ?_)
      rw [g11]
      refine rg_o R (m_creasesIn (b := true) R H (by omega) b2 ?_)
      refine rg_gA R rfl (rg_sI (z := 0) R (by decide) (by decide) rfl (by decide) ⟨by omega, by simp only [lM]; omega⟩ fun h1 R1 f1 => ?_)
      have S1 := mS_g (j := 10) (x := 0) (P' := withG (Ps p) 0 (cr_rg (Ps p))) S hp (Or.inl rfl) (withG_ok H.1 (Nat.two_pow_pos _) b4) rfl rfl rfl rfl rfl au_at (by rw [au_nk (by decide)]; exact g11)
      refine rg_gA R1 rfl (rg_sI (z := 0) R1 (by decide) (by decide) rfl (by decide) ⟨by omega, by simp only [lM]; omega⟩ fun h2 R2 f2 => ?_)
      have S2 := mS_g (j := 11) (x := 0) (P' := withG (Ps p) 0 0) S1 hp (Or.inr rfl) (withG_ok H.1 (Nat.two_pow_pos _) (Nat.two_pow_pos _)) (by rw [va_up_self]; rfl) (by rw [va_up_self]; rfl) (by rw [va_up_self]; rfl) (by rw [va_up_self]; rfl) (by rw [va_up_self]; rfl) (by rw [au_nk (by decide)]; exact au_at) au_at
      rw [va_up2] at S2
      have M2 := MR.pap O W R2 S2 (fun j hj => (au_nk (by omega)).trans (au_nk (by omega))) rfl
      rw [iI_add]
      exact hq h2 M2 (f1.tr f2)
theorem m_lies {z f w : Int} (M : MR h m np Ps td cl st) (hz : iB z) (hf : iB f) (hw : iB w) (hq : Q (iI (s_lies np Ps z f w)) h) : F_X5_lies m (iI z) (iI f) (iI w) h Q := by
  obtain ⟨O, V, A, R, W⟩ := id M
  have S := W.1
  unfold F_X5_lies B_X5_lies_21
  unfold s_lies at hq
  refine rg_o R (m_hasFace R S hz hf ?_)
  cases c : vF np Ps z f with
  | false => rw [c] at hq; exact br_tt rfl hq
  | true =>
    obtain ⟨p, g, hp, hg, rfl, rfl⟩ := vF_t c
    rw [c] at hq
    simp only [if_true, Int.toNat_natCast] at hq
    have h30 := S.2.1
    have H := S.2.2 p hp
    have hkd := H.1.1.1
    have hn := H.1.n9
    have c1 := H.1.1.2.2.1
    obtain ⟨hr9, hc9⟩ := cr_small H.1.1
    have g10 := H.2.2.2.2.2.2.2.2.2.2.1
    have g11 := H.2.2.2.2.2.2.2.2.2.2.2
    obtain ⟨b1, b2, b3, b4⟩ := H.1.gB
    have hne : ¬ iI (cr_cl (Ps p) : Int) = 0 := by rw [iI_nat, nu_z (by omega)]; omega
    have hlt : g / cr_cl (Ps p) ≤ g := Nat.div_le_self _ _
    have hmo : g % cr_cl (Ps p) ≤ g := Nat.mod_le _ _
    have em : iI (g : Int) - iI (g : Int) / iI (cr_cl (Ps p) : Int) * iI (cr_cl (Ps p) : Int) = iI ((g % cr_cl (Ps p) : Nat) : Int) := m_rem (by omega) (by omega) (by omega)
    have ed : iI (g : Int) / iI (cr_cl (Ps p) : Int) = iI ((g / cr_cl (Ps p) : Nat) : Int) := m_div (by omega) (by omega) (by omega)
    refine br_ff (by decide) ?_
    refine br_lt (b := 0) hw (by omega) (fun q => ?_) (fun q => ?_)
    · rw [if_pos (by omega)] at hq; exact hq
    refine br_le (b := 3) hw (by omega) (fun q2 => ?_) (fun q2 => ?_)
    · rw [if_neg (by omega)] at hq
      refine rg_gA R rfl (rg_aI R (by decide) (by decide) rfl (by decide) ⟨by omega, by simp only [lM]; omega⟩ ?_)
      rw [H.2.1]
      refine br_eq (b := 1) (by omega) (by omega) (fun k1 => ?_) (fun k1 => ?_)
      · rw [if_pos (by omega)] at hq; exact hq
      · rw [if_neg (by omega)] at hq
        unfold cr_lies at hq
        refine rg_gA R rfl (rg_aI R (by decide) (by decide) rfl (by decide) ⟨by omega, by simp only [lM]; omega⟩ ?_)
        rw [H.2.2.2.2.1]
        refine ⟨hne, rg_gA R rfl (rg_aI R (by decide) (by decide) rfl (by decide) ⟨by omega, by simp only [lM]; omega⟩ ?_)⟩
        rw [H.2.2.2.2.1]
        refine ⟨hne, ?_⟩
        rw [em, ed]
        have strip : cr_kd (Ps p) ≠ 2 → g / cr_cl (Ps p) = 0 := fun k2 => by
          have hr1 : cr_rw (Ps p) = 1 := H.1.1.2.2.2.2.1 (by omega)
          have hn1 : cr_n (Ps p) = cr_cl (Ps p) := by unfold cr_n; rw [hr1, Nat.one_mul]
          exact Nat.div_eq_of_lt (by omega)
        refine br_eq (b := 0) hw (by omega) (fun w0 => ?_) (fun w0 => ?_)
        · rw [if_pos w0] at hq
          refine rg_gA R rfl (rg_aI R (by decide) (by decide) rfl (by decide) ⟨by omega, by simp only [lM]; omega⟩ ?_)
          rw [g10]
          exact rg_o R (m_liesAt R H (by omega) (by omega) (by omega) hq)
        rw [if_neg w0] at hq
        refine br_eq (b := 1) hw (by omega) (fun w0 => ?_) (fun w1 => ?_)
        · rw [if_pos w0] at hq
          refine rg_gA R rfl (rg_aI R (by decide) (by decide) rfl (by decide) ⟨by omega, by simp only [lM]; omega⟩ ?_)
          rw [g10]
          refine m_goesUp (by omega) (by omega) ?_
          unfold B_X5_lies_99
          cases e : gU (cr_gp (Ps p)) (g % cr_cl (Ps p)) with
          | false => rw [e] at hq; exact br_tt rfl hq
          | true => rw [e] at hq; exact br_ff (by decide) hq
        rw [if_neg w1] at hq
        refine br_eq (b := 2) hw (by omega) (fun w0 => ?_) (fun w2 => ?_)
        · rw [if_pos w0] at hq
          refine rg_gA R rfl (rg_aI R (by decide) (by decide) rfl (by decide) ⟨by omega, by simp only [lM]; omega⟩ ?_)
          rw [g10]
          refine m_goesUp (by omega) (by omega) ?_
          refine rg_gA R rfl (rg_aI R (by decide) (by decide) rfl (by decide) ⟨by omega, by simp only [lM]; omega⟩ ?_)
          rw [H.2.1]
          unfold B_X5_lies_140 B_X5_lies_145 B_X5_lies_153
          unfold upIn at hq
          refine br_eq (b := 2) (by omega) (by omega) (fun k2 => ?_) (fun k2 => ?_)
          · refine rg_gA R rfl (rg_aI R (by decide) (by decide) rfl (by decide) ⟨by omega, by simp only [lM]; omega⟩ ?_)
            rw [g11]
            refine m_goesUp (by omega) (by omega) ?_
            cases e1 : gU (cr_rg (Ps p)) (g / cr_cl (Ps p)) <;> cases e2 : gU (cr_gp (Ps p)) (g % cr_cl (Ps p)) <;> rw [e1, e2] at hq
            · exact br_tt rfl (br_tt rfl hq)
            · exact br_tt rfl (br_ff (by decide) hq)
            · exact br_ff (by decide) (br_ff (by decide) hq)
            · exact br_ff (by decide) (br_tt rfl hq)
          · rw [strip (by omega), gU] at hq
            cases e2 : gU (cr_gp (Ps p)) (g % cr_cl (Ps p)) <;> rw [e2] at hq
            · exact br_ff (by decide) hq
            · exact br_tt rfl hq
        rw [if_neg w2] at hq
        refine rg_gA R rfl (rg_aI R (by decide) (by decide) rfl (by decide) ⟨by omega, by simp only [lM]; omega⟩ ?_)
        rw [H.2.1]
        unfold B_X5_lies_181
        refine br_eq (b := 2) (by omega) (by omega) (fun k2 => ?_) (fun k2 => ?_)
        · refine rg_gA R rfl (rg_aI R (by decide) (by decide) rfl (by decide) ⟨by omega, by simp only [lM]; omega⟩ ?_)
          rw [g11]
          exact rg_o R (m_liesAt R H (by omega) (by omega) (by omega) hq)
        · rw [strip (by omega), lA] at hq
          exact hq
    · rw [if_pos (by omega)] at hq; exact hq
end MN
