/-! THE REFERENCE: check reads an order -/
abbrev jB (z : Int) : Prop := -9223372036854775808 ≤ z ∧ z < 9223372036854775808
theorem jI_toInt {z : Int} (h : jB z) : (jI z).toInt = z := Int64.toInt_ofInt_of_le (by omega) (by omega)
theorem jI_of64 (x : Int64) : ∃ z : Int, jB z ∧ x = jI z := ⟨x.toInt, ⟨Int64.le_toInt x, Int64.toInt_lt x⟩, (Int64.ofInt_toInt x).symm⟩
theorem jI_inj {a b : Int} (ha : jB a) (hb : jB b) : jI a = jI b ↔ a = b := ⟨fun e => by rw [← jI_toInt ha, ← jI_toInt hb, e], fun e => by rw [e]⟩
theorem jI_lt {a b : Int} (ha : jB a) (hb : jB b) : jI a < jI b ↔ a < b := by rw [Int64.lt_iff_toInt_lt, jI_toInt ha, jI_toInt hb]
theorem j_div {v : Nat} (hv : jB v) : jI (v : Int) / (10 : Int64) = jI ((v / 10 : Nat) : Int) := by
  have e : (10 : Int64) = jI 10 := rfl
  have h1 : (jI (v : Int) / (10 : Int64)).toInt = ((v / 10 : Nat) : Int) := by
    rw [Int64.toInt_div_of_ne_right _ _ (by decide), jI_toInt hv]
    show (v : Int).tdiv 10 = _
    rw [Int.tdiv_eq_ediv_of_nonneg (by omega)]
    omega
  rw [← Int64.ofInt_toInt (jI (v : Int) / (10 : Int64)), h1]
  rfl
theorem j_mod {v : Nat} (hv : jB v) : jI (v : Int) - jI (v : Int) / (10 : Int64) * (10 : Int64) = jI ((v % 10 : Nat) : Int) := by
  rw [j_div hv, show (10 : Int64) = jI 10 from rfl, jI_mul]
  show jI _ - jI _ = _
  rw [jI, jI, ← Int64.ofInt_sub, jI]
  congr 1
  omega
theorem j_i {v : Nat} (hv : v < 1000) : Int64.toInt32 (jI (v : Int)) = iI (v : Int) := by
  show Int64.toInt32 (Int64.ofInt _) = Int32.ofInt _
  exact Int64.toInt32_ofInt
theorem lg_z {z : Int} (hz : jB z) : (lg_cmp (jI z) (0 : Int64) = 0) ↔ z = 0 := by
  have h2 := jI_lt (a := 0) (b := z) (by omega) hz
  have h3 := jI_inj hz (b := 0) (by omega)
  show (if jI 0 < jI z then (1 : Int32) else if jI z = jI 0 then 0 else -1) = 0 ↔ z = 0
  by_cases c1 : 0 < z
  · rw [if_pos (h2.mpr c1)]; exact ⟨fun e => absurd e (by decide), fun e => by omega⟩
  · rw [if_neg (mt h2.mp c1)]
    by_cases c2 : z = 0
    · rw [if_pos (h3.mpr c2)]; exact ⟨fun _ => c2, fun _ => rfl⟩
    · rw [if_neg (mt h3.mp c2)]; exact ⟨fun e => absurd e (by decide), fun e => absurd e c2⟩
theorem lg_n {z : Int} (hz : jB z) : (lg_cmp (jI z) (0 : Int64) < 0) ↔ z < 0 := by
  have h2 := jI_lt (a := 0) (b := z) (by omega) hz
  have h3 := jI_inj hz (b := 0) (by omega)
  show (if jI 0 < jI z then (1 : Int32) else if jI z = jI 0 then 0 else -1) < 0 ↔ z < 0
  by_cases c1 : 0 < z
  · rw [if_pos (h2.mpr c1)]; exact ⟨fun e => absurd e (by decide), fun e => by omega⟩
  · rw [if_neg (mt h2.mp c1)]
    by_cases c2 : z = 0
    · rw [if_pos (h3.mpr c2)]; exact ⟨fun e => absurd e (by decide), fun e => by omega⟩
    · rw [if_neg (mt h3.mp c2)]; exact ⟨fun _ => by omega, fun _ => by decide⟩
section MH
variable {h : pz_H} {m np p : Nat} {V : Nat → Int} {A : Nat → Int → Int} {Ps : Nat → cr_P} {P : cr_P} {td : Option (Nat × List Nat)} {cl : List Nat} {st : List Int} {Q : Int32 → pz_H → Prop}
theorem m_check_loop (hp : p < 30) (hv : V 12 = p) : ∀ (k u v : Nat) (l : List Nat) (h : pz_H) (A : Nat → Int → Int), l.length + k = cr_n P → k < u → jB v → rM h m V A → mP A p P → mPl A P → (∀ f : Nat, f < 9 → A 13 f = ps l f) → l.Nodup → (∀ f ∈ l, f < cr_n P) →
    (rd (cr_n P) k v l = none → ∀ h' A', rM h' m V A' → bE V A V A' → Fr m (m + 23) h h' → Q (iI (-102)) h') →
    (∀ l', rd (cr_n P) k v l = some l' → ∀ h' A', rM h' m V A' → bE V A V A' → Fr m (m + 23) h h' → Q (iI (cr_chk P (ps l'))) h') → L_X5_check_22 m (iI p) Q u (jI v) (iI l.length) h := by
  intro k
  induction k with
  | zero =>
    intro u v l h A hl hu hv64 R H hpl g13 hnd hlt h1 h2
    have hn := H.1.n9
    have hkd := H.1.1.1
    obtain ⟨u, rfl⟩ : ∃ v, u = v + 1 := ⟨u - 1, by omega⟩
    unfold L_X5_check_22 B_X5_check_137 B_X5_check_140
    rw [rd] at h1 h2
    simp (disch := omega) only [mE R, H.2.2.1, H.2.1, ebr_le, ebr_eq, lits, iI_add, iI_sub, iI_mul, iI_neg]
    rw [if_pos (by omega)]
    refine br_by (fun c1 => ?_) (fun c1 => ?_)
    · have c1 := (lg_z hv64).mp c1
      rw [if_pos (by omega)] at h2
      have hq := h2 l rfl
      have hh : ∀ f : Nat, f < cr_n P → A 13 (f : Int) = ps l f ∧ iB (ps l f) := fun f hf => by
        have := ps_B (l := l) (f := f)
        exact ⟨g13 f (by omega), by omega⟩
      have un : cr_un P = true → Q (40000 : Int32) h := fun hu => by
        have := hq h A R bE.rf Fr.rf
        unfold cr_chk at this
        rw [if_pos hu] at this
        exact this
      have ev : cr_un P = false → pq_ex (fun m143 => L_X5_check_143 m (iI p) Q m143 (iI 0) h) := fun hu => by
        refine ⟨20, m_checkM (HH := ps l) R H hp hv hpl hh (cr_m P) 20 0 (by omega) (by have := H.1.m12; omega) ?_⟩
        have := hq h A R bE.rf Fr.rf
        unfold cr_chk at this
        rw [hu] at this
        exact this
      by_cases c2 : cr_kd P = 1
      · rw [if_pos (by omega)]
        refine ⟨by decide, ?_⟩
        have e2 : iI (cr_n P : Int) - iI (cr_n P : Int) / iI 2 * iI 2 = iI ((cr_n P % 2 : Nat) : Int) := m_rem2 (by omega)
        rw [e2, ebr_eq (by omega) (by omega)]
        by_cases c3 : cr_n P % 2 = 1
        · rw [if_pos (by omega)]
          exact un (by unfold cr_un; rw [decide_eq_true c2, decide_eq_true c3]; rfl)
        · rw [if_neg (by omega)]
          refine m_uneven R H (by omega) ?_
          have := H.1.eB (f := cr_n P) (by omega)
          rw [ebr_eq (by omega) (by omega)]
          by_cases c4 : cr_e (cr_ln P) (cr_n P) = 0
          · rw [if_pos c4]
            exact ev (by unfold cr_un; rw [decide_eq_false c3, decide_eq_false (not_not_intro c4)]; simp)
          · rw [if_neg c4]
            exact un (by unfold cr_un; rw [decide_eq_true c2, decide_eq_true c4]; simp)
      · rw [if_neg (by omega)]
        exact ev (by unfold cr_un; rw [decide_eq_false c2]; rfl)
    · have c1 : ¬ (v : Int) = 0 := mt (lg_z hv64).mpr c1
      rw [if_neg (by omega)] at h1
      exact h1 rfl h A R bE.rf Fr.rf
  | succ k ih =>
    intro u v l h A hl hu hv64 R H hpl g13 hnd hlt h1 h2
    have hn := H.1.n9
    obtain ⟨u, rfl⟩ : ∃ v, u = v + 1 := ⟨u - 1, by omega⟩
    unfold L_X5_check_22 B_X5_check_71
    rw [rd] at h1 h2
    rw [j_mod hv64, j_i (by omega), j_div hv64]
    simp (disch := omega) only [mE R, H.2.2.1, ebr_le, ebr_eq, lits, iI_add, iI_sub, iI_mul, iI_neg]
    rw [if_neg (by omega)]
    refine ⟨by decide, br_ff (fun c => by have := (lg_n hv64).mp c; omega) ?_⟩
    by_cases c1 : v % 10 < cr_n P
    · rw [if_neg (by omega)]
      have g := g13 (v % 10) (by omega)
      have gB := ps_B (l := l) (f := v % 10)
      simp (disch := omega) only [mE R, g, ebr_eq, lits, iI_add, iI_sub, iI_mul, iI_neg]
      by_cases c2 : v % 10 ∈ l
      · have := ps_in c2
        rw [if_neg (by omega)]
        rw [if_neg (fun z => z.2 c2)] at h1
        exact h1 rfl h A R bE.rf Fr.rf
      · rw [ps_not c2, if_pos rfl]
        rw [if_pos ⟨c1, c2⟩] at h1 h2
        refine rg_sI R (by decide) (by decide) rfl (by decide) ⟨by omega, by simp only [lM]; omega⟩ fun h3 R3 f3 => ⟨by decide, ?_⟩
        have b3 : bE V A V (au A 13 ((v % 10 : Nat) : Int) (l.length : Int)) := bE.au (Or.inr (Or.inl rfl))
        have e : iI ((l.length : Int) + 1) = iI ((l ++ [v % 10]).length : Int) := by simp
        rw [e]
        refine ih u (v / 10) (l ++ [v % 10]) h3 _ (by simp; omega) (by omega) (by omega) R3 (H.be b3) (fun c hc => by rw [au_nk (by decide)]; exact hpl c hc) (fun f hf => ?_) ?_ (fun f hf => ?_) (fun e h' A' a1 a2 a3 => h1 e h' A' a1 (b3.tr a2) (f3.tr a3)) (fun l' e h' A' a1 a2 a3 => h2 l' e h' A' a1 (b3.tr a2) (f3.tr a3))
        · by_cases e : f = v % 10
          · rw [e, au_at, ps_new c2]
          · rw [au_ne (by omega), g13 f hf, ps_old e]
        · exact List.nodup_append.mpr ⟨hnd, by simp, fun a ha b hb => by simp at hb; subst hb; intro e; subst e; exact c2 ha⟩
        · rcases List.mem_append.mp hf with hf | hf
          · exact hlt f hf
          · simp at hf; omega
    · rw [if_pos (by omega)]
      rw [if_neg (fun z => c1 z.1)] at h1
      exact h1 rfl h A R bE.rf Fr.rf
theorem m_checkS {z v : Int} (R : rM h m V A) (S : mS V A np Ps) (hz : iB z) (hv : jB v) (hq : ∀ h' V' A', rM h' m V' A' → bE V A V' A' → Fr m (m + 23) h h' → Q (iI (s_check np Ps z v)) h') : F_X5_check m (iI z) (jI v) h Q := by
  unfold F_X5_check
  unfold s_check at hq
  refine rg_o R (m_has R S.1 S.2.1 hz ?_)
  change pq_br (iI (bI (vN np z)) = 0) _ _
  cases c : vN np z with
  | false => exact br_tt rfl (by have := hq h V A R bE.rf Fr.rf; rw [c] at this; exact this)
  | true =>
    obtain ⟨p, hp, rfl⟩ := vN_t c
    rw [c] at hq
    simp only [if_true, Int.toNat_natCast] at hq
    have h30 := S.2.1
    refine br_ff (by decide) (rg_o R (m_begin R S hp fun h1 V1 A1 N1 e13 b1 f1 => ?_))
    obtain ⟨R1, S1, -, hv1, h15, hpl, g13, g12, hnd, hlt, hle⟩ := id N1
    have H1 := S1.2.2 p hp
    have hn := H1.1.n9
    unfold s_read at hq
    by_cases c1 : v < 0
    · rw [if_pos c1] at hq
      refine ⟨1, ?_⟩
      unfold L_X5_check_22 B_X5_check_71
      simp (disch := omega) only [mE R1, H1.2.2.1, ebr_le, lits, iI_add, iI_sub, iI_mul, iI_neg]
      rw [if_neg (by omega)]
      exact ⟨by decide, br_tt ((lg_n hv).mpr c1) (hq h1 V1 A1 R1 b1 f1)⟩
    · rw [if_neg c1] at hq
      obtain ⟨v, rfl⟩ : ∃ n : Nat, v = n := ⟨v.toNat, by omega⟩
      rw [Int.toNat_natCast] at hq
      refine ⟨cr_n (Ps p) + 1, m_check_loop (by omega) hv1 (cr_n (Ps p)) _ v [] h1 A1 (by simp) (by omega) hv R1 H1 hpl g13 (by simp) (by simp) (fun e h2 A2 a1 a2 a3 => ?_) (fun l e h2 A2 a1 a2 a3 => ?_)⟩
      · rw [e] at hq
        exact hq h2 _ A2 a1 (b1.tr a2) (f1.tr a3)
      · rw [e] at hq
        exact hq h2 _ A2 a1 (b1.tr a2) (f1.tr a3)
theorem m_check {z v : Int} (M : MR h m np Ps td cl st) (hz : iB z) (hv : jB v) (hq : ∀ h', MR h' m np Ps td cl st → Fr m (m + 23) h h' → Q (iI (s_check np Ps z v)) h') : F_X5_check m (iI z) (jI v) h Q := by
  obtain ⟨O, V, A, R, W⟩ := id M
  exact m_checkS R W.1 hz hv (fun h' V' A' a1 a2 a3 => hq h' (MR.of O W a1 a2.xe) a3)
end MH
