/-! THE REFERENCE: length, mark, about, crease, and what they ask -/
def setLn (P : cr_P) (g v : Nat) : cr_P := (cr_kd P, cr_rw P, cr_cl P, va_up (cr_ln P) g v, cr_mk P, cr_gp P, cr_rg P)
def setMk (P : cr_P) (g v : Nat) : cr_P := (cr_kd P, cr_rw P, cr_cl P, cr_ln P, va_up (cr_mk P) g v, cr_gp P, cr_rg P)
theorem setLn_ok {P : cr_P} {g v : Nat} (H : cr_ok P) (h1 : 1 ≤ v) (h2 : v ≤ 1000) (hk : cr_kd P ≠ 2) : cr_ok (setLn P g v) := by
  obtain ⟨a1, a2, a3, a4, a5, a6⟩ := H
  refine ⟨a1, fun f => ?_, a3, a4, a5, fun z => absurd z hk⟩
  show 1 ≤ va_up (cr_ln P) g v f ∧ va_up (cr_ln P) g v f ≤ 1000
  by_cases e : f = g
  · subst e; rw [va_up_self]; exact ⟨h1, h2⟩
  · rw [va_up_ne _ _ e]; exact a2 f
theorem setMk_ok {P : cr_P} {g v : Nat} (H : cr_ok P) (h2 : v ≤ 2) : cr_ok (setMk P g v) := by
  obtain ⟨a1, a2, a3, a4, a5, a6⟩ := H
  refine ⟨a1, a2, fun f => ?_, a4, a5, a6⟩
  show va_up (cr_mk P) g v f ≤ 2
  by_cases e : f = g
  · subst e; rw [va_up_self]; exact h2
  · rw [va_up_ne _ _ e]; exact a3 f
theorem m_rem2 {a : Nat} (ha : a < 1000) : iI (a : Int) - iI (a : Int) / (2 : Int32) * (2 : Int32) = iI ((a % 2 : Nat) : Int) := m_rem ha (n := 2) (by decide) (by decide)
theorem m_div {a n : Nat} (ha : a < 1000) (hn : 0 < n) (hn2 : n < 1000) : iI (a : Int) / iI (n : Int) = iI ((a / n : Nat) : Int) := by
  rw [iI_nat, iI_nat, iI_nat]
  exact pk_div (by omega) hn (by omega)
theorem tab_of {z lo hi : Int} {D : Prop} {Cs : List Prop} (hz : iB z) (hD : z < lo ∨ hi < z → D) (hC : ∀ k : Nat, z = lo + k → lo + k ≤ hi → Cs.getD k True) : pq_tab (iI z) lo hi D Cs := by
  unfold pq_tab
  rw [iI_toInt hz.1 hz.2]
  exact ⟨hD, hC⟩
def cr_cnt (mk : Nat → Nat) (x : Nat) : Nat → Nat
  | 0 => 0
  | c + 1 => cr_cnt mk x c + (if mk c = x then 1 else 0)
theorem cr_cnt_le (mk : Nat → Nat) (x : Nat) : ∀ c, cr_cnt mk x c ≤ c
  | 0 => Nat.le_refl _
  | c + 1 => by
    have := cr_cnt_le mk x c
    unfold cr_cnt
    split <;> omega
def cr_about (P : cr_P) (w : Int) : Int := if w = 0 then cr_kd P else if w = 1 then cr_n P else if w = 2 then cr_m P else if w = 3 then cr_cnt (cr_mk P) 1 (cr_m P) else if w = 4 then cr_cnt (cr_mk P) 2 (cr_m P) else if w = 5 then (if cr_kd P = 1 then cr_e (cr_ln P) (cr_n P) else 0) else -102
def cr_crease (P : cr_P) (c : Nat) (w : Int) : Int := if w = 0 then cr_a P c else if w = 1 then cr_b P c else if w = 2 then cr_mk P c else if w = 3 then cr_pl P c else -102
def cr_t2 (k r c : Nat) : Bool := (List.range (cr_cs k r c).length).all (fun d => !(decide (d < r * (c - 1))) || decide (((cr_cs k r c).getD d (0, 0)).2 = ((cr_cs k r c).getD d (0, 0)).1 + 1))
theorem cr_t2_all : ∀ k, k < 3 → ∀ r, r < 10 → ∀ c, c < 10 → (!cr_shb k r c || cr_t2 k r c) = true := by decide +kernel
theorem cr_ok.hb {P : cr_P} (H : cr_ok P) {d : Nat} (hd : d < cr_m P) (h2 : d < cr_rw P * (cr_cl P - 1)) : cr_b P d = cr_a P d + 1 := by
  obtain ⟨h3, h4⟩ := cr_small H.1
  have := cr_t2_all (cr_kd P) (by have := H.1.1; omega) _ h3 _ h4
  rw [cr_shb_of H.1] at this
  have : cr_t2 (cr_kd P) (cr_rw P) (cr_cl P) = true := by simpa using this
  unfold cr_t2 at this
  have := List.all_eq_true.mp this d (List.mem_range.mpr hd)
  rw [decide_eq_true h2] at this
  have : ((cr_cs (cr_kd P) (cr_rw P) (cr_cl P)).getD d (0, 0)).2 = ((cr_cs (cr_kd P) (cr_rw P) (cr_cl P)).getD d (0, 0)).1 + 1 := by simpa using this
  exact this
section M5
variable {h : pz_H} {m np p : Nat} {V : Nat → Int} {A : Nat → Int → Int} {Ps : Nat → cr_P} {P : cr_P} {Q : Int32 → pz_H → Prop}
theorem m_setS (S : mS V A np Ps) {A' : Nat → Int → Int} {P' : cr_P} (hp : p < np) (H : mP A' p P') (K : mK p A A') : mS V A' np (va_up Ps p P') := ⟨S.1, S.2.1, fun q hq => by
  by_cases e : q = p
  · subst e; rw [va_up_self]; exact H
  · rw [va_up_ne _ _ e]; exact K.1 q _ e (S.2.2 q hq)⟩
theorem m_length {z f v : Int} (R : rM h m V A) (S : mS V A np Ps) (hz : iB z) (hf : iB f) (hv : iB v) (h1 : vF np Ps z f = false → Q (-101) h) (h2 : vF np Ps z f = true → ¬ (1 ≤ v ∧ v ≤ 1000) → Q (-102) h)
    (h3 : ∀ p g : Nat, p < np → g < cr_n (Ps p) → z = p → f = g → 1 ≤ v → v ≤ 1000 → cr_kd (Ps p) = 2 → Q (-103) h)
    (h4 : ∀ p g w : Nat, p < np → g < cr_n (Ps p) → z = p → f = g → v = w → 1 ≤ w → w ≤ 1000 → cr_kd (Ps p) ≠ 2 → ∀ h' A', rM h' m V A' → mS V A' np (va_up Ps p (setLn (Ps p) g w)) → (∀ j, 12 ≤ j → A' j = A j) → Fr m (m + 23) h h' → Q (iI (cr_ln (Ps p) g)) h') : F_X5_length m (iI z) (iI f) (iI v) h Q := by
  unfold F_X5_length B_X5_length_24
  refine rg_o R (m_hasFace R S hz hf ?_)
  refine br_by (fun c => h1 ((bI_z _).mp c)) (fun c => ?_)
  have hvt : vF np Ps z f = true := Bool.not_eq_false _ ▸ (fun e => c ((bI_z _).mpr e))
  refine br_lt (b := 1) hv (by omega) (fun c => h2 hvt (by omega)) (fun c1 => ?_)
  refine br_le (b := 1000) hv (by omega) (fun c2 => ?_) (fun c => h2 hvt (by omega))
  obtain ⟨p, g, hp, hg, rfl, rfl⟩ := vF_t hvt
  have H := S.2.2 p hp
  have hn := H.1.n9
  have h30 := S.2.1
  have hkd := H.1.1.1
  refine rg_gA R rfl (rg_aI R (by decide) (by decide) rfl (by decide) ⟨by omega, by simp only [lM]; omega⟩ ?_)
  rw [H.2.1]
  refine br_eq (b := 2) (by omega) (by omega) (fun c => h3 p g hp hg rfl rfl c1 c2 (by omega)) (fun c3 => ?_)
  simp only [iI_lit, iI_mul, iI_add]
  refine rg_gA R rfl (rg_aI R (by decide) (by decide) rfl (by decide) ⟨by omega, by simp only [lM]; omega⟩ ?_)
  refine rg_gA R rfl (rg_sI R (by decide) (by decide) rfl (by decide) ⟨by omega, by simp only [lM]; omega⟩ fun h' R' f' => ?_)
  obtain ⟨w, rfl⟩ : ∃ w : Nat, v = w := ⟨v.toNat, by omega⟩
  have e6 : A 6 (OfNat.ofNat 9 * (p : Int) + (g : Int)) = cr_ln (Ps p) g := H.2.2.2.2.2.2.1 g (by omega)
  rw [e6]
  have hK : mK p A (au A 6 (9 * (p : Int) + (g : Int)) (w : Int)) := mK.au (by omega)
  refine h4 p g w hp hg rfl rfl rfl (by omega) (by omega) (by omega) h' _ R' (m_setS S hp ?_ hK) (fun j hj => hK.2 j hj) f'
  obtain ⟨g0, g1, g2, g3, g4, g5, g6, g7, g8, g9, g10, g11⟩ := H
  refine ⟨setLn_ok g0 (by omega) (by omega) (by omega), ?_, ?_, ?_, ?_, ?_, fun k hk => ?_, fun k hk => ?_, fun k hk => ?_, fun k hk => ?_, ?_, ?_⟩
  · rw [au_nk (by decide)]; exact g1
  · rw [au_nk (by decide)]; exact g2
  · rw [au_nk (by decide)]; exact g3
  · rw [au_nk (by decide)]; exact g4
  · rw [au_nk (by decide)]; exact g5
  · show _ = ((va_up (cr_ln (Ps p)) g w k : Nat) : Int)
    by_cases e : k = g
    · subst e; rw [va_up_self]; exact au_at
    · rw [va_up_ne _ _ e, ← g6 k hk]
      exact au_ne (by simp; omega)
  · rw [au_nk (by decide)]; exact g7 k hk
  · rw [au_nk (by decide)]; exact g8 k hk
  · rw [au_nk (by decide)]; exact g9 k hk
  · rw [au_nk (by decide)]; exact g10
  · rw [au_nk (by decide)]; exact g11
theorem m_mark {z f v : Int} (R : rM h m V A) (S : mS V A np Ps) (hz : iB z) (hf : iB f) (hv : iB v) (h1 : vC np Ps z f = false → Q (-101) h) (h2 : vC np Ps z f = true → ¬ (0 ≤ v ∧ v ≤ 2) → Q (-102) h)
    (h4 : ∀ p g w : Nat, p < np → g < cr_m (Ps p) → z = p → f = g → v = w → w ≤ 2 → ∀ h' A', rM h' m V A' → mS V A' np (va_up Ps p (setMk (Ps p) g w)) → (∀ j, 12 ≤ j → A' j = A j) → Fr m (m + 23) h h' → Q (iI (cr_mk (Ps p) g)) h') : F_X5_mark m (iI z) (iI f) (iI v) h Q := by
  unfold F_X5_mark B_X5_mark_21
  refine rg_o R (m_hasCrease R S hz hf ?_)
  refine br_by (fun c => h1 ((bI_z _).mp c)) (fun c => ?_)
  have hvt : vC np Ps z f = true := Bool.not_eq_false _ ▸ (fun e => c ((bI_z _).mpr e))
  refine br_lt (b := 0) hv (by omega) (fun c => h2 hvt (by omega)) (fun c1 => ?_)
  refine br_le (b := 2) hv (by omega) (fun c2 => ?_) (fun c => h2 hvt (by omega))
  obtain ⟨p, g, hp, hg, rfl, rfl⟩ := vC_t hvt
  have H := S.2.2 p hp
  have hn := H.1.m12
  have h30 := S.2.1
  simp only [iI_lit, iI_mul, iI_add]
  refine rg_gA R rfl (rg_aI R (by decide) (by decide) rfl (by decide) ⟨by omega, by simp only [lM]; omega⟩ ?_)
  refine rg_gA R rfl (rg_sI R (by decide) (by decide) rfl (by decide) ⟨by omega, by simp only [lM]; omega⟩ fun h' R' f' => ?_)
  obtain ⟨w, rfl⟩ : ∃ w : Nat, v = w := ⟨v.toNat, by omega⟩
  have e6 : A 9 (OfNat.ofNat 12 * (p : Int) + (g : Int)) = cr_mk (Ps p) g := H.2.2.2.2.2.2.2.2.2.1 g hg
  rw [e6]
  have hK : mK p A (au A 9 (12 * (p : Int) + (g : Int)) (w : Int)) := mK.au (by omega)
  refine h4 p g w hp hg rfl rfl rfl (by omega) h' _ R' (m_setS S hp ?_ hK) (fun j hj => hK.2 j hj) f'
  obtain ⟨g0, g1, g2, g3, g4, g5, g6, g7, g8, g9, g10, g11⟩ := H
  refine ⟨setMk_ok g0 (by omega), ?_, ?_, ?_, ?_, ?_, fun k hk => ?_, fun k hk => ?_, fun k hk => ?_, fun k hk => ?_, ?_, ?_⟩
  · rw [au_nk (by decide)]; exact g1
  · rw [au_nk (by decide)]; exact g2
  · rw [au_nk (by decide)]; exact g3
  · rw [au_nk (by decide)]; exact g4
  · rw [au_nk (by decide)]; exact g5
  · rw [au_nk (by decide)]; exact g6 k hk
  · rw [au_nk (by decide)]; exact g7 k hk
  · rw [au_nk (by decide)]; exact g8 k hk
  · show _ = ((va_up (cr_mk (Ps p)) g w k : Nat) : Int)
    by_cases e : k = g
    · subst e; rw [va_up_self]; exact au_at
    · rw [va_up_ne _ _ e, ← g9 k hk]
      exact au_ne (by simp; omega)
  · rw [au_nk (by decide)]; exact g10
  · rw [au_nk (by decide)]; exact g11
theorem m_begins_loop {f : Nat} (R : rM h m V A) (H : mP A p P) (hp : p < 30) (hf : f ≤ 9) (hq : Q (iI (cr_e (cr_ln P) f)) h) : ∀ (d u i : Nat), i + d = f → d < u → L_X5_begins_5 m (iI p) (iI f) Q u (iI (cr_e (cr_ln P) i)) (iI i) h := by
  intro d
  induction d with
  | zero =>
    intro u i hi hu
    obtain ⟨u, rfl⟩ : ∃ v, u = v + 1 := ⟨u - 1, by omega⟩
    unfold L_X5_begins_5
    refine br_le (by omega) (by omega) (fun c => ?_) (fun c => by omega)
    rw [show i = f by omega]
    exact hq
  | succ d ih =>
    intro u i hi hu
    obtain ⟨u, rfl⟩ : ∃ v, u = v + 1 := ⟨u - 1, by omega⟩
    unfold L_X5_begins_5 B_X5_begins_47
    refine br_le (by omega) (by omega) (fun c => by omega) (fun c => ⟨by decide, ?_⟩)
    rw [m_rem2 (by omega)]
    have e6 : A 6 (OfNat.ofNat 9 * (p : Int) + (i : Int)) = cr_ln P i := H.2.2.2.2.2.2.1 i (by omega)
    have e1 : ((i : Int) + OfNat.ofNat 1) = ((i + 1 : Nat) : Int) := by simp
    have e2 : cr_e (cr_ln P) (i + 1) = cr_e (cr_ln P) i + (if i % 2 = 0 then (cr_ln P i : Int) else -(cr_ln P i : Int)) := rfl
    refine br_eq (b := 0) (by omega) (by omega) (fun c1 => ?_) (fun c1 => ?_)
    · refine rg_gA R rfl ?_
      simp only [iI_lit, iI_mul, iI_add]
      refine rg_aI R (by decide) (by decide) rfl (by decide) ⟨by omega, by simp only [lM]; omega⟩ ?_
      rw [e6, iI_add, e1]
      have e3 := ih u (i + 1) (by omega) (by omega)
      rw [e2, if_pos (by omega)] at e3
      exact e3
    · refine rg_gA R rfl ?_
      simp only [iI_lit, iI_mul, iI_add]
      refine rg_aI R (by decide) (by decide) rfl (by decide) ⟨by omega, by simp only [lM]; omega⟩ ?_
      rw [e6, iI_neg, iI_add, e1]
      have e3 := ih u (i + 1) (by omega) (by omega)
      rw [e2, if_neg (by omega)] at e3
      exact e3
theorem m_begins {f : Nat} (R : rM h m V A) (H : mP A p P) (hp : p < 30) (hf : f ≤ 9) (hq : Q (iI (cr_e (cr_ln P) f)) h) : F_X5_begins m (iI p) (iI f) h Q := ⟨20, m_begins_loop R H hp hf hq f 20 0 (by omega) (by omega)⟩
theorem m_uneven_loop (R : rM h m V A) (H : mP A p P) (hp : p < 30) (hq : Q (iI (cr_e (cr_ln P) (cr_n P))) h) : ∀ (d u i : Nat), i + d = cr_n P → d < u → L_X5_uneven_4 m (iI p) Q u (iI (cr_e (cr_ln P) i)) (iI i) h := by
  intro d
  have hn := H.1.n9
  induction d with
  | zero =>
    intro u i hi hu
    obtain ⟨u, rfl⟩ : ∃ v, u = v + 1 := ⟨u - 1, by omega⟩
    unfold L_X5_uneven_4
    refine rg_gA R rfl (rg_aI R (by decide) (by decide) rfl (by decide) ⟨by omega, by simp only [lM]; omega⟩ ?_)
    rw [H.2.2.1]
    refine br_le (by omega) (by omega) (fun c => ?_) (fun c => by omega)
    rw [show i = cr_n P by omega]
    exact hq
  | succ d ih =>
    intro u i hi hu
    obtain ⟨u, rfl⟩ : ∃ v, u = v + 1 := ⟨u - 1, by omega⟩
    unfold L_X5_uneven_4 B_X5_uneven_47
    refine rg_gA R rfl (rg_aI R (by decide) (by decide) rfl (by decide) ⟨by omega, by simp only [lM]; omega⟩ ?_)
    rw [H.2.2.1]
    refine br_le (by omega) (by omega) (fun c => by omega) (fun c => ⟨by decide, ?_⟩)
    rw [m_rem2 (by omega)]
    have e6 : A 6 (OfNat.ofNat 9 * (p : Int) + (i : Int)) = cr_ln P i := H.2.2.2.2.2.2.1 i (by omega)
    have e1 : ((i : Int) + OfNat.ofNat 1) = ((i + 1 : Nat) : Int) := by simp
    have e2 : cr_e (cr_ln P) (i + 1) = cr_e (cr_ln P) i + (if i % 2 = 0 then (cr_ln P i : Int) else -(cr_ln P i : Int)) := rfl
    refine br_eq (b := 0) (by omega) (by omega) (fun c1 => ?_) (fun c1 => ?_)
    · refine rg_gA R rfl ?_
      simp only [iI_lit, iI_mul, iI_add]
      refine rg_aI R (by decide) (by decide) rfl (by decide) ⟨by omega, by simp only [lM]; omega⟩ ?_
      rw [e6, iI_add, e1]
      have e3 := ih u (i + 1) (by omega) (by omega)
      rw [e2, if_pos (by omega)] at e3
      exact e3
    · refine rg_gA R rfl ?_
      simp only [iI_lit, iI_mul, iI_add]
      refine rg_aI R (by decide) (by decide) rfl (by decide) ⟨by omega, by simp only [lM]; omega⟩ ?_
      rw [e6, iI_neg, iI_add, e1]
      have e3 := ih u (i + 1) (by omega) (by omega)
      rw [e2, if_neg (by omega)] at e3
      exact e3
theorem m_uneven (R : rM h m V A) (H : mP A p P) (hp : p < 30) (hq : Q (iI (cr_e (cr_ln P) (cr_n P))) h) : F_X5_uneven m (iI p) h Q := ⟨20, m_uneven_loop R H hp hq (cr_n P) 20 0 (by omega) (by have := H.1.n9; omega)⟩
theorem m_marked_loop {x : Nat} (R : rM h m V A) (H : mP A p P) (hp : p < 30) (hx : x ≤ 2) (hq : Q (iI (cr_cnt (cr_mk P) x (cr_m P))) h) : ∀ (d u i : Nat), i + d = cr_m P → d < u → L_X5_marked_5 m (iI p) (iI x) Q u (iI (cr_cnt (cr_mk P) x i)) (iI i) h := by
  intro d
  have hn := H.1.m12
  induction d with
  | zero =>
    intro u i hi hu
    obtain ⟨u, rfl⟩ : ∃ v, u = v + 1 := ⟨u - 1, by omega⟩
    unfold L_X5_marked_5
    refine rg_gA R rfl (rg_aI R (by decide) (by decide) rfl (by decide) ⟨by omega, by simp only [lM]; omega⟩ ?_)
    rw [H.2.2.2.2.2.1]
    refine br_le (by omega) (by omega) (fun c => ?_) (fun c => by omega)
    rw [show i = cr_m P by omega]
    exact hq
  | succ d ih =>
    intro u i hi hu
    obtain ⟨u, rfl⟩ : ∃ v, u = v + 1 := ⟨u - 1, by omega⟩
    unfold L_X5_marked_5 B_X5_marked_38
    refine rg_gA R rfl (rg_aI R (by decide) (by decide) rfl (by decide) ⟨by omega, by simp only [lM]; omega⟩ ?_)
    rw [H.2.2.2.2.2.1]
    refine br_le (by omega) (by omega) (fun c => by omega) (fun c => ?_)
    have e9 : A 9 (OfNat.ofNat 12 * (p : Int) + (i : Int)) = cr_mk P i := H.2.2.2.2.2.2.2.2.2.1 i (by omega)
    have e1 : ((i : Int) + OfNat.ofNat 1) = ((i + 1 : Nat) : Int) := by simp
    have hm := H.1.2.2.1 i
    simp only [iI_lit, iI_mul, iI_add]
    refine rg_gA R rfl (rg_aI R (by decide) (by decide) rfl (by decide) ⟨by omega, by simp only [lM]; omega⟩ ?_)
    rw [e9, e1]
    have e3 := ih u (i + 1) (by omega) (by omega)
    have e2 : cr_cnt (cr_mk P) x (i + 1) = cr_cnt (cr_mk P) x i + (if cr_mk P i = x then 1 else 0) := rfl
    rw [e2] at e3
    refine br_eq (by omega) (by omega) (fun c1 => ?_) (fun c1 => ?_)
    · rw [if_pos (by omega)] at e3
      exact e3
    · rw [if_neg (by omega)] at e3
      simpa using e3
theorem m_marked {x : Nat} (R : rM h m V A) (H : mP A p P) (hp : p < 30) (hx : x ≤ 2) (hq : Q (iI (cr_cnt (cr_mk P) x (cr_m P))) h) : F_X5_marked m (iI p) (iI x) h Q := ⟨20, m_marked_loop R H hp hx hq (cr_m P) 20 0 (by omega) (by have := H.1.m12; omega)⟩
theorem m_about {z w : Int} (R : rM h m V A) (S : mS V A np Ps) (hz : iB z) (hw : iB w) (h1 : vN np z = false → Q (-101) h) (h2 : ∀ p : Nat, p < np → z = p → Q (iI (cr_about (Ps p) w)) h) : F_X5_about m (iI z) (iI w) h Q := by
  unfold F_X5_about B_X5_about_106
  refine rg_o R (m_has R S.1 S.2.1 hz ?_)
  refine br_by (fun c => h1 ((bI_z _).mp c)) (fun c => ?_)
  have hvt : vN np z = true := Bool.not_eq_false _ ▸ (fun e => c ((bI_z _).mpr e))
  obtain ⟨p, hp, rfl⟩ := vN_t hvt
  have H := S.2.2 p hp
  have h30 := S.2.1
  have hkd := H.1.1.1
  have hq := h2 p hp rfl
  unfold cr_about at hq
  refine tab_of hw (fun c => ?_) (fun k hk hk5 => ?_)
  · rw [if_neg (by omega), if_neg (by omega), if_neg (by omega), if_neg (by omega), if_neg (by omega), if_neg (by omega)] at hq
    exact hq
  match k, hk, hk5 with
  | 0, hk, _ =>
    rw [if_pos (by simpa using hk)] at hq
    refine rg_gA R rfl (rg_aI R (by decide) (by decide) rfl (by decide) ⟨by omega, by simp only [lM]; omega⟩ ?_)
    rw [H.2.1]; exact hq
  | 1, hk, _ =>
    have hk : w = 1 := by simpa using hk
    subst hk
    refine rg_gA R rfl (rg_aI R (by decide) (by decide) rfl (by decide) ⟨by omega, by simp only [lM]; omega⟩ ?_)
    rw [H.2.2.1]; exact hq
  | 2, hk, _ =>
    have hk : w = 2 := by simpa using hk
    subst hk
    refine rg_gA R rfl (rg_aI R (by decide) (by decide) rfl (by decide) ⟨by omega, by simp only [lM]; omega⟩ ?_)
    rw [H.2.2.2.2.2.1]; exact hq
  | 3, hk, _ =>
    have hk : w = 3 := by simpa using hk
    subst hk
    exact rg_o R (m_marked (x := 1) R H (by omega) (by omega) hq)
  | 4, hk, _ =>
    have hk : w = 4 := by simpa using hk
    subst hk
    exact rg_o R (m_marked (x := 2) R H (by omega) (by omega) hq)
  | 5, hk, _ =>
    have hk : w = 5 := by simpa using hk
    subst hk
    refine rg_gA R rfl (rg_aI R (by decide) (by decide) rfl (by decide) ⟨by omega, by simp only [lM]; omega⟩ ?_)
    rw [H.2.1]
    refine br_eq (b := 1) (by omega) (by omega) (fun c1 => ?_) (fun c1 => ?_)
    · refine rg_o R (m_uneven R H (by omega) ?_)
      simp only [if_pos (show cr_kd (Ps p) = 1 by omega)] at hq
      exact hq
    · simp only [if_neg (show ¬ cr_kd (Ps p) = 1 by omega)] at hq
      exact hq
  | k + 6, hk, hk5 => omega
theorem m_placeOf {c : Nat} (R : rM h m V A) (H : mP A p P) (hp : p < 30) (hc : c < cr_m P) (hq : Q (iI (cr_pl P c)) h) : F_X5_placeOf m (iI p) (iI c) h Q := by
  unfold F_X5_placeOf B_X5_placeOf_94 B_X5_placeOf_100
  have hm := H.1.m12
  have hn := H.1.n9
  have hab := H.1.ab hc
  have hkd := H.1.1.1
  obtain ⟨s1, s2⟩ := cr_small H.1.1
  have s3 := H.1.1.2.2.1
  have e7 : A 7 (OfNat.ofNat 12 * (p : Int) + (c : Int)) = cr_a P c := H.2.2.2.2.2.2.2.1 c hc
  have e8 : A 8 (OfNat.ofNat 12 * (p : Int) + (c : Int)) = cr_b P c := H.2.2.2.2.2.2.2.2.1 c hc
  simp only [iI_lit, iI_mul, iI_add]
  refine rg_gA R rfl (rg_aI R (by decide) (by decide) rfl (by decide) ⟨by omega, by simp only [lM]; omega⟩ ?_)
  rw [e7]
  refine rg_gA R rfl (rg_aI R (by decide) (by decide) rfl (by decide) ⟨by omega, by simp only [lM]; omega⟩ ?_)
  rw [H.2.1]
  refine br_eq (b := 2) (by omega) (by omega) (fun c1 => ?_) (fun c1 => ?_)
  · have hk2 : cr_kd P = 2 := by omega
    refine rg_gA R rfl (rg_aI R (by decide) (by decide) rfl (by decide) ⟨by omega, by simp only [lM]; omega⟩ ?_)
    rw [H.2.2.2.2.1]
    have hne : ¬ iI (cr_cl P : Int) = 0 := by rw [iI_nat, nu_z (by omega)]; omega
    refine ⟨hne, rg_gA R rfl (rg_aI R (by decide) (by decide) rfl (by decide) ⟨by omega, by simp only [lM]; omega⟩ ?_)⟩
    rw [H.2.2.2.2.1]
    refine ⟨hne, rg_gA R rfl (rg_aI R (by decide) (by decide) rfl (by decide) ⟨by omega, by simp only [lM]; omega⟩ ?_)⟩
    have e9 : iI (cr_a P c : Int) + iI (OfNat.ofNat 1) = iI ((cr_a P c : Int) + 1) := iI_add _ _
    rw [e8, e9, m_rem (by omega) (by omega) (by omega), m_div (by omega) (by omega) (by omega)]
    have hq2 := hq
    unfold cr_pl at hq2
    rw [if_pos hk2] at hq2
    have hlt : cr_a P c / cr_cl P ≤ cr_a P c := Nat.div_le_self _ _
    have hmo : cr_a P c % cr_cl P ≤ cr_a P c := Nat.mod_le _ _
    have last : ¬ c < cr_rw P * (cr_cl P - 1) → Q (iI (OfNat.ofNat 2) + (iI ((cr_a P c / cr_cl P : Nat) : Int) - iI ((cr_a P c / cr_cl P : Nat) : Int) / iI (OfNat.ofNat 2) * iI (OfNat.ofNat 2))) h := fun hx => by
      have e := m_rem2 (a := cr_a P c / cr_cl P) (by omega)
      have e' : iI ((cr_a P c / cr_cl P : Nat) : Int) - iI ((cr_a P c / cr_cl P : Nat) : Int) / iI (OfNat.ofNat 2) * iI (OfNat.ofNat 2) = iI ((cr_a P c / cr_cl P % 2 : Nat) : Int) := e
      rw [e', iI_add]
      rw [if_neg hx] at hq2
      exact hq2
    refine br_eq (by omega) (by omega) (fun c2 => ?_) (fun c2 => ⟨by decide, last fun hx => ?_⟩)
    · refine rg_gA R rfl (rg_aI R (by decide) (by decide) rfl (by decide) ⟨by omega, by simp only [lM]; omega⟩ ?_)
      rw [H.2.2.2.1]
      refine rg_gA R rfl (rg_aI R (by decide) (by decide) rfl (by decide) ⟨by omega, by simp only [lM]; omega⟩ ?_)
      rw [H.2.2.2.2.1, iI_sub]
      have ee : (cr_cl P : Int) - OfNat.ofNat 1 = ((cr_cl P - 1 : Nat) : Int) := by
        have : ((cr_cl P - 1 : Nat) : Int) = (cr_cl P : Int) - 1 := by omega
        rw [this]
      have hb : cr_rw P * (cr_cl P - 1) ≤ 81 := Nat.mul_le_mul (show cr_rw P ≤ 9 by omega) (show cr_cl P - 1 ≤ 9 by omega)
      rw [ee, iI_mul, ← Int.natCast_mul]
      refine br_le (by omega) (by omega) (fun c3 => ⟨by decide, last (by omega)⟩) (fun c3 => ⟨by decide, ?_⟩)
      have e := m_rem2 (a := cr_a P c % cr_cl P) (by omega)
      have e' : iI ((cr_a P c % cr_cl P : Nat) : Int) - iI ((cr_a P c % cr_cl P : Nat) : Int) / iI (OfNat.ofNat 2) * iI (OfNat.ofNat 2) = iI ((cr_a P c % cr_cl P % 2 : Nat) : Int) := e
      rw [e']
      rw [if_pos (by omega)] at hq2
      exact hq2
    · have := H.1.hb hc hx
      omega
  · have hk2 : cr_kd P ≠ 2 := by omega
    have ee : (cr_a P c : Int) + OfNat.ofNat 1 = ((cr_a P c + 1 : Nat) : Int) := by simp
    rw [iI_add, ee]
    refine rg_o R (m_begins R H hp (by omega) ?_)
    unfold cr_pl at hq
    rw [if_neg hk2] at hq
    exact hq
end M5
