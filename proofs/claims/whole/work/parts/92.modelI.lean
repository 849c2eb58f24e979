/-! THE REFERENCE: foldings, clash, inClash, step -/
def cr_vs (P : cr_P) (l : List Nat) : Nat := nu_bm (fun c => decide (cr_mi P (ps l) c = 2)) (cr_m P)
def dis : List Nat → List Nat → Nat
  | _, [] => 0
  | s, x :: xs => if x ∈ s then dis s xs else dis (x :: s) xs + 1
def s_foldings (np : Nat) (Ps : Nat → cr_P) (z : Int) : Int := if vN np z then (dis [] ((mOrd (Ps z.toNat)).map (cr_vs (Ps z.toNat))) : Nat) else -101
def withMk (P : cr_P) (f : Nat → Nat) : cr_P := (cr_kd P, cr_rw P, cr_cl P, cr_ln P, f, cr_gp P, cr_rg P)
def clF (P : cr_P) : Nat → (Nat → Nat) → (Nat → Nat)
  | 0, f => f
  | c + 1, f => clF P c (if f c = 0 then f else if mOrd (withMk P (va_up f c 0)) = [] then va_up f c 0 else f)
def s_clashL (P : cr_P) : List Nat := if mOrd P = [] then (List.range (cr_m P)).filter (fun c => decide (clF P (cr_m P) (cr_mk P) c ≠ 0)) else []
def s_clash (np : Nat) (Ps : Nat → cr_P) (z : Int) : Int := if vN np z then (s_clashL (Ps z.toNat)).length else -101
def s_clashC (np : Nat) (Ps : Nat → cr_P) (cl : List Nat) (z : Int) : List Nat := if vN np z then s_clashL (Ps z.toNat) else cl
def s_inClash (cl : List Nat) (z : Int) : Int := if 0 ≤ z ∧ z < cl.length then (cl.getD z.toNat 0 : Nat) else -1
def s_step (st : List Int) (z : Int) : Int := if 0 ≤ z ∧ z < st.length then st.getD z.toNat 0 else -103
theorem iI_or (a b : Nat) : iI (a : Int) ||| iI (b : Int) = iI ((a ||| b : Nat) : Int) := by rw [iI_nat, iI_nat, iI_nat, nu_or]
theorem iI_or0 (a : Nat) : iI (a : Int) ||| iI 0 = iI (a : Int) := by
  have := iI_or a 0
  rw [Nat.or_zero] at this
  exact this
section RGZ
variable {ci n : Nat} {F : Nat → (Nat → Int) → List Value} {tg ln : Nat → Nat} {h : pz_H} {a : Nat} {V : Nat → Int} {A : Nat → Int → Int}
theorem rg_aZ {j : Nat} {z : Int} {K : Int32 → Prop} (R : rg ci F n tg ln h a V A) (h1 : 1 ≤ j) (h2 : j ≤ n) (ht : tg j = 4) (hn : ln j ≤ 65536) (hz : 0 ≤ z ∧ z < (ln j : Nat)) (kk : K (iI (A j z))) : pq_aZ h (a + j) (iI z) K := by
  obtain ⟨i, rfl⟩ : ∃ i : Nat, z = i := ⟨z.toNat, by omega⟩
  refine ⟨ln j, fun i => iI (A j (i : Int)), ?_, iI_in (by omega) (by omega), ?_⟩
  · rw [R.2 j h1 h2, rg_c, ht]
  · rw [iI_clamp (by omega)]
    exact kk
theorem rg_sZ {j : Nat} {x z : Int} {K : pz_H → Prop} (R : rg ci F n tg ln h a V A) (h1 : 1 ≤ j) (h2 : j ≤ n) (ht : tg j = 4) (hn : ln j ≤ 65536) (hx : 0 ≤ x ∧ x < (ln j : Nat)) (hz : z = 0 ∨ z = 1) (kk : ∀ h', rg ci F n tg ln h' a V (au A j x z) → Fr a (a + n + 1) h h' → K h') : pq_sZ h (a + j) (iI x) (iI z) K := by
  obtain ⟨i, rfl⟩ : ∃ i : Nat, x = i := ⟨x.toNat, by omega⟩
  refine ⟨ln j, fun i => iI (A j (i : Int)), ?_, iI_in (by omega) (by omega), ?_⟩
  · rw [R.2 j h1 h2, rg_c, ht]
  · have ez : vp_nar .boolean (iI z) = iI z := by rcases hz with e | e <;> rw [e] <;> rfl
    have e : (pz_up h (a + j) (.inl (4, ln j, .inl (upd (fun k : Nat => iI (A j (k : Int))) (iI (i : Int)).toNatClampNeg (vp_nar .boolean (iI z)))))) = pz_up h (a + j) (rg_c (tg j) (ln j) (zu (A j) i z)) := by
      rw [iI_clamp (by omega), ez, rg_upd, rg_c, ht]
    rw [e]
    exact kk _ (rg_set R h1 h2 _) (Fr.up (by omega) (by omega))
end RGZ
section MI
variable {h : pz_H} {m np p : Nat} {V : Nat → Int} {A : Nat → Int → Int} {Ps : Nat → cr_P} {P : cr_P} {td : Option (Nat × List Nat)} {cl : List Nat} {st : List Int} {Q : Int32 → pz_H → Prop}
theorem m_inClash {z : Int} (M : MR h m np Ps td cl st) (hz : iB z) (hq : Q (iI (s_inClash cl z)) h) : F_X5_inClash m (iI z) h Q := by
  obtain ⟨O, V, A, R, W⟩ := id M
  obtain ⟨c1, c2⟩ := W.2.2.1
  have hl := O.2.1
  unfold F_X5_inClash B_X5_inClash_21 B_X5_inClash_22
  unfold s_inClash at hq
  simp (disch := omega) only [mE R, c1, ebr_lt, ebr_le, lits, iI_add, iI_sub, iI_mul, iI_neg]
  by_cases q1 : z < 0
  · rw [if_pos q1]; rw [if_neg (by omega)] at hq; exact hq
  · rw [if_neg q1]
    obtain ⟨k, rfl⟩ : ∃ k : Nat, z = k := ⟨z.toNat, by omega⟩
    by_cases q2 : cl.length ≤ k
    · rw [if_pos (by omega)]; rw [if_neg (by omega)] at hq; exact hq
    · rw [if_neg (by omega)]; rw [if_pos (by omega)] at hq
      simp (disch := omega) only [mE R, c2 k (by omega), lits, iI_add, iI_sub, iI_mul, iI_neg]
      exact hq
theorem m_step {z : Int} (M : MR h m np Ps td cl st) (hz : iB z) (hq : Q (iI (s_step st z)) h) : F_X5_step m (iI z) h Q := by
  obtain ⟨O, V, A, R, W⟩ := id M
  obtain ⟨c1, c2⟩ := W.2.2.2
  have hl := O.2.2
  unfold F_X5_step B_X5_step_12 B_X5_step_23
  unfold s_step at hq
  simp (disch := omega) only [mE R, c1, ebr_lt, ebr_le, lits, iI_add, iI_sub, iI_mul, iI_neg]
  by_cases q1 : z < 0
  · rw [if_pos q1]; rw [if_neg (by omega)] at hq; exact hq
  · rw [if_neg q1]
    obtain ⟨k, rfl⟩ : ∃ k : Nat, z = k := ⟨z.toNat, by omega⟩
    by_cases q2 : k < st.length
    · rw [if_pos (by omega)]; rw [if_pos (by omega)] at hq
      simp (disch := omega) only [mE R, c2 k (by omega), lits, iI_add, iI_sub, iI_mul, iI_neg]
      exact hq
    · rw [if_neg (by omega)]; rw [if_neg (by omega)] at hq; exact hq
theorem m_isAllowed (R : rM h m V A) (S : mS V A np Ps) (hp : p < np) (hq : ∀ h' V' A', rM h' m V' A' → bE V A V' A' → Fr m (m + 23) h h' → Q (iI (if mOrd (Ps p) = [] then 0 else 1)) h') : F_X5_isAllowed m (iI p) h Q := by
  unfold F_X5_isAllowed
  refine rg_o R (m_begin R S hp fun h1 V1 A1 N1 e13 b1 f1 => ?_)
  refine rg_o N1.1 (m_next ⟨[], N1, Or.inl ⟨e13, rfl, rfl⟩⟩ (fun e h2 V2 A2 a1 a2 a3 => rg_z (Or.inl rfl) ?_) (fun l ys e h2 V2 A2 a1 a2 a3 a4 a5 => rg_z (Or.inr rfl) ?_))
  · have := hq h2 V2 A2 a1 (b1.tr a2) (f1.tr a3)
    rw [if_pos e] at this; exact this
  · have := hq h2 V2 A2 a1.1 (b1.tr a4) (f1.tr a5)
    rw [if_neg (by rw [e]; simp)] at this; exact this
-- foldings
theorem m_fold_in {l : List Nat} {kk : Int32 → pz_H → Prop} {n : Int} {sn : List Nat} (N : nS h m V A np Ps p l) (hn : iB n) (hn2 : n < 1000000) (hs : ∀ k : Nat, k < 4096 → A 18 k = if k ∈ sn then 1 else 0) (hq : ∀ h' A', rM h' m V A' → (∀ j, j ≠ 18 → A' j = A j) → (∀ k : Nat, k < 4096 → A' 18 k = if k ∈ cr_vs (Ps p) l :: sn then 1 else 0) → Fr m (m + 23) h h' → kk (iI (n + (if cr_vs (Ps p) l ∈ sn then 0 else 1))) h') : ∀ k u c : Nat, c + k = cr_m (Ps p) → k < u → L_X5_foldings_52 m (iI p) (iI n) kk Q u (iI (nu_bm (fun c => decide (cr_mi (Ps p) (ps l) c = 2)) c)) (iI c) h := by
  obtain ⟨R, S, hp, hv, -⟩ := id N
  have H := S.2.2 p hp
  have h30 := S.2.1
  have hm := H.1.m12
  intro k
  induction k with
  | zero =>
    intro u c hc hu
    obtain ⟨u, rfl⟩ : ∃ v, u = v + 1 := ⟨u - 1, by omega⟩
    unfold L_X5_foldings_52 B_X5_foldings_105
    have e : c = cr_m (Ps p) := by omega
    rw [e]
    simp (disch := omega) only [mE R, H.2.2.2.2.2.1, ebr_le, lits, iI_add, iI_sub, iI_mul, iI_neg]
    rw [if_pos (by omega)]
    have hb : cr_vs (Ps p) l < 4096 := by
      have h1 : cr_vs (Ps p) l < 2 ^ cr_m (Ps p) := nu_bm_lt _ _
      have h2 : 2 ^ cr_m (Ps p) ≤ 2 ^ 12 := Nat.pow_le_pow_right (by decide) hm
      omega
    have hb' : nu_bm (fun c => decide (cr_mi (Ps p) (ps l) c = 2)) (cr_m (Ps p)) < 4096 := hb
    show pq_aZ h (m + 18) (iI (cr_vs (Ps p) l)) _
    refine rg_aZ R (by decide) (by decide) rfl (by decide) ⟨by omega, by simp only [lM]; omega⟩ ?_
    rw [hs _ hb]
    have fin : ∀ h' A', rM h' m V A' → (∀ j, j ≠ 18 → A' j = A j) → A' 18 = zu (A 18) (cr_vs (Ps p) l : Nat) 1 → Fr m (m + 23) h h' → kk (iI (n + (if cr_vs (Ps p) l ∈ sn then 0 else 1))) h' := fun h' A' a1 a2 a3 a4 => by
      refine hq h' A' a1 a2 (fun k hk => ?_) a4
      rw [a3, zu]
      by_cases e : k = cr_vs (Ps p) l
      · rw [if_pos (by omega), if_pos (by simp [e])]
      · rw [if_neg (by omega), hs k hk]
        simp [e]
    by_cases q : cr_vs (Ps p) l ∈ sn
    · rw [if_pos q]
      refine br_ff (by decide) (rg_sZ R (by decide) (by decide) rfl (by decide) ⟨by omega, by simp only [lM]; omega⟩ (Or.inr rfl) fun h' R' f' => ?_)
      have := fin h' _ R' (fun j hj => au_nk hj) (by unfold au; rw [va_up_self]; rfl) f'
      rw [if_pos q] at this
      exact this
    · rw [if_neg q]
      refine br_tt rfl (rg_sZ R (by decide) (by decide) rfl (by decide) ⟨by omega, by simp only [lM]; omega⟩ (Or.inr rfl) fun h' R' f' => ?_)
      have := fin h' _ R' (fun j hj => au_nk hj) (by unfold au; rw [va_up_self]; rfl) f'
      rw [if_neg q] at this
      exact this
  | succ k ih =>
    intro u c hc hu
    obtain ⟨u, rfl⟩ : ∃ v, u = v + 1 := ⟨u - 1, by omega⟩
    unfold L_X5_foldings_52 B_X5_foldings_82
    rw [(mE R).1]
    have hsh : (1 : Int32) <<< (iI (c : Int) &&& 31) = iI ((2 ^ c : Nat) : Int) := by rw [iI_nat, iI_nat]; exact nu_shl c (by omega)
    rw [hsh]
    simp (disch := omega) only [mE R, H.2.2.2.2.2.1, ebr_le, iI_s, lits, iI_add, iI_sub, iI_mul, iI_neg]
    rw [if_neg (by omega)]
    refine m_markIn R H (by omega) hv N.hh (by omega) ?_
    have hmi := cr_mi12 (Ps p) (ps l) c
    rw [ebr_eq (by omega) (by omega)]
    have h1 := ih u (c + 1) (by omega) (by omega)
    rw [nu_bm] at h1
    by_cases q : cr_mi (Ps p) (ps l) c = 2
    · rw [if_pos (by omega), iI_or]
      rw [decide_eq_true q] at h1
      exact h1
    · rw [if_neg (by omega)]
      rw [decide_eq_false q] at h1
      simp only [Bool.false_eq_true, if_false, Nat.or_zero] at h1
      rw [iI_or0]
      exact h1
theorem m_fold_loop : ∀ (xs : List (List Nat)) (u n : Nat) (sn : List Nat) (h : pz_H) (V : Nat → Int) (A : Nat → Int → Int), xs.length < u → n + xs.length < 1000000 → nR h m V A np Ps p xs → (∀ k : Nat, k < 4096 → A 18 k = if k ∈ sn then 1 else 0) → (∀ h' V' A', rM h' m V' A' → xE V A V' A' → Fr m (m + 23) h h' → Q (iI ((n + dis sn (xs.map (cr_vs (Ps p))) : Nat) : Int)) h') → L_X5_foldings_40 m (iI p) Q u (iI n) h := by
  intro xs
  induction xs with
  | nil =>
    intro u n sn h V A hu hn N hs hq
    obtain ⟨u, rfl⟩ : ∃ v, u = v + 1 := ⟨u - 1, by omega⟩
    unfold L_X5_foldings_40
    have R : rM h m V A := by obtain ⟨l, N, -⟩ := N; exact N.1
    refine rg_o R (m_next N (fun _ h' V' A' a1 a2 a3 => br_tt rfl (hq h' V' A' a1 a2.xe a3)) (fun l ys e => by cases e))
  | cons x xs ih =>
    intro u n sn h V A hu hn N hs hq
    obtain ⟨u, rfl⟩ : ∃ v, u = v + 1 := ⟨u - 1, by omega⟩
    unfold L_X5_foldings_40
    have R : rM h m V A := by obtain ⟨l, N, -⟩ := N; exact N.1
    refine rg_o R (m_next N (fun e => by cases e) (fun l ys e h' V' A' a1 a2 a3 a4 a5 => br_ff (by decide) ?_))
    cases e
    have hm := (a1.2.1.2.2 p a1.2.2.1).1.m12
    have hxs : xs.length < 999999 := by simp at hn; omega
    refine ⟨20, m_fold_in (sn := sn) (n := (n : Int)) a1 (by simp at hn; omega) (by simp at hn; omega) (fun k hk => ?_) (fun h2 A2 c1 c2 c3 c4 => ?_) (cr_m (Ps p)) 20 0 (by omega) (by omega)⟩
    · rw [a4.2 18 (by decide) (by decide) (by decide)]; exact hs k hk
    · have x2 : xE V' A' V' A2 := ⟨fun _ _ _ _ => rfl, fun j hj => c2 j (by omega)⟩
      have N2 : nR h2 m V' A2 np Ps p xs := by
        obtain ⟨l, N, hl⟩ := a3
        obtain ⟨R, S, hp, hv, h15, hpl, g13, g12, hnd, hlt, hle⟩ := id N
        refine ⟨l, ⟨c1, S.xe x2, hp, hv, h15, fun c hc => ?_, fun f hf => ?_, fun i hi => ?_, hnd, hlt, hle⟩, hl⟩
        · rw [c2 14 (by decide)]; exact hpl c hc
        · rw [c2 13 (by decide)]; exact g13 f hf
        · rw [c2 12 (by decide)]; exact g12 i hi
      rw [List.map_cons, dis] at hq
      have e : iI ((n : Int) + (if cr_vs (Ps p) x ∈ sn then 0 else 1)) = iI ((n + (if cr_vs (Ps p) x ∈ sn then 0 else 1) : Nat) : Int) := by split <;> simp
      rw [e]
      have hle : n + (if cr_vs (Ps p) x ∈ sn then 0 else 1) + xs.length < 1000000 := by
        simp at hn
        split <;> omega
      by_cases q : cr_vs (Ps p) x ∈ sn
      · refine ih u _ sn h2 V' A2 (by simp at hu; omega) hle N2 (fun k hk => ?_) (fun h3 V3 A3 d1 d2 d3 => ?_)
        · rw [c3 k hk]
          by_cases e : k = cr_vs (Ps p) x
          · rw [if_pos (by simp [e]), if_pos (by rw [e]; exact q)]
          · simp [e]
        · have := hq h3 V3 A3 d1 (a4.xe.tr (x2.tr d2)) (a5.tr (c4.tr d3))
          rw [if_pos q] at this ⊢
          exact this
      · refine ih u _ (cr_vs (Ps p) x :: sn) h2 V' A2 (by simp at hu; omega) hle N2 c3 (fun h3 V3 A3 d1 d2 d3 => ?_)
        have := hq h3 V3 A3 d1 (a4.xe.tr (x2.tr d2)) (a5.tr (c4.tr d3))
        rw [if_neg q] at this ⊢
        have e2 : n + 1 + dis (cr_vs (Ps p) x :: sn) (xs.map (cr_vs (Ps p))) = n + (dis (cr_vs (Ps p) x :: sn) (xs.map (cr_vs (Ps p))) + 1) := by omega
        rw [e2]
        exact this
theorem m_fold_clear (hq : ∀ h' A', rM h' m V A' → (∀ j, j ≠ 18 → A' j = A j) → (∀ k : Nat, k < 4096 → A' 18 k = 0) → Fr m (m + 23) h h' → pq_o h' m 5 (F_X5_begin m (iI p) h' (fun h1 => (pq_ex (fun m40 => L_X5_foldings_40 m (iI p) Q m40 (0 : Int32) h1))))) : ∀ (k u i : Nat) (h0 : pz_H) (A0 : Nat → Int → Int), i + k = 4096 → k < u → rM h0 m V A0 → (∀ j, j ≠ 18 → A0 j = A j) → (∀ k : Nat, k < i → A0 18 k = 0) → Fr m (m + 23) h h0 → L_X5_foldings_13 m (iI p) Q u (iI i) h0 := by
  intro k
  induction k with
  | zero =>
    intro u i h0 A0 hi hu R h1 h2 f
    obtain ⟨u, rfl⟩ : ∃ v, u = v + 1 := ⟨u - 1, by omega⟩
    unfold L_X5_foldings_13
    refine br_le (a := 4096) (by omega) (by omega) (fun _ => ?_) (fun c => by omega)
    exact hq h0 A0 R h1 (fun k hk => h2 k (by omega)) f
  | succ k ih =>
    intro u i h0 A0 hi hu R h1 h2 f
    obtain ⟨u, rfl⟩ : ∃ v, u = v + 1 := ⟨u - 1, by omega⟩
    unfold L_X5_foldings_13
    refine br_le (a := 4096) (by omega) (by omega) (fun c => by omega) (fun _ => ?_)
    refine rg_gA R rfl (rg_sZ (z := 0) R (by decide) (by decide) rfl (by decide) ⟨by omega, by simp only [lM]; omega⟩ (Or.inl rfl) fun h' R' f' => ?_)
    rw [iI_1, iI_add, iI_s]
    refine ih u (i + 1) h' _ (by omega) (by omega) R' (fun j hj => (au_nk hj).trans (h1 j hj)) (fun q hq => ?_) (f.tr f')
    by_cases e : q = i
    · subst e; exact au_at
    · rw [au_ne (by omega)]; exact h2 q (by omega)
theorem m_foldings {z : Int} (hle : ∀ p, p < np → (mOrd (Ps p)).length < 999999) (M : MR h m np Ps td cl st) (hz : iB z) (hq : ∀ h', MR h' m np Ps td cl st → Fr m (m + 23) h h' → Q (iI (s_foldings np Ps z)) h') : F_X5_foldings m (iI z) h Q := by
  obtain ⟨O, V, A, R, W⟩ := id M
  have S := W.1
  unfold F_X5_foldings
  unfold s_foldings at hq
  refine rg_o R (m_has R S.1 S.2.1 hz ?_)
  change pq_br (iI (bI (vN np z)) = 0) _ _
  cases c : vN np z with
  | false => exact br_tt rfl (by have := hq h M Fr.rf; rw [c] at this; exact this)
  | true =>
    obtain ⟨p, hp, rfl⟩ := vN_t c
    rw [c] at hq
    simp only [if_true, Int.toNat_natCast] at hq
    have hl := hle p hp
    refine br_ff (by decide) ⟨4097, m_fold_clear (A := A) (h := h) (fun h1 A1 R1 c1 c2 f1 => ?_) 4096 4097 0 h A rfl (by omega) R (fun _ _ => rfl) (fun k hk => by omega) Fr.rf⟩
    have x1 : xE V A V A1 := ⟨fun _ _ _ _ => rfl, fun j hj => c1 j (by omega)⟩
    refine rg_o R1 (m_begin R1 (S.xe x1) hp fun h2 V2 A2 N2 e13 b2 f2 => ?_)
    refine ⟨(mOrd (Ps p)).length + 1, m_fold_loop (p := p) (mOrd (Ps p)) _ 0 [] h2 V2 A2 (by omega) (by omega) ⟨[], N2, Or.inl ⟨e13, rfl, rfl⟩⟩ (fun k hk => ?_) (fun h3 V3 A3 a1 a2 a3 => ?_)⟩
    · rw [b2.2 18 (by decide) (by decide) (by decide), c2 k hk]; simp
    · have := hq h3 (MR.of O W a1 (x1.tr (b2.xe.tr a2))) (f1.tr (f2.tr a3))
      simpa using this
end MI
