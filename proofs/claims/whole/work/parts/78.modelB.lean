/-! THE REFERENCE: begin, next as a whole, number -/
/-- the search's own scratch may differ -/
def bE (V : Nat → Int) (A : Nat → Int → Int) (V' : Nat → Int) (A' : Nat → Int → Int) : Prop := (∀ k, k ≠ 12 → k ≠ 13 → k ≠ 15 → V' k = V k) ∧ ∀ j, j ≠ 12 → j ≠ 13 → j ≠ 14 → A' j = A j
theorem bE.rf {V : Nat → Int} {A : Nat → Int → Int} : bE V A V A := ⟨fun _ _ _ _ => rfl, fun _ _ _ _ => rfl⟩
theorem bE.tr {V V1 V2 : Nat → Int} {A A1 A2 : Nat → Int → Int} (a : bE V A V1 A1) (b : bE V1 A1 V2 A2) : bE V A V2 A2 := ⟨fun k h1 h2 h3 => (b.1 k h1 h2 h3).trans (a.1 k h1 h2 h3), fun j h1 h2 h3 => (b.2 j h1 h2 h3).trans (a.2 j h1 h2 h3)⟩
theorem bE.au {V : Nat → Int} {A : Nat → Int → Int} {j : Nat} {i x : Int} (h : j = 12 ∨ j = 13 ∨ j = 14) : bE V A V (au A j i x) := ⟨fun _ _ _ _ => rfl, fun k h1 h2 h3 => au_nk (by omega)⟩
theorem bE.vu {V : Nat → Int} {A : Nat → Int → Int} {k : Nat} {x : Int} (h : k = 12 ∨ k = 13 ∨ k = 15) : bE V A (va_up V k x) A := ⟨fun j h1 h2 h3 => va_up_ne _ _ (by omega), fun _ _ _ _ => rfl⟩
theorem sE.be {V V' : Nat → Int} {A A' : Nat → Int → Int} (e : sE V A V' A') : bE V A V' A' := ⟨fun k _ h2 h3 => e.1 k h2 h3, fun j h1 h2 _ => e.2 j h1 h2⟩
theorem mP.be {V V' : Nat → Int} {A A' : Nat → Int → Int} {p : Nat} {P : cr_P} (H : mP A p P) (e : bE V A V' A') : mP A' p P := by
  obtain ⟨g0, g1, g2, g3, g4, g5, g6, g7, g8, g9, g10, g11⟩ := H
  unfold mP
  rw [e.2 1 (by decide) (by decide) (by decide), e.2 2 (by decide) (by decide) (by decide), e.2 3 (by decide) (by decide) (by decide), e.2 4 (by decide) (by decide) (by decide), e.2 5 (by decide) (by decide) (by decide), e.2 6 (by decide) (by decide) (by decide), e.2 7 (by decide) (by decide) (by decide), e.2 8 (by decide) (by decide) (by decide), e.2 9 (by decide) (by decide) (by decide), e.2 10 (by decide) (by decide) (by decide), e.2 11 (by decide) (by decide) (by decide)]
  exact ⟨g0, g1, g2, g3, g4, g5, g6, g7, g8, g9, g10, g11⟩
theorem mS.be {V V' : Nat → Int} {A A' : Nat → Int → Int} {np : Nat} {Ps : Nat → cr_P} (S : mS V A np Ps) (e : bE V A V' A') : mS V' A' np Ps := ⟨(e.1 0 (by decide) (by decide) (by decide)).trans S.1, S.2.1, fun p hp => (S.2.2 p hp).be e⟩
theorem iI_s (i : Nat) : iI ((i : Int) + 1) = iI ((i + 1 : Nat) : Int) := rfl
section MB
variable {h : pz_H} {m np p : Nat} {V : Nat → Int} {A : Nat → Int → Int} {Ps : Nat → cr_P} {Q : pz_H → Prop}
theorem m_begin_pl (hp : p < np) : ∀ (k u c : Nat) (h : pz_H) (A : Nat → Int → Int), c + k = cr_m (Ps p) → k < u → rM h m V A → mS V A np Ps → (∀ d : Nat, d < c → A 14 d = cr_pl (Ps p) d) →
    (∀ h' A', rM h' m V A' → mPl A' (Ps p) → (∀ j, j ≠ 14 → A' j = A j) → Fr m (m + 23) h h' → Q h') → L_X5_begin_38 m (iI p) Q u (iI c) h := by
  intro k
  induction k with
  | zero =>
    intro u c h A hc hu R S hd hq
    have H := S.2.2 p hp
    have hm := H.1.m12
    have h30 := S.2.1
    obtain ⟨u, rfl⟩ : ∃ v, u = v + 1 := ⟨u - 1, by omega⟩
    unfold L_X5_begin_38
    simp (disch := omega) only [mE R, H.2.2.2.2.2.1, ebr_le, lits, iI_add, iI_sub, iI_mul, iI_neg]
    rw [if_pos (by omega)]
    exact hq h A R (fun d hd' => hd d (by omega)) (fun _ _ => rfl) Fr.rf
  | succ k ih =>
    intro u c h A hc hu R S hd hq
    have H := S.2.2 p hp
    have hm := H.1.m12
    have h30 := S.2.1
    obtain ⟨u, rfl⟩ : ∃ v, u = v + 1 := ⟨u - 1, by omega⟩
    unfold L_X5_begin_38
    simp (disch := omega) only [mE R, H.2.2.2.2.2.1, ebr_le, lits, iI_add, iI_sub, iI_mul, iI_neg]
    rw [if_neg (by omega)]
    refine m_placeOf R H (by omega) (by omega) ?_
    have hplB := H.1.plB (c := c) (by omega)
    refine rg_sI R (by decide) (by decide) rfl (by decide) ⟨by omega, by simp only [lM]; omega⟩ fun h1 R1 f1 => ?_
    rw [iI_s]
    have b1 : bE V A V (au A 14 c (cr_pl (Ps p) c)) := bE.au (Or.inr (Or.inr rfl))
    refine ih u (c + 1) h1 _ (by omega) (by omega) R1 (S.be b1) (fun d hd' => ?_) (fun h' A' a1 a2 a3 a4 => hq h' A' a1 a2 (fun j hj => (a3 j hj).trans (au_nk hj)) (f1.tr a4))
    by_cases e : d = c
    · subst e; exact au_at
    · rw [au_ne (by omega)]; exact hd d (by omega)
theorem m_begin_ht (hp : p < np) : ∀ (k u c : Nat) (h : pz_H) (A : Nat → Int → Int), c + k = 9 → k < u → rM h m V A → mS V A np Ps → (∀ d : Nat, d < c → A 13 d = -1) →
    (∀ h' A', rM h' m V A' → mPl A' (Ps p) → (∀ d : Nat, d < 9 → A' 13 d = -1) → (∀ j, j ≠ 13 → j ≠ 14 → A' j = A j) → Fr m (m + 23) h h' → Q h') → L_X5_begin_17 m (iI p) Q u (iI c) h := by
  intro k
  induction k with
  | zero =>
    intro u c h A hc hu R S hd hq
    obtain ⟨u, rfl⟩ : ∃ v, u = v + 1 := ⟨u - 1, by omega⟩
    unfold L_X5_begin_17
    simp (disch := omega) only [mE R, ebr_le, lits, iI_add, iI_sub, iI_mul, iI_neg]
    rw [if_pos (by omega)]
    refine ⟨cr_m (Ps p) + 1, m_begin_pl hp (cr_m (Ps p)) _ 0 h A (by omega) (by omega) R S (fun d hd => by omega) (fun h' A' a1 a2 a3 a4 => hq h' A' a1 a2 (fun d hd' => ?_) (fun j _ hj => a3 j hj) a4)⟩
    rw [a3 13 (by decide)]; exact hd d (by omega)
  | succ k ih =>
    intro u c h A hc hu R S hd hq
    obtain ⟨u, rfl⟩ : ∃ v, u = v + 1 := ⟨u - 1, by omega⟩
    unfold L_X5_begin_17
    simp (disch := omega) only [mE R, ebr_le, lits, iI_add, iI_sub, iI_mul, iI_neg]
    rw [if_neg (by omega)]
    refine rg_sI R (by decide) (by decide) rfl (by decide) ⟨by omega, by simp only [lM]; omega⟩ fun h1 R1 f1 => ?_
    rw [iI_s]
    have b1 : bE V A V (au A 13 c (-1)) := bE.au (Or.inr (Or.inl rfl))
    refine ih u (c + 1) h1 _ (by omega) (by omega) R1 (S.be b1) (fun d hd' => ?_) (fun h' A' a1 a2 a3 a4 a5 => hq h' A' a1 a2 a3 (fun j hj hj2 => (a4 j hj hj2).trans (au_nk hj)) (f1.tr a5))
    by_cases e : d = c
    · subst e; exact au_at
    · rw [au_ne (by omega)]; exact hd d (by omega)
theorem m_begin (R : rM h m V A) (S : mS V A np Ps) (hp : p < np) (hq : ∀ h' V' A', nS h' m V' A' np Ps p [] → V' 13 = 0 → bE V A V' A' → Fr m (m + 23) h h' → Q h') : F_X5_begin m (iI p) h Q := by
  unfold F_X5_begin
  have h30 := S.2.1
  have hn := (S.2.2 p hp).1.n9
  refine rg_p (V' := va_up V 12 (p : Int)) R rfl (Nat.le_of_ble_eq_true rfl) fun h1 R1 f1 => ?_
  refine rg_p (V' := va_up (va_up V 12 (p : Int)) 15 0) R1 rfl (Nat.le_of_ble_eq_true rfl) fun h2 R2 f2 => ?_
  refine rg_p (V' := va_up (va_up (va_up V 12 (p : Int)) 15 0) 13 0) R2 rfl (Nat.le_of_ble_eq_true rfl) fun h3 R3 f3 => ?_
  have b3 : bE V A (va_up (va_up (va_up V 12 (p : Int)) 15 0) 13 0) A := ((bE.vu (Or.inl rfl)).tr (bE.vu (Or.inr (Or.inr rfl)))).tr (bE.vu (Or.inr (Or.inl rfl)))
  refine ⟨10, m_begin_ht hp 9 10 0 h3 A rfl (by decide) R3 (S.be b3) (fun d hd => by omega) (fun h' A' a1 a2 a3 a4 a5 => ?_)⟩
  have b4 : bE V A (va_up (va_up (va_up V 12 (p : Int)) 15 0) 13 0) A' := b3.tr ⟨fun _ _ _ _ => rfl, fun j _ h2 h3 => a4 j h2 h3⟩
  refine hq h' _ A' ⟨a1, S.be b4, hp, ?_, ?_, a2, fun f hf => ?_, fun i hi => by simp at hi, by simp, by simp, by simp⟩ (va_up_self _ _ _) b4 (f1.tr (f2.tr (f3.tr a5)))
  · rw [va_up_ne _ _ (by decide), va_up_ne _ _ (by decide), va_up_self]
  · rw [va_up_ne _ _ (by decide), va_up_self]; rfl
  · rw [a3 f hf, ps_nil]
end MB
