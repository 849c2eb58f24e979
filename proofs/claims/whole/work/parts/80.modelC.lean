/-! THE REFERENCE: next as a whole, number -/
def mOrd (P : cr_P) : List (List Nat) := if cr_un P then [] else tr (cr_n P) (gd P) (cr_n P) []
/-- the reference's search has begun on paper p, and xs is what is left -/
def nR (h : pz_H) (m : Nat) (V : Nat → Int) (A : Nat → Int → Int) (np : Nat) (Ps : Nat → cr_P) (p : Nat) (xs : List (List Nat)) : Prop := ∃ l, nS h m V A np Ps p l ∧ ((V 13 = 0 ∧ l = [] ∧ xs = mOrd (Ps p)) ∨ (V 13 = 1 ∧ cr_un (Ps p) = false ∧ l.length = cr_n (Ps p) ∧ xs = rs (cr_n (Ps p)) (gd (Ps p)) l.reverse))
theorem nS_pop {h h3 : pz_H} {m np p t : Nat} {s : List Nat} {V : Nat → Int} {A : Nat → Int → Int} {Ps : Nat → cr_P} (N : nS h m V A np Ps p (t :: s).reverse) (R3 : rM h3 m (va_up V 15 (s.length : Int)) (au A 13 t (-1))) : nS h3 m (va_up V 15 (s.length : Int)) (au A 13 t (-1)) np Ps p s.reverse := by
  obtain ⟨R, S, hp, hv, h15, hpl, g13, g12, hnd, hlt, hle⟩ := id N
  have s3 : sE V A (va_up V 15 (s.length : Int)) (au A 13 t (-1)) := (sE.vu (Or.inr rfl)).tr (sE.au (Or.inr rfl))
  have hts : t ∉ s.reverse := by
    rw [List.reverse_cons] at hnd
    have := (List.nodup_append.mp hnd).2.2
    intro hm
    exact this t hm t (by simp) rfl
  refine ⟨R3, S.se s3, hp, by rw [va_up_ne _ _ (by decide)]; exact hv, by rw [va_up_self]; simp, hpl.se s3, fun q hq => ?_, fun i hi => ?_, ?_, ?_, ?_⟩
  · by_cases e : q = t
    · subst e; rw [au_at, ps_not hts]
    · rw [au_ne (by omega), g13 q hq, List.reverse_cons, ps_old e]
  · have hi' : i < (t :: s).reverse.length := by simp at hi ⊢; omega
    rw [au_nk (by decide), g12 i hi', List.reverse_cons, List.getD_eq_getElem?_getD, List.getD_eq_getElem?_getD, List.getElem?_append_left hi]
  · rw [List.reverse_cons] at hnd; exact (List.nodup_append.mp hnd).1
  · intro f hf; exact hlt f (by rw [List.reverse_cons]; exact List.mem_append_left _ hf)
  · simp at hle ⊢; omega
theorem nS.v13 {h h3 : pz_H} {m np p : Nat} {l : List Nat} {V : Nat → Int} {A : Nat → Int → Int} {Ps : Nat → cr_P} {x : Int} (N : nS h m V A np Ps p l) (R3 : rM h3 m (va_up V 13 x) A) : nS h3 m (va_up V 13 x) A np Ps p l := by
  obtain ⟨R, S, hp, hv, h15, hpl, g13, g12, hnd, hlt, hle⟩ := id N
  exact ⟨R3, S.se (sE.vu (Or.inl rfl)), hp, by rw [va_up_ne _ _ (by decide)]; exact hv, by rw [va_up_ne _ _ (by decide)]; exact h15, hpl, g13, g12, hnd, hlt, hle⟩
section MC
variable {h : pz_H} {m np p : Nat} {V : Nat → Int} {A : Nat → Int → Int} {Ps : Nat → cr_P} {Q : Int32 → pz_H → Prop}
/-- from a pile on, at face fr -/
theorem m_next89 {s : List Nat} {fr : Nat} (hfr : fr ≤ cr_n (Ps p)) (hs : s.length < cr_n (Ps p)) (hu : cr_un (Ps p) = false) (N : nS h m V A np Ps p s.reverse)
    (h0 : Rm (cr_n (Ps p)) (gd (Ps p)) s fr = [] → ∀ h' V' A', rM h' m V' A' → bE V A V' A' → Fr m (m + 23) h h' → Q (0 : Int32) h')
    (h1 : ∀ l ys, Rm (cr_n (Ps p)) (gd (Ps p)) s fr = l :: ys → ∀ h' V' A', nS h' m V' A' np Ps p l → l.length = cr_n (Ps p) → nR h' m V' A' np Ps p ys → bE V A V' A' → Fr m (m + 23) h h' → Q (1 : Int32) h') : B_X5_next_89 m (iI (cr_n (Ps p))) (iI fr) Q h := by
  unfold B_X5_next_89
  refine rg_p (V' := va_up V 13 1) N.1 rfl (Nat.le_of_ble_eq_true rfl) fun h2 R2 f2 => ?_
  have b2 : bE V A (va_up V 13 1) A := bE.vu (Or.inr (Or.inl rfl))
  refine ⟨tm (cr_n (Ps p)) s fr + 1, m_search _ s fr h2 _ A (by omega) hfr hs (N.v13 R2) (fun e h' V' A' a1 a2 a3 a4 => ?_) (fun t s' xs e1 e2 h' V' A' a1 a2 a3 a4 a5 => ?_)⟩
  · exact h0 e h' V' A' a1.1 (b2.tr a2.be) (f2.tr a4)
  · refine h1 _ xs e1 h' V' A' a1 (by simp; omega) ⟨_, a1, Or.inr ⟨?_, hu, by simp; omega, ?_⟩⟩ (b2.tr a3.be) (f2.tr a5)
    · rw [a4, va_up_self]
    · rw [e2, List.reverse_reverse]
theorem m_next {xs : List (List Nat)} (N : nR h m V A np Ps p xs)
    (h0 : xs = [] → ∀ h' V' A', rM h' m V' A' → bE V A V' A' → Fr m (m + 23) h h' → Q (0 : Int32) h')
    (h1 : ∀ l ys, xs = l :: ys → ∀ h' V' A', nS h' m V' A' np Ps p l → l.length = cr_n (Ps p) → nR h' m V' A' np Ps p ys → bE V A V' A' → Fr m (m + 23) h h' → Q (1 : Int32) h') : F_X5_next m h Q := by
  obtain ⟨l, N, hl⟩ := N
  obtain ⟨R, S, hp, hv, h15, hpl, g13, g12, hnd, hlt, hle⟩ := id N
  have H := S.2.2 p hp
  have h30 := S.2.1
  have hn := H.1.n9
  have hkd := H.1.1.1
  -- an uneven corner
  have un : cr_un (Ps p) = true → Q (0 : Int32) h := fun hu => by
    rcases hl with ⟨e1, e2, e3⟩ | ⟨e1, e2, e3⟩
    · refine h0 ?_ h V A R bE.rf Fr.rf
      rw [e3]; unfold mOrd; rw [if_pos hu]
    · rw [hu] at e2; cases e2
  have ev : cr_un (Ps p) = false → B_X5_next_43 m (iI (cr_n (Ps p))) Q h := fun hu => by
    unfold B_X5_next_43
    rcases hl with ⟨e1, e2, e3⟩ | ⟨e1, e2, e3, e4⟩
    · simp (disch := omega) only [mE R, e1, ebr_eq, ebr_T, lits, iI_add, iI_sub, iI_mul, iI_neg]
      subst e2
      have e5 : xs = Rm (cr_n (Ps p)) (gd (Ps p)) [] 0 := by rw [e3, Rm_0 _ hn.1]; unfold mOrd; rw [hu]; rfl
      exact m_next89 (s := []) (fr := 0) (by omega) (by simp; omega) hu N (fun e => h0 (by rw [e5]; exact e)) (fun l ys e => h1 l ys (by rw [e5]; exact e))
    · obtain ⟨t, s, hts⟩ : ∃ t s, l.reverse = t :: s := by
        cases hr : l.reverse with
        | nil => rw [List.reverse_eq_nil_iff] at hr; subst hr; simp at e3; omega
        | cons t s => exact ⟨t, s, rfl⟩
      have hl' : l = (t :: s).reverse := by rw [← hts, List.reverse_reverse]
      have hsl : s.length + 1 = cr_n (Ps p) := by rw [hl'] at e3; simpa using e3
      have ht : t < cr_n (Ps p) := hlt t (by rw [hl']; simp)
      have hnow : A 12 (s.length : Int) = (t : Int) := by
        rw [g12 s.length (by rw [hl']; simp), hl', List.reverse_cons, List.getD_eq_getElem?_getD, List.getElem?_append_right (by simp)]
        simp
      have hv15 : V 15 = (s.length : Int) + 1 := by rw [h15, hl']; simp
      simp (disch := omega) only [mE R, e1, ebr_eq, hv15, lits, iI_add, iI_sub, iI_mul, iI_neg]
      rw [if_neg (by omega)]
      have e6 : (s.length : Int) + 1 - 1 = s.length := by omega
      rw [e6]
      refine rg_p (V' := va_up V 15 (s.length : Int)) R rfl (Nat.le_of_ble_eq_true rfl) fun h2 R2 f2 => ?_
      simp (disch := omega) only [mE R2, va_up_self, hnow, lits, iI_add, iI_sub, iI_mul, iI_neg]
      refine rg_sI R2 (by decide) (by decide) rfl (by decide) ⟨by omega, by simp only [lM]; omega⟩ fun h3 R3 f3 => ?_
      subst hl'
      have b3 : bE V A (va_up V 15 (s.length : Int)) (au A 13 t (-1)) := (bE.vu (Or.inr (Or.inr rfl))).tr (bE.au (Or.inr (Or.inl rfl)))
      have e5 : xs = Rm (cr_n (Ps p)) (gd (Ps p)) s (t + 1) := by rw [e4, List.reverse_reverse]; rfl
      exact m_next89 (s := s) (fr := t + 1) (by omega) (by omega) hu (nS_pop N R3) (fun e h' V' A' a1 a2 a3 => h0 (by rw [e5]; exact e) h' V' A' a1 (b3.tr a2) (f2.tr (f3.tr a3))) (fun l ys e h' V' A' a1 a2 a3 a4 a5 => h1 l ys (by rw [e5]; exact e) h' V' A' a1 a2 a3 (b3.tr a4) (f2.tr (f3.tr a5)))
  unfold F_X5_next B_X5_next_41
  simp (disch := omega) only [mE R, hv, H.2.1, H.2.2.1, ebr_eq, lits, iI_add, iI_sub, iI_mul, iI_neg]
  by_cases c1 : cr_kd (Ps p) = 1
  · rw [if_pos (by omega)]
    refine ⟨by decide, ?_⟩
    have e2 : iI (cr_n (Ps p) : Int) - iI (cr_n (Ps p) : Int) / iI 2 * iI 2 = iI ((cr_n (Ps p) % 2 : Nat) : Int) := m_rem2 (by omega)
    rw [e2, ebr_eq (by omega) (by omega)]
    by_cases c2 : cr_n (Ps p) % 2 = 1
    · rw [if_pos (by omega)]
      exact un (by unfold cr_un; rw [decide_eq_true c1, decide_eq_true c2]; rfl)
    · rw [if_neg (by omega)]
      refine m_uneven R H (by omega) ?_
      have := H.1.eB (f := cr_n (Ps p)) (by omega)
      rw [ebr_eq (by omega) (by omega)]
      by_cases c3 : cr_e (cr_ln (Ps p)) (cr_n (Ps p)) = 0
      · rw [if_pos c3]
        exact ev (by unfold cr_un; rw [decide_eq_false c2, decide_eq_false (not_not_intro c3)]; simp)
      · rw [if_neg c3]
        exact un (by unfold cr_un; rw [decide_eq_true c1, decide_eq_true c3]; simp)
  · rw [if_neg (by omega)]
    exact ev (by unfold cr_un; rw [decide_eq_false c1]; rfl)
end MC
