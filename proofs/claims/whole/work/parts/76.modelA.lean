/-! THE REFERENCE: next goes on to the next row that its rules let pass -/
section MA
variable {h : pz_H} {m np p : Nat} {V : Nat → Int} {A : Nat → Int → Int} {Ps : Nat → cr_P} {Q : Int32 → pz_H → Prop}
theorem m_search : ∀ (u : Nat) (s : List Nat) (fr : Nat) (h : pz_H) (V : Nat → Int) (A : Nat → Int → Int), tm (cr_n (Ps p)) s fr < u → fr ≤ cr_n (Ps p) → s.length < cr_n (Ps p) → nS h m V A np Ps p s.reverse →
    (Rm (cr_n (Ps p)) (gd (Ps p)) s fr = [] → ∀ h' V' A', nS h' m V' A' np Ps p [] → sE V A V' A' → V' 13 = V 13 → Fr m (m + 23) h h' → Q (0 : Int32) h') →
    (∀ t s' xs, Rm (cr_n (Ps p)) (gd (Ps p)) s fr = (t :: s').reverse :: xs → xs = rs (cr_n (Ps p)) (gd (Ps p)) (t :: s') → ∀ h' V' A', nS h' m V' A' np Ps p (t :: s').reverse → s'.length + 1 = cr_n (Ps p) → sE V A V' A' → V' 13 = V 13 → Fr m (m + 23) h h' → Q (1 : Int32) h') →
    L_X5_next_94 m (iI (cr_n (Ps p))) Q u (iI fr) h := by
  intro u
  induction u with
  | zero => intro s fr h V A hu; omega
  | succ u ih =>
    intro s fr h V A hu hfr hs N none some
    obtain ⟨R, S, hp, hv, h15, hpl, h13, h12, hnd, hlt, hle⟩ := id N
    have H := S.2.2 p hp
    have hn := H.1.n9
    have h30 := S.2.1
    unfold L_X5_next_94
    refine ⟨cr_n (Ps p) - fr + 2, m_find (by simpa using hs) (cr_n (Ps p) - fr) _ fr h A (by omega) (by omega) N (fun g a1 a2 a3 a4 h1 A1 R1 g13 e12 s1 f1 => ?_) (fun a1 h1 A1 N1 s1 f1 => ?_)⟩
    · -- a face is found
      have hgl : g ∉ s.reverse := by
        unfold gd at a3
        rw [Bool.and_eq_true] at a3
        exact of_decide_eq_true a3.1
      unfold B_X5_next_164 B_X5_next_247
      refine br_ff (by decide) ?_
      have hv15 : V 15 = (s.length : Int) := by rw [h15]; simp
      refine rg_gA R1 rfl (rg_gI R1 rfl ?_)
      rw [hv15]
      refine rg_sI R1 (by decide) (by decide) rfl (by decide) ⟨by omega, by simp only [lM]; omega⟩ fun h2 R2 f2 => ?_
      refine rg_gI R2 rfl ?_
      rw [hv15, iI_1, iI_add]
      refine rg_p (V' := va_up V 15 ((s.length : Int) + 1)) R2 rfl (Nat.le_of_ble_eq_true rfl) fun h3 R3 f3 => ?_
      have s2 : sE V A V (au A1 12 s.length (g : Int)) := s1.tr (sE.au (Or.inl rfl))
      have s3 : sE V A (va_up V 15 ((s.length : Int) + 1)) (au A1 12 s.length (g : Int)) := s2.tr (sE.vu (Or.inr rfl))
      have N3 : nS h3 m (va_up V 15 ((s.length : Int) + 1)) (au A1 12 s.length (g : Int)) np Ps p (g :: s).reverse := by
        refine ⟨R3, S.se s3, hp, by rw [va_up_ne _ _ (by decide)]; exact hv, by rw [va_up_self]; simp, hpl.se s3, fun q hq => ?_, fun i hi => ?_, ?_, ?_, ?_⟩
        · rw [au_nk (by decide), List.reverse_cons]; exact g13 q hq
        · rw [List.reverse_cons]
          by_cases e : i = s.length
          · subst e
            rw [au_at, List.getD_eq_getElem?_getD, List.getElem?_append_right (by simp)]
            simp
          · have hi' : i < s.reverse.length := by simp at hi ⊢; omega
            rw [au_ne (by omega), e12, h12 i hi', List.getD_eq_getElem?_getD, List.getD_eq_getElem?_getD, List.getElem?_append_left hi']
        · rw [List.reverse_cons]
          exact List.nodup_append.mpr ⟨hnd, by simp, fun a ha b hb => by simp at hb; subst hb; intro e; subst e; exact hgl ha⟩
        · intro f hf
          rw [List.reverse_cons] at hf
          rcases List.mem_append.mp hf with hf | hf
          · exact hlt f hf
          · simp at hf; subst hf; exact a2
        · simp; omega
      refine rg_gI R3 rfl ?_
      rw [va_up_self]
      have f0 := f1.tr (f2.tr f3)
      refine br_eq (by omega) (by omega) (fun c1 => ?_) (fun c1 => ?_)
      · have hfull : s.length + 1 = cr_n (Ps p) := by omega
        exact some g s _ (by rw [Rm_full a1 a2 a3 a4 hfull, List.reverse_cons]) rfl h3 _ _ N3 hfull s3 (va_up_ne _ _ (by decide)) f0
      · have hr := Rm_push (s := s) a1 a2 a3 a4 (by omega)
        refine ih (g :: s) 0 h3 _ _ ?_ (by omega) (by simp; omega) N3 (fun e h' V' A' b1 b2 b3 b4 => ?_) (fun t s' xs e1 e2 h' V' A' b1 b2 b3 b4 b5 => ?_)
        · have := tm_push (n := cr_n (Ps p)) (s := s) a1 a2 (by omega)
          omega
        · exact none (by rw [hr]; exact e) h' V' A' b1 (s3.tr b2) (b3.trans (va_up_ne _ _ (by decide))) (f0.tr b4)
        · exact some t s' xs (by rw [hr]; exact e1) e2 h' V' A' b1 b2 (s3.tr b3) (b4.trans (va_up_ne _ _ (by decide))) (f0.tr b5)
    · -- none is left here
      obtain ⟨R1, S1, -, -, -, hpl1, g13, g12, -, -, -⟩ := id N1
      unfold B_X5_next_164 B_X5_next_247
      refine br_tt rfl ?_
      have hv15 : V 15 = (s.length : Int) := by rw [h15]; simp
      refine rg_gI R1 rfl ?_
      rw [hv15]
      cases s with
      | nil =>
        refine br_tt rfl ?_
        exact none (Rm_end a1) h1 V A1 N1 s1 rfl f1
      | cons t s =>
        refine br_ff ?_ ?_
        · rw [iI_nat, nu_z (by simp at hs ⊢; omega)]; simp
        refine rg_gI R1 rfl ?_
        rw [hv15, iI_1, iI_sub]
        have e1 : ((t :: s).length : Int) - 1 = (s.length : Int) := by simp
        rw [e1]
        refine rg_p (V' := va_up V 15 (s.length : Int)) R1 rfl (Nat.le_of_ble_eq_true rfl) fun h2 R2 f2 => ?_
        have hsl : s.length + 1 < cr_n (Ps p) + 1 := by simp at hs; omega
        have hnow : A1 12 (s.length : Int) = (t : Int) := by
          rw [g12 s.length (by simp), List.reverse_cons, List.getD_eq_getElem?_getD, List.getElem?_append_right (by simp)]
          simp
        have ht : t < cr_n (Ps p) := hlt t (by simp)
        refine rg_gA R2 rfl (rg_gI R2 rfl ?_)
        rw [va_up_self]
        refine rg_aI R2 (by decide) (by decide) rfl (by decide) ⟨by omega, by simp only [lM]; omega⟩ ?_
        rw [hnow]
        refine rg_gA R2 rfl (rg_gA R2 rfl (rg_gI R2 rfl ?_))
        rw [va_up_self]
        refine rg_aI R2 (by decide) (by decide) rfl (by decide) ⟨by omega, by simp only [lM]; omega⟩ ?_
        rw [hnow]
        refine rg_sI (j := 13) (x := (t : Int)) (z := -1) R2 (by decide) (by decide) rfl (by decide) ⟨by omega, by simp only [lM]; omega⟩ fun h3 R3 f3 => ?_
        have s3 : sE V A (va_up V 15 (s.length : Int)) (au A1 13 t (-1)) := (s1.tr (sE.vu (Or.inr rfl))).tr (sE.au (Or.inr rfl))
        have hts : t ∉ s.reverse := by
          rw [List.reverse_cons] at hnd
          have := (List.nodup_append.mp hnd).2.2
          intro hm
          exact this t hm t (by simp) rfl
        have N3 : nS h3 m (va_up V 15 (s.length : Int)) (au A1 13 t (-1)) np Ps p s.reverse := by
          refine ⟨R3, S.se s3, hp, by rw [va_up_ne _ _ (by decide)]; exact hv, by rw [va_up_self]; simp, hpl.se s3, fun q hq => ?_, fun i hi => ?_, ?_, ?_, ?_⟩
          · by_cases e : q = t
            · subst e; rw [au_at, ps_not hts]
            · rw [au_ne (by omega), g13 q hq, List.reverse_cons, ps_old e]
          · have hi' : i < (t :: s).reverse.length := by simp at hi ⊢; omega
            rw [au_nk (by decide), g12 i hi', List.reverse_cons, List.getD_eq_getElem?_getD, List.getD_eq_getElem?_getD, List.getElem?_append_left hi]
          · rw [List.reverse_cons] at hnd; exact (List.nodup_append.mp hnd).1
          · intro f hf; exact hlt f (by rw [List.reverse_cons]; exact List.mem_append_left _ hf)
          · simp; omega
        have e2 : iI (t : Int) + (1 : Int32) = iI ((t + 1 : Nat) : Int) := by rw [iI_1, iI_add]; simp
        show L_X5_next_94 m (iI (cr_n (Ps p))) Q u (iI (t : Int) + (1 : Int32)) h3
        rw [e2]
        have f0 := f1.tr (f2.tr f3)
        have hr := Rm_pop (n := cr_n (Ps p)) (g := gd (Ps p)) (s := s) (t := t) (fr := fr) a1
        refine ih s (t + 1) h3 _ _ ?_ (by omega) (by omega) N3 (fun e h' V' A' b1 b2 b3 b4 => ?_) (fun t2 s' xs e1 e2 h' V' A' b1 b2 b3 b4 b5 => ?_)
        · have := tm_pop (n := cr_n (Ps p)) (fr := fr) (t := t) (s := s)
          omega
        · exact none (by rw [hr]; exact e) h' V' A' b1 (s3.tr b2) (b3.trans (va_up_ne _ _ (by decide))) (f0.tr b4)
        · exact some t2 s' xs (by rw [hr]; exact e1) e2 h' V' A' b1 b2 (s3.tr b3) (b4.trans (va_up_ne _ _ (by decide))) (f0.tr b5)
end MA
