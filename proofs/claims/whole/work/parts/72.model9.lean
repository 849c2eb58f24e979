/-! THE REFERENCE: the search, a face at a time -/
def ps (l : List Nat) (f : Nat) : Int := if f ∈ l then (l.idxOf f : Int) else -1
theorem ps_nil (f : Nat) : ps [] f = -1 := by simp [ps]
theorem ps_not {l : List Nat} {f : Nat} (h : f ∉ l) : ps l f = -1 := if_neg h
theorem ps_in {l : List Nat} {f : Nat} (h : f ∈ l) : ps l f = (l.idxOf f : Int) := if_pos h
theorem ps_m1 {l : List Nat} {f : Nat} : ps l f = -1 ↔ f ∉ l := by
  unfold ps
  split <;> rename_i h
  · simp [h]
  · simp [h]
theorem ps_B {l : List Nat} {f : Nat} : -1 ≤ ps l f ∧ ps l f ≤ l.length := by
  unfold ps
  split
  · have := List.idxOf_le_length (l := l) (a := f); omega
  · omega
theorem ps_new {l : List Nat} {f : Nat} (h : f ∉ l) : ps (l ++ [f]) f = (l.length : Int) := by
  rw [ps_in (by simp), List.idxOf_append, if_neg h]
  simp
theorem ps_old {l : List Nat} {f g : Nat} (h : g ≠ f) : ps (l ++ [f]) g = ps l g := by
  by_cases hg : g ∈ l
  · rw [ps_in hg, ps_in (by simp [hg]), List.idxOf_append, if_pos hg]
  · rw [ps_not hg, ps_not (by simp [hg, h])]
def gd (P : cr_P) (l : List Nat) (f : Nat) : Bool := decide (f ∉ l) && cr_fi P (ps (l ++ [f])) f
def sE (V : Nat → Int) (A : Nat → Int → Int) (V' : Nat → Int) (A' : Nat → Int → Int) : Prop := (∀ k, k ≠ 13 → k ≠ 15 → V' k = V k) ∧ ∀ j, j ≠ 12 → j ≠ 13 → A' j = A j
theorem sE.rf {V : Nat → Int} {A : Nat → Int → Int} : sE V A V A := ⟨fun _ _ _ => rfl, fun _ _ _ => rfl⟩
theorem sE.tr {V V1 V2 : Nat → Int} {A A1 A2 : Nat → Int → Int} (a : sE V A V1 A1) (b : sE V1 A1 V2 A2) : sE V A V2 A2 := ⟨fun k h1 h2 => (b.1 k h1 h2).trans (a.1 k h1 h2), fun j h1 h2 => (b.2 j h1 h2).trans (a.2 j h1 h2)⟩
theorem sE.au {V : Nat → Int} {A : Nat → Int → Int} {j : Nat} {i x : Int} (h : j = 12 ∨ j = 13) : sE V A V (au A j i x) := ⟨fun _ _ _ => rfl, fun k h1 h2 => au_nk (by omega)⟩
theorem sE.vu {V : Nat → Int} {A : Nat → Int → Int} {k : Nat} {x : Int} (h : k = 13 ∨ k = 15) : sE V A (va_up V k x) A := ⟨fun j h1 h2 => va_up_ne _ _ (by omega), fun _ _ _ => rfl⟩
theorem mS.se {V V' : Nat → Int} {A A' : Nat → Int → Int} {np : Nat} {Ps : Nat → cr_P} (S : mS V A np Ps) (e : sE V A V' A') : mS V' A' np Ps := by
  refine ⟨(e.1 0 (by decide) (by decide)).trans S.1, S.2.1, fun p hp => ?_⟩
  obtain ⟨g0, g1, g2, g3, g4, g5, g6, g7, g8, g9, g10, g11⟩ := S.2.2 p hp
  unfold mP
  rw [e.2 1 (by decide) (by decide), e.2 2 (by decide) (by decide), e.2 3 (by decide) (by decide), e.2 4 (by decide) (by decide), e.2 5 (by decide) (by decide), e.2 6 (by decide) (by decide), e.2 7 (by decide) (by decide), e.2 8 (by decide) (by decide), e.2 9 (by decide) (by decide), e.2 10 (by decide) (by decide), e.2 11 (by decide) (by decide)]
  exact ⟨g0, g1, g2, g3, g4, g5, g6, g7, g8, g9, g10, g11⟩
theorem mPl.se {V V' : Nat → Int} {A A' : Nat → Int → Int} {P : cr_P} (S : mPl A P) (e : sE V A V' A') : mPl A' P := fun c hc => by
  rw [e.2 14 (by decide) (by decide)]; exact S c hc
/-- the reference's search stands at the faces l -/
def nS (h : pz_H) (m : Nat) (V : Nat → Int) (A : Nat → Int → Int) (np : Nat) (Ps : Nat → cr_P) (p : Nat) (l : List Nat) : Prop := rM h m V A ∧ mS V A np Ps ∧ p < np ∧ V 12 = p ∧ V 15 = l.length ∧ mPl A (Ps p) ∧ (∀ f : Nat, f < 9 → A 13 f = ps l f) ∧ (∀ i : Nat, i < l.length → A 12 i = (l.getD i 0 : Nat)) ∧ l.Nodup ∧ (∀ f ∈ l, f < cr_n (Ps p)) ∧ l.length ≤ cr_n (Ps p)
section M9
variable {h : pz_H} {m np p : Nat} {V : Nat → Int} {A : Nat → Int → Int} {Ps : Nat → cr_P} {Q : Int32 → pz_H → Prop} {kk : Int32 → pz_H → Prop}
theorem m_find {l : List Nat} (hl : l.length < cr_n (Ps p)) : ∀ (k u f : Nat) (h : pz_H) (A : Nat → Int → Int), f + k = cr_n (Ps p) → k + 1 < u → nS h m V A np Ps p l →
    (∀ g, f ≤ g → g < cr_n (Ps p) → gd (Ps p) l g = true → (∀ q, f ≤ q → q < g → gd (Ps p) l q = false) → ∀ h' A', rM h' m V A' → (∀ q : Nat, q < 9 → A' 13 q = ps (l ++ [g]) q) → A' 12 = A 12 → sE V A V A' → Fr m (m + 23) h h' → B_X5_next_164 m (iI (cr_n (Ps p))) (iI g) (iI 1) kk Q h') →
    ((∀ q, f ≤ q → q < cr_n (Ps p) → gd (Ps p) l q = false) → ∀ h' A', nS h' m V A' np Ps p l → sE V A V A' → Fr m (m + 23) h h' → B_X5_next_164 m (iI (cr_n (Ps p))) (iI (cr_n (Ps p))) (iI 0) kk Q h') →
    L_X5_next_99 m (iI (cr_n (Ps p))) kk Q u (iI f) (iI 0) h := by
  intro k
  induction k with
  | zero =>
    intro u f h A hf hu N yes no
    obtain ⟨R, S, hp, hv, h15, hpl, h13, h12, hnd, hlt, hle⟩ := id N
    have hn := (S.2.2 p hp).1.n9
    obtain ⟨u, rfl⟩ : ∃ v, u = v + 1 := ⟨u - 1, by omega⟩
    unfold L_X5_next_99
    refine br_le (by omega) (by omega) (fun _ => ?_) (fun c => by omega)
    have e : f = cr_n (Ps p) := by omega
    rw [e]
    exact no (fun q h1 h2 => by omega) h A N sE.rf Fr.rf
  | succ k ih =>
    intro u f h A hf hu N yes no
    obtain ⟨R, S, hp, hv, h15, hpl, h13, h12, hnd, hlt, hle⟩ := id N
    have H := S.2.2 p hp
    have hn := H.1.n9
    have h30 := S.2.1
    obtain ⟨u, rfl⟩ : ∃ v, u = v + 1 := ⟨u - 1, by omega⟩
    have e1 : iI (f : Int) + (1 : Int32) = iI ((f + 1 : Nat) : Int) := by rw [iI_1, iI_add]; simp
    unfold L_X5_next_99 B_X5_next_148 B_X5_next_159
    refine br_le (by omega) (by omega) (fun c => by omega) (fun _ => ?_)
    refine br_tt rfl ?_
    refine rg_gA R rfl (rg_aI R (by decide) (by decide) rfl (by decide) ⟨by omega, by simp only [lM]; omega⟩ ?_)
    rw [h13 f (by omega)]
    have bnd := ps_B (l := l) (f := f)
    refine br_eq (a := ps l f) (b := -1) (by omega) (by omega) (fun c1 => ?_) (fun c1 => ?_)
    · have hfl : f ∉ l := ps_m1.mp c1
      refine rg_gA R rfl (rg_gI R rfl ?_)
      rw [h15]
      refine rg_sI R (by decide) (by decide) rfl (by decide) ⟨by omega, by simp only [lM]; omega⟩ fun h1 R1 f1 => ?_
      have s1 : sE V A V (au A 13 f (l.length : Int)) := sE.au (Or.inr rfl)
      have g13 : ∀ q : Nat, q < 9 → au A 13 f (l.length : Int) 13 q = ps (l ++ [f]) q := fun q hq => by
        by_cases e : q = f
        · subst e; rw [au_at, ps_new hfl]
        · rw [au_ne (by omega), ps_old e, h13 q hq]
      refine rg_o R1 (m_isFine (HH := ps (l ++ [f])) R1 ((S.se s1).2.2 p hp) (by omega) hv (hpl.se s1) (fun q hq => ⟨g13 q (by omega), by have := ps_B (l := l ++ [f]) (f := q); simp only [List.length_append, List.length_singleton] at this; omega⟩) (by omega) ?_)
      cases hfi : cr_fi (Ps p) (ps (l ++ [f])) f with
      | false =>
        refine br_tt rfl ?_
        refine rg_gA R1 rfl (rg_sI (z := -1) R1 (by decide) (by decide) rfl (by decide) ⟨by omega, by simp only [lM]; omega⟩ fun h2 R2 f2 => ?_)
        refine br_tt rfl ?_
        rw [e1]
        have s2 := s1.tr (sE.au (V := V) (A := au A 13 f (l.length : Int)) (j := 13) (i := (f : Int)) (x := -1) (Or.inr rfl))
        have hgf : gd (Ps p) l f = false := by unfold gd; rw [hfi]; simp
        refine ih u (f + 1) h2 _ (by omega) (by omega) ⟨R2, S.se s2, hp, hv, h15, hpl.se s2, fun q hq => ?_, fun i hi => ?_, hnd, hlt, hle⟩ (fun g a1 a2 a3 a4 h' A' b1 b2 b3 b4 b5 => ?_) (fun a1 h' A' b1 b2 b3 => ?_)
        · by_cases e : q = f
          · subst e; rw [au_at, ps_not hfl]
          · rw [au_ne (by omega), au_ne (by omega), h13 q hq]
        · rw [au_nk (by decide), au_nk (by decide)]; exact h12 i hi
        · refine yes g (by omega) a2 a3 (fun q c1 c2 => ?_) h' A' b1 b2 ?_ (s2.tr b4) (f1.tr (f2.tr b5))
          · by_cases e : q = f
            · subst e; exact hgf
            · exact a4 q (by omega) c2
          · rw [b3, au_nk (by decide), au_nk (by decide)]
        · refine no (fun q c1 c2 => ?_) h' A' b1 (s2.tr b2) (f1.tr (f2.tr b3))
          by_cases e : q = f
          · subst e; exact hgf
          · exact a1 q (by omega) c2
      | true =>
        refine br_ff (by decide) (br_ff (by decide) ?_)
        have e0 : iI (f : Int) + (0 : Int32) = iI (f : Int) := by rw [← iI_0, iI_add]; simp
        rw [e0]
        obtain ⟨u, rfl⟩ : ∃ v, u = v + 1 := ⟨u - 1, by omega⟩
        unfold L_X5_next_99
        refine br_le (by omega) (by omega) (fun c => by omega) (fun _ => br_ff (by decide) ?_)
        exact yes f (Nat.le_refl _) (by omega) (by unfold gd; rw [hfi, decide_eq_true hfl]; rfl) (fun q c1 c2 => by omega) h1 _ R1 g13 (au_nk (by decide)) s1 f1
    · have hfl : f ∈ l := Classical.byContradiction fun z => c1 (ps_not z)
      have hgf : gd (Ps p) l f = false := by unfold gd; rw [decide_eq_false (by simpa using hfl)]; rfl
      refine br_tt rfl ?_
      rw [e1]
      refine ih u (f + 1) h A (by omega) (by omega) N (fun g a1 a2 a3 a4 => yes g (by omega) a2 a3 (fun q c1 c2 => ?_)) (fun a1 => no (fun q c1 c2 => ?_))
      · by_cases e : q = f
        · subst e; exact hgf
        · exact a4 q (by omega) c2
      · by_cases e : q = f
        · subst e; exact hgf
        · exact a1 q (by omega) c2
end M9
