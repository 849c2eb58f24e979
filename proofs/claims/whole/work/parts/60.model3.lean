/-! THE REFERENCE: a new paper -/
theorem mP.other {A : Nat → Int → Int} {q j : Nat} {i x : Int} {P : cr_P} (H : mP A q P) (hj : ((j ≤ 5 ∨ j = 10 ∨ j = 11) ∧ i ≠ q) ∨ (j = 6 ∧ (i < 9 * q ∨ 9 * q + 9 ≤ i)) ∨ ((j = 7 ∨ j = 8 ∨ j = 9) ∧ (i < 12 * q ∨ 12 * q + 12 ≤ i)) ∨ 12 ≤ j) : mP (au A j i x) q P := by
  have hm := H.1.m12
  obtain ⟨g0, g1, g2, g3, g4, g5, g6, g7, g8, g9, g10, g11⟩ := H
  refine ⟨g0, ?_, ?_, ?_, ?_, ?_, fun f hf => ?_, fun c hc => ?_, fun c hc => ?_, fun c hc => ?_, ?_, ?_⟩
  · rw [au_if, if_neg (by omega)]; exact g1
  · rw [au_if, if_neg (by omega)]; exact g2
  · rw [au_if, if_neg (by omega)]; exact g3
  · rw [au_if, if_neg (by omega)]; exact g4
  · rw [au_if, if_neg (by omega)]; exact g5
  · rw [au_if, if_neg (by omega)]; exact g6 f hf
  · rw [au_if, if_neg (by omega)]; exact g7 c hc
  · rw [au_if, if_neg (by omega)]; exact g8 c hc
  · rw [au_if, if_neg (by omega)]; exact g9 c hc
  · rw [au_if, if_neg (by omega)]; exact g10
  · rw [au_if, if_neg (by omega)]; exact g11
/-- paper p's cells may have changed, no other's -/
def mK (p : Nat) (A A' : Nat → Int → Int) : Prop := (∀ (q : Nat) (P : cr_P), q ≠ p → mP A q P → mP A' q P) ∧ ∀ j, 12 ≤ j → A' j = A j
theorem mK.rf {p : Nat} {A : Nat → Int → Int} : mK p A A := ⟨fun _ _ _ h => h, fun _ _ => rfl⟩
theorem mK.tr {p : Nat} {A A1 A2 : Nat → Int → Int} (a : mK p A A1) (b : mK p A1 A2) : mK p A A2 := ⟨fun q P hq h => b.1 q P hq (a.1 q P hq h), fun j hj => (b.2 j hj).trans (a.2 j hj)⟩
theorem mK.au {p j : Nat} {A : Nat → Int → Int} {i x : Int} (hj : ((j ≤ 5 ∨ j = 10 ∨ j = 11) ∧ i = p) ∨ (j = 6 ∧ (9 * p ≤ i ∧ i < 9 * p + 9)) ∨ ((j = 7 ∨ j = 8 ∨ j = 9) ∧ (12 * p ≤ i ∧ i < 12 * p + 12))) : mK p A (au A j i x) := ⟨fun q P hq h => h.other (by omega), fun k hk => au_nk (by omega)⟩
/-- a paper that is being made: its creases so far are L -/
def mQ (A : Nat → Int → Int) (p k r c : Nat) (L : List (Nat × Nat)) : Prop := A 1 p = k ∧ A 2 p = r * c ∧ A 3 p = r ∧ A 4 p = c ∧ A 5 p = L.length ∧ (∀ f : Nat, f < 9 → A 6 (9 * p + f) = 1) ∧ (∀ d : Nat, d < L.length → A 7 (12 * p + d) = (L.getD d (0, 0)).1 ∧ A 8 (12 * p + d) = (L.getD d (0, 0)).2 ∧ A 9 (12 * p + d) = 0) ∧ A 10 p = 0 ∧ A 11 p = 0
theorem mQ.P {A : Nat → Int → Int} {p k r c : Nat} (H : mQ A p k r c (cr_cs k r c)) (hs : cr_shape k r c) : mP A p (k, r, c, fun _ => 1, fun _ => 0, 0, 0) := by
  obtain ⟨g1, g2, g3, g4, g5, g6, g7, g8, g9⟩ := H
  refine ⟨⟨hs, fun _ => ⟨Nat.le_refl 1, show 1 ≤ 1000 by decide⟩, fun _ => Nat.zero_le 2, Nat.pow_pos (by decide), Nat.pow_pos (by decide), fun _ _ => rfl⟩, g1, ?_, g3, g4, g5, fun f hf => ?_, fun d hd => (g7 d hd).1, fun d hd => (g7 d hd).2.1, fun d hd => ?_, g8, g9⟩
  · rw [g2]; exact (Int.natCast_mul r c).symm
  · exact g6 f hf
  · exact (g7 d hd).2.2
section M3
variable {h : pz_H} {m : Nat} {V : Nat → Int} {A : Nat → Int → Int}
theorem m_addC {p k r c : Nat} {L : List (Nat × Nat)} {x y : Nat} {Q : pz_H → Prop} (R : rM h m V A) (hp : p < 30) (H : mQ A p k r c L) (hl : L.length < 12) (hq : ∀ h' A', rM h' m V A' → mQ A' p k r c (L ++ [(x, y)]) → mK p A A' → Fr m (m + 23) h h' → Q h') : F_X5_addCrease m (iI p) (iI (x : Int)) (iI (y : Int)) h Q := by
  obtain ⟨g1, g2, g3, g4, g5, g6, g7, g8, g9⟩ := H
  refine m_addCrease R hp hl g5 fun h' R' f' => hq h' _ R' ?_ ?_ f'
  · refine ⟨?_, ?_, ?_, ?_, ?_, fun f hf => ?_, fun d hd => ?_, ?_, ?_⟩
    · simp only [au_if]; simp; exact g1
    · simp only [au_if]; simp; exact g2
    · simp only [au_if]; simp; exact g3
    · simp only [au_if]; simp; exact g4
    · simp only [au_if]; simp
    · simp only [au_if]; simp; exact g6 f hf
    · have hd' : d ≤ L.length := by simp at hd; omega
      by_cases e : d = L.length
      · subst e
        simp only [au_if]
        simp
      · have h2 : d < L.length := by omega
        have e2 : (L ++ [(x, y)]).getD d (0, 0) = L.getD d (0, 0) := by
          simp only [List.getD_eq_getElem?_getD, List.getElem?_append_left h2]
        rw [e2]
        obtain ⟨a1, a2, a3⟩ := g7 d h2
        have e3 : ¬ ((12 * (p : Int) + d) = 12 * p + (L.length : Int)) := by omega
        simp only [au_if]
        simp [e3, a1, a2, a3]
    · simp only [au_if]; simp; exact g8
    · simp only [au_if]; simp; exact g9
  · exact (mK.au (by omega)).tr ((mK.au (by omega)).tr ((mK.au (by omega)).tr (mK.au (by omega))))
theorem m_add_loop {p k n : Nat} {Q : Int32 → pz_H → Prop} (hp : p < 30) (hV : V 0 = p) : ∀ (d u i : Nat) (h : pz_H) (A : Nat → Int → Int), i + d = 9 → d < u → rM h m V A → A 1 p = k → A 2 p = n → A 3 p = 1 → A 4 p = n → A 5 p = 0 → (∀ f : Nat, f < i → A 6 (9 * p + f) = 1) → A 10 p = 0 → A 11 p = 0 →
    (∀ h' A', rM h' m (va_up V 0 (p + 1)) A' → mQ A' p k 1 n [] → mK p A A' → Fr m (m + 23) h h' → Q (iI p) h') → L_X5_add_57 m (iI p) Q u (iI i) h := by
  intro d
  induction d with
  | zero =>
    intro u i h A hi hu R g1 g2 g3 g4 g5 g6 g10 g11 hq
    obtain ⟨u, rfl⟩ : ∃ v, u = v + 1 := ⟨u - 1, by omega⟩
    unfold L_X5_add_57
    refine br_le (a := 9) (by omega) (by omega) (fun c => ?_) (fun c => by omega)
    refine rg_gI R rfl ?_
    rw [hV, iI_1, iI_add]
    refine rg_p (V' := va_up V 0 (p + 1)) R rfl (Nat.le_of_ble_eq_true rfl) fun h1 R1 f1 => ?_
    exact hq h1 A R1 ⟨g1, by rw [g2]; simp, g3, g4, g5, fun f hf => g6 f (by omega), fun d hd => by simp at hd, g10, g11⟩ mK.rf f1
  | succ d ih =>
    intro u i h A hi hu R g1 g2 g3 g4 g5 g6 g10 g11 hq
    obtain ⟨u, rfl⟩ : ∃ v, u = v + 1 := ⟨u - 1, by omega⟩
    unfold L_X5_add_57
    refine br_le (a := 9) (by omega) (by omega) (fun c => by omega) (fun c => ?_)
    simp only [iI_lit, iI_mul, iI_add]
    refine rg_gA R rfl (rg_sI R (by decide) (by decide) rfl (by decide) ⟨by omega, by simp only [lM]; omega⟩ fun h1 R1 f1 => ?_)
    have e : ((i : Int) + OfNat.ofNat 1) = ((i + 1 : Nat) : Int) := by simp
    rw [e]
    refine ih u (i + 1) h1 _ (by omega) (by omega) R1 ?_ ?_ ?_ ?_ ?_ ?_ ?_ ?_ (fun h' A' R' q' k' f' => hq h' A' R' q' ((mK.au (by omega)).tr k') (f1.tr f'))
    · rw [au_nk (by decide)]; exact g1
    · rw [au_nk (by decide)]; exact g2
    · rw [au_nk (by decide)]; exact g3
    · rw [au_nk (by decide)]; exact g4
    · rw [au_nk (by decide)]; exact g5
    · intro f hf
      by_cases e2 : f = i
      · subst e2; rw [au_at]
      · rw [au_ne (by omega)]; exact g6 f (by omega)
    · rw [au_nk (by decide)]; exact g10
    · rw [au_nk (by decide)]; exact g11
theorem m_add {p k n : Nat} {Q : Int32 → pz_H → Prop} (R : rM h m V A) (hp : p < 30) (hV : V 0 = p) (hq : ∀ h' A', rM h' m (va_up V 0 (p + 1)) A' → mQ A' p k 1 n [] → mK p A A' → Fr m (m + 23) h h' → Q (iI p) h') : F_X5_add m (iI (k : Int)) (iI (n : Int)) h Q := by
  unfold F_X5_add
  refine rg_gI R rfl ?_
  rw [hV]
  refine rg_gA R rfl (rg_sI R (by decide) (by decide) rfl (by decide) ⟨by omega, by simp only [lM]; omega⟩ fun h1 R1 f1 => ?_)
  refine rg_gA R1 rfl (rg_sI R1 (by decide) (by decide) rfl (by decide) ⟨by omega, by simp only [lM]; omega⟩ fun h2 R2 f2 => ?_)
  refine rg_gA R2 rfl (rg_sI (z := 1) R2 (by decide) (by decide) rfl (by decide) ⟨by omega, by simp only [lM]; omega⟩ fun h3 R3 f3 => ?_)
  refine rg_gA R3 rfl (rg_sI R3 (by decide) (by decide) rfl (by decide) ⟨by omega, by simp only [lM]; omega⟩ fun h4 R4 f4 => ?_)
  refine rg_gA R4 rfl (rg_sI (z := 0) R4 (by decide) (by decide) rfl (by decide) ⟨by omega, by simp only [lM]; omega⟩ fun h5 R5 f5 => ?_)
  refine rg_gA R5 rfl (rg_sI (z := 0) R5 (by decide) (by decide) rfl (by decide) ⟨by omega, by simp only [lM]; omega⟩ fun h6 R6 f6 => ?_)
  refine rg_gA R6 rfl (rg_sI (z := 0) R6 (by decide) (by decide) rfl (by decide) ⟨by omega, by simp only [lM]; omega⟩ fun h7 R7 f7 => ?_)
  refine ⟨20, m_add_loop hp hV 9 20 0 h7 _ (by omega) (by omega) R7 ?_ ?_ ?_ ?_ ?_ (fun f hf => by omega) ?_ ?_ fun h' A' R' q' k' f' => hq h' A' R' q' (((mK.au (by omega)).tr ((mK.au (by omega)).tr ((mK.au (by omega)).tr ((mK.au (by omega)).tr ((mK.au (by omega)).tr ((mK.au (by omega)).tr (mK.au (by omega)))))))).tr k') (f1.tr (f2.tr (f3.tr (f4.tr (f5.tr (f6.tr (f7.tr f')))))))⟩ <;> simp [au_if]
end M3
