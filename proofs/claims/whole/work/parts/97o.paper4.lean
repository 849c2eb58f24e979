/-! THE CLASS: joinFaces, a new Paper, allLines, creasesOn -/
def sF (V : Nat → Int) (A : Nat → Int → Int) (k r c : Nat) : Prop := V 0 = k ∧ V 1 = r ∧ V 2 = c ∧ V 3 = (r * c : Nat) ∧ (∀ f : Nat, f < r * c → A 1 f = (f / c : Nat)) ∧ ∀ f : Nat, f < r * c → A 2 f = (f % c : Nat)
theorem sF.up {V : Nat → Int} {A A' : Nat → Int → Int} {k r c : Nat} {x : Int} (S : sF V A k r c) (e : ∀ j, j ≠ 5 → j ≠ 6 → j ≠ 7 → j ≠ 12 → A' j = A j) : sF (va_up V 4 x) A' k r c := by
  unfold sF at S ⊢
  rw [va_up_ne _ _ (by decide), va_up_ne _ _ (by decide), va_up_ne _ _ (by decide), va_up_ne _ _ (by decide), e 1 (by decide) (by decide) (by decide) (by decide), e 2 (by decide) (by decide) (by decide) (by decide)]
  exact S
theorem t6_h' : ∀ r, r < 10 → ∀ c, c < 10 → r * c ≤ 9 → ∀ f, f < 9 → (!(decide (f < r * c) && decide (f % c + 1 < c)) || decide (f + 1 < r * c)) = true := by decide +kernel
theorem t6_v' : ∀ r, r < 10 → ∀ c, c < 10 → r * c ≤ 9 → ∀ f, f < 9 → (f < r * c ∧ f / c + 1 < r → f + c < r * c) := by decide +kernel
theorem t6_h (r : Nat) (h1 : r < 10) (c : Nat) (h2 : c < 10) (h3 : r * c ≤ 9) (f : Nat) (h4 : f < 9) (h5 : f < r * c) (h6 : f % c + 1 < c) : f + 1 < r * c := by
  have := t6_h' r h1 c h2 h3 f h4
  rw [decide_eq_true h5, decide_eq_true h6] at this
  simpa using this
theorem t6_v (r : Nat) (h1 : r < 10) (c : Nat) (h2 : c < 10) (h3 : r * c ≤ 9) (f : Nat) (h4 : f < 9) (h5 : f < r * c) (h6 : f / c + 1 < r) : f + c < r * c := t6_v' r h1 c h2 h3 f h4 ⟨h5, h6⟩
theorem t6_l : ∀ r, r < 10 → ∀ c, c < 10 → r * c ≤ 9 → ∀ f, f < 9 → f < r * c → ((List.range (r * c)).filterMap (hl3 r c)).length + ((List.range (f + 1)).filterMap (vl3 r c)).length ≤ 12 := by decide +kernel
theorem t6_c : ∀ c, c < 10 → ((List.range (1 * c)).filterMap (hl3 1 c)).length + ((List.range (1 * c)).filterMap (vl3 1 c)).length < 12 := by decide +kernel
section C4
variable {h : pz_H} {a : Nat} {V : Nat → Int} {A : Nat → Int → Int} {P : cr_P} {Q : Int32 → pz_H → Prop} {K : pz_H → Prop}
theorem c_jf47 {kd r c : Nat} (sh : cr_shape kd r c) : ∀ (k u f : Nat) (h : pz_H) (V : Nat → Int) (A : Nat → Int → Int), f + k = r * c → k < u → rP h a V A → sF V A kd r c → jn V A ((List.range (r * c)).filterMap (hl3 r c) ++ (List.range f).filterMap (vl3 r c)) →
    (∀ h' V' A', rP h' a V' A' → sF V' A' kd r c → jn V' A' (cs3 kd r c) → (∀ j, j ≠ 5 → j ≠ 6 → j ≠ 7 → j ≠ 12 → A' j = A j) → (∀ q, q ≠ 4 → V' q = V q) → Fr a (a + 13) h h' → K h') → L_X1_joinFaces_47 a K u (iI f) h := by
  intro k
  obtain ⟨hk2, r1, c1, rc, hk, hk1⟩ := id sh
  obtain ⟨b1, b2⟩ := cr_small sh
  induction k with
  | zero =>
    intro u f h V A hf hu R S J hq
    obtain ⟨s0, s1, s2, s3, s4, s5⟩ := id S
    obtain ⟨u, rfl⟩ : ∃ v, u = v + 1 := ⟨u - 1, by omega⟩
    unfold L_X1_joinFaces_47 B_X1_joinFaces_125
    have ef : f = r * c := by omega
    subst ef
    simp (disch := omega) only [pE R, s3, s0, s2, ebr_le, ebr_eq, lits, iI_add, iI_sub, iI_mul, iI_neg]
    rw [if_pos (by omega)]
    by_cases w : kd = 1
    · rw [if_pos (by omega)]
      have hr : r = 1 := hk (by omega)
      have hc2 := hk1 w
      subst hr
      have el := t6_c c b2
      rw [← List.length_append] at el
      rw [show ((1 * c : Nat) : Int) - 1 = ((1 * c - 1 : Nat) : Int) by omega, show (c : Int) - 1 = ((c - 1 : Nat) : Int) by omega]
      refine c_join (x := 1 * c - 1) (y := 0) (l := c - 1) R J el (by omega) (by omega) (by omega) (fun h' A' a1 a2 a3 a4 => hq h' _ A' a1 (S.up a3) ?_ a3 (fun q hq => va_up_ne _ _ hq) a4)
      have e : cs3 kd 1 c = (List.range (1 * c)).filterMap (hl3 1 c) ++ (List.range (1 * c)).filterMap (vl3 1 c) ++ [(1 * c - 1, 0, c - 1)] := by unfold cs3; rw [if_pos w, List.append_assoc]
      rw [e]
      exact a2
    · rw [if_neg (by omega)]
      have e : cs3 kd r c = (List.range (r * c)).filterMap (hl3 r c) ++ (List.range (r * c)).filterMap (vl3 r c) := by unfold cs3; rw [if_neg w, List.append_nil]
      rw [← e] at J
      exact hq h V A R S J (fun _ _ _ _ _ => rfl) (fun _ _ => rfl) Fr.rf
  | succ k ih =>
    intro u f h V A hf hu R S J hq
    obtain ⟨s0, s1, s2, s3, s4, s5⟩ := id S
    have hf' : f < r * c := by omega
    have l1 : f / c ≤ f := Nat.div_le_self _ _
    have p1 := Int.natCast_nonneg (f / c)
    obtain ⟨u, rfl⟩ : ∃ v, u = v + 1 := ⟨u - 1, by omega⟩
    unfold L_X1_joinFaces_47 B_X1_joinFaces_94
    simp (disch := omega) only [pE R, s3, s4 f hf', s1, s2, ebr_le, iI_s, lits, iI_add, iI_sub, iI_mul, iI_neg]
    rw [if_neg (by omega)]
    have ev : (List.range (f + 1)).filterMap (vl3 r c) = (List.range f).filterMap (vl3 r c) ++ (vl3 r c f).toList := by
      rw [List.range_succ, List.filterMap_append]
      cases e : vl3 r c f <;> simp [e]
    by_cases w : f / c + 1 < r
    · have hlen := t6_l r b1 c b2 rc f (by omega) hf'
      have hfc := t6_v r b1 c b2 rc f (by omega) hf' w
      have evs : vl3 r c f = some (f, f + c, c - 1 + f / c) := by unfold vl3; rw [if_pos w]
      rw [ev, evs, List.length_append] at hlen
      rw [if_neg (by omega)]
      rw [show (f : Int) + (c : Int) = ((f + c : Nat) : Int) from rfl, show (c : Int) - 1 + ((f / c : Nat) : Int) = ((c - 1 + f / c : Nat) : Int) by omega]
      refine c_join (x := f) (y := f + c) (l := c - 1 + f / c) R J (by rw [List.length_append]; simp at hlen; omega) (by omega) (by omega) (by omega) (fun h' A' a1 a2 a3 a4 => ?_)
      refine ih u (f + 1) h' _ A' (by omega) (by omega) a1 (S.up a3) ?_ (fun h2 V2 A2 d1 d2 d3 d4 d5 d6 => hq h2 V2 A2 d1 d2 d3 (fun j q1 q2 q3 q4 => (d4 j q1 q2 q3 q4).trans (a3 j q1 q2 q3 q4)) (fun q hq => (d5 q hq).trans (va_up_ne _ _ hq)) (a4.tr d6))
      rw [ev, evs, ← List.append_assoc]
      exact a2
    · have evs : vl3 r c f = none := by unfold vl3; rw [if_neg w]
      rw [if_pos (by omega)]
      refine ih u (f + 1) h V A (by omega) (by omega) R S ?_ hq
      rw [ev, evs]
      simpa using J
theorem c_jf2 {kd r c : Nat} (sh : cr_shape kd r c) : ∀ (k u f : Nat) (h : pz_H) (V : Nat → Int) (A : Nat → Int → Int), f + k = r * c → k < u → rP h a V A → sF V A kd r c → jn V A ((List.range f).filterMap (hl3 r c)) →
    (∀ h' V' A', rP h' a V' A' → sF V' A' kd r c → jn V' A' (cs3 kd r c) → (∀ j, j ≠ 5 → j ≠ 6 → j ≠ 7 → j ≠ 12 → A' j = A j) → (∀ q, q ≠ 4 → V' q = V q) → Fr a (a + 13) h h' → K h') → L_X1_joinFaces_2 a K u (iI f) h := by
  intro k
  obtain ⟨hk2, r1, c1, rc, hk, hk1⟩ := id sh
  obtain ⟨b1, b2⟩ := cr_small sh
  induction k with
  | zero =>
    intro u f h V A hf hu R S J hq
    obtain ⟨s0, s1, s2, s3, s4, s5⟩ := id S
    obtain ⟨u, rfl⟩ : ∃ v, u = v + 1 := ⟨u - 1, by omega⟩
    unfold L_X1_joinFaces_2
    have ef : f = r * c := by omega
    subst ef
    simp (disch := omega) only [pE R, s3, ebr_le, lits, iI_add, iI_sub, iI_mul, iI_neg]
    rw [if_pos (by omega)]
    exact ⟨20, c_jf47 sh (r * c) 20 0 h V A (by omega) (by omega) R S (by simpa using J) hq⟩
  | succ k ih =>
    intro u f h V A hf hu R S J hq
    obtain ⟨s0, s1, s2, s3, s4, s5⟩ := id S
    have hf' : f < r * c := by omega
    have l1 : f % c ≤ f := Nat.mod_le _ _
    have p1 := Int.natCast_nonneg (f % c)
    obtain ⟨u, rfl⟩ : ∃ v, u = v + 1 := ⟨u - 1, by omega⟩
    unfold L_X1_joinFaces_2 B_X1_joinFaces_39
    simp (disch := omega) only [pE R, s3, s5 f hf', s2, ebr_le, iI_s, lits, iI_add, iI_sub, iI_mul, iI_neg]
    rw [if_neg (by omega)]
    have ev : (List.range (f + 1)).filterMap (hl3 r c) = (List.range f).filterMap (hl3 r c) ++ (hl3 r c f).toList := by
      rw [List.range_succ, List.filterMap_append]
      cases e : hl3 r c f <;> simp [e]
    by_cases w : f % c + 1 < c
    · have hfc := t6_h r b1 c b2 rc f (by omega) hf' w
      have evs : hl3 r c f = some (f, f + 1, f % c) := by unfold hl3; rw [if_pos w]
      have hlen : ((List.range f).filterMap (hl3 r c)).length ≤ f := by
        have := List.length_filterMap_le (hl3 r c) (List.range f)
        rw [List.length_range] at this
        exact this
      rw [if_neg (by omega)]
      refine c_join (x := f) (y := f + 1) (l := f % c) R J (by omega) (by omega) (by omega) (by omega) (fun h' A' a1 a2 a3 a4 => ?_)
      refine ih u (f + 1) h' _ A' (by omega) (by omega) a1 (S.up a3) ?_ (fun h2 V2 A2 d1 d2 d3 d4 d5 d6 => hq h2 V2 A2 d1 d2 d3 (fun j q1 q2 q3 q4 => (d4 j q1 q2 q3 q4).trans (a3 j q1 q2 q3 q4)) (fun q hq => (d5 q hq).trans (va_up_ne _ _ hq)) (a4.tr d6))
      rw [ev, evs]
      exact a2
    · have evs : hl3 r c f = none := by unfold hl3; rw [if_neg w]
      rw [if_pos (by omega)]
      refine ih u (f + 1) h V A (by omega) (by omega) R S ?_ hq
      rw [ev, evs]
      simpa using J
theorem c_in155 {r c i : Nat} {kk : Int32 → Int32 → pz_H → Prop} (hi : i < r) (c1 : 1 ≤ c) (rc : r * c ≤ 9) : ∀ (k u j : Nat) (h : pz_H) (A : Nat → Int → Int), j + k = c → k < u → rP h a V A → (∀ f : Nat, f < i * c + j → A 1 f = (f / c : Nat)) → (∀ f : Nat, f < i * c + j → A 2 f = (f % c : Nat)) →
    (∀ h' A', rP h' a V A' → (∀ f : Nat, f < (i + 1) * c → A' 1 f = (f / c : Nat)) → (∀ f : Nat, f < (i + 1) * c → A' 2 f = (f % c : Nat)) → (∀ j, j ≠ 1 → j ≠ 2 → A' j = A j) → Fr a (a + 13) h h' → kk (iI (((i + 1) * c : Nat) : Int)) (iI ((i + 1 : Nat) : Int)) h') → L_X1_init_155 a (iI r) (iI c) (iI i) kk K u (iI ((i * c + j : Nat) : Int)) (iI j) h := by
  intro k
  have hic : (i + 1) * c ≤ r * c := Nat.mul_le_mul_right _ hi
  have hs : (i + 1) * c = i * c + c := Nat.succ_mul _ _
  induction k with
  | zero =>
    intro u j h A hj hu R q1 q2 hq
    obtain ⟨u, rfl⟩ : ∃ v, u = v + 1 := ⟨u - 1, by omega⟩
    unfold L_X1_init_155 B_X1_init_195
    have ei : iI (i : Int) + (1 : Int32) = iI ((i + 1 : Nat) : Int) := by rw [iI_1, iI_add]; rfl
    rw [ei]
    refine br_le (by omega) (by omega) (fun _ => ?_) (fun w => by omega)
    have e : i * c + j = (i + 1) * c := by omega
    rw [e] at q1 q2 ⊢
    exact hq h A R q1 q2 (fun _ _ _ => rfl) Fr.rf
  | succ k ih =>
    intro u j h A hj hu R q1 q2 hq
    obtain ⟨u, rfl⟩ : ∃ v, u = v + 1 := ⟨u - 1, by omega⟩
    unfold L_X1_init_155
    refine br_le (by omega) (by omega) (fun w => by omega) (fun _ => ?_)
    refine br_le (a := 9) (by omega) (by omega) (fun w => by omega) (fun _ => ?_)
    simp (disch := omega) only [pE R, lits, iI_add, iI_sub, iI_mul, iI_neg]
    refine rg_sI R (by decide) (by decide) rfl (by decide) ⟨by omega, by simp only [lP]; omega⟩ fun h1 R1 f1 => ?_
    simp (disch := omega) only [pE R1, lits, iI_add, iI_sub, iI_mul, iI_neg]
    refine rg_sI R1 (by decide) (by decide) rfl (by decide) ⟨by omega, by simp only [lP]; omega⟩ fun h2 R2 f2 => ?_
    have e1 : (((i * c + j : Nat) : Int) + 1) = ((i * c + (j + 1) : Nat) : Int) := by omega
    rw [e1, iI_s]
    have d1 : (i * c + j) / c = i := by rw [Nat.mul_comm, Nat.mul_add_div (by omega), Nat.div_eq_of_lt (by omega), Nat.add_zero]
    have d2 : (i * c + j) % c = j := by rw [Nat.mul_comm, Nat.mul_add_mod, Nat.mod_eq_of_lt (by omega)]
    refine ih u (j + 1) h2 _ (by omega) (by omega) R2 (fun f hf => ?_) (fun f hf => ?_) (fun h' A' a1 a2 a3 a4 a5 => hq h' A' a1 a2 a3 (fun q b1 b2 => by rw [a4 q b1 b2, au_nk b2, au_nk b1]) (f1.tr (f2.tr a5)))
    · rw [au_nk (by decide)]
      by_cases e : f = i * c + j
      · rw [e, au_at, d1]
      · rw [au_ne (by omega)]; exact q1 f (by omega)
    · by_cases e : f = i * c + j
      · rw [e, au_at, d2]
      · rw [au_ne (by omega), au_nk (by decide)]; exact q2 f (by omega)
theorem c_in146 {kd r c : Nat} (sh : cr_shape kd r c) (hK : ∀ h' A', rP h' a V A' → (∀ f : Nat, f < r * c → A' 1 f = (f / c : Nat)) → (∀ f : Nat, f < r * c → A' 2 f = (f % c : Nat)) → (∀ j, j ≠ 1 → j ≠ 2 → A' j = A j) → Fr a (a + 13) h h' → (F_X1_joinFaces a h' (fun h1 => (pq_o h1 a 1 (F_X1_measure a h1 (fun h2 => (K h2))))))) : ∀ (k u i : Nat) (h0 : pz_H) (A0 : Nat → Int → Int), i + k = r → k < u → rP h0 a V A0 → (∀ f : Nat, f < i * c → A0 1 f = (f / c : Nat)) → (∀ f : Nat, f < i * c → A0 2 f = (f % c : Nat)) → (∀ j, j ≠ 1 → j ≠ 2 → A0 j = A j) → Fr a (a + 13) h h0 → L_X1_init_146 a (iI r) (iI c) K u (iI ((i * c : Nat) : Int)) (iI i) h0 := by
  intro k
  obtain ⟨hk2, r1, c1, rc, hk, hk1⟩ := id sh
  obtain ⟨b1, b2⟩ := cr_small sh
  induction k with
  | zero =>
    intro u i h0 A0 hi hu R q1 q2 e0 fr
    obtain ⟨u, rfl⟩ : ∃ v, u = v + 1 := ⟨u - 1, by omega⟩
    unfold L_X1_init_146
    have ei : i = r := by omega
    subst ei
    refine br_le (by omega) (by omega) (fun _ => ?_) (fun w => by omega)
    rw [(pE R).1]
    exact hK h0 A0 R q1 q2 e0 fr
  | succ k ih =>
    intro u i h0 A0 hi hu R q1 q2 e0 fr
    obtain ⟨u, rfl⟩ : ∃ v, u = v + 1 := ⟨u - 1, by omega⟩
    unfold L_X1_init_146
    refine br_le (by omega) (by omega) (fun w => by omega) (fun _ => ?_)
    exact ⟨20, c_in155 (j := 0) (by omega) c1 rc c 20 h0 A0 (by omega) (by omega) R q1 q2 (fun h' A' a1 a2 a3 a4 a5 => ih u (i + 1) h' A' (by omega) (by omega) a1 a2 a3 (fun q w1 w2 => (a4 q w1 w2).trans (e0 q w1 w2)) (fr.tr a5))⟩
end C4
