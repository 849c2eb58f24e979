/-! THE REFERENCE: judge, layer, turned, forced, above -/
def s_forced (np : Nat) (Ps : Nat → cr_P) (z c : Int) : Int := if vC np Ps z c then ((if (mOrd (Ps z.toNat)).any (fun l => decide (cr_mi (Ps z.toNat) (ps l) c.toNat = 1)) then 1 else 0) + (if (mOrd (Ps z.toNat)).any (fun l => decide (cr_mi (Ps z.toNat) (ps l) c.toNat = 2)) then 2 else 0)) else -101
def s_ab (up down : Bool) : Int := if up && down then 0 else if up then 1 else if down then -1 else 2
def s_above (np : Nat) (Ps : Nat → cr_P) (z f g : Int) : Int := if vF np Ps z f && vF np Ps z g then (if f = g then 2 else s_ab ((mOrd (Ps z.toNat)).any (fun l => decide (ps l g.toNat < ps l f.toNat))) ((mOrd (Ps z.toNat)).any (fun l => decide (ps l f.toNat < ps l g.toNat)))) else -101
theorem nd_len : ∀ (n : Nat) (l : List Nat), l.Nodup → (∀ f ∈ l, f < n) → l.length ≤ n
  | 0, l, _, h => by
    cases l with
    | nil => exact Nat.le_refl _
    | cons a l => exact absurd (h a (by simp)) (by omega)
  | n + 1, l, hd, h => by
    by_cases hm : n ∈ l
    · have h1 := nd_len n (l.erase n) (hd.erase n) (fun f hf => by
        have := (hd.mem_erase_iff).mp hf
        have := h f this.2
        omega)
      rw [List.length_erase_of_mem hm] at h1
      omega
    · have h1 := nd_len n l hd (fun f hf => by
        have h2 := h f hf
        have : f ≠ n := fun e => hm (e ▸ hf)
        omega)
      omega
/-- a row of n faces without repeats holds each of them -/
theorem mem_of_full {l : List Nat} {n : Nat} (hnd : l.Nodup) (hlt : ∀ f ∈ l, f < n) (hl : l.length = n) (f : Nat) (hf : f < n) : f ∈ l := by
  by_cases hm : f ∈ l
  · exact hm
  · have := nd_len n (f :: l) (List.nodup_cons.mpr ⟨hm, hnd⟩) (fun g hg => by
      rcases List.mem_cons.mp hg with e | e
      · rw [e]; exact hf
      · exact hlt g e)
    simp at this
    omega
section ME
variable {h : pz_H} {m np p : Nat} {V : Nat → Int} {A : Nat → Int → Int} {Ps : Nat → cr_P} {td : Option (Nat × List Nat)} {cl : List Nat} {st : List Int} {Q : Int32 → pz_H → Prop}
theorem m_judge_loop {l : List Nat} : ∀ (k u i : Nat) (h : pz_H) (A : Nat → Int → Int), i + k = cr_n (Ps p) → k < u → rM h m V A → mP A p (Ps p) → p < 30 → l.length = cr_n (Ps p) → (∀ i : Nat, i < l.length → A 12 i = (l.getD i 0 : Nat)) → (∀ j : Nat, j < i → A 15 j = (l.getD j 0 : Nat)) → (∀ h' A', rM h' m V A' → (∀ j, j ≠ 15 → A' j = A j) → (∀ j : Nat, j < l.length → A' 15 j = (l.getD j 0 : Nat)) → Fr m (m + 23) h h' → Q 1 h') → L_X5_judge_32 m (iI p) Q u (iI i) h := by
  intro k
  induction k with
  | zero =>
    intro u i h A hi hu R H hp hl g12 g15 hq
    have hn := H.1.n9
    obtain ⟨u, rfl⟩ : ∃ v, u = v + 1 := ⟨u - 1, by omega⟩
    unfold L_X5_judge_32
    simp (disch := omega) only [mE R, H.2.2.1, ebr_le, lits, iI_add, iI_sub, iI_mul, iI_neg]
    rw [if_pos (by omega)]
    exact hq h A R (fun _ _ => rfl) (fun j hj => g15 j (by omega)) Fr.rf
  | succ k ih =>
    intro u i h A hi hu R H hp hl g12 g15 hq
    have hn := H.1.n9
    obtain ⟨u, rfl⟩ : ∃ v, u = v + 1 := ⟨u - 1, by omega⟩
    unfold L_X5_judge_32
    simp (disch := omega) only [mE R, H.2.2.1, ebr_le, g12 i (by omega), lits, iI_add, iI_sub, iI_mul, iI_neg]
    rw [if_neg (by omega)]
    refine rg_sI R (by decide) (by decide) rfl (by decide) ⟨by omega, by simp only [lM]; omega⟩ fun h1 R1 f1 => ?_
    rw [iI_s]
    have x1 : bE V A V (au A 12 0 0) := bE.au (Or.inl rfl)
    have H1 : mP (au A 15 i (l.getD i 0 : Nat)) p (Ps p) := by
      obtain ⟨g0, g1, g2, g3, g4, g5, g6, g7, g8, g9, g10, g11⟩ := H
      unfold mP
      simp (disch := omega) only [au_nk]
      exact ⟨g0, g1, g2, g3, g4, g5, g6, g7, g8, g9, g10, g11⟩
    refine ih u (i + 1) h1 _ (by omega) (by omega) R1 H1 hp hl (fun j hj => ?_) (fun j hj => ?_) (fun h' A' a1 a2 a3 a4 => hq h' A' a1 (fun j hj => (a2 j hj).trans (au_nk hj)) a3 (f1.tr a4))
    · rw [au_nk (by decide)]; exact g12 j hj
    · by_cases e : j = i
      · subst e; exact au_at
      · rw [au_ne (by omega)]; exact g15 j (by omega)
theorem m_judge {z : Int} (M : MR h m np Ps td cl st) (hz : iB z) (hq : ∀ h', MR h' m np Ps (s_judgeT np Ps td z) cl st → Fr m (m + 23) h h' → Q (iI (s_judge np Ps z)) h') : F_X5_judge m (iI z) h Q := by
  obtain ⟨O, V, A, R, W⟩ := id M
  have S := W.1
  unfold F_X5_judge
  unfold s_judge s_judgeT at hq
  refine rg_o R (m_has R S.1 S.2.1 hz ?_)
  change pq_br (iI (bI (vN np z)) = 0) _ _
  cases c : vN np z with
  | false => exact br_tt rfl (by rw [c] at hq; exact hq h M Fr.rf)
  | true =>
    obtain ⟨p, hp, rfl⟩ := vN_t c
    rw [c] at hq
    simp only [if_true, Int.toNat_natCast] at hq
    have hn := (S.2.2 p hp).1.n9
    have h30 := S.2.1
    refine br_ff (by decide) (rg_o R (m_begin R S hp fun h1 V1 A1 N1 e13 b1 f1 => ?_))
    refine rg_o N1.1 (m_next ⟨[], N1, Or.inl ⟨e13, rfl, rfl⟩⟩ (fun e h2 V2 A2 a1 a2 a3 => br_tt rfl ?_) (fun l ys e h2 V2 A2 a1 a2 a3 a4 a5 => br_ff (by decide) ?_))
    · rw [if_pos e, if_pos e] at hq
      exact hq h2 (MR.of O W a1 (b1.tr a2).xe) (f1.tr a3)
    · have ne : ¬ mOrd (Ps p) = [] := by rw [e]; simp
      rw [if_neg ne, if_neg ne] at hq
      obtain ⟨R2, S2, -, hv, h15, hpl, g13, g12, hnd, hlt, hle⟩ := id a1
      refine rg_p (V' := va_up V2 18 (p : Int)) R2 rfl (Nat.le_of_ble_eq_true rfl) fun h3 R3 f3 => ?_
      refine ⟨cr_n (Ps p) + 1, m_judge_loop (l := l) (cr_n (Ps p)) _ 0 h3 A2 (by omega) (by omega) R3 (S2.2.2 p hp) (by omega) a2 g12 (fun j hj => by omega) (fun h4 A4 c1 c2 c3 c4 => ?_)⟩
      refine hq h4 ⟨⟨?_, O.2⟩, _, _, c1, ?_, ?_, ?_, ?_⟩ (f1.tr (a5.tr (f3.tr c4)))
      · refine ⟨hp, ?_, ?_, ?_⟩
        · rw [e]; exact a2
        · rw [e]; exact hnd
        · rw [e]; exact hlt
      · have x4 : bE V A (va_up V2 12 (V2 12)) A4 → True := fun _ => trivial
        refine ⟨?_, S.2.1, fun q hq => ?_⟩
        · rw [va_up_ne _ _ (by decide)]; exact S2.1
        · have := S2.2.2 q hq
          unfold mP at this ⊢
          simp (disch := omega) only [c2]
          exact this
      · refine ⟨va_up_self _ _ _, ?_⟩
        rw [e]; exact c3
      · have := (W.xe (b1.tr a4).xe).2.2.1
        unfold mC at this ⊢
        rw [va_up_ne _ _ (by decide), c2 19 (by decide)]; exact this
      · have := (W.xe (b1.tr a4).xe).2.2.2
        unfold mL at this ⊢
        rw [va_up_ne _ _ (by decide), c2 22 (by decide)]; exact this
theorem m_layer {z : Int} (M : MR h m np Ps td cl st) (hz : iB z) (hq : Q (iI (s_layer Ps td z)) h) : F_X5_layer m (iI z) h Q := by
  obtain ⟨O, V, A, R, W⟩ := id M
  have S := W.1
  have T := W.2.1
  have T2 := O.1
  unfold F_X5_layer B_X5_layer_30 B_X5_layer_41
  cases td with
  | none =>
    have T : V 18 = -1 := T
    simp (disch := omega) only [mE R, T, ebr_T, lits, iI_add, iI_sub, iI_mul, iI_neg]
    exact hq
  | some t =>
    obtain ⟨p, l⟩ := t
    obtain ⟨T1, T3⟩ := T
    obtain ⟨hp, hl, hnd, hlt⟩ := T2
    have H := S.2.2 p hp
    have h30 := S.2.1
    have hn := H.1.n9
    unfold s_layer at hq
    simp (disch := omega) only [mE R, T1, H.2.2.1, ebr_eq, ebr_lt, lits, iI_add, iI_sub, iI_mul, iI_neg]
    rw [if_neg (by omega)]
    by_cases c1 : z < 0
    · rw [if_pos c1]; simp only at hq; rw [if_neg (by omega)] at hq; exact hq
    · rw [if_neg c1]
      by_cases c2 : z < cr_n (Ps p)
      · rw [if_pos c2]; simp only at hq; rw [if_pos (by omega)] at hq
        obtain ⟨k, rfl⟩ : ∃ k : Nat, z = k := ⟨z.toNat, by omega⟩
        rw [T3 k (by omega)]
        exact hq
      · rw [if_neg c2]; simp only at hq; rw [if_neg (by omega)] at hq; exact hq
theorem m_turned_loop {l : List Nat} {c : Nat} : ∀ (k u i : Nat) (h : pz_H) (A : Nat → Int → Int), i + k = cr_n (Ps p) → k < u → rM h m V A → mP A p (Ps p) → p < 30 → V 12 = p → c < cr_m (Ps p) → l.length = cr_n (Ps p) → l.Nodup → (∀ f ∈ l, f < cr_n (Ps p)) → (∀ i : Nat, i < l.length → A 15 i = (l.getD i 0 : Nat)) → (∀ j : Nat, j < i → A 13 (l.getD j 0 : Nat) = j) → (∀ h' A', rM h' m V A' → (∀ j, j ≠ 13 → A' j = A j) → Fr m (m + 23) h h' → Q (iI (cr_mi (Ps p) (ps l) c)) h') → L_X5_turned_36 m (iI c) Q u (iI i) h := by
  intro k
  induction k with
  | zero =>
    intro u i h A hi hu R H hp hv hc hl hnd hlt g15 g13 hq
    have hn := H.1.n9
    obtain ⟨u, rfl⟩ : ∃ v, u = v + 1 := ⟨u - 1, by omega⟩
    unfold L_X5_turned_36
    simp (disch := omega) only [mE R, hv, H.2.2.1, ebr_le, lits, iI_add, iI_sub, iI_mul, iI_neg]
    rw [if_pos (by omega)]
    refine m_markIn (HH := ps l) R H hp hv (fun f hf => ?_) hc (hq h A R (fun _ _ => rfl) Fr.rf)
    have hm : f ∈ l := mem_of_full hnd hlt hl f hf
    have hx : l.idxOf f < l.length := List.idxOf_lt_length_of_mem hm
    have := g13 (l.idxOf f) (by omega)
    rw [List.getD_eq_getElem?_getD, List.getElem?_eq_getElem hx, Option.getD_some, List.getElem_idxOf] at this
    rw [ps_in hm]
    exact ⟨this, by omega⟩
  | succ k ih =>
    intro u i h A hi hu R H hp hv hc hl hnd hlt g15 g13 hq
    have hn := H.1.n9
    obtain ⟨u, rfl⟩ : ∃ v, u = v + 1 := ⟨u - 1, by omega⟩
    unfold L_X5_turned_36
    have hi' : i < l.length := by omega
    have b := hlt _ (List.getElem_mem hi')
    have eg : l.getD i 0 = l[i] := by rw [List.getD_eq_getElem?_getD, List.getElem?_eq_getElem hi']; rfl
    simp (disch := omega) only [mE R, hv, H.2.2.1, ebr_le, g15 i hi', eg, lits, iI_add, iI_sub, iI_mul, iI_neg]
    rw [if_neg (by omega)]
    refine rg_sI R (by decide) (by decide) rfl (by decide) ⟨by omega, by simp only [lM]; omega⟩ fun h1 R1 f1 => ?_
    rw [iI_s]
    refine ih u (i + 1) h1 _ (by omega) (by omega) R1 (H.be (V := V) (V' := V) (bE.au (Or.inr (Or.inl rfl)))) hp hv hc hl hnd hlt (fun j hj => ?_) (fun j hj => ?_) (fun h' A' a1 a2 a3 => hq h' A' a1 (fun j hj => (a2 j hj).trans (au_nk hj)) (f1.tr a3))
    · rw [au_nk (by decide)]; exact g15 j hj
    · by_cases e : j = i
      · subst e; rw [eg]; exact au_at
      · have hj' : j < l.length := by omega
        have ej : l.getD j 0 = l[j] := by rw [List.getD_eq_getElem?_getD, List.getElem?_eq_getElem hj']; rfl
        have ne : l[j] ≠ l[i] := fun z => e ((List.getElem_inj hnd).mp z)
        rw [ej, au_ne (by omega), ← ej]
        exact g13 j (by omega)
theorem m_turned {z : Int} (M : MR h m np Ps td cl st) (hz : iB z) (hq : ∀ h', MR h' m np Ps td cl st → Fr m (m + 23) h h' → Q (iI (s_turned Ps td z)) h') : F_X5_turned m (iI z) h Q := by
  obtain ⟨O, V, A, R, W⟩ := id M
  have S := W.1
  have T := W.2.1
  have T2 := O.1
  unfold F_X5_turned
  unfold s_turned at hq
  cases td with
  | none =>
    have T : V 18 = -1 := T
    simp (disch := omega) only [mE R, T, ebr_T, lits, iI_add, iI_sub, iI_mul, iI_neg]
    exact hq h M Fr.rf
  | some t =>
    obtain ⟨p, l⟩ := t
    obtain ⟨T1, T3⟩ := T
    obtain ⟨hp, hl, hnd, hlt⟩ := T2
    have H := S.2.2 p hp
    have h30 := S.2.1
    have hn := H.1.n9
    simp (disch := omega) only [mE R, T1, ebr_eq, lits, iI_add, iI_sub, iI_mul, iI_neg]
    rw [if_neg (by omega)]
    refine m_hasCrease R S (by omega) hz ?_
    have e : vC np Ps (p : Int) z = decide (0 ≤ z ∧ z < cr_m (Ps p)) := by unfold vC; rw [vN_n hp, Bool.true_and]; rfl
    rw [e]
    by_cases c : 0 ≤ z ∧ z < cr_m (Ps p)
    · rw [decide_eq_true c]
      obtain ⟨k, rfl⟩ : ∃ k : Nat, z = k := ⟨z.toNat, by omega⟩
      refine br_ff (by decide) ?_
      simp (disch := omega) only [mE R, T1, lits, iI_add, iI_sub, iI_mul, iI_neg]
      refine rg_p (V' := va_up V 12 (p : Int)) R rfl (Nat.le_of_ble_eq_true rfl) fun h1 R1 f1 => ?_
      refine ⟨cr_n (Ps p) + 1, m_turned_loop (l := l) (p := p) (cr_n (Ps p)) _ 0 h1 A (by omega) (by omega) R1 H (by omega) (va_up_self _ _ _) (by omega) hl hnd hlt T3 (fun j hj => by omega) (fun h2 A2 a1 a2 a3 => ?_)⟩
      have x1 : xE V A (va_up V 12 (p : Int)) A2 := ⟨fun k h1 _ _ => va_up_ne _ _ h1, fun j hj => a2 j (by omega)⟩
      have := hq h2 (MR.of O W a1 x1) (f1.tr a3)
      simp only at this
      rw [if_pos c] at this
      exact this
    · rw [decide_eq_false c]
      refine br_tt rfl ?_
      have := hq h M Fr.rf
      simp only at this
      rw [if_neg c] at this
      exact this
end ME
