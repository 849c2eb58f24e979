/-! THE REFERENCE: forced, above -/
def fo (P : cr_P) (c : Nat) (a : Nat) (xs : List (List Nat)) : Nat := xs.foldl (fun a l => a ||| cr_mi P (ps l) c) a
theorem cr_mi12 (P : cr_P) (H : Nat → Int) (c : Nat) : cr_mi P H c = 1 ∨ cr_mi P H c = 2 := by unfold cr_mi; split <;> simp
theorem fo_3 (P : cr_P) (c : Nat) : ∀ xs, fo P c 3 xs = 3
  | [] => rfl
  | l :: xs => by
    show fo P c (3 ||| cr_mi P (ps l) c) xs = 3
    have : 3 ||| cr_mi P (ps l) c = 3 := by rcases cr_mi12 P (ps l) c with e | e <;> rw [e] <;> rfl
    rw [this]
    exact fo_3 P c xs
theorem fo_eq (P : cr_P) (c : Nat) : ∀ (xs : List (List Nat)) (a : Nat), a ≤ 3 → fo P c a xs = a ||| ((if xs.any (fun l => decide (cr_mi P (ps l) c = 1)) then 1 else 0) + (if xs.any (fun l => decide (cr_mi P (ps l) c = 2)) then 2 else 0))
  | [], a, _ => by simp [fo]
  | l :: xs, a, ha => by
    show fo P c (a ||| cr_mi P (ps l) c) xs = _
    have key : ∀ a, a ≤ 3 → ∀ x, x = 1 ∨ x = 2 → ∀ p q : Bool, a ||| x ≤ 3 ∧ (a ||| x) ||| ((if p then 1 else 0) + (if q then 2 else 0)) = a ||| ((if (decide (x = 1) || p) then 1 else 0) + (if (decide (x = 2) || q) then 2 else 0)) := by
      intro a ha x hx
      have : a = 0 ∨ a = 1 ∨ a = 2 ∨ a = 3 := by omega
      rcases this with e | e | e | e <;> rcases hx with f | f <;> subst e <;> subst f <;> decide
    rw [fo_eq P c xs _ (key a ha _ (cr_mi12 P (ps l) c) true true).1, List.any_cons, List.any_cons]
    exact (key a ha _ (cr_mi12 P (ps l) c) _ _).2
theorem nS.hh {h : pz_H} {m np p : Nat} {V : Nat → Int} {A : Nat → Int → Int} {Ps : Nat → cr_P} {l : List Nat} (N : nS h m V A np Ps p l) : ∀ f : Nat, f < cr_n (Ps p) → A 13 (f : Int) = ps l f ∧ iB (ps l f) := fun f hf => by
  obtain ⟨R, S, hp, hv, h15, hpl, g13, g12, hnd, hlt, hle⟩ := id N
  have hn := (S.2.2 p hp).1.n9
  have := ps_B (l := l) (f := f)
  exact ⟨g13 f (by omega), by omega⟩
section MF
variable {h : pz_H} {m np p : Nat} {V : Nat → Int} {A : Nat → Int → Int} {Ps : Nat → cr_P} {td : Option (Nat × List Nat)} {cl : List Nat} {st : List Int} {Q : Int32 → pz_H → Prop}
theorem m_forced_loop {c : Nat} (hc : c < cr_m (Ps p)) : ∀ (xs : List (List Nat)) (u a : Nat) (h : pz_H) (V : Nat → Int) (A : Nat → Int → Int), xs.length < u → a ≤ 3 → nR h m V A np Ps p xs → (∀ h' V' A', rM h' m V' A' → bE V A V' A' → Fr m (m + 23) h h' → Q (iI (fo (Ps p) c a xs)) h') → L_X5_forced_19 m (iI c) Q u (iI a) h := by
  intro xs
  induction xs with
  | nil =>
    intro u a h V A hu ha N hq
    obtain ⟨u, rfl⟩ : ∃ v, u = v + 1 := ⟨u - 1, by omega⟩
    unfold L_X5_forced_19 B_X5_forced_42
    have R : rM h m V A := by obtain ⟨l, N, -⟩ := N; exact N.1
    refine br_le (a := 3) (by omega) (by omega) (fun _ => hq h V A R bE.rf Fr.rf) (fun _ => ?_)
    exact rg_o R (m_next N (fun _ h' V' A' a1 a2 a3 => br_tt rfl (hq h' V' A' a1 a2 a3)) (fun l ys e => by cases e))
  | cons x xs ih =>
    intro u a h V A hu ha N hq
    obtain ⟨u, rfl⟩ : ∃ v, u = v + 1 := ⟨u - 1, by omega⟩
    unfold L_X5_forced_19 B_X5_forced_42
    have R : rM h m V A := by obtain ⟨l, N, -⟩ := N; exact N.1
    refine br_le (a := 3) (by omega) (by omega) (fun c3 => ?_) (fun _ => ?_)
    · have e : a = 3 := by omega
      have := hq h V A R bE.rf Fr.rf
      rw [e, fo_3] at this
      rw [e]; exact this
    · refine rg_o R (m_next N (fun e => by cases e) (fun l ys e h' V' A' a1 a2 a3 a4 a5 => br_ff (by decide) ?_))
      cases e
      obtain ⟨R1, S1, hp, hv, -⟩ := id a1
      have h30 := S1.2.1
      refine rg_o R1 (m_markIn R1 (S1.2.2 p hp) (by omega) hv a1.hh hc ?_)
      have hm := cr_mi12 (Ps p) (ps x) c
      have e2 : iI (a : Int) ||| iI (cr_mi (Ps p) (ps x) c : Int) = iI ((a ||| cr_mi (Ps p) (ps x) c : Nat) : Int) := by rw [iI_nat, iI_nat, iI_nat, nu_or]
      rw [e2]
      have h3 : a ||| cr_mi (Ps p) (ps x) c ≤ 3 := by
        have : a < 2 ^ 2 := by omega
        have h4 : cr_mi (Ps p) (ps x) c < 2 ^ 2 := by omega
        have := nu_lt_or this h4
        omega
      exact ih u _ h' V' A' (by simp at hu; omega) h3 a3 (fun h2 V2 A2 b1 b2 b3 => hq h2 V2 A2 b1 (a4.tr b2) (a5.tr b3))
theorem m_forced {z f : Int} (M : MR h m np Ps td cl st) (hz : iB z) (hf : iB f) (hq : ∀ h', MR h' m np Ps td cl st → Fr m (m + 23) h h' → Q (iI (s_forced np Ps z f)) h') : F_X5_forced m (iI z) (iI f) h Q := by
  obtain ⟨O, V, A, R, W⟩ := id M
  have S := W.1
  unfold F_X5_forced
  unfold s_forced at hq
  refine rg_o R (m_hasCrease R S hz hf ?_)
  cases c : vC np Ps z f with
  | false => exact br_tt rfl (by have := hq h M Fr.rf; rw [c] at this; exact this)
  | true =>
    obtain ⟨p, g, hp, hg, rfl, rfl⟩ := vC_t c
    rw [c] at hq
    refine br_ff (by decide) (rg_o R (m_begin R S hp fun h1 V1 A1 N1 e13 b1 f1 => ?_))
    refine ⟨(mOrd (Ps p)).length + 1, m_forced_loop (p := p) hg (mOrd (Ps p)) _ 0 h1 V1 A1 (by omega) (by omega) ⟨[], N1, Or.inl ⟨e13, rfl, rfl⟩⟩ (fun h2 V2 A2 a1 a2 a3 => ?_)⟩
    have := hq h2 (MR.of O W a1 (b1.tr a2).xe) (f1.tr a3)
    rw [fo_eq _ _ _ _ (by omega), Nat.zero_or]
    simp only [if_true, Int.toNat_natCast] at this
    rw [Int.natCast_add]
    split at this <;> split at this <;> (rename_i q1 q2; simp only [q1, q2]; exact this)
theorem m_above_end {u d : Bool} (hq : Q (iI (s_ab u d)) h) : B_X5_above_109 (iI (bI u)) (iI (bI d)) Q h := by
  unfold B_X5_above_109 B_X5_above_123 B_X5_above_142
  cases u <;> cases d
  · exact br_tt rfl (br_tt rfl (br_tt rfl hq))
  · exact br_tt rfl (br_tt rfl (br_ff (by decide) hq))
  · exact br_ff (by decide) (br_tt rfl (br_ff (by decide) hq))
  · exact br_ff (by decide) (br_ff (by decide) hq)
theorem m_above_loop {f g : Nat} (hf : f < cr_n (Ps p)) (hg : g < cr_n (Ps p)) : ∀ (xs : List (List Nat)) (u : Nat) (a b : Bool) (h : pz_H) (V : Nat → Int) (A : Nat → Int → Int), xs.length < u → nR h m V A np Ps p xs → (∀ h' V' A', rM h' m V' A' → bE V A V' A' → Fr m (m + 23) h h' → Q (iI (s_ab (a || xs.any (fun l => decide (ps l g < ps l f))) (b || xs.any (fun l => decide (ps l f < ps l g))))) h') → L_X5_above_39 m (iI f) (iI g) Q u (iI (bI a)) (iI (bI b)) h := by
  intro xs
  induction xs with
  | nil =>
    intro u a b h V A hu N hq
    obtain ⟨u, rfl⟩ : ∃ v, u = v + 1 := ⟨u - 1, by omega⟩
    unfold L_X5_above_39
    have R : rM h m V A := by obtain ⟨l, N, -⟩ := N; exact N.1
    have go : B_X5_above_49 m (iI f) (iI g) (iI (bI a)) (iI (bI b)) (fun z0 z1 hz => L_X5_above_39 m (iI f) (iI g) Q u z0 z1 hz) Q h := by
      unfold B_X5_above_49
      refine rg_o R (m_next N (fun _ h' V' A' a1 a2 a3 => br_tt rfl (m_above_end ?_)) (fun l ys e => by cases e))
      have := hq h' V' A' a1 a2 a3
      simpa using this
    refine br_by (fun _ => go) (fun c1 => br_by (fun _ => go) (fun c2 => m_above_end ?_))
    have := hq h V A R bE.rf Fr.rf
    simpa using this
  | cons x xs ih =>
    intro u a b h V A hu N hq
    obtain ⟨u, rfl⟩ : ∃ v, u = v + 1 := ⟨u - 1, by omega⟩
    unfold L_X5_above_39
    have R : rM h m V A := by obtain ⟨l, N, -⟩ := N; exact N.1
    have go : B_X5_above_49 m (iI f) (iI g) (iI (bI a)) (iI (bI b)) (fun z0 z1 hz => L_X5_above_39 m (iI f) (iI g) Q u z0 z1 hz) Q h := by
      unfold B_X5_above_49
      refine rg_o R (m_next N (fun e => by cases e) (fun l ys e h' V' A' a1 a2 a3 a4 a5 => br_ff (by decide) ?_))
      cases e
      obtain ⟨R1, S1, hp, hv, -⟩ := id a1
      have hn := (S1.2.2 p hp).1.n9
      obtain ⟨e1, b1⟩ := a1.hh f hf
      obtain ⟨e2, b2⟩ := a1.hh g hg
      unfold B_X5_above_78 B_X5_above_103
      simp (disch := omega) only [mE R1, e1, e2, ebr_le, lits, iI_add, iI_sub, iI_mul, iI_neg]
      have fin : ∀ a' b' : Bool, a' = (a || decide (ps x g < ps x f)) → b' = (b || decide (ps x f < ps x g)) → L_X5_above_39 m (iI f) (iI g) Q u (iI (bI a')) (iI (bI b')) h' := fun a' b' ea eb => by
        refine ih u a' b' h' V' A' (by simp at hu; omega) a3 (fun h2 V2 A2 d1 d2 d3 => ?_)
        have := hq h2 V2 A2 d1 (a4.tr d2) (a5.tr d3)
        rw [List.any_cons, List.any_cons] at this
        rw [ea, eb, Bool.or_assoc, Bool.or_assoc]
        exact this
      have ob : ∀ p q : Bool, iI (bI p) ||| iI (bI q) = iI (bI (p || q)) := by decide
      by_cases c1 : ps x f ≤ ps x g
      · by_cases c2 : ps x g ≤ ps x f
        · rw [if_pos c1, if_pos c2]
          have o1 := ob a false
          have o2 := ob b false
          simp only [bI, if_false, Bool.false_eq_true] at o1 o2
          have := fin (a || false) (b || false) (by rw [decide_eq_false (by omega)]) (by rw [decide_eq_false (by omega)])
          simp only [bI] at this ⊢
          rw [o1, o2]; exact this
        · rw [if_pos c1, if_neg c2]
          have o1 := ob a false
          have o2 := ob b true
          simp only [bI, if_false, Bool.false_eq_true, if_true] at o1 o2
          have := fin (a || false) (b || true) (by rw [decide_eq_false (by omega)]) (by rw [decide_eq_true (by omega)])
          simp only [bI] at this ⊢
          rw [o1, o2]; exact this
      · rw [if_neg c1, if_pos (by omega)]
        have o1 := ob a true
        have o2 := ob b false
        simp only [bI, if_false, Bool.false_eq_true, if_true] at o1 o2
        have := fin (a || true) (b || false) (by rw [decide_eq_true (by omega)]) (by rw [decide_eq_false (by omega)])
        simp only [bI] at this ⊢
        rw [o1, o2]; exact this
    refine br_by (fun _ => go) (fun c1 => br_by (fun _ => go) (fun c2 => m_above_end ?_))
    have ca : a = true := by cases a with
      | true => rfl
      | false => exact absurd rfl c1
    have cb : b = true := by cases b with
      | true => rfl
      | false => exact absurd rfl c2
    have := hq h V A R bE.rf Fr.rf
    rw [ca, cb] at this ⊢
    simpa using this
theorem m_above {z f g : Int} (M : MR h m np Ps td cl st) (hz : iB z) (hf : iB f) (hg : iB g) (hq : ∀ h', MR h' m np Ps td cl st → Fr m (m + 23) h h' → Q (iI (s_above np Ps z f g)) h') : F_X5_above m (iI z) (iI f) (iI g) h Q := by
  obtain ⟨O, V, A, R, W⟩ := id M
  have S := W.1
  unfold F_X5_above B_X5_above_18
  unfold s_above at hq
  refine rg_o R (m_hasFace R S hz hf ?_)
  cases c : vF np Ps z f with
  | false => exact br_tt rfl (by have := hq h M Fr.rf; rw [c] at this; exact this)
  | true =>
    refine br_ff (by decide) (rg_o R (m_hasFace R S hz hg ?_))
    cases c2 : vF np Ps z g with
    | false => exact br_tt rfl (by have := hq h M Fr.rf; rw [c, c2] at this; exact this)
    | true =>
      rw [c, c2] at hq
      refine br_ff (by decide) (br_eq hf hg (fun e => ?_) (fun e => ?_))
      · have := hq h M Fr.rf
        simp only [Bool.and_self, if_true] at this
        rw [if_pos e] at this
        exact this
      · obtain ⟨p, f, hp, hf', rfl, rfl⟩ := vF_t c
        obtain ⟨p', g, hp', hg', e1, rfl⟩ := vF_t c2
        obtain rfl : p = p' := by omega
        refine rg_o R (m_begin R S hp fun h1 V1 A1 N1 e13 b1 f1 => ?_)
        refine ⟨(mOrd (Ps p)).length + 1, m_above_loop (p := p) hf' hg' (mOrd (Ps p)) _ false false h1 V1 A1 (by omega) ⟨[], N1, Or.inl ⟨e13, rfl, rfl⟩⟩ (fun h2 V2 A2 a1 a2 a3 => ?_)⟩
        have := hq h2 (MR.of O W a1 (b1.tr a2).xe) (f1.tr a3)
        simp only [Bool.and_self, if_true, Int.toNat_natCast] at this
        rw [if_neg e] at this
        simp only [Bool.false_or]
        exact this
end MF
