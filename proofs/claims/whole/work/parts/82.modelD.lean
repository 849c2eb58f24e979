/-! THE REFERENCE's whole state, and its calls: number, judge, layer, turned, orders, order -/
def jI (z : Int) : Int64 := Int64.ofInt z
theorem jI_add (a b : Int) : jI a + jI b = jI (a + b) := (Int64.ofInt_add a b).symm
theorem jI_mul (a b : Int) : jI a * jI b = jI (a * b) := (Int64.ofInt_mul a b).symm
theorem jI_of {z : Int} (h : iB z) : Int32.toInt64 (iI z) = jI z := by
  have h1 : Int32.minValue.toInt = -2147483648 := by decide
  have h2 : Int32.maxValue.toInt = 2147483647 := by decide
  exact Int32.toInt64_ofInt (by omega) (by omega)
def num (l : List Nat) : Nat := l.foldr (fun f v => 10 * v + f) 0
/-- all scratch may differ -/
def xE (V : Nat → Int) (A : Nat → Int → Int) (V' : Nat → Int) (A' : Nat → Int → Int) : Prop := (∀ k, k ≠ 12 → k ≠ 13 → k ≠ 15 → V' k = V k) ∧ ∀ j, (j ≤ 11 ∨ j = 15 ∨ j = 19 ∨ j = 22) → A' j = A j
theorem bE.xe {V V' : Nat → Int} {A A' : Nat → Int → Int} (e : bE V A V' A') : xE V A V' A' := ⟨e.1, fun j h => e.2 j (by omega) (by omega) (by omega)⟩
theorem xE.tr {V V1 V2 : Nat → Int} {A A1 A2 : Nat → Int → Int} (a : xE V A V1 A1) (b : xE V1 A1 V2 A2) : xE V A V2 A2 := ⟨fun k h1 h2 h3 => (b.1 k h1 h2 h3).trans (a.1 k h1 h2 h3), fun j h => (b.2 j h).trans (a.2 j h)⟩
theorem xE.rf {V : Nat → Int} {A : Nat → Int → Int} : xE V A V A := ⟨fun _ _ _ _ => rfl, fun _ _ => rfl⟩
theorem xE.au {V : Nat → Int} {A : Nat → Int → Int} {j : Nat} {i x : Int} (h : ¬ (j ≤ 11 ∨ j = 15 ∨ j = 19 ∨ j = 22)) : xE V A V (au A j i x) := ⟨fun _ _ _ _ => rfl, fun k hk => au_nk (by omega)⟩
theorem mP.xe {V V' : Nat → Int} {A A' : Nat → Int → Int} {p : Nat} {P : cr_P} (H : mP A p P) (e : xE V A V' A') : mP A' p P := by
  obtain ⟨g0, g1, g2, g3, g4, g5, g6, g7, g8, g9, g10, g11⟩ := H
  unfold mP
  rw [e.2 1 (by decide), e.2 2 (by decide), e.2 3 (by decide), e.2 4 (by decide), e.2 5 (by decide), e.2 6 (by decide), e.2 7 (by decide), e.2 8 (by decide), e.2 9 (by decide), e.2 10 (by decide), e.2 11 (by decide)]
  exact ⟨g0, g1, g2, g3, g4, g5, g6, g7, g8, g9, g10, g11⟩
theorem mS.xe {V V' : Nat → Int} {A A' : Nat → Int → Int} {np : Nat} {Ps : Nat → cr_P} (S : mS V A np Ps) (e : xE V A V' A') : mS V' A' np Ps := ⟨(e.1 0 (by decide) (by decide) (by decide)).trans S.1, S.2.1, fun p hp => (S.2.2 p hp).xe e⟩
def tdOk (np : Nat) (Ps : Nat → cr_P) (td : Option (Nat × List Nat)) : Prop := match td with
  | none => True
  | some (p, l) => p < np ∧ l.length = cr_n (Ps p) ∧ l.Nodup ∧ ∀ f ∈ l, f < cr_n (Ps p)
def mT (V : Nat → Int) (A : Nat → Int → Int) (td : Option (Nat × List Nat)) : Prop := match td with
  | none => V 18 = -1
  | some (p, l) => V 18 = p ∧ ∀ i : Nat, i < l.length → A 15 i = (l.getD i 0 : Nat)
def mC (V : Nat → Int) (A : Nat → Int → Int) (cl : List Nat) : Prop := V 24 = cl.length ∧ ∀ i : Nat, i < cl.length → A 19 i = (cl.getD i 0 : Nat)
def mL (V : Nat → Int) (A : Nat → Int → Int) (st : List Int) : Prop := V 28 = st.length ∧ ∀ i : Nat, i < st.length → A 22 i = st.getD i 0
/-- the state between two calls: np papers Ps, the order told td, the clash cl, the steps st -/
def okS (np : Nat) (Ps : Nat → cr_P) (td : Option (Nat × List Nat)) (cl : List Nat) (st : List Int) : Prop := tdOk np Ps td ∧ cl.length ≤ 12 ∧ st.length ≤ 8
def mW (V : Nat → Int) (A : Nat → Int → Int) (np : Nat) (Ps : Nat → cr_P) (td : Option (Nat × List Nat)) (cl : List Nat) (st : List Int) : Prop := mS V A np Ps ∧ mT V A td ∧ mC V A cl ∧ mL V A st
def MR (h : pz_H) (m : Nat) (np : Nat) (Ps : Nat → cr_P) (td : Option (Nat × List Nat)) (cl : List Nat) (st : List Int) : Prop := okS np Ps td cl st ∧ ∃ V A, rM h m V A ∧ mW V A np Ps td cl st
theorem mW.xe {V V' : Nat → Int} {A A' : Nat → Int → Int} {np : Nat} {Ps : Nat → cr_P} {td : Option (Nat × List Nat)} {cl : List Nat} {st : List Int} (W : mW V A np Ps td cl st) (e : xE V A V' A') : mW V' A' np Ps td cl st := by
  refine ⟨W.1.xe e, ?_, ?_, ?_⟩
  · have := W.2.1
    unfold mT at this ⊢
    rw [e.1 18 (by decide) (by decide) (by decide), e.2 15 (by decide)]; exact this
  · have := W.2.2.1
    unfold mC at this ⊢
    rw [e.1 24 (by decide) (by decide) (by decide), e.2 19 (by decide)]; exact this
  · have := W.2.2.2
    unfold mL at this ⊢
    rw [e.1 28 (by decide) (by decide) (by decide), e.2 22 (by decide)]; exact this
theorem MR.of {h : pz_H} {m np : Nat} {V V' : Nat → Int} {A A' : Nat → Int → Int} {Ps : Nat → cr_P} {td : Option (Nat × List Nat)} {cl : List Nat} {st : List Int} (O : okS np Ps td cl st) (W : mW V A np Ps td cl st) (R : rM h m V' A') (e : xE V A V' A') : MR h m np Ps td cl st := ⟨O, V', A', R, W.xe e⟩
def s_orders (np : Nat) (Ps : Nat → cr_P) (z : Int) : Int := if vN np z then (mOrd (Ps z.toNat)).length else -101
def s_judge (np : Nat) (Ps : Nat → cr_P) (z : Int) : Int := if vN np z then (if mOrd (Ps z.toNat) = [] then 0 else 1) else -101
def s_judgeT (np : Nat) (Ps : Nat → cr_P) (td : Option (Nat × List Nat)) (z : Int) : Option (Nat × List Nat) := if vN np z then (if mOrd (Ps z.toNat) = [] then td else some (z.toNat, (mOrd (Ps z.toNat)).headD [])) else td
def s_layer (Ps : Nat → cr_P) (td : Option (Nat × List Nat)) (z : Int) : Int := match td with
  | none => -103
  | some (p, l) => if 0 ≤ z ∧ z < cr_n (Ps p) then (l.getD z.toNat 0 : Nat) else -102
def s_turned (Ps : Nat → cr_P) (td : Option (Nat × List Nat)) (z : Int) : Int := match td with
  | none => -103
  | some (p, l) => if 0 ≤ z ∧ z < cr_m (Ps p) then (cr_mi (Ps p) (ps l) z.toNat : Nat) else -101
def s_order (np : Nat) (Ps : Nat → cr_P) (z k : Int) : Int := if vN np z then (if 0 ≤ k ∧ k < (mOrd (Ps z.toNat)).length then (num ((mOrd (Ps z.toNat)).getD k.toNat []) : Nat) else -102) else -101
theorem num_cons (f : Nat) (l : List Nat) : num (f :: l) = 10 * num l + f := rfl
theorem vN_n {np p : Nat} (h : p < np) : vN np (p : Int) = true := by unfold vN; exact decide_eq_true (by omega)
section MD
variable {h : pz_H} {m np p : Nat} {V : Nat → Int} {A : Nat → Int → Int} {Ps : Nat → cr_P} {td : Option (Nat × List Nat)} {cl : List Nat} {st : List Int}
theorem m_number {l : List Nat} {Q : Int64 → pz_H → Prop} (N : nS h m V A np Ps p l) (hl : l.length = cr_n (Ps p)) (hq : Q (jI (num l)) h) : F_X5_number m h Q := by
  obtain ⟨R, S, hp, hv, h15, hpl, g13, g12, hnd, hlt, hle⟩ := id N
  have H := S.2.2 p hp
  have h30 := S.2.1
  have hn := H.1.n9
  have loop : ∀ k u : Nat, k ≤ l.length → k < u → L_X5_number_14 m Q u (jI (num (l.drop k))) (iI ((k : Int) - 1)) h := by
    intro k
    induction k with
    | zero =>
      intro u hk hu
      obtain ⟨u, rfl⟩ : ∃ v, u = v + 1 := ⟨u - 1, by omega⟩
      unfold L_X5_number_14
      exact br_tt (by decide) hq
    | succ k ih =>
      intro u hk hu
      obtain ⟨u, rfl⟩ : ∃ v, u = v + 1 := ⟨u - 1, by omega⟩
      unfold L_X5_number_14
      have e : ((k + 1 : Nat) : Int) - 1 = k := by omega
      rw [e]
      have hk' : k < l.length := by omega
      have b := hlt _ (List.getElem_mem hk')
      have eg : l.getD k 0 = l[k] := by rw [List.getD_eq_getElem?_getD, List.getElem?_eq_getElem hk']; rfl
      simp (disch := omega) only [mE R, ebr_lt, g12 k hk', eg, lits, iI_add, iI_sub, iI_mul, iI_neg]
      rw [if_neg (by omega), jI_of (by omega)]
      have e2 : (10 : Int64) * jI (num (l.drop (k + 1))) + jI (l[k] : Nat) = jI (num (l.drop k)) := by
        rw [show (10 : Int64) = jI 10 from rfl, jI_mul, jI_add, List.drop_eq_getElem_cons hk', num_cons]
        congr 1
      rw [e2]
      exact ih u (by omega) (by omega)
  unfold F_X5_number
  simp (disch := omega) only [mE R, hv, H.2.2.1, lits, iI_add, iI_sub, iI_mul, iI_neg]
  refine ⟨cr_n (Ps p) + 1, ?_⟩
  have := loop (cr_n (Ps p)) (cr_n (Ps p) + 1) (by omega) (by omega)
  rw [← hl, List.drop_length] at this
  rw [← hl]
  exact this
theorem m_orders_loop {Q : Int32 → pz_H → Prop} : ∀ (xs : List (List Nat)) (u : Nat) (i : Int) (h : pz_H) (V : Nat → Int) (A : Nat → Int → Int), xs.length < u → nR h m V A np Ps p xs → (∀ h' V' A', rM h' m V' A' → bE V A V' A' → Fr m (m + 23) h h' → Q (iI (i + xs.length)) h') → L_X5_orders_18 m Q u (iI i) h := by
  intro xs
  induction xs with
  | nil =>
    intro u i h V A hu N hq
    obtain ⟨u, rfl⟩ : ∃ v, u = v + 1 := ⟨u - 1, by omega⟩
    unfold L_X5_orders_18
    have R : rM h m V A := by obtain ⟨l, N, -⟩ := N; exact N.1
    refine rg_o R (m_next N (fun _ h' V' A' a1 a2 a3 => br_tt rfl ?_) (fun l ys e => by cases e))
    have := hq h' V' A' a1 a2 a3
    simpa using this
  | cons x xs ih =>
    intro u i h V A hu N hq
    obtain ⟨u, rfl⟩ : ∃ v, u = v + 1 := ⟨u - 1, by omega⟩
    unfold L_X5_orders_18
    have R : rM h m V A := by obtain ⟨l, N, -⟩ := N; exact N.1
    refine rg_o R (m_next N (fun e => by cases e) (fun l ys e h' V' A' a1 a2 a3 a4 a5 => br_ff (by decide) ?_))
    cases e
    rw [iI_1, iI_add]
    refine ih u (i + 1) h' V' A' (by simp at hu; omega) a3 (fun h2 V2 A2 b1 b2 b3 => ?_)
    have := hq h2 V2 A2 b1 (a4.tr b2) (a5.tr b3)
    simp at this
    rwa [show i + 1 + (xs.length : Int) = i + ((xs.length : Int) + 1) by omega]
theorem m_orders {Q : Int32 → pz_H → Prop} {z : Int} (M : MR h m np Ps td cl st) (hz : iB z) (hq : ∀ h', MR h' m np Ps td cl st → Fr m (m + 23) h h' → Q (iI (s_orders np Ps z)) h') : F_X5_orders m (iI z) h Q := by
  obtain ⟨O, V, A, R, W⟩ := id M
  have S := W.1
  unfold F_X5_orders
  unfold s_orders at hq
  refine rg_o R (m_has R S.1 S.2.1 hz ?_)
  change pq_br (iI (bI (vN np z)) = 0) _ _
  cases c : vN np z with
  | false => exact br_tt rfl (by have := hq h M Fr.rf; rw [c] at this; exact this)
  | true =>
    obtain ⟨p, hp, rfl⟩ := vN_t c
    refine br_ff (by decide) (rg_o R (m_begin R S hp fun h1 V1 A1 N1 e13 b1 f1 => ?_))
    refine ⟨(mOrd (Ps p)).length + 1, m_orders_loop (p := p) (mOrd (Ps p)) _ 0 h1 V1 A1 (by omega) ⟨[], N1, Or.inl ⟨e13, rfl, rfl⟩⟩ (fun h2 V2 A2 a1 a2 a3 => ?_)⟩
    have := hq h2 (MR.of O W a1 (b1.tr a2).xe) (f1.tr a3)
    rw [c] at this
    simpa using this
theorem m_order_loop {Q : Int64 → pz_H → Prop} {k : Nat} (hk : k < 2147483648) : ∀ (xs : List (List Nat)) (u i : Nat) (h : pz_H) (V : Nat → Int) (A : Nat → Int → Int), xs.length < u → nR h m V A np Ps p xs → i ≤ k → (∀ h' V' A', rM h' m V' A' → bE V A V' A' → Fr m (m + 23) h h' → Q (jI (if k - i < xs.length then (num (xs.getD (k - i) []) : Nat) else -102)) h') → L_X5_order_19 m (iI k) Q u (iI i) h := by
  intro xs
  induction xs with
  | nil =>
    intro u i h V A hu N hi hq
    obtain ⟨u, rfl⟩ : ∃ v, u = v + 1 := ⟨u - 1, by omega⟩
    unfold L_X5_order_19 B_X5_order_46
    have R : rM h m V A := by obtain ⟨l, N, -⟩ := N; exact N.1
    refine br_lt (b := 0) (by omega) (by omega) (fun c => by omega) (fun _ => ?_)
    refine rg_o R (m_next N (fun _ h' V' A' a1 a2 a3 => br_tt rfl ?_) (fun l ys e => by cases e))
    exact hq h' V' A' a1 a2 a3
  | cons x xs ih =>
    intro u i h V A hu N hi hq
    obtain ⟨u, rfl⟩ : ∃ v, u = v + 1 := ⟨u - 1, by omega⟩
    unfold L_X5_order_19 B_X5_order_46
    have R : rM h m V A := by obtain ⟨l, N, -⟩ := N; exact N.1
    refine br_lt (b := 0) (by omega) (by omega) (fun c => by omega) (fun _ => ?_)
    refine rg_o R (m_next N (fun e => by cases e) (fun l ys e h' V' A' a1 a2 a3 a4 a5 => br_ff (by decide) ?_))
    cases e
    refine br_eq (by omega) (by omega) (fun c => rg_o a1.1 (m_number a1 a2 ?_)) (fun c => ?_)
    · have := hq h' V' A' a1.1 a4 a5
      rw [show k - i = 0 by omega] at this
      simpa using this
    · rw [iI_1, iI_add, iI_s]
      refine ih u (i + 1) h' V' A' (by simp at hu; omega) a3 (by omega) (fun h2 V2 A2 b1 b2 b3 => ?_)
      have := hq h2 V2 A2 b1 (a4.tr b2) (a5.tr b3)
      rw [show k - i = (k - (i + 1)) + 1 by omega] at this
      simpa using this
theorem m_order {Q : Int64 → pz_H → Prop} {z k : Int} (M : MR h m np Ps td cl st) (hz : iB z) (hk : iB k) (hq : ∀ h', MR h' m np Ps td cl st → Fr m (m + 23) h h' → Q (jI (s_order np Ps z k)) h') : F_X5_order m (iI z) (iI k) h Q := by
  obtain ⟨O, V, A, R, W⟩ := id M
  have S := W.1
  unfold F_X5_order
  unfold s_order at hq
  refine rg_o R (m_has R S.1 S.2.1 hz ?_)
  change pq_br (iI (bI (vN np z)) = 0) _ _
  cases c : vN np z with
  | false => exact br_tt rfl (by have := hq h M Fr.rf; rw [c] at this; exact this)
  | true =>
    obtain ⟨p, hp, rfl⟩ := vN_t c
    rw [c] at hq
    refine br_ff (by decide) (rg_o R (m_begin R S hp fun h1 V1 A1 N1 e13 b1 f1 => ?_))
    by_cases hk0 : 0 ≤ k
    · obtain ⟨k, rfl⟩ : ∃ n : Nat, k = n := ⟨k.toNat, by omega⟩
      refine ⟨(mOrd (Ps p)).length + 1, m_order_loop (p := p) (by omega) (mOrd (Ps p)) _ 0 h1 V1 A1 (by omega) ⟨[], N1, Or.inl ⟨e13, rfl, rfl⟩⟩ (by omega) (fun h2 V2 A2 a1 a2 a3 => ?_)⟩
      have := hq h2 (MR.of O W a1 (b1.tr a2).xe) (f1.tr a3)
      simp only [if_true, Int.toNat_natCast] at this
      by_cases c2 : k < (mOrd (Ps p)).length
      · rw [if_pos (by omega)] at this; rw [if_pos (by omega)]; exact this
      · rw [if_neg (by omega)] at this; rw [if_neg (by omega)]; exact this
    · refine ⟨1, ?_⟩
      unfold L_X5_order_19
      refine br_lt (b := 0) (by omega) (by omega) (fun _ => ?_) (fun c => by omega)
      have := hq h1 (MR.of O W N1.1 b1.xe) f1
      simp only [if_true] at this
      rw [if_neg (by omega)] at this
      exact this
end MD
