/-! THE REFERENCE: alike -/
def s_alike (np : Nat) (Ps : Nat → cr_P) (y z : Int) : Int := if vN np y && vN np z then (if cr_n (Ps y.toNat) = cr_n (Ps z.toNat) ∧ mOrd (Ps y.toNat) = mOrd (Ps z.toNat) then 1 else 0) else -101
theorem getD_ext {l l' : List Nat} (h : l.length = l'.length) (e : ∀ i, i < l.length → (l.getD i 0 : Nat) = l'.getD i 0) : l = l' := by
  apply List.ext_getElem h
  intro i h1 h2
  have := e i h1
  rw [List.getD_eq_getElem?_getD, List.getD_eq_getElem?_getD, List.getElem?_eq_getElem h1, List.getElem?_eq_getElem h2] at this
  exact this
section MK
variable {h : pz_H} {m np p q : Nat} {V : Nat → Int} {A : Nat → Int → Int} {Ps : Nat → cr_P} {P : cr_P} {td : Option (Nat × List Nat)} {cl : List Nat} {st : List Int} {Q : Int32 → pz_H → Prop}
theorem nR_nS {l : List Nat} {ys : List (List Nat)} (N : nS h m V A np Ps p l) (hl : l.length = cr_n (Ps p)) (X : nR h m V A np Ps p ys) : V 13 = 1 ∧ cr_un (Ps p) = false ∧ ys = rs (cr_n (Ps p)) (gd (Ps p)) l.reverse := by
  obtain ⟨l', N', h'⟩ := X
  obtain ⟨R, S, hp, hv, h15, hpl, g13, g12, hnd, hlt, hle⟩ := id N
  obtain ⟨-, -, -, -, h15', -, -, g12', -, -, -⟩ := id N'
  have hn := (S.2.2 p hp).1.n9
  have el : l'.length = l.length := by rw [h15] at h15'; omega
  rcases h' with ⟨e1, e2, e3⟩ | ⟨e1, e2, e3, e4⟩
  · subst e2; simp at el; omega
  · have : l' = l := getD_ext el (fun i hi => by
      have h1 := g12' i hi
      have h2 := g12 i (by omega)
      rw [h2] at h1
      omega)
    rw [this] at e4
    exact ⟨e1, e2, e4⟩
/-- the row is kept: copies of now and height -/
theorem m_alike_keep {l : List Nat} {kk : pz_H → Prop} {x1 x2 x3 : Int32} (R : rM h m V A)
    (hq : ∀ h' A', rM h' m V A' → (∀ j, j ≠ 16 → j ≠ 17 → A' j = A j) → (∀ k : Nat, k < 9 → A' 16 k = A 12 k ∧ A' 17 k = A 13 k) → Fr m (m + 23) h h' → L_X5_alike_69 m x1 x2 x3 kk Q 1 (iI 9) h') : ∀ (k i : Nat) (h0 : pz_H) (A0 : Nat → Int → Int), i + k = 9 → rM h0 m V A0 → (∀ j, j ≠ 16 → j ≠ 17 → A0 j = A j) → (∀ d : Nat, d < i → A0 16 d = A 12 d ∧ A0 17 d = A 13 d) → Fr m (m + 23) h h0 → L_X5_alike_69 m x1 x2 x3 kk Q (k + 1) (iI i) h0 := by
  intro k
  induction k with
  | zero =>
    intro i h0 A0 hi R0 e0 g0 fr
    have e : i = 9 := by omega
    subst e
    exact hq h0 A0 R0 e0 g0 fr
  | succ k ih =>
    intro i h0 A0 hi R0 e0 g0 fr
    unfold L_X5_alike_69
    have e12 := e0 12 (by decide) (by decide)
    have e13 := e0 13 (by decide) (by decide)
    refine br_le (a := 9) (by omega) (by omega) (fun c => by omega) (fun _ => ?_)
    simp (disch := omega) only [mE R0, iI_s, lits, iI_add, iI_sub, iI_mul, iI_neg]
    refine rg_sI R0 (by decide) (by decide) rfl (by decide) ⟨by omega, by simp only [lM]; omega⟩ fun h1 R1 f1 => ?_
    simp (disch := omega) only [mE R1, lits, iI_add, iI_sub, iI_mul, iI_neg]
    refine rg_sI R1 (by decide) (by decide) rfl (by decide) ⟨by omega, by simp only [lM]; omega⟩ fun h2 R2 f2 => ?_
    refine ih (i + 1) h2 _ (by omega) R2 (fun j h1 h2 => ?_) (fun d hd => ?_) (fr.tr (f1.tr f2))
    · rw [au_nk h2, au_nk h1]; exact e0 j h1 h2
    · by_cases e : d = i
      · subst e
        refine ⟨?_, ?_⟩
        · rw [au_nk (by decide), au_at, e12]
        · rw [au_at, au_nk (by decide), e13]
      · refine ⟨?_, ?_⟩
        · rw [au_nk (by decide), au_ne (by omega)]; exact (g0 d (by omega)).1
        · rw [au_ne (by omega), au_nk (by decide)]; exact (g0 d (by omega)).2
/-- and brought back -/
theorem m_alike_back {kk : pz_H → Prop} {x1 x2 : Int32} (R : rM h m V A)
    (hq : ∀ h' A', rM h' m V A' → (∀ j, j ≠ 12 → j ≠ 13 → A' j = A j) → (∀ k : Nat, k < 9 → A' 12 k = A 16 k ∧ A' 13 k = A 17 k) → Fr m (m + 23) h h' → kk h') : ∀ (k i : Nat) (h0 : pz_H) (A0 : Nat → Int → Int), i + k = 9 → rM h0 m V A0 → (∀ j, j ≠ 12 → j ≠ 13 → A0 j = A j) → (∀ d : Nat, d < i → A0 12 d = A 16 d ∧ A0 13 d = A 17 d) → Fr m (m + 23) h h0 → L_X5_alike_142 m x1 x2 kk Q (k + 1) (iI i) h0 := by
  intro k
  induction k with
  | zero =>
    intro i h0 A0 hi R0 e0 g0 fr
    unfold L_X5_alike_142
    refine br_le (a := 9) (by omega) (by omega) (fun _ => ?_) (fun c => by omega)
    have e : i = 9 := by omega
    subst e
    exact hq h0 A0 R0 e0 g0 fr
  | succ k ih =>
    intro i h0 A0 hi R0 e0 g0 fr
    unfold L_X5_alike_142
    have e16 := e0 16 (by decide) (by decide)
    have e17 := e0 17 (by decide) (by decide)
    refine br_le (a := 9) (by omega) (by omega) (fun c => by omega) (fun _ => ?_)
    simp (disch := omega) only [mE R0, iI_s, lits, iI_add, iI_sub, iI_mul, iI_neg]
    refine rg_sI R0 (by decide) (by decide) rfl (by decide) ⟨by omega, by simp only [lM]; omega⟩ fun h1 R1 f1 => ?_
    simp (disch := omega) only [mE R1, lits, iI_add, iI_sub, iI_mul, iI_neg]
    refine rg_sI R1 (by decide) (by decide) rfl (by decide) ⟨by omega, by simp only [lM]; omega⟩ fun h2 R2 f2 => ?_
    refine ih (i + 1) h2 _ (by omega) R2 (fun j h1 h2 => ?_) (fun d hd => ?_) (fr.tr (f1.tr f2))
    · rw [au_nk h2, au_nk h1]; exact e0 j h1 h2
    · by_cases e : d = i
      · subst e
        refine ⟨?_, ?_⟩
        · rw [au_nk (by decide), au_at, e16]
        · rw [au_at, au_nk (by decide), e17]
      · refine ⟨?_, ?_⟩
        · rw [au_nk (by decide), au_ne (by omega)]; exact (g0 d (by omega)).1
        · rw [au_ne (by omega), au_nk (by decide)]; exact (g0 d (by omega)).2
theorem nS.keep {l : List Nat} {h' : pz_H} {A' : Nat → Int → Int} (N : nS h m V A np Ps p l) (R' : rM h' m V A') (e : ∀ j, j ≠ 16 → j ≠ 17 → A' j = A j) : nS h' m V A' np Ps p l := by
  obtain ⟨R, S, hp, hv, h15, hpl, g13, g12, hnd, hlt, hle⟩ := id N
  have x : xE V A V A' := ⟨fun _ _ _ _ => rfl, fun j hj => e j (by omega) (by omega)⟩
  refine ⟨R', S.xe x, hp, hv, h15, fun c hc => ?_, fun f hf => ?_, fun i hi => ?_, hnd, hlt, hle⟩
  · rw [e 14 (by decide) (by decide)]; exact hpl c hc
  · rw [e 13 (by decide) (by decide)]; exact g13 f hf
  · rw [e 12 (by decide) (by decide)]; exact g12 i hi
theorem m_alike_loop (hq' : q < np) (hnn : cr_n (Ps p) = cr_n (Ps q)) : ∀ (xs : List (List Nat)) (u : Nat) (h : pz_H) (V : Nat → Int) (A : Nat → Int → Int), xs.length < u → (∀ l ∈ xs, isR (cr_n (Ps p)) l) → nR h m V A np Ps p xs → (∀ h' V' A', rM h' m V' A' → xE V A V' A' → Fr m (m + 23) h h' → Q (iI (if xs.all (fun l => decide (cr_chk (Ps q) (ps l) = 0)) then 1 else 0)) h') → L_X5_alike_54 m (iI p) (iI q) Q u h := by
  intro xs
  induction xs with
  | nil =>
    intro u h V A hu hxs N hq
    obtain ⟨u, rfl⟩ : ∃ v, u = v + 1 := ⟨u - 1, by omega⟩
    unfold L_X5_alike_54
    have R : rM h m V A := by obtain ⟨l, N, -⟩ := N; exact N.1
    exact rg_o R (m_next N (fun _ h' V' A' a1 a2 a3 => br_tt rfl (hq h' V' A' a1 a2.xe a3)) (fun l ys e => by cases e))
  | cons x xs ih =>
    intro u h V A hu hxs N hq
    obtain ⟨u, rfl⟩ : ∃ v, u = v + 1 := ⟨u - 1, by omega⟩
    unfold L_X5_alike_54
    have R : rM h m V A := by obtain ⟨l, N, -⟩ := N; exact N.1
    refine rg_o R (m_next N (fun e => by cases e) (fun l ys e h1 V1 A1 a1 a2 a3 a4 a5 => br_ff (by decide) ?_))
    cases e
    obtain ⟨b1, b2, b3⟩ := nR_nS a1 a2 a3
    obtain ⟨R1, S1, hp, hv, h15, hpl, g13, g12, hnd, hlt, hle⟩ := id a1
    have hn := (S1.2.2 p hp).1.n9
    have h30 := S1.2.1
    have hR : isR (cr_n (Ps p)) x := hxs x (by simp)
    simp (disch := omega) only [mE R1, h15, lits, iI_add, iI_sub, iI_mul, iI_neg]
    refine ⟨10, m_alike_keep (l := x) R1 (fun h2 A2 R2 e2 k2 f2 => ?_) 9 0 h1 A1 rfl R1 (fun _ _ _ => rfl) (fun d hd => by omega) Fr.rf⟩
    unfold L_X5_alike_69
    refine br_le (a := 9) (b := 9) (by omega) (by omega) (fun _ => ?_) (fun c => by omega)
    have N2 := a1.keep R2 e2
    rw [(mE R2).1]
    refine m_number N2 a2 ?_
    rw [(mE R2).1]
    refine m_checkS R2 N2.2.1 (by omega) (num_jB hn.2 hR) (fun h3 V3 A3 R3 b3' f3 => ?_)
    have ec : s_check np Ps (q : Int) (num x : Nat) = cr_chk (Ps q) (ps x) := by
      unfold s_check
      rw [if_pos (vN_n hq'), Int.toNat_natCast, ← hnn, s_read_num hn.2 hR]
    rw [ec]
    have x2 : xE V1 A1 V1 A2 := ⟨fun _ _ _ _ => rfl, fun j hj => e2 j (by omega) (by omega)⟩
    have x3 : xE V A V3 A3 := a4.xe.tr (x2.tr b3'.xe)
    have f03 := a5.tr (f2.tr f3)
    have chB : iB (cr_chk (Ps q) (ps x)) := by
      unfold cr_chk
      have hqm := (S1.2.2 q hq').1.m12
      have hqn := (S1.2.2 q hq').1.n9
      split
      · omega
      · split
        · rename_i x e
          obtain ⟨c, -, h2, h3⟩ := fst1_some _ _ _ _ e
          unfold cr_cM at h3
          split at h3
          · cases h3
          · cases h3; omega
        · split
          · rename_i x e
            obtain ⟨c, -, h2, h3⟩ := fst1_some _ _ _ _ e
            unfold cr_cT at h3
            obtain ⟨f, -, h4, h5⟩ := fst1_some _ _ _ _ h3
            unfold cr_cT1 at h5
            split at h5
            · cases h5; omega
            · cases h5
          · cases e : fst1 (cr_cA (Ps q) (ps x)) 0 (cr_m (Ps q)) with
            | none => simp; omega
            | some y =>
              obtain ⟨c, -, h2, h3⟩ := fst1_some _ _ _ _ e
              unfold cr_cA at h3
              obtain ⟨f, -, h4, h5⟩ := fst1_some _ _ _ _ h3
              unfold cr_cA1 at h5
              split at h5
              · cases h5; simp; omega
              · cases h5
    rw [List.all_cons] at hq
    refine br_eq (b := 0) chB (by omega) (fun c0 => ?_) (fun c0 => ?_)
    · rw [decide_eq_true c0, Bool.true_and] at hq
      rw [(mE R3).1]
      refine m_begin R3 (N2.2.1.be b3') hp (fun h4 V4 A4 N4 e4 b4 f4 => ?_)
      refine rg_p (V' := va_up V4 13 1) N4.1 rfl (Nat.le_of_ble_eq_true rfl) fun h5 R5 f5 => ?_
      refine rg_p (V' := va_up (va_up V4 13 1) 15 (x.length : Int)) R5 rfl (Nat.le_of_ble_eq_true rfl) fun h6 R6 f6 => ?_
      refine ⟨10, m_alike_back R6 (fun h7 A7 R7 e7 k7 f7 => ?_) 9 0 h6 A4 rfl R6 (fun _ _ _ => rfl) (fun d hd => by omega) Fr.rf⟩
      have b34 : bE V1 A2 V4 A4 := b3'.tr b4
      have b7 : bE V1 A2 (va_up (va_up V4 13 1) 15 (x.length : Int)) A7 := ((b34.tr (bE.vu (Or.inr (Or.inl rfl)))).tr (bE.vu (Or.inr (Or.inr rfl)))).tr ⟨fun _ _ _ _ => rfl, fun j h1 h2 _ => e7 j h1 h2⟩
      have k16 : A4 16 = A2 16 := b34.2 16 (by decide) (by decide) (by decide)
      have k17 : A4 17 = A2 17 := b34.2 17 (by decide) (by decide) (by decide)
      have N7 : nS h7 m (va_up (va_up V4 13 1) 15 (x.length : Int)) A7 np Ps p x := by
        refine ⟨R7, N2.2.1.be b7, hp, ?_, va_up_self _ _ _, fun c hc => ?_, fun f hf => ?_, fun i hi => ?_, hnd, hlt, hle⟩
        · rw [va_up_ne _ _ (by decide), va_up_ne _ _ (by decide)]; exact N4.2.2.2.1
        · rw [e7 14 (by decide) (by decide)]; exact N4.2.2.2.2.2.1 c hc
        · rw [(k7 f hf).2, k17, (k2 f hf).2]; exact g13 f hf
        · rw [(k7 i (by omega)).1, k16, (k2 i (by omega)).1]; exact g12 i hi
      refine ih u h7 _ A7 (by simp at hu; omega) (fun l hl => hxs l (by simp [hl])) ⟨x, N7, Or.inr ⟨?_, b2, a2, b3⟩⟩ (fun h8 V8 A8 c1 c2 c3 => ?_)
      · rw [va_up_ne _ _ (by decide), va_up_self]
      · exact hq h8 V8 A8 c1 (a4.xe.tr (x2.tr (b7.xe.tr c2))) (f03.tr (f4.tr (f5.tr (f6.tr (f7.tr c3)))))
    · rw [decide_eq_false c0, Bool.false_and] at hq
      exact hq h3 V3 A3 R3 x3 f03
theorem alike_eq {P P' : cr_P} (ok : cr_ok P') (hn : cr_n P = cr_n P') (hl : (mOrd P).length = (mOrd P').length) : (mOrd P).all (fun l => decide (cr_chk P' (ps l) = 0)) = true ↔ mOrd P = mOrd P' := by
  rw [List.all_eq_true]
  constructor
  · intro h
    rw [mOrd_eq, mOrd_eq, ← hn] at hl ⊢
    refine filter_eq _ _ _ (fun l hl hp => ?_) hl
    have h1 := h l (by rw [mOrd_eq, List.mem_filter]; exact ⟨hl, hp⟩)
    have hR := pms_R hl
    rw [hn] at hR
    exact (chk_al ok hR).mp (of_decide_eq_true h1)
  · intro e l hl
    rw [e] at hl
    have hR := mOrd_R hl
    rw [mOrd_eq, List.mem_filter] at hl
    exact decide_eq_true ((chk_al ok hR).mpr hl.2)
theorem m_alike {y z : Int} (M : MR h m np Ps td cl st) (hy : iB y) (hz : iB z) (hq : ∀ h', MR h' m np Ps td cl st → Fr m (m + 23) h h' → Q (iI (s_alike np Ps y z)) h') : F_X5_alike m (iI y) (iI z) h Q := by
  obtain ⟨O, V, A, R, W⟩ := id M
  have S := W.1
  unfold F_X5_alike B_X5_alike_16 B_X5_alike_47
  unfold s_alike at hq
  refine rg_o R (m_has R S.1 S.2.1 hy ?_)
  change pq_br (iI (bI (vN np y)) = 0) _ _
  cases c : vN np y with
  | false => exact br_tt rfl (by rw [c] at hq; exact hq h M Fr.rf)
  | true =>
    refine br_ff (by decide) (rg_o R (m_has R S.1 S.2.1 hz ?_))
    change pq_br (iI (bI (vN np z)) = 0) _ _
    cases c2 : vN np z with
    | false => exact br_tt rfl (by rw [c, c2] at hq; exact hq h M Fr.rf)
    | true =>
      obtain ⟨p, hp, rfl⟩ := vN_t c
      obtain ⟨q, hq', rfl⟩ := vN_t c2
      rw [c, c2] at hq
      simp only [Bool.and_self, if_true, Int.toNat_natCast] at hq
      have Hp := S.2.2 p hp
      have Hq := S.2.2 q hq'
      have n1 := Hp.1.n9
      have n2 := Hq.1.n9
      have l1 := mOrd_len Hp.1
      have l2 := mOrd_len Hq.1
      have h30 := S.2.1
      refine br_ff (by decide) ?_
      simp (disch := omega) only [mE R, Hp.2.2.1, Hq.2.2.1, ebr_eq, lits, iI_add, iI_sub, iI_mul, iI_neg]
      by_cases q1 : cr_n (Ps p) = cr_n (Ps q)
      · rw [if_pos (by omega)]
        refine m_orders M (by omega) (fun h1 M1 f1 => ?_)
        obtain ⟨O1, V1, A1, R1, W1⟩ := id M1
        rw [(mE R1).1]
        refine m_orders M1 (by omega) (fun h2 M2 f2 => ?_)
        unfold s_orders
        rw [if_pos c, if_pos c2]
        simp only [Int.toNat_natCast]
        refine br_eq (by omega) (by omega) (fun q2 => ?_) (fun q2 => ?_)
        · obtain ⟨O2, V2, A2, R2, W2⟩ := id M2
          rw [(mE R2).1]
          refine m_begin R2 W2.1 hp (fun h3 V3 A3 N3 e3 b3 f3 => ?_)
          refine ⟨(mOrd (Ps p)).length + 1, m_alike_loop hq' q1 (mOrd (Ps p)) _ h3 V3 A3 (by omega) (fun l hl => mOrd_R hl) ⟨[], N3, Or.inl ⟨e3, rfl, rfl⟩⟩ (fun h4 V4 A4 c1 c2 c3 => ?_)⟩
          have := hq h4 (MR.of O2 W2 c1 (b3.xe.tr c2)) (f1.tr (f2.tr (f3.tr c3)))
          have ea := alike_eq (P := Ps p) Hq.1 q1 (by omega)
          by_cases q3 : mOrd (Ps p) = mOrd (Ps q)
          · rw [if_pos ⟨q1, q3⟩] at this
            rw [if_pos (ea.mpr q3)]
            exact this
          · rw [if_neg (fun z => q3 z.2)] at this
            rw [if_neg (fun z => q3 (ea.mp z))]
            exact this
        · rw [if_neg (fun z => q2 (by rw [z.2]))] at hq
          exact hq h2 M2 (f1.tr f2)
      · rw [if_neg (by omega)]
        rw [if_neg (fun z => q1 z.1)] at hq
        exact hq h M Fr.rf
end MK
