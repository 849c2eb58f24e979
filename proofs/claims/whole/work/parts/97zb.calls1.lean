/-! THE CLASS: piles in its state; judge, layer, turned, orders, order -/
theorem pO_mOrd {P : cr_P} (ok : cr_ok P) {Bw : Nat → Nat} (hB : ∀ f, Bw f < 2 ^ 9) (e : ∀ H, hts (cr_n P) H → (demH (cr_n P) Bw H ↔ alM P H)) : pO P Bw = mOrd P := by
  rw [mOrd_eq]
  unfold pO
  by_cases c : cr_un P = true
  · rw [if_pos c]
    refine (List.filter_eq_nil_iff.mpr (fun l hl => ?_)).symm
    rw [alB_iff ok (pms_R hl), c]
    simp
  · rw [if_neg c, tr_pms (gq_g0 P Bw)]
    refine filter_iff (fun l hl => ?_)
    have hR := pms_R hl
    rw [gq_chain ok hB hR, alB_iff ok hR, e _ (R_hts hR)]
    have : cr_un P = false := by simpa using c
    exact ⟨fun w => ⟨this, w.2, w.1⟩, fun w => ⟨w.2.2, w.2.1⟩⟩
/-- whether there is an order that keeps D besides the rules -/
theorem pO_ne {P : cr_P} (ok : cr_ok P) {Bw : Nat → Nat} (hB : ∀ f, Bw f < 2 ^ 9) {D : (Nat → Int) → Prop} (e : ∀ H, hts (cr_n P) H → (demH (cr_n P) Bw H ↔ D H)) : pO P Bw ≠ [] ↔ ∃ l, isR (cr_n P) l ∧ cr_un P = false ∧ D (ps l) ∧ alT P (ps l) ∧ alA P (ps l) := by
  unfold pO
  by_cases c : cr_un P = true
  · rw [if_pos c]
    refine ⟨fun w => absurd rfl w, fun ⟨l, _, w, _⟩ => ?_⟩
    rw [c] at w; cases w
  · rw [if_neg c, tr_pms (gq_g0 P Bw)]
    have cf : cr_un P = false := by simpa using c
    constructor
    · intro w
      obtain ⟨l, hl⟩ := List.exists_mem_of_ne_nil _ w
      obtain ⟨l1, l2⟩ := List.mem_filter.mp hl
      have hR := pms_R l1
      rw [gq_chain ok hB hR, e _ (R_hts hR)] at l2
      exact ⟨l, hR, cf, l2.2, l2.1.1, l2.1.2⟩
    · intro ⟨l, hR, _, w1, w2, w3⟩ w
      have : l ∈ (pms (cr_n P)).filter (fun x => ch (gq P Bw) [] x) := List.mem_filter.mpr ⟨R_pms hR, by rw [gq_chain ok hB hR, e _ (R_hts hR)]; exact ⟨⟨w2, w3⟩, w1⟩⟩
      rw [w] at this
      cases this
theorem qR.fr {h h' : pz_H} {b a lo hi : Nat} {V : Nat → Int} {A : Nat → Int → Int} {P : cr_P} {xs : List (List Nat)} (N : qR h b V A a P xs) (f : Fr lo hi h h') (hd : b + 6 ≤ lo ∨ hi ≤ b) : qR h' b V A a P xs := by
  rcases N with ⟨Bw, Dm, ⟨R, w⟩, e⟩ | ⟨Bw, Dm, l, ⟨R, w⟩, e⟩
  · exact Or.inl ⟨Bw, Dm, ⟨R.fr f (by omega), w⟩, e⟩
  · exact Or.inr ⟨Bw, Dm, l, ⟨R.fr f (by omega), w⟩, e⟩
theorem ar_copy {h : pz_H} {b a : Nat} {f g : Int → Int} {K : pz_H → Prop} (R : ar h b 9 f) (R2 : ar h a 9 g) (kk : ∀ h' f', ar h' a 9 f' → (∀ i : Nat, i < 9 → f' i = f i) → Fr a (a + 1) h h' → K h') : pq_copy h b (0 : Int32) a (0 : Int32) (9 : Int32) K := by
  refine ⟨9, 9, _, _, R, R2, by decide, by decide, by decide, Nat.le_of_ble_eq_true rfl, Nat.le_of_ble_eq_true rfl, kk _ (fun z => if 0 ≤ z ∧ z < 9 then f z else g z) ?_ (fun i hi => if_pos ⟨by omega, by omega⟩) (Fr.up (by omega) (by omega))⟩
  unfold ar
  rw [pz_up_at, rg_c]
  congr 5
  funext i
  show va_cpy _ _ 0 0 9 i = _
  unfold va_cpy
  by_cases c : i < 9
  · rw [if_pos ⟨by omega, by omega⟩, if_pos ⟨by omega, by omega⟩, Nat.zero_add, Nat.sub_zero]
  · rw [if_neg (by omega), if_neg (by omega)]
section T1
variable {h h' : pz_H} {c np p b : Nat} {V : Nat → Int} {A : Nat → Int → Int} {Ps : Nat → cr_P} {td : Option (Nat × List Nat)} {cl : List Nat} {st : List Int} {K : pz_H → Prop} {Q : Int32 → pz_H → Prop}
theorem CR.pile (M : CR h c np Ps td cl st) (hb : b = c + 2 ∨ b = c + 8) (R : rQ h' b V A) (f : Fr b (b + 6) h h') : CR h' c np Ps td cl st := by
  refine M.of (f.sc (by omega)) ?_
  obtain ⟨⟨V1, A1, R1⟩, ⟨V2, A2, R2⟩, ⟨f3, R3⟩, ⟨f4, R4⟩, ⟨F5, A5, R5, z5⟩, V6, A6, R6⟩ := M.2.2.1
  have e4 : lr h' (c + 17) f4 := by unfold lr; rw [f.2 _ (by omega)]; exact R4
  rcases hb with rfl | rfl
  · exact ⟨⟨V, A, R⟩, ⟨V2, A2, R2.fr f (by omega)⟩, ⟨f3, R3.fr f (by omega)⟩, ⟨f4, e4⟩, ⟨F5, A5, R5.fr f (by omega), z5⟩, V6, A6, R6.fr f (by omega)⟩
  · exact ⟨⟨V1, A1, R1.fr f (by omega)⟩, ⟨V, A, R⟩, ⟨f3, R3.fr f (by omega)⟩, ⟨f4, e4⟩, ⟨F5, A5, R5.fr f (by omega), z5⟩, V6, A6, R6.fr f (by omega)⟩
theorem CR.q (M : CR h c np Ps td cl st) (hb : b = c + 2 ∨ b = c + 8) : ∃ V A, rQ h b V A := by
  rcases hb with rfl | rfl
  · exact M.2.2.1.1
  · exact M.2.2.1.2.1
theorem C_begin (hb : b = c + 2 ∨ b = c + 8) (M : CR h c np Ps td cl st) (hp : p < np) (hq : ∀ h' V' A', qR h' b V' A' (pA c p) (Ps p) (mOrd (Ps p)) → CR h' c np Ps td cl st → Fr b (b + 6) h h' → K h') : F_X2_begin b (pA c p) h K := by
  obtain ⟨VP, AP, RP, C⟩ := M.pap hp
  obtain ⟨V, A, R⟩ := M.q hb
  refine c_begin R C (by unfold pA; omega) RP (fun h' V' A' Bw' Dm' S e f => hq h' V' A' (Or.inl ⟨Bw', Dm', S, (pO_mOrd C.1.1 S.2.2.2.2.2.2.2.2.1 e).symm⟩) (M.pile hb S.1 f) f)
theorem C_next {xs : List (List Nat)} (hb : b = c + 2 ∨ b = c + 8) (N : qR h b V A (pA c p) (Ps p) xs) (M : CR h c np Ps td cl st) (hp : p < np)
    (h0 : xs = [] → ∀ h', CR h' c np Ps td cl st → Fr b (b + 6) h h' → Q (0 : Int32) h')
    (h1 : ∀ l ys, xs = l :: ys → ∀ h' V' A', rQ h' b V' A' → qL V' A' l → isR (cr_n (Ps p)) l → qR h' b V' A' (pA c p) (Ps p) ys → CR h' c np Ps td cl st → Fr b (b + 6) h h' → Q (1 : Int32) h') : F_X2_next b h Q := by
  obtain ⟨VP, AP, RP, C⟩ := M.pap hp
  refine c_next N RP C (by unfold pA; omega) (fun e h' V' A' R f => h0 e h' (M.pile hb R f) f) (fun l ys e h' V' A' R L hR N' f => h1 l ys e h' V' A' R L hR N' (M.pile hb R f) f)
theorem C_judge {z : Int} (M : CR h c np Ps td cl st) (hz : iB z) (hq : ∀ h', CR h' c np Ps (s_judgeT np Ps td z) cl st → Fo c h h' → Q (iI (s_judge np Ps z)) h') : F_X4_judge c (iI z) h Q := by
  unfold F_X4_judge
  rw [(cE M).1]
  unfold s_judge s_judgeT at hq
  refine c_find M hz (fun w => ?_) (fun p e hp => ?_)
  · rw [w] at hq
    exact hq h M Fo.rf
  · subst e
    rw [vN_n hp] at hq
    simp only [if_true, Int.toNat_natCast] at hq
    show pq_gA h c 4 2 _
    simp (disch := omega) only [cE M, lits, iI_add, iI_sub, iI_mul, iI_neg]
    refine C_begin (Or.inl rfl) M hp (fun h1 V1 A1 N1 M1 f1 => ?_)
    simp (disch := omega) only [cE M1, lits, iI_add, iI_sub, iI_mul, iI_neg]
    refine C_next (Or.inl rfl) N1 M1 hp (fun e h2 M2 f2 => br_tt rfl ?_) (fun l ys e h2 V2 A2 R2 L2 hR N2 M2 f2 => br_ff (by decide) ?_)
    · rw [if_pos e, if_pos e] at hq
      exact hq h2 M2 ((f1.tr f2).fo (by omega))
    · have ne : ¬ mOrd (Ps p) = [] := by rw [e]; simp
      rw [if_neg ne, if_neg ne] at hq
      have hn := (M.ok hp).n9
      obtain ⟨O, ⟨V, T5, T6, KK, S, ⟨r1, r2, r3, r4, r5⟩, ⟨a1, a2, a3⟩, bb, dd⟩, scr, pap⟩ := M2
      have eR : (.ref (pA c p) : Value) = va_rf (oR ((pA c p : Nat) : Int)) := by rw [oR_nat]; rfl
      refine rg_p (V' := va_up V 4 ((pA c p : Nat) : Int)) r1 (by rw [eR]; rfl) (Nat.le_of_ble_eq_true rfl) fun h3 R3 f3 => ?_
      have Q3 : rQ h3 (c + 2) V2 A2 := R2.fr f3 (by omega)
      simp (disch := omega) only [cxE R3, qE Q3, lits, iI_add, iI_sub, iI_mul, iI_neg]
      refine ar_copy (rg_ar Q3 (by decide) (by decide) rfl) (a1.fr f3 (by omega)) (fun h4 T5' b1 b2 f4 => ?_)
      have R4 : rX h4 c _ := R3.fr f4 (by omega)
      have Q4 : rQ h4 (c + 2) V2 A2 := Q3.fr f4 (by omega)
      simp (disch := omega) only [cxE R4, qE Q4, lits, iI_add, iI_sub, iI_mul, iI_neg]
      refine ar_copy (rg_ar Q4 (by decide) (by decide) rfl) ((a2.fr f3 (by omega)).fr f4 (by omega)) (fun h5 T6' d1 d2 f5 => ?_)
      have R5 : rX h5 c _ := R4.fr f5 (by omega)
      have F : ∀ q, (q ≠ c ∧ q ≠ c + 14 ∧ q ≠ c + 15) → h5.1 q = h2.1 q := fun q hq => by rw [f5.2 q (by omega), f4.2 q (by omega), f3.2 q (by omega)]
      have E : h5.2 = h2.2 := by rw [f5.1, f4.1, f3.1]
      obtain ⟨L3, L1, L2⟩ := L2
      refine hq h5 ⟨⟨⟨hp, ?_, ?_, ?_⟩, O.2⟩, ⟨_, T5', T6', KK, S, ⟨R5, r2, rfl, r4, r5⟩, ⟨b1.fr f5 (by omega), d1, ?_⟩, ⟨?_, bb.2⟩, ?_, dd.2⟩, scr.of (fun q q1 q2 => F q (by omega)), pap.of (fun q hq => F q (by omega)) E⟩ (fun q q1 q2 => ?_)
      · rw [e]; exact hR.1
      · rw [e]; exact hR.2.1
      · rw [e]; exact hR.2.2
      · rw [e]
        refine ⟨fun i hi => ?_, fun f hf => ?_⟩
        · have hi : i < l.length := hi
          rw [b2 i (by have := hR.1; omega)]; exact L1 i hi
        · have hf : f ∈ l := hf
          rw [d2 f (by have := hR.2.2 f hf; omega)]; exact L2 f hf
      · unfold ar; rw [F _ (by omega)]; exact bb.1
      · unfold ar; rw [F _ (by omega)]; exact dd.1
      · rw [F q (by omega), f2.2 q (by omega), f1.2 q (by omega)]
theorem C_layer {z : Int} (M : CR h c np Ps td cl st) (hz : iB z) (hq : Q (iI (s_layer Ps td z)) h) : F_X4_layer c (iI z) h Q := by
  unfold F_X4_layer B_X4_layer_25 B_X4_layer_36
  rw [(cE M).2.2.2.2.2.1, (cE M).2.2.2.2.2.1]
  obtain ⟨O, ⟨V, T5, T6, KK, S, ⟨r1, r2, r3, r4, r5⟩, ⟨a1, a2, a3⟩, bb, dd⟩, scr, pap⟩ := id M
  cases td with
  | none => exact hq
  | some w =>
    obtain ⟨p, l⟩ := w
    obtain ⟨hp, t1, t2, t3⟩ := O.1
    obtain ⟨VP, AP, RP, C⟩ := M.pap hp
    have hn := C.1.1.n9
    have k3 := C.1.2.2.2.2.1
    have eR : oR (tdV c (some (p, l))) = some (pA c p) := oR_nat _
    rw [eR]
    show pq_br (iI z < 0) _ (pq_gI h (pA c p) 1 3 _)
    simp only [s_layer] at hq
    refine br_lt (b := 0) hz (by omega) (fun w => ?_) (fun w => ?_)
    · rw [if_neg (by omega)] at hq; exact hq
    · simp (disch := omega) only [pE RP, k3, lits, iI_add, iI_sub, iI_mul, iI_neg]
      refine br_lt hz (by omega) (fun w2 => ?_) (fun w2 => ?_)
      · rw [if_pos ⟨w, w2⟩] at hq
        obtain ⟨i, rfl⟩ : ∃ i : Nat, z = i := ⟨z.toNat, by omega⟩
        have := a3.1 i (by omega)
        simp (disch := omega) only [cE M, ar_e a1 (by decide), this, lits, iI_add, iI_sub, iI_mul, iI_neg]
        exact hq
      · rw [if_neg (by omega)] at hq; exact hq
theorem C_turned {z : Int} (M : CR h c np Ps td cl st) (hz : iB z) (hq : Q (iI (s_turned Ps td z)) h) : F_X4_turned c (iI z) h Q := by
  unfold F_X4_turned B_X4_turned_38
  rw [(cE M).2.2.2.2.2.1, (cE M).2.2.2.2.2.1]
  obtain ⟨O, ⟨V, T5, T6, KK, S, ⟨r1, r2, r3, r4, r5⟩, ⟨a1, a2, a3⟩, bb, dd⟩, scr, pap⟩ := id M
  cases td with
  | none => exact hq
  | some w =>
    obtain ⟨p, l⟩ := w
    obtain ⟨hp, t1, t2, t3⟩ := O.1
    obtain ⟨VP, AP, RP, C⟩ := M.pap hp
    have hn := C.1.1.n9
    have hm := C.1.1.m12
    have eR : oR (tdV c (some (p, l))) = some (pA c p) := oR_nat _
    rw [eR]
    show pq_o h (pA c p) 1 _
    rw [(pE RP).1]
    refine c_hasCrease RP C.1 hz ?_
    simp only [s_turned] at hq
    by_cases w : 0 ≤ z ∧ z < cr_m (Ps p)
    · rw [decide_eq_true w]
      rw [if_pos w] at hq
      refine br_ff (by decide) ?_
      rw [(cE M).2.2.2.2.2.1, eR]
      show pq_gA h c 4 6 _
      simp (disch := omega) only [cE M, pE RP, lits, iI_add, iI_sub, iI_mul, iI_neg]
      obtain ⟨i, rfl⟩ : ∃ i : Nat, z = i := ⟨z.toNat, by omega⟩
      have hm := mem_of_full t2 t3 t1
      refine c_becomes (HH := ps l) RP C.1 a2 (fun f hf => ⟨a3.2 f (hm f hf), ?_⟩) (by omega) hq
      have := @ps_B l f
      omega
    · rw [decide_eq_false w]
      rw [if_neg w] at hq
      exact br_tt rfl hq
theorem c_orders_loop (hp : p < np) : ∀ (xs : List (List Nat)) (u n : Nat) (h : pz_H) (V : Nat → Int) (A : Nat → Int → Int), xs.length < u → n + xs.length ≤ 362880 → qR h (c + 2) V A (pA c p) (Ps p) xs → CR h c np Ps td cl st → (∀ h', CR h' c np Ps td cl st → Fo c h h' → Q (iI ((n + xs.length : Nat) : Int)) h') → L_X4_orders_23 c Q u (iI n) h := by
  intro xs
  induction xs with
  | nil =>
    intro u n h V A hu hn N M hq
    obtain ⟨u, rfl⟩ : ∃ v, u = v + 1 := ⟨u - 1, by omega⟩
    unfold L_X4_orders_23 B_X4_orders_45
    refine br_le (a := 362880) (by omega) (by simp at hn; omega) (fun _ => hq h M Fo.rf) (fun _ => ?_)
    simp (disch := omega) only [cE M, lits, iI_add, iI_sub, iI_mul, iI_neg]
    exact C_next (Or.inl rfl) N M hp (fun e h2 M2 f2 => br_tt rfl (hq h2 M2 (f2.fo (by omega)))) (fun l ys e => by cases e)
  | cons x xs ih =>
    intro u n h V A hu hn N M hq
    obtain ⟨u, rfl⟩ : ∃ v, u = v + 1 := ⟨u - 1, by omega⟩
    simp only [List.length_cons] at hu hn hq
    unfold L_X4_orders_23 B_X4_orders_45
    refine br_le (a := 362880) (by omega) (by omega) (fun w => absurd w (by omega)) (fun _ => ?_)
    have en : iI (n : Int) + iI 1 = iI ((n + 1 : Nat) : Int) := by rw [iI_add]; rfl
    rw [(cE M).2.2.2.1, (cE M).2.2.2.2.2.2.2.2.2.2.2.2.2.2.2.2.1]
    refine C_next (Or.inl rfl) N M hp (fun e => by cases e) (fun l ys e h2 V2 A2 R2 L2 hR N2 M2 f2 => br_ff (by decide) ?_)
    cases e
    show L_X4_orders_23 c Q u (iI n + iI 1) h2
    rw [en]
    refine ih u (n + 1) h2 V2 A2 (by omega) (by omega) N2 M2 (fun h3 M3 f3 => ?_)
    have := hq h3 M3 (Fo.tr (f2.fo (by omega)) f3)
    rw [show n + 1 + xs.length = n + (xs.length + 1) by omega]
    exact this
theorem C_orders {z : Int} (M : CR h c np Ps td cl st) (hz : iB z) (hq : ∀ h', CR h' c np Ps td cl st → Fo c h h' → Q (iI (s_orders np Ps z)) h') : F_X4_orders c (iI z) h Q := by
  unfold F_X4_orders
  rw [(cE M).1]
  unfold s_orders at hq
  refine c_find M hz (fun w => ?_) (fun p e hp => ?_)
  · rw [w] at hq
    exact hq h M Fo.rf
  · subst e
    rw [vN_n hp] at hq
    simp only [if_true, Int.toNat_natCast] at hq
    have ml := mOrd_len (M.ok hp)
    show pq_gA h c 4 2 _
    simp (disch := omega) only [cE M, lits, iI_add, iI_sub, iI_mul, iI_neg]
    refine C_begin (Or.inl rfl) M hp (fun h1 V1 A1 N1 M1 f1 => ?_)
    refine ⟨(mOrd (Ps p)).length + 1, ?_⟩
    refine c_orders_loop hp (mOrd (Ps p)) _ 0 h1 V1 A1 (by omega) (by omega) N1 M1 (fun h2 M2 f2 => ?_)
    rw [Nat.zero_add]
    exact hq h2 M2 (Fo.tr (f1.fo (by omega)) f2)
theorem c_order_loop {k : Nat} {w : Int} {Q : Int64 → pz_H → Prop} (hp : p < np) (hk : k < 362880) : ∀ (r u i : Nat) (xs : List (List Nat)) (h : pz_H) (V : Nat → Int) (A : Nat → Int → Int), i + r = k + 1 → r < u → qR h (c + 2) V A (pA c p) (Ps p) xs → CR h c np Ps td cl st → (r = 0 → ∃ l, qL V A l ∧ isR (cr_n (Ps p)) l ∧ w = (num l : Nat)) → (0 < r → w = if r - 1 < xs.length then ((num (xs.getD (r - 1) []) : Nat) : Int) else -102) → (∀ h', CR h' c np Ps td cl st → Fo c h h' → Q (jI w) h') → L_X4_order_39 c (iI k) Q u (iI i) h := by
  intro r
  induction r with
  | zero =>
    intro u i xs h V A hi hu N M h0 _ hq
    obtain ⟨l, L, hR, ew⟩ := h0 rfl
    obtain ⟨u, rfl⟩ : ∃ v, u = v + 1 := ⟨u - 1, by omega⟩
    unfold L_X4_order_39
    refine br_lt (by omega) (by omega) (fun _ => ?_) (fun w => absurd w (by omega))
    rw [(cE M).2.2.2.1, (cE M).2.2.2.2.2.2.2.2.2.2.2.2.2.2.2.2.1]
    refine c_asNumber (M.ok hp).n9.2 N.rq L hR ?_
    rw [ew] at hq
    exact hq h M Fo.rf
  | succ r ih =>
    intro u i xs h V A hi hu N M _ h1 hq
    have ew := h1 (by omega)
    rw [Nat.add_sub_cancel] at ew
    obtain ⟨u, rfl⟩ : ∃ v, u = v + 1 := ⟨u - 1, by omega⟩
    unfold L_X4_order_39
    refine br_lt (by omega) (by omega) (fun w => absurd w (by omega)) (fun _ => ?_)
    rw [(cE M).2.2.2.1, (cE M).2.2.2.2.2.2.2.2.2.2.2.2.2.2.2.2.1]
    refine C_next (Or.inl rfl) N M hp (fun e h2 M2 f2 => br_tt rfl ?_) (fun l ys e h2 V2 A2 R2 L2 hR N2 M2 f2 => br_ff (by decide) ?_)
    · rw [e, if_neg (by simp)] at ew
      rw [ew] at hq
      exact hq h2 M2 (f2.fo (by omega))
    · have ei : iI (i : Int) + iI 1 = iI ((i + 1 : Nat) : Int) := by rw [iI_add]; rfl
      show L_X4_order_39 c (iI k) Q u (iI i + iI 1) h2
      rw [ei]
      rw [e] at ew
      refine ih u (i + 1) ys h2 V2 A2 (by omega) (by omega) N2 M2 (fun r0 => ?_) (fun r0 => ?_) (fun h3 M3 f3 => hq h3 M3 (Fo.tr (f2.fo (by omega)) f3))
      · subst r0
        refine ⟨l, L2, hR, ?_⟩
        rw [ew]; simp
      · obtain ⟨r', rfl⟩ : ∃ r', r = r' + 1 := ⟨r - 1, by omega⟩
        rw [ew]; simp
theorem C_order {z k : Int} {Q : Int64 → pz_H → Prop} (M : CR h c np Ps td cl st) (hz : iB z) (hk : iB k) (hq : ∀ h', CR h' c np Ps td cl st → Fo c h h' → Q (jI (s_order np Ps z k)) h') : F_X4_order c (iI z) (iI k) h Q := by
  unfold F_X4_order B_X4_order_24
  rw [(cE M).1]
  unfold s_order at hq
  refine c_find M hz (fun w => ?_) (fun p e hp => ?_)
  · rw [w] at hq
    exact hq h M Fo.rf
  · subst e
    rw [vN_n hp] at hq
    simp only [if_true, Int.toNat_natCast] at hq
    have ml := mOrd_len (M.ok hp)
    have no : ¬ (0 ≤ k ∧ k < (mOrd (Ps p)).length) → Q (jI (-102)) h := fun w => by
      rw [if_neg w] at hq; exact hq h M Fo.rf
    show pq_br (iI k < 0) _ _
    refine br_lt (b := 0) hk (by omega) (fun w => no (by omega)) (fun w => ?_)
    refine br_lt (b := 362880) hk (by omega) (fun w2 => ?_) (fun w2 => no (by omega))
    obtain ⟨i, rfl⟩ : ∃ i : Nat, k = i := ⟨k.toNat, by omega⟩
    simp (disch := omega) only [cE M, lits, iI_add, iI_sub, iI_mul, iI_neg]
    refine C_begin (Or.inl rfl) M hp (fun h1 V1 A1 N1 M1 f1 => ?_)
    refine ⟨i + 2, ?_⟩
    refine c_order_loop hp (by omega) (i + 1) _ 0 (mOrd (Ps p)) h1 V1 A1 (by omega) (by omega) N1 M1 (fun r0 => by omega) (fun _ => ?_) (fun h2 M2 f2 => hq h2 M2 (Fo.tr (f1.fo (by omega)) f2))
    rw [Nat.add_sub_cancel, Int.toNat_natCast]
    by_cases w3 : i < (mOrd (Ps p)).length
    · rw [if_pos ⟨by omega, by omega⟩, if_pos w3]
    · rw [if_neg (by omega), if_neg w3]
end T1
