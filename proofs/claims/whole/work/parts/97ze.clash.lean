/-! THE CLASS: clash, inClash, step -/
theorem mOrd_ne {P : cr_P} (ok : cr_ok P) : mOrd P ≠ [] ↔ ∃ l, isR (cr_n P) l ∧ cr_un P = false ∧ alM P (ps l) ∧ alT P (ps l) ∧ alA P (ps l) := by
  have a := any_iff ok (q := fun _ => true)
  have e : (mOrd P).any (fun _ => true) = true ↔ mOrd P ≠ [] := by cases mOrd P <;> simp
  rw [← e, a]
  simp
theorem ok_mk {P : cr_P} (ok : cr_ok P) {f : Nat → Nat} (hf : ∀ c, f c ≤ 2) : cr_ok (withMk P f) := ⟨ok.1, ok.2.1, hf, ok.2.2.2⟩
theorem alM_mk {P : cr_P} {f : Nat → Nat} {x : Nat} (ef : ∀ c, c < cr_m P → f c = if x.testBit c then cr_mk P c else 0) (H : Nat → Int) : alM (withMk P f) H ↔ mkd P (fun c => x.testBit c) (cr_m P) H := by
  have e : ∀ c, cr_mok (withMk P f) H c = (decide (f c = 0) || decide (f c = cr_mi P H c)) := fun _ => rfl
  constructor
  · intro h c hc h1 h2
    have w := h c hc
    have h1 : x.testBit c = true := h1
    rw [e, ef c hc, if_pos h1] at w
    simp only [Bool.or_eq_true, decide_eq_true_eq] at w
    rcases w with w | w
    · exact absurd w h2
    · exact w.symm
  · intro h c hc
    rw [e, ef c hc]
    cases h1 : x.testBit c with
    | false => simp
    | true =>
      by_cases h2 : cr_mk P c = 0
      · simp [h2]
      · have := h c hc h1 h2
        simp [this]
section T5
variable {h h' : pz_H} {c np p q b : Nat} {V : Nat → Int} {A : Nat → Int → Int} {Ps : Nat → cr_P} {td : Option (Nat × List Nat)} {cl : List Nat} {st : List Int} {K : pz_H → Prop} {Q : Int32 → pz_H → Prop}
theorem c_allows {x : Nat} {f : Nat → Nat} (hp : p < np) (M : CR h c np Ps td cl st) (hx : x < 2 ^ 31) (ef : ∀ d, d < cr_m (Ps p) → f d = if x.testBit d then cr_mk (Ps p) d else 0) (hf : ∀ d, f d ≤ 2) (hq : ∀ h', CR h' c np Ps td cl st → Fo c h h' → Q (iI (bI (decide (mOrd (withMk (Ps p) f) ≠ [])))) h') : F_X4_allowsSome c (pA c p) (iI x) h Q := by
  obtain ⟨VP, AP, RP, C⟩ := M.pap hp
  obtain ⟨V, A, R⟩ := M.q (b := c + 2) (Or.inl rfl)
  have ok := C.1.1
  unfold F_X4_allowsSome
  rw [(cE M).2.2.2.1, (cE M).2.2.2.2.2.2.2.2.2.2.2.2.2.2.2.2.1]
  refine c_beginWith (ct := fun d => x.testBit d) (fun d hd h Q hq => c_has hx (by omega) hq) R C (by unfold pA; omega) RP (fun h1 V1 A1 Bw1 Dm1 S1 e1 f1 => ?_)
  have M1 := M.pile (Or.inl rfl) S1.1 f1
  rw [(cE M1).2.2.2.1, (cE M1).2.2.2.2.2.2.2.2.2.2.2.2.2.2.2.2.1]
  have ne := pO_ne ok S1.2.2.2.2.2.2.2.2.1 e1
  have an : mOrd (withMk (Ps p) f) ≠ [] ↔ pO (Ps p) Bw1 ≠ [] := by
    rw [mOrd_ne (ok_mk ok hf), ne]
    constructor
    · intro ⟨l, a1, a2, a3, a4, a5⟩
      exact ⟨l, a1, a2, (alM_mk ef _).mp a3, a4, a5⟩
    · intro ⟨l, a1, a2, a3, a4, a5⟩
      exact ⟨l, a1, a2, (alM_mk ef _).mpr a3, a4, a5⟩
  refine C_next (Or.inl rfl) (Or.inl ⟨Bw1, Dm1, S1, rfl⟩) M1 hp (fun e h3 M3 f3 => rg_z (Or.inl rfl) ?_) (fun l ys e h3 V3 A3 R3 L3 hR N3 M3 f3 => rg_z (Or.inr rfl) ?_)
  · have := hq h3 M3 ((f1.tr f3).fo (by omega))
    rw [decide_eq_false (fun w => (an.mp w) e)] at this
    exact this
  · have := hq h3 M3 ((f1.tr f3).fo (by omega))
    rw [decide_eq_true (an.mpr (by rw [e]; simp))] at this
    exact this
theorem c_clear (M : CR h c np Ps td cl st) (hq : ∀ h', CR h' c np Ps td [] st → Fo c h h' → K h') : pq_p h c 4 10 (.int (0 : Int32)) K := by
  obtain ⟨O, ⟨V, T5, T6, KK, S, ⟨r1, r2, r3, r4, r5⟩, tt, bb, dd⟩, scr, pap⟩ := M
  refine rg_p (V' := va_up V 10 0) r1 rfl (Nat.le_of_ble_eq_true rfl) fun h1 R1 f1 => ?_
  refine hq h1 ⟨⟨O.1, Nat.zero_le _, O.2.2⟩, ⟨_, T5, T6, KK, S, ⟨R1, r2, r3, rfl, r5⟩, ⟨tt.1.fr f1 (by omega), tt.2.1.fr f1 (by omega), tt.2.2⟩, ⟨bb.1.fr f1 (by omega), fun i hi => by simp at hi⟩, dd.1.fr f1 (by omega), dd.2⟩, scr.of (fun q q1 q2 => f1.2 q (by omega)), pap.of (fun q hq => f1.2 q (by omega)) f1.1⟩ (f1.fo (by omega))
theorem c_push {x : Nat} (M : CR h c np Ps td cl st) (h12 : cl.length < 12) (hq : ∀ h', CR h' c np Ps td (cl ++ [x]) st → Fo c h h' → K h') : pq_gA h c 4 9 (fun b7 => pq_gI h c 4 10 (fun v8 => pq_sI h b7 v8 (iI x) (fun h9 => pq_gI h9 c 4 10 (fun v10 => pq_p h9 c 4 10 (.int (v10 + (1 : Int32))) K)))) := by
  rw [(cE M).2.2.2.2.2.2.2.2.2.2.1, (cE M).2.2.2.2.2.2.2.2.2.2.2.1]
  obtain ⟨O, ⟨V, T5, T6, KK, S, ⟨r1, r2, r3, r4, r5⟩, tt, bb, dd⟩, scr, pap⟩ := M
  refine ar_s bb.1 (by decide) ⟨by omega, by omega⟩ fun h1 e1 f1 => ?_
  have K1 : ar h1 (c + 18) 12 (zu KK cl.length x) := by unfold ar; rw [e1, pz_up_at]
  have R1 : rX h1 c V := r1.fr f1 (by omega)
  rw [(cxE R1).2.2.2.2.2.2.2.2.2.2.2.1, r4]
  have el : iI (cl.length : Int) + (1 : Int32) = iI ((cl ++ [x]).length : Int) := by rw [iI_1, iI_add, List.length_append]; rfl
  rw [el]
  refine rg_p (V' := va_up V 10 ((cl ++ [x]).length : Int)) R1 rfl (Nat.le_of_ble_eq_true rfl) fun h2 R2 f2 => ?_
  have F : ∀ q, (q ≠ c ∧ q ≠ c + 18) → h2.1 q = h.1 q := fun q hq => by rw [f2.2 q (by omega), f1.2 q (by omega)]
  have E : h2.2 = h.2 := by rw [f2.1, f1.1]
  refine hq h2 ⟨⟨O.1, by simp; omega, O.2.2⟩, ⟨_, T5, T6, _, S, ⟨R2, r2, r3, rfl, r5⟩, ⟨(tt.1.fr f1 (by omega)).fr f2 (by omega), (tt.2.1.fr f1 (by omega)).fr f2 (by omega), tt.2.2⟩, ⟨K1.fr f2 (by omega), fun i hi => ?_⟩, (dd.1.fr f1 (by omega)).fr f2 (by omega), dd.2⟩, scr.of (fun q q1 q2 => F q (by omega)), pap.of (fun q hq => F q (by omega)) E⟩ (fun q q1 q2 => F q (by omega))
  by_cases e : i = cl.length
  · subst e
    rw [zu_at, List.getD_eq_getElem?_getD, List.getElem?_append_right (by omega)]
    simp
  · have hi' : i < cl.length := by rw [List.length_append, List.length_singleton] at hi; omega
    rw [zu_ne (by omega), bb.2 i hi', List.getD_eq_getElem?_getD, List.getD_eq_getElem?_getD, List.getElem?_append_left hi']
theorem c_clash92 {x : Nat} {F : Nat → Nat} (hp : p < np) (hx : x < 2 ^ 31) (ef : ∀ d, d < cr_m (Ps p) → (x.testBit d = true ↔ F d ≠ 0)) : ∀ (k u d : Nat) (h : pz_H), d + k = cr_m (Ps p) → k < u → CR h c np Ps td ((List.range d).filter (fun c => decide (F c ≠ 0))) st → (∀ h', CR h' c np Ps td ((List.range (cr_m (Ps p))).filter (fun c => decide (F c ≠ 0))) st → Fo c h h' → Q (iI ((List.range (cr_m (Ps p))).filter (fun c => decide (F c ≠ 0))).length) h') → L_X4_clash_92 c (pA c p) (iI x) Q u (iI d) h := by
  intro k
  induction k with
  | zero =>
    intro u d h hd hu M hq
    obtain ⟨u, rfl⟩ : ∃ v, u = v + 1 := ⟨u - 1, by omega⟩
    have ok := M.ok hp
    have hm := ok.m12
    obtain ⟨VP, AP, RP, C⟩ := M.pap hp
    have ed : d = cr_m (Ps p) := by omega
    unfold L_X4_clash_92
    rw [(pE RP).2.2.2.2.2.1, C.1.2.2.2.2.2.1]
    refine br_le (by omega) (by omega) (fun _ => ?_) (fun w => absurd w (by omega))
    rw [(cE M).2.2.2.2.2.2.2.2.2.2.2.1]
    rw [ed] at M ⊢
    exact hq h M Fo.rf
  | succ k ih =>
    intro u d h hd hu M hq
    obtain ⟨u, rfl⟩ : ∃ v, u = v + 1 := ⟨u - 1, by omega⟩
    have ok := M.ok hp
    have hm := ok.m12
    obtain ⟨VP, AP, RP, C⟩ := M.pap hp
    have hl : ((List.range d).filter (fun c => decide (F c ≠ 0))).length ≤ d := by
      have := List.length_filter_le (fun c => decide (F c ≠ 0)) (List.range d)
      simpa using this
    have ei : iI (d : Int) + (1 : Int32) = iI ((d + 1 : Nat) : Int) := by rw [iI_1, iI_add]; rfl
    unfold L_X4_clash_92 B_X4_clash_131
    rw [(pE RP).2.2.2.2.2.1, C.1.2.2.2.2.2.1]
    refine br_le (by omega) (by omega) (fun w => absurd w (by omega)) (fun _ => ?_)
    refine c_has hx (by omega) ?_
    cases hb : x.testBit d with
    | false =>
      have e0 : F d = 0 := by
        refine Classical.byContradiction (fun w => ?_)
        rw [(ef d (by omega)).mpr w] at hb; cases hb
      refine br_tt rfl ?_
      rw [ei]
      refine ih u (d + 1) h (by omega) (by omega) ?_ hq
      rw [List.range_succ, List.filter_append]
      have : [d].filter (fun c => decide (F c ≠ 0)) = [] := by simp [e0]
      rw [this, List.append_nil]
      exact M
    | true =>
      have e0 : F d ≠ 0 := (ef d (by omega)).mp hb
      refine br_ff (by decide) (c_push M (by omega) (fun h1 M1 f1 => ?_))
      rw [ei]
      refine ih u (d + 1) h1 (by omega) (by omega) ?_ (fun h2 M2 f2 => hq h2 M2 (Fo.tr f1 f2))
      rw [List.range_succ, List.filter_append]
      have : [d].filter (fun c => decide (F c ≠ 0)) = [d] := by simp [e0]
      rw [this]
      exact M1
theorem c_clash49 {F : Nat → Nat} (hp : p < np) : ∀ (k u x : Nat) (f : Nat → Nat) (h : pz_H), k ≤ cr_m (Ps p) → k < u → x < 2 ^ 12 → (∀ d, d < cr_m (Ps p) → f d = if x.testBit d then cr_mk (Ps p) d else 0) → (∀ d, d < cr_m (Ps p) → x.testBit d = true → cr_mk (Ps p) d ≠ 0) → (∀ d, f d ≤ 2) → clF (Ps p) k f = F → CR h c np Ps td [] st → (∀ h', CR h' c np Ps td ((List.range (cr_m (Ps p))).filter (fun c => decide (F c ≠ 0))) st → Fo c h h' → Q (iI ((List.range (cr_m (Ps p))).filter (fun c => decide (F c ≠ 0))).length) h') → L_X4_clash_49 c (pA c p) Q u (iI x) (iI ((k : Int) - 1)) h := by
  intro k
  induction k with
  | zero =>
    intro u x f h hk hu hx ef hb hf eF M hq
    obtain ⟨u, rfl⟩ : ∃ v, u = v + 1 := ⟨u - 1, by omega⟩
    unfold L_X4_clash_49
    have eF : f = F := eF
    subst eF
    refine br_tt (by decide) ⟨20, c_clash92 (F := f) hp (by omega) (fun d hd => ?_) (cr_m (Ps p)) 20 0 h (by omega) (by have := (M.ok hp).m12; omega) M hq⟩
    rw [ef d hd]
    cases hx : x.testBit d with
    | false => simp
    | true => simpa using hb d hd hx
  | succ k ih =>
    intro u x f h hk hu hx ef hb hf eF M hq
    obtain ⟨u, rfl⟩ : ∃ v, u = v + 1 := ⟨u - 1, by omega⟩
    have hm := (M.ok hp).m12
    have ek : ((k + 1 : Nat) : Int) - 1 = k := by omega
    have ek2 : iI (k : Int) + (-1 : Int32) = iI ((k : Int) - 1) := by rw [iI_m1, iI_add]; rfl
    have ed : iI (x : Int) &&& (((1 : Int32) <<< (iI (k : Int) &&& 31)) ^^^ (-1 : Int32)) = iI ((nu_dif x (2 ^ k) : Nat) : Int) := by
      rw [iI_shl (by omega)]; exact jI_andn _ _
    have dlt : nu_dif x (2 ^ k) < 2 ^ 12 := nu_lt_dif hx
    have dbit : ∀ i, (nu_dif x (2 ^ k)).testBit i = (x.testBit i && !decide (k = i)) := fun i => by rw [nu_dif_bit, Nat.testBit_two_pow]
    unfold L_X4_clash_49 B_X4_clash_83
    rw [ek, ek2, ed]
    rw [clF] at eF
    refine br_lt (b := 0) (by omega) (by omega) (fun w => absurd w (by omega)) (fun _ => ?_)
    cases hbk : x.testBit k with
    | false =>
      have fk : f k = 0 := by rw [ef k (by omega), hbk]; rfl
      have e1 : nu_dif x (2 ^ k) = x := by
        refine nu_ext (k := 12) dlt hx (fun i hi => ?_)
        rw [dbit]
        by_cases w : k = i
        · subst w; rw [hbk]; rfl
        · simp [w]
      rw [e1]
      rw [if_pos fk] at eF
      exact br_tt rfl (ih u x f h (by omega) (by omega) hx ef hb hf eF M hq)
    | true =>
      have fk : f k ≠ 0 := by rw [ef k (by omega), hbk]; exact hb k (by omega) hbk
      rw [if_neg fk] at eF
      have e1 : nu_dif x (2 ^ k) ≠ x := fun e => by
        have := dbit k
        rw [e, hbk] at this
        simp at this
      have ef2 : ∀ d, d < cr_m (Ps p) → va_up f k 0 d = if (nu_dif x (2 ^ k)).testBit d then cr_mk (Ps p) d else 0 := fun d hd => by
        rw [dbit]
        by_cases w : d = k
        · subst w; rw [va_up_self]; simp
        · rw [va_up_ne _ _ w, ef d hd]
          have : ¬ k = d := fun z => w z.symm
          simp [this]
      have hf2 : ∀ d, va_up f k 0 d ≤ 2 := fun d => by
        by_cases w : d = k
        · subst w; rw [va_up_self]; omega
        · rw [va_up_ne _ _ w]; exact hf d
      refine br_eq (by omega) (by omega) (fun e => absurd e (by omega)) (fun _ => ?_)
      rw [(cE M).1]
      refine c_allows hp M (by omega) ef2 hf2 (fun h1 M1 f1 => ?_)
      by_cases w : mOrd (withMk (Ps p) (va_up f k 0)) = []
      · rw [if_pos w] at eF
        rw [decide_eq_false (fun z => z w)]
        refine br_tt rfl (ih u _ _ h1 (by omega) (by omega) dlt ef2 (fun d hd hx => hb d hd ?_) hf2 eF M1 (fun h2 M2 f2 => hq h2 M2 (Fo.tr f1 f2)))
        rw [dbit, Bool.and_eq_true] at hx
        exact hx.1
      · rw [if_neg w] at eF
        rw [decide_eq_true w]
        exact br_ff (by decide) (ih u x f h1 (by omega) (by omega) hx ef hb hf eF M1 (fun h2 M2 f2 => hq h2 M2 (Fo.tr f1 f2)))
theorem C_clash {z : Int} (M : CR h c np Ps td cl st) (hz : iB z) (hq : ∀ h', CR h' c np Ps td (s_clashC np Ps cl z) st → Fo c h h' → Q (iI (s_clash np Ps z)) h') : F_X4_clash c (iI z) h Q := by
  unfold F_X4_clash
  rw [(cE M).1]
  unfold s_clash s_clashC at hq
  refine c_find M hz (fun w => ?_) (fun p e hp => ?_)
  · rw [w] at hq
    exact hq h M Fo.rf
  · subst e
    rw [vN_n hp] at hq
    simp only [if_true, Int.toNat_natCast] at hq
    have ok := M.ok hp
    have hm := ok.m12
    unfold pq_sw
    simp only
    refine c_clear M (fun h1 M1 f1 => ?_)
    obtain ⟨VP, AP, RP, C⟩ := M1.pap hp
    rw [(pE RP).1]
    refine c_marked (x := 1) (by decide) RP C ?_
    rw [(pE RP).1]
    refine c_marked (x := 2) (by decide) RP C ?_
    rw [iI_or, (cE M1).1]
    obtain ⟨x, hx⟩ : ∃ x, x = nu_bm (fun c => decide (cr_mk (Ps p) c = 1)) (cr_m (Ps p)) ||| nu_bm (fun c => decide (cr_mk (Ps p) c = 2)) (cr_m (Ps p)) := ⟨_, rfl⟩
    have xb : ∀ d, d < cr_m (Ps p) → (x.testBit d = true ↔ cr_mk (Ps p) d ≠ 0) := fun d hd => by
      have := ok.2.2.1 d
      rw [hx, Nat.testBit_or, nu_bm_bit, nu_bm_bit, decide_eq_true hd, Bool.true_and, Bool.true_and, Bool.or_eq_true, decide_eq_true_eq, decide_eq_true_eq]
      omega
    have xlt : x < 2 ^ 12 := by
      have h2 : 2 ^ cr_m (Ps p) ≤ 2 ^ 12 := Nat.pow_le_pow_right (by decide) hm
      have := nu_lt_or (nu_bm_lt (fun c => decide (cr_mk (Ps p) c = 1)) (cr_m (Ps p))) (nu_bm_lt (fun c => decide (cr_mk (Ps p) c = 2)) (cr_m (Ps p)))
      omega
    rw [← hx]
    have ef : ∀ d, d < cr_m (Ps p) → cr_mk (Ps p) d = if x.testBit d then cr_mk (Ps p) d else 0 := fun d hd => by
      cases w : x.testBit d with
      | true => rfl
      | false =>
        refine Classical.byContradiction (fun z => ?_)
        have := (xb d hd).mpr z
        rw [w] at this; cases this
    refine c_allows hp M1 (by omega) ef ok.2.2.1 (fun h2 M2 f2 => ?_)
    have eP : withMk (Ps p) (cr_mk (Ps p)) = Ps p := rfl
    rw [eP]
    unfold s_clashL at hq
    by_cases w : mOrd (Ps p) = []
    · rw [decide_eq_false (fun z => z w)]
      rw [if_pos w] at hq
      refine br_tt rfl ?_
      obtain ⟨VP2, AP2, RP2, C2⟩ := M2.pap hp
      rw [(pE RP2).2.2.2.2.2.1, C2.1.2.2.2.2.2.1]
      have em : iI (cr_m (Ps p) : Int) - (1 : Int32) = iI ((cr_m (Ps p) : Int) - 1) := by rw [iI_1, iI_sub]
      rw [em]
      exact ⟨20, c_clash49 hp (cr_m (Ps p)) 20 x (cr_mk (Ps p)) h2 (Nat.le_refl _) (by omega) xlt ef (fun d hd w => (xb d hd).mp w) ok.2.2.1 rfl M2 (fun h3 M3 f3 => hq h3 M3 (Fo.tr f1 (Fo.tr f2 f3)))⟩
    · rw [decide_eq_true w]
      rw [if_neg w] at hq
      exact br_ff (by decide) (hq h2 M2 (Fo.tr f1 f2))
theorem C_inClash {z : Int} (M : CR h c np Ps td cl st) (hz : iB z) (hq : Q (iI (s_inClash cl z)) h) : F_X4_inClash c (iI z) h Q := by
  unfold F_X4_inClash B_X4_inClash_12 B_X4_inClash_22
  unfold s_inClash at hq
  have h12 := M.1.2.1
  refine br_lt (b := 0) hz (by omega) (fun w => ?_) (fun w => ?_)
  · rw [if_neg (by omega)] at hq; exact hq
  · rw [(cE M).2.2.2.2.2.2.2.2.2.2.2.1]
    refine br_lt hz (by omega) (fun w2 => ?_) (fun w2 => ?_)
    · rw [if_pos ⟨w, w2⟩] at hq
      obtain ⟨i, rfl⟩ : ∃ i : Nat, z = i := ⟨z.toNat, by omega⟩
      rw [(cE M).2.2.2.2.2.2.2.2.2.2.1]
      obtain ⟨O, ⟨V, T5, T6, KK, S, rr, tt, bb, dd⟩, scr, pap⟩ := M
      rw [ar_e bb.1 (by decide) _ _ (by omega) (by omega), bb.2 i (by omega)]
      exact hq
    · rw [if_neg (by omega)] at hq; exact hq
theorem C_step {z : Int} (M : CR h c np Ps td cl st) (hz : iB z) (hq : Q (iI (s_step st z)) h) : F_X4_step c (iI z) h Q := by
  unfold F_X4_step B_X4_step_12 B_X4_step_23
  unfold s_step at hq
  have h12 := M.1.2.2
  refine br_lt (b := 0) hz (by omega) (fun w => ?_) (fun w => ?_)
  · rw [if_neg (by omega)] at hq; exact hq
  · rw [(cE M).2.2.2.2.2.2.2.2.2.2.2.2.2.2.2.1]
    refine br_lt hz (by omega) (fun w2 => ?_) (fun w2 => ?_)
    · rw [if_pos ⟨w, w2⟩] at hq
      obtain ⟨i, rfl⟩ : ∃ i : Nat, z = i := ⟨z.toNat, by omega⟩
      rw [(cE M).2.2.2.2.2.2.2.2.2.2.2.2.2.2.1]
      obtain ⟨O, ⟨V, T5, T6, KK, S, rr, tt, bb, dd⟩, scr, pap⟩ := M
      rw [ar_e dd.1 (by decide) _ _ (by omega) (by omega), dd.2 i (by omega)]
      exact hq
    · rw [if_neg (by omega)] at hq; exact hq
end T5
