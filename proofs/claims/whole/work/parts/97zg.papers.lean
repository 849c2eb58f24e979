/-! THE CLASS: strip, corner, map, length, mark, about, crease -/
theorem bc_m {P : cr_P} (ok : cr_ok P) (x : Nat) : nu_bm (fun c => decide (cr_mk P c = x)) (cr_m P) < 4096 ∧ bcN (nu_bm (fun c => decide (cr_mk P c = x)) (cr_m P)) 12 = cr_cnt (cr_mk P) x (cr_m P) := by
  have hm := ok.m12
  have h1 : nu_bm (fun c => decide (cr_mk P c = x)) (cr_m P) < 2 ^ cr_m P := nu_bm_lt _ _
  have h2 : 2 ^ cr_m P ≤ 2 ^ 12 := Nat.pow_le_pow_right (by decide) hm
  refine ⟨by omega, ?_⟩
  have := bc_up _ _ h1 (12 - cr_m P)
  rw [show cr_m P + (12 - cr_m P) = 12 by omega] at this
  rw [this, bc_cnt _ _ _ _ (Nat.le_refl _)]
theorem cB_ln {V : Nat → Int} {A : Nat → Int → Int} {P : cr_P} {g v : Nat} (B : cB V A P) (ok : cr_ok (setLn P g v)) : cB V (au A 3 g v) (setLn P g v) := by
  obtain ⟨-, b0, b1, b2, b3, b4, q1, q2, q3, q5, q6, q7, q12⟩ := B
  unfold cB
  rw [au_nk (k := 1) (by decide), au_nk (k := 2) (by decide), au_nk (k := 5) (by decide), au_nk (k := 6) (by decide), au_nk (k := 7) (by decide), au_nk (k := 12) (by decide)]
  refine ⟨ok, b0, b1, b2, b3, b4, q1, q2, fun f hf => ?_, q5, q6, q7, q12⟩
  show au A 3 (g : Int) (v : Int) 3 (f : Int) = ((va_up (cr_ln P) g v f : Nat) : Int)
  by_cases e : f = g
  · subst e; rw [au_at, va_up_self]
  · rw [au_ne (by omega), va_up_ne _ _ e]; exact q3 f hf
theorem cP.mk {V : Nat → Int} {A : Nat → Int → Int} {P : cr_P} {g v : Nat} (C : cP V A P) (ok : cr_ok (setMk P g v)) : cP V (au A 8 g v) (setMk P g v) := by
  obtain ⟨B, D, K⟩ := C
  have B1 := B.au (j := 8) (i := g) (x := v) (Or.inr (Or.inl rfl))
  refine ⟨⟨ok, B1.2⟩, ?_, fun c hc => ?_, K.2⟩
  · unfold cD at D ⊢
    rw [au_nk (by decide), au_nk (by decide), au_nk (by decide), au_nk (by decide)]
    exact D
  · show au A 8 (g : Int) (v : Int) 8 (c : Int) = ((va_up (cr_mk P) g v c : Nat) : Int)
    by_cases e : c = g
    · subst e; rw [au_at, va_up_self]
    · rw [au_ne (by omega), va_up_ne _ _ e]; exact K.1 c hc
section T7
variable {h h' : pz_H} {c np p q b : Nat} {V : Nat → Int} {A : Nat → Int → Int} {Ps : Nat → cr_P} {P' : cr_P} {td : Option (Nat × List Nat)} {cl : List Nat} {st : List Int} {K : pz_H → Prop} {Q : Int32 → pz_H → Prop}
theorem c_add {k r cc : Nat} (sh : cr_shape k r cc) (M : CR h c np Ps td cl st) (h30 : np = 30 → Q (iI (-104)) h) (hq : np < 30 → ∀ h', CR h' c (np + 1) (va_up Ps np (newP k r cc)) td cl st → Fo c h h' → Q (iI np) h') : F_X4_addPaper c (iI k) (iI r) (iI cc) h Q := by
  have n30 := M.n30
  unfold F_X4_addPaper
  rw [(cE M).2.2.1]
  refine br_lt (b := 30) (by omega) (by omega) (fun w => ?_) (fun w => h30 (by omega))
  rw [(cE M).2.1, (cE M).2.2.1]
  obtain ⟨O, top, scr, p1, p2, p3, p4⟩ := id M
  intro _
  have B : bl 1 (fun j => rg_c 0 (lP j) (fun _ => 0)) h h.2 cP_fs 0 (pz_nw h (.inr (1, cP_fs))) := ⟨pz_nw_at, fun j h1 h2 => by omega, rfl, fun q hq => pz_nw_ne (by omega)⟩
  refine c_init (a := h.2) sh B (fun h6 V6 A6 R6 C6 low sz => ?_)
  have e2 : h.2 = c + 54 + 13 * np := p3
  refine ⟨30, _, _, by rw [low _ (by omega)]; exact p1, R6.1, iI_in (by omega) (by omega), ?_⟩
  rw [iI_clamp (by omega)]
  have up : va_up (fun i => if i < np then some (pA c i) else none) np (some h.2) = fun i => if i < np + 1 then some (pA c i) else none := by
    funext i
    by_cases e : i = np
    · subst e; rw [va_up_self, if_pos (by omega), p3]
    · rw [va_up_ne _ _ e]
      by_cases e2 : i < np
      · rw [if_pos e2, if_pos (by omega)]
      · rw [if_neg e2, if_neg (by omega)]
  rw [up]
  obtain ⟨h7, e7⟩ : ∃ h7, h7 = pz_up h6 (c + 1) (.inl (2, 30, .inr (.inr (.inr (.inr (fun i => if i < np + 1 then some (pA c i) else none)))))) := ⟨_, rfl⟩
  have f7 : Fr (c + 1) (c + 2) h6 h7 := by rw [e7]; exact Fr.up (by omega) (by omega)
  have a7 : h7.1 (c + 1) = some (.inl (2, 30, .inr (.inr (.inr (.inr (fun i => if i < np + 1 then some (pA c i) else none)))))) := by rw [e7, pz_up_at]
  rw [← e7]
  have E7 : ∀ q, q ≠ c + 1 → q < h.2 → h7.1 q = h.1 q := fun q q1 q2 => by rw [f7.2 q (by omega), low q q2]
  obtain ⟨V, T5, T6, KK, S, ⟨r1, r2, r3, r4, r5⟩, tt, bb, dd⟩ := top.of (h' := h7) (fun q hq => E7 q (by omega) (by omega))
  show pq_gI h7 c 4 1 _
  rw [(cxE r1).2.2.1, r2]
  have en : iI (np : Int) + (1 : Int32) = iI ((np : Int) + 1) := by rw [iI_1, iI_add]
  rw [en]
  refine rg_p (V' := va_up V 1 ((np : Int) + 1)) r1 rfl (Nat.le_of_ble_eq_true rfl) fun h9 R9 f9 => ?_
  rw [(cxE R9).2.2.1]
  have ea : iI (va_up V 1 ((np : Int) + 1) 1) - (1 : Int32) = iI (np : Int) := by
    rw [va_up_self, iI_1, iI_sub]; congr 1; omega
  rw [ea]
  have E9 : ∀ q, q ≠ c → q ≠ c + 1 → q < h.2 → h9.1 q = h.1 q := fun q q1 q2 q3 => by rw [f9.2 q (by omega), E7 q q2 q3]
  have E10 : ∀ q, c + 2 ≤ q → h9.1 q = h6.1 q := fun q q1 => by rw [f9.2 q (by omega), f7.2 q (by omega)]
  refine hq (by omega) h9 ⟨okS_new O, ⟨_, T5, T6, KK, S, ⟨R9, by rw [va_up_self]; rfl, r3, r4, r5⟩, ⟨tt.1.fr f9 (by omega), tt.2.1.fr f9 (by omega), tt.2.2⟩, ⟨bb.1.fr f9 (by omega), bb.2⟩, dd.1.fr f9 (by omega), dd.2⟩, scr.of (fun q q1 q2 => E9 q (by omega) (by omega) (by omega)), ?_, fun i hi => ?_, ?_, by omega⟩ (fun q q1 q2 => E9 q (by omega) (by omega) (by omega))
  · unfold pAr
    rw [f9.2 _ (by omega)]
    exact a7
  · by_cases e : i = np
    · subst e
      rw [va_up_self]
      refine ⟨V6, A6, ?_, C6⟩
      rw [← p3]
      exact R6.up (fun q q1 q2 => E10 q (by omega))
    · obtain ⟨V1, A1, R1, C1⟩ := p2 i (by omega)
      rw [va_up_ne _ _ e]
      refine ⟨V1, A1, R1.up (fun q q1 q2 => ?_), C1⟩
      unfold pA at q1 q2
      exact E9 q (by omega) (by omega) (by omega)
  · rw [f9.1, f7.1, sz]
    unfold pA
    omega
/-- a new paper, or none -/
theorem C_new {ok : Bool} {k r cc : Nat} (M : CR h c np Ps td cl st) (sh : cr_shape k r cc) (hok : ok = true) (hq : ∀ h', CR h' c (s_newN np ok) (s_newS np Ps ok (newP k r cc)) td cl st → Fo c h h' → Q (iI (s_new np ok)) h') : F_X4_addPaper c (iI k) (iI r) (iI cc) h Q := by
  subst hok
  unfold s_newN s_newS s_new at hq
  refine c_add sh M (fun e => ?_) (fun e h1 M1 f1 => ?_)
  · rw [decide_eq_false (not_not_intro e), if_pos rfl, if_pos e] at hq
    exact hq h M Fo.rf
  · rw [decide_eq_true (show np ≠ 30 by omega), if_pos rfl, if_neg (show ¬ np = 30 by omega)] at hq
    exact hq h1 M1 f1
theorem C_no {ok : Bool} {P : cr_P} (M : CR h c np Ps td cl st) (hok : ok = false) (hq : ∀ h', CR h' c (s_newN np ok) (s_newS np Ps ok P) td cl st → Fo c h h' → Q (iI (s_new np ok)) h') : Q (iI (-102)) h := by
  subst hok
  exact hq h M Fo.rf
theorem C_strip {z : Int} (M : CR h c np Ps td cl st) (hz : iB z) (hq : ∀ h', CR h' c (s_newN np (okStrip z)) (s_newS np Ps (okStrip z) (newP 0 1 z.toNat)) td cl st → Fo c h h' → Q (iI (s_new np (okStrip z))) h') : F_X4_strip c (iI z) h Q := by
  unfold F_X4_strip B_X4_strip_11 B_X4_strip_23
  refine br_lt (b := 1) hz (by omega) (fun w => C_no M (decide_eq_false (by omega)) hq) (fun w => ?_)
  refine br_le (b := 9) hz (by omega) (fun w2 => ?_) (fun w2 => C_no M (decide_eq_false (by omega)) hq)
  obtain ⟨n, rfl⟩ : ∃ n : Nat, z = n := ⟨z.toNat, by omega⟩
  rw [Int.toNat_natCast] at hq
  rw [(cE M).1]
  exact C_new (k := 0) (r := 1) (cc := n) M ⟨by omega, by omega, by omega, by omega, fun _ => rfl, fun e => by omega⟩ (decide_eq_true (by omega)) hq
theorem C_corner {z : Int} (M : CR h c np Ps td cl st) (hz : iB z) (hq : ∀ h', CR h' c (s_newN np (okCorner z)) (s_newS np Ps (okCorner z) (newP 1 1 z.toNat)) td cl st → Fo c h h' → Q (iI (s_new np (okCorner z))) h') : F_X4_corner c (iI z) h Q := by
  unfold F_X4_corner B_X4_corner_11 B_X4_corner_23
  refine br_lt (b := 2) hz (by omega) (fun w => C_no M (decide_eq_false (by omega)) hq) (fun w => ?_)
  refine br_le (b := 9) hz (by omega) (fun w2 => ?_) (fun w2 => C_no M (decide_eq_false (by omega)) hq)
  obtain ⟨n, rfl⟩ : ∃ n : Nat, z = n := ⟨z.toNat, by omega⟩
  rw [Int.toNat_natCast] at hq
  rw [(cE M).1]
  exact C_new (k := 1) (r := 1) (cc := n) M ⟨by omega, by omega, by omega, by omega, fun _ => rfl, fun e => by omega⟩ (decide_eq_true (by omega)) hq
theorem C_map {y z : Int} (M : CR h c np Ps td cl st) (hy : iB y) (hz : iB z) (hq : ∀ h', CR h' c (s_newN np (okMap y z)) (s_newS np Ps (okMap y z) (newP 2 y.toNat z.toNat)) td cl st → Fo c h h' → Q (iI (s_new np (okMap y z))) h') : F_X4_map c (iI y) (iI z) h Q := by
  unfold F_X4_map B_X4_map_22 B_X4_map_45
  refine br_lt (b := 1) hy (by omega) (fun w => C_no M (decide_eq_false (by omega)) hq) (fun w => ?_)
  refine br_lt (b := 1) hz (by omega) (fun w => C_no M (decide_eq_false (by omega)) hq) (fun w2 => ?_)
  refine br_lt (a := 9) (by omega) hy (fun w => C_no M (decide_eq_false (by omega)) hq) (fun w3 => ?_)
  refine br_le (b := 9) hz (by omega) (fun w4 => ?_) (fun w4 => C_no M (decide_eq_false (by omega)) hq)
  obtain ⟨m, rfl⟩ : ∃ n : Nat, y = n := ⟨y.toNat, by omega⟩
  obtain ⟨n, rfl⟩ : ∃ n : Nat, z = n := ⟨z.toNat, by omega⟩
  rw [Int.toNat_natCast, Int.toNat_natCast] at hq
  have mn : m * n ≤ 9 * 9 := Nat.mul_le_mul (by omega) (by omega)
  have mc : (m : Int) * (n : Int) = ((m * n : Nat) : Int) := by rw [Int.natCast_mul]
  rw [iI_mul, mc]
  refine br_le (b := 9) (by omega) (by omega) (fun w5 => ?_) (fun w5 => C_no M (decide_eq_false (by rw [mc]; omega)) hq)
  rw [(cE M).1]
  exact C_new (k := 2) (r := m) (cc := n) M ⟨by omega, by omega, by omega, by omega, fun e => absurd rfl e, fun e => by omega⟩ (decide_eq_true (by rw [mc]; omega)) hq
theorem C_length {z f v : Int} (M : CR h c np Ps td cl st) (hz : iB z) (hf : iB f) (hv : iB v) (hq : ∀ h', CR h' c np (s_lengthS np Ps z f v) td cl st → Fo c h h' → Q (iI (s_length np Ps z f v)) h') : F_X4_length c (iI z) (iI f) (iI v) h Q := by
  unfold F_X4_length B_X4_length_21 B_X4_length_36
  rw [(cE M).1]
  unfold s_length s_lengthS vF at hq
  refine c_find M hz (fun w => ?_) (fun p e hp => ?_)
  · rw [w] at hq
    exact hq h M Fo.rf
  · subst e
    rw [vN_n hp] at hq
    simp only [Bool.true_and, Int.toNat_natCast] at hq
    obtain ⟨VP, AP, RP, C⟩ := M.pap hp
    have ok := C.1.1
    have kd := ok.1.1
    have hn := ok.n9
    show pq_o h (pA c p) 1 _
    rw [(pE RP).1]
    refine c_hasFace RP C.1 hf ?_
    by_cases wf : 0 ≤ f ∧ f < cr_n (Ps p)
    · rw [decide_eq_true wf] at hq ⊢
      simp only [if_true] at hq
      refine br_ff (by decide) ?_
      refine br_lt (b := 1) hv (by omega) (fun w1 => ?_) (fun w1 => ?_)
      · rw [if_pos (by omega), if_pos (by omega)] at hq; exact hq h M Fo.rf
      refine br_le (b := 1000) hv (by omega) (fun w2 => ?_) (fun w2 => ?_)
      · have nv : ¬ ¬ (1 ≤ v ∧ v ≤ 1000) := by omega
        rw [if_neg nv, if_neg nv] at hq
        rw [(pE RP).2.1, C.1.2.1]
        refine br_eq (b := 2) (by omega) (by omega) (fun k1 => ?_) (fun k1 => ?_)
        · have hk : cr_kd (Ps p) = 2 := by omega
          rw [if_pos hk, if_pos hk] at hq; exact hq h M Fo.rf
        · have hk : ¬ cr_kd (Ps p) = 2 := by omega
          rw [if_neg hk, if_neg hk] at hq
          obtain ⟨g, rfl⟩ : ∃ g : Nat, f = g := ⟨f.toNat, by omega⟩
          obtain ⟨x, rfl⟩ : ∃ g : Nat, v = g := ⟨v.toNat, by omega⟩
          rw [Int.toNat_natCast, Int.toNat_natCast] at hq
          have q3 := C.1.2.2.2.2.2.2.2.2.1 g (by omega)
          have okL : cr_ok (setLn (Ps p) g x) := setLn_ok ok (by omega) (by omega) hk
          simp (disch := omega) only [pE RP, q3, lits, iI_add, iI_sub, iI_mul, iI_neg]
          refine rg_sI RP (by decide) (by decide) rfl (by decide) ⟨by omega, by simp only [lP]; omega⟩ fun h1 R1 f1 => ?_
          have B1 := cB_ln C.1 okL
          rw [(pE R1).1]
          refine c_measure R1 B1 (by rw [au_nk (by decide)]; exact C.2.1.2.1) (fun h2 A2 R2 B2 D2 e2 f2 => ?_)
          have C2 : cP VP A2 (setLn (Ps p) g x) := by
            refine ⟨B2, D2, fun d hd => ?_, C.2.2.2⟩
            rw [e2 8 (by decide) (by decide) (by decide) (by decide), au_nk (by decide)]
            exact C.2.2.1 d hd
          exact hq h2 (M.paper hp R2 C2 rfl (f1.tr f2)) ((f1.tr f2).fo (by unfold pA; omega))
      · rw [if_pos (by omega), if_pos (by omega)] at hq; exact hq h M Fo.rf
    · rw [decide_eq_false wf] at hq ⊢
      exact br_tt rfl (hq h M Fo.rf)
theorem C_mark {z f v : Int} (M : CR h c np Ps td cl st) (hz : iB z) (hf : iB f) (hv : iB v) (hq : ∀ h', CR h' c np (s_markS np Ps z f v) td cl st → Fo c h h' → Q (iI (s_mark np Ps z f v)) h') : F_X4_mark c (iI z) (iI f) (iI v) h Q := by
  unfold F_X4_mark B_X4_mark_21 B_X4_mark_33
  rw [(cE M).1]
  unfold s_mark s_markS vC at hq
  refine c_find M hz (fun w => ?_) (fun p e hp => ?_)
  · rw [w] at hq
    exact hq h M Fo.rf
  · subst e
    rw [vN_n hp] at hq
    simp only [Bool.true_and, Int.toNat_natCast] at hq
    obtain ⟨VP, AP, RP, C⟩ := M.pap hp
    have ok := C.1.1
    have hm := ok.m12
    show pq_o h (pA c p) 1 _
    rw [(pE RP).1]
    refine c_hasCrease RP C.1 hf ?_
    by_cases wf : 0 ≤ f ∧ f < cr_m (Ps p)
    · rw [decide_eq_true wf] at hq ⊢
      simp only [if_true] at hq
      refine br_ff (by decide) ?_
      refine br_lt (b := 0) hv (by omega) (fun w1 => ?_) (fun w1 => ?_)
      · rw [if_pos (by omega), if_pos (by omega)] at hq; exact hq h M Fo.rf
      refine br_le (b := 2) hv (by omega) (fun w2 => ?_) (fun w2 => ?_)
      · rw [if_neg (by omega), if_neg (by omega)] at hq
        obtain ⟨g, rfl⟩ : ∃ g : Nat, f = g := ⟨f.toNat, by omega⟩
        obtain ⟨x, rfl⟩ : ∃ g : Nat, v = g := ⟨v.toNat, by omega⟩
        rw [Int.toNat_natCast, Int.toNat_natCast] at hq
        have q8 := C.2.2.1 g (by omega)
        have okL : cr_ok (setMk (Ps p) g x) := setMk_ok ok (by omega)
        simp (disch := omega) only [pE RP, q8, lits, iI_add, iI_sub, iI_mul, iI_neg]
        refine rg_sI RP (by decide) (by decide) rfl (by decide) ⟨by omega, by simp only [lP]; omega⟩ fun h1 R1 f1 => ?_
        exact hq h1 (M.paper hp R1 (C.mk okL) rfl f1) (f1.fo (by unfold pA; omega))
      · rw [if_pos (by omega), if_pos (by omega)] at hq; exact hq h M Fo.rf
    · rw [decide_eq_false wf] at hq ⊢
      exact br_tt rfl (hq h M Fo.rf)
theorem C_about {z w : Int} (M : CR h c np Ps td cl st) (hz : iB z) (hw : iB w) (hq : Q (iI (s_about np Ps z w)) h) : F_X4_about c (iI z) (iI w) h Q := by
  unfold F_X4_about B_X4_about_106
  rw [(cE M).1]
  unfold s_about at hq
  refine c_find M hz (fun w => ?_) (fun p e hp => ?_)
  · rw [w] at hq
    exact hq
  · subst e
    rw [vN_n hp] at hq
    simp only [if_true, Int.toNat_natCast] at hq
    obtain ⟨VP, AP, RP, C⟩ := M.pap hp
    have ok := C.1.1
    have kd := ok.1.1
    have hn := ok.n9
    unfold cr_about at hq
    show pq_tab (iI w) 0 5 _ _
    refine tab_of hw (fun d => ?_) (fun k ek hk => ?_)
    · rw [if_neg (by omega), if_neg (by omega), if_neg (by omega), if_neg (by omega), if_neg (by omega), if_neg (by omega)] at hq
      exact hq
    · match k, hk with
      | 0, _ =>
        have : w = 0 := by omega
        subst this
        show pq_gI h (pA c p) 1 0 _
        rw [(pE RP).2.1, C.1.2.1]
        exact hq
      | 1, _ =>
        have : w = 1 := by omega
        subst this
        show pq_gI h (pA c p) 1 3 _
        rw [(pE RP).2.2.2.2.1, C.1.2.2.2.2.1]
        exact hq
      | 2, _ =>
        have : w = 2 := by omega
        subst this
        show pq_gI h (pA c p) 1 4 _
        rw [(pE RP).2.2.2.2.2.1, C.1.2.2.2.2.2.1]
        exact hq
      | 3, _ =>
        have : w = 3 := by omega
        subst this
        show pq_o h (pA c p) 1 _
        rw [(pE RP).1]
        refine c_marked (x := 1) (by decide) RP C ?_
        obtain ⟨b1, b2⟩ := bc_m ok 1
        refine c_bitCount b1 ?_
        rw [b2]
        exact hq
      | 4, _ =>
        have : w = 4 := by omega
        subst this
        show pq_o h (pA c p) 1 _
        rw [(pE RP).1]
        refine c_marked (x := 2) (by decide) RP C ?_
        obtain ⟨b1, b2⟩ := bc_m ok 2
        refine c_bitCount b1 ?_
        rw [b2]
        exact hq
      | 5, _ =>
        have : w = 5 := by omega
        subst this
        show pq_gI h (pA c p) 1 0 _
        rw [(pE RP).2.1, C.1.2.1]
        have hq : Q (iI (if cr_kd (Ps p) = 1 then cr_e (cr_ln (Ps p)) (cr_n (Ps p)) else 0)) h := hq
        refine br_eq (b := 1) (by omega) (by omega) (fun k1 => ?_) (fun k1 => ?_)
        · rw [if_pos (by omega)] at hq
          have q4 := C.2.1.1 (by omega) (cr_n (Ps p)) (Nat.le_refl _)
          have q3 := C.1.2.2.2.2.1
          simp (disch := omega) only [pE RP, q3, q4, lits, iI_add, iI_sub, iI_mul, iI_neg]
          exact hq
        · rw [if_neg (by omega)] at hq
          exact hq
      | k + 6, hk => omega
theorem C_crease {z f w : Int} (M : CR h c np Ps td cl st) (hz : iB z) (hf : iB f) (hw : iB w) (hq : Q (iI (s_crease np Ps z f w)) h) : F_X4_crease c (iI z) (iI f) (iI w) h Q := by
  unfold F_X4_crease B_X4_crease_21
  rw [(cE M).1]
  unfold s_crease vC at hq
  refine c_find M hz (fun w => ?_) (fun p e hp => ?_)
  · rw [w] at hq
    exact hq
  · subst e
    rw [vN_n hp] at hq
    simp only [Bool.true_and, Int.toNat_natCast] at hq
    obtain ⟨VP, AP, RP, C⟩ := M.pap hp
    have ok := C.1.1
    have hm := ok.m12
    show pq_o h (pA c p) 1 _
    rw [(pE RP).1]
    refine c_hasCrease RP C.1 hf ?_
    by_cases wf : 0 ≤ f ∧ f < cr_m (Ps p)
    · rw [decide_eq_true wf] at hq ⊢
      simp only [if_true] at hq
      refine br_ff (by decide) ?_
      obtain ⟨g, rfl⟩ : ∃ g : Nat, f = g := ⟨f.toNat, by omega⟩
      rw [Int.toNat_natCast] at hq
      unfold cr_crease at hq
      refine tab_of hw (fun d => ?_) (fun k ek hk => ?_)
      · rw [if_neg (by omega), if_neg (by omega), if_neg (by omega), if_neg (by omega)] at hq
        exact hq
      · match k, hk with
        | 0, _ =>
          have : w = 0 := by omega
          subst this
          show pq_gA h (pA c p) 1 9 _
          have q := C.1.2.2.2.2.2.2.2.2.2.1 g (by omega)
          simp (disch := omega) only [pE RP, q, lits, iI_add, iI_sub, iI_mul, iI_neg]
          exact hq
        | 1, _ =>
          have : w = 1 := by omega
          subst this
          show pq_gA h (pA c p) 1 10 _
          have q := C.1.2.2.2.2.2.2.2.2.2.2.1 g (by omega)
          simp (disch := omega) only [pE RP, q, lits, iI_add, iI_sub, iI_mul, iI_neg]
          exact hq
        | 2, _ =>
          have : w = 2 := by omega
          subst this
          show pq_gA h (pA c p) 1 12 _
          have q := C.2.2.1 g (by omega)
          simp (disch := omega) only [pE RP, q, lits, iI_add, iI_sub, iI_mul, iI_neg]
          exact hq
        | 3, _ =>
          have : w = 3 := by omega
          subst this
          show pq_gA h (pA c p) 1 13 _
          have q := C.2.1.2.2.1 g (by omega)
          simp (disch := omega) only [pE RP, q, lits, iI_add, iI_sub, iI_mul, iI_neg]
          exact hq
        | k + 4, hk => omega
    · rw [decide_eq_false wf] at hq ⊢
      exact br_tt rfl hq
end T7
