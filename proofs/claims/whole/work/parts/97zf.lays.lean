/-! THE CLASS: lays in its state; simple, fold, flatten, lies -/
def bcE (x0 : Int32) : Int32 := ((((((((x0 - ((x0.toUInt32 >>> (Int32.toUInt32 (1 : Int32) &&& Int32.toUInt32 31)).toInt32 &&& (1431655765 : Int32))) &&& (858993459 : Int32)) + (((x0 - ((x0.toUInt32 >>> (Int32.toUInt32 (1 : Int32) &&& Int32.toUInt32 31)).toInt32 &&& (1431655765 : Int32))).toUInt32 >>> (Int32.toUInt32 (2 : Int32) &&& Int32.toUInt32 31)).toInt32 &&& (858993459 : Int32))) + ((((x0 - ((x0.toUInt32 >>> (Int32.toUInt32 (1 : Int32) &&& Int32.toUInt32 31)).toInt32 &&& (1431655765 : Int32))) &&& (858993459 : Int32)) + (((x0 - ((x0.toUInt32 >>> (Int32.toUInt32 (1 : Int32) &&& Int32.toUInt32 31)).toInt32 &&& (1431655765 : Int32))).toUInt32 >>> (Int32.toUInt32 (2 : Int32) &&& Int32.toUInt32 31)).toInt32 &&& (858993459 : Int32))).toUInt32 >>> (Int32.toUInt32 (4 : Int32) &&& Int32.toUInt32 31)).toInt32) &&& (252645135 : Int32)) + ((((((x0 - ((x0.toUInt32 >>> (Int32.toUInt32 (1 : Int32) &&& Int32.toUInt32 31)).toInt32 &&& (1431655765 : Int32))) &&& (858993459 : Int32)) + (((x0 - ((x0.toUInt32 >>> (Int32.toUInt32 (1 : Int32) &&& Int32.toUInt32 31)).toInt32 &&& (1431655765 : Int32))).toUInt32 >>> (Int32.toUInt32 (2 : Int32) &&& Int32.toUInt32 31)).toInt32 &&& (858993459 : Int32))) + ((((x0 - ((x0.toUInt32 >>> (Int32.toUInt32 (1 : Int32) &&& Int32.toUInt32 31)).toInt32 &&& (1431655765 : Int32))) &&& (858993459 : Int32)) + (((x0 - ((x0.toUInt32 >>> (Int32.toUInt32 (1 : Int32) &&& Int32.toUInt32 31)).toInt32 &&& (1431655765 : Int32))).toUInt32 >>> (Int32.toUInt32 (2 : Int32) &&& Int32.toUInt32 31)).toInt32 &&& (858993459 : Int32))).toUInt32 >>> (Int32.toUInt32 (4 : Int32) &&& Int32.toUInt32 31)).toInt32) &&& (252645135 : Int32)).toUInt32 >>> (Int32.toUInt32 (8 : Int32) &&& Int32.toUInt32 31)).toInt32) + (((((((x0 - ((x0.toUInt32 >>> (Int32.toUInt32 (1 : Int32) &&& Int32.toUInt32 31)).toInt32 &&& (1431655765 : Int32))) &&& (858993459 : Int32)) + (((x0 - ((x0.toUInt32 >>> (Int32.toUInt32 (1 : Int32) &&& Int32.toUInt32 31)).toInt32 &&& (1431655765 : Int32))).toUInt32 >>> (Int32.toUInt32 (2 : Int32) &&& Int32.toUInt32 31)).toInt32 &&& (858993459 : Int32))) + ((((x0 - ((x0.toUInt32 >>> (Int32.toUInt32 (1 : Int32) &&& Int32.toUInt32 31)).toInt32 &&& (1431655765 : Int32))) &&& (858993459 : Int32)) + (((x0 - ((x0.toUInt32 >>> (Int32.toUInt32 (1 : Int32) &&& Int32.toUInt32 31)).toInt32 &&& (1431655765 : Int32))).toUInt32 >>> (Int32.toUInt32 (2 : Int32) &&& Int32.toUInt32 31)).toInt32 &&& (858993459 : Int32))).toUInt32 >>> (Int32.toUInt32 (4 : Int32) &&& Int32.toUInt32 31)).toInt32) &&& (252645135 : Int32)) + ((((((x0 - ((x0.toUInt32 >>> (Int32.toUInt32 (1 : Int32) &&& Int32.toUInt32 31)).toInt32 &&& (1431655765 : Int32))) &&& (858993459 : Int32)) + (((x0 - ((x0.toUInt32 >>> (Int32.toUInt32 (1 : Int32) &&& Int32.toUInt32 31)).toInt32 &&& (1431655765 : Int32))).toUInt32 >>> (Int32.toUInt32 (2 : Int32) &&& Int32.toUInt32 31)).toInt32 &&& (858993459 : Int32))) + ((((x0 - ((x0.toUInt32 >>> (Int32.toUInt32 (1 : Int32) &&& Int32.toUInt32 31)).toInt32 &&& (1431655765 : Int32))) &&& (858993459 : Int32)) + (((x0 - ((x0.toUInt32 >>> (Int32.toUInt32 (1 : Int32) &&& Int32.toUInt32 31)).toInt32 &&& (1431655765 : Int32))).toUInt32 >>> (Int32.toUInt32 (2 : Int32) &&& Int32.toUInt32 31)).toInt32 &&& (858993459 : Int32))).toUInt32 >>> (Int32.toUInt32 (4 : Int32) &&& Int32.toUInt32 31)).toInt32) &&& (252645135 : Int32)).toUInt32 >>> (Int32.toUInt32 (8 : Int32) &&& Int32.toUInt32 31)).toInt32).toUInt32 >>> (Int32.toUInt32 (16 : Int32) &&& Int32.toUInt32 31)).toInt32) &&& (63 : Int32))
def bcN (v : Nat) : Nat → Nat
  | 0 => 0
  | n + 1 => bcN v n + (if v.testBit n then 1 else 0)
theorem bc_all : (List.range 64).all (fun a => (List.range 64).all (fun b => decide (bcE (iI ((64 * a + b : Nat) : Int)) = iI ((bcN (64 * a + b) 12 : Nat) : Int)))) = true := by decide +kernel
theorem c_bitCount {v : Nat} {h : pz_H} {Q : Int32 → pz_H → Prop} (hv : v < 4096) (hq : Q (iI (bcN v 12)) h) : F_J6_bitCount_0f7a4 (iI v) h Q := by
  show Q (bcE (iI v)) h
  have h1 := List.all_eq_true.mp bc_all (v / 64) (List.mem_range.mpr (by omega))
  have h2 := List.all_eq_true.mp h1 (v % 64) (List.mem_range.mpr (by omega))
  have h3 := of_decide_eq_true h2
  rw [show 64 * (v / 64) + v % 64 = v by omega] at h3
  rw [h3]
  exact hq
theorem bc_cnt (mk : Nat → Nat) (x n : Nat) : ∀ k, k ≤ n → bcN (nu_bm (fun c => decide (mk c = x)) n) k = cr_cnt mk x k
  | 0, _ => rfl
  | k + 1, h => by
    rw [bcN, cr_cnt, bc_cnt mk x n k (by omega), nu_bm_bit, decide_eq_true (show k < n by omega), Bool.true_and]
    simp only [decide_eq_true_eq]
theorem bc_up (v n : Nat) (hv : v < 2 ^ n) : ∀ k, bcN v (n + k) = bcN v n
  | 0 => rfl
  | k + 1 => by
    rw [show n + (k + 1) = (n + k) + 1 by omega, bcN, bc_up v n hv k, Nat.testBit_lt_two_pow (Nat.lt_of_lt_of_le hv (Nat.pow_le_pow_right (by decide) (by omega)))]
    rfl
def conB (k r c : Nat) : Bool := (List.range (2 ^ (c - 1))).all (fun s => (List.range (2 ^ (r - 1))).all (fun q => decide (con (newP k r c) (s + q * 2 ^ (c - 1)) = pop s * cr_per (newP k r c) false + pop q * cr_per (newP k r c) true)))
theorem con_0 : ∀ c, c < 10 → (!cr_shb 0 1 c || conB 0 1 c) = true := by decide +kernel
theorem con_2 : ∀ r, r < 10 → ∀ c, c < 10 → (!cr_shb 2 r c || conB 2 r c) = true := by decide +kernel
theorem con_F {P : cr_P} (ok : cr_ok P) (hk : cr_kd P ≠ 1) {s q : Nat} (hs : s < 2 ^ gaps P false) (hq : q < 2 ^ gaps P true) : con P (s + q * 2 ^ gaps P false) = pop s * cr_per P false + pop q * cr_per P true := by
  obtain ⟨b1, b2⟩ := cr_small ok.1
  have kd := ok.1.1
  have key : conB (cr_kd P) (cr_rw P) (cr_cl P) = true := by
    have sh := cr_shb_of ok.1
    by_cases k2 : cr_kd P = 2
    · have := con_2 _ b1 _ b2
      rw [k2] at sh ⊢
      rw [sh] at this
      simpa using this
    · have k0 : cr_kd P = 0 := by omega
      have r1 : cr_rw P = 1 := ok.1.2.2.2.2.1 (by omega)
      have := con_0 _ b2
      rw [k0, r1] at sh ⊢
      rw [sh] at this
      simpa using this
  have h1 := List.all_eq_true.mp key s (List.mem_range.mpr hs)
  have h2 := List.all_eq_true.mp h1 q (List.mem_range.mpr hq)
  exact of_decide_eq_true h2
theorem con_B {P : cr_P} (ok : cr_ok P) (hk : cr_kd P ≠ 1) {b : Bool} {fs : Nat} (h : fs < 2 ^ gaps P b) : con P (lnB P b fs) = pop fs * cr_per P b := by
  have p0 : pop 0 = 0 := by decide
  have z : ∀ b, 0 < 2 ^ gaps P b := fun _ => Nat.two_pow_pos _
  unfold lnB
  cases b with
  | true =>
    have := con_F ok hk (z false) h
    rw [Nat.zero_add, p0, Nat.zero_mul, Nat.zero_add] at this
    exact this
  | false =>
    have := con_F ok hk h (z true)
    rw [Nat.zero_mul, Nat.add_zero, p0, Nat.zero_mul, Nat.add_zero] at this
    exact this
theorem cr_F_fs {P : cr_P} (ok : cr_ok P) : fsO P false (cr_F P) = cr_gp P ∧ fsO P true (cr_F P) = cr_rg P := fsO_ix ok.gB.2.2.1
theorem cr_F_lt {P : cr_P} (ok : cr_ok P) : cr_F P ≤ 255 := Nat.le_trans (ix_lt ok.gB.2.2.1 ok.gB.2.2.2) (al_255 ok)
theorem foldP_F {P : cr_P} (ok : cr_ok P) (z : Int) : cr_F (foldP P z) = cr_F P ||| lnB P (isRow z) (s_done P (cr_gp P) (cr_rg P) z) := by
  have d := (s_done_lt ok (cr_gp P) (cr_rg P) z).1
  have := ix_or (P := P) (s := cr_gp P) (r := cr_rg P) (b := isRow z) ok.gB.2.2.1 d
  unfold cr_F
  rw [this]
  unfold foldP
  cases isRow z <;> rfl
theorem cP.g {V : Nat → Int} {A : Nat → Int → Int} {P : cr_P} {g r : Nat} (C : cP V A P) (ok : cr_ok (withG P g r)) : cP (va_up V 17 (cr_F (withG P g r) : Nat)) A (withG P g r) := by
  obtain ⟨⟨b0, b1⟩, D, K⟩ := C
  exact ⟨⟨ok, b1⟩, D, K.1, rfl⟩
section T6
variable {h h' : pz_H} {c np p q b : Nat} {V : Nat → Int} {A : Nat → Int → Int} {Ps : Nat → cr_P} {P' : cr_P} {td : Option (Nat × List Nat)} {cl : List Nat} {st : List Int} {K : pz_H → Prop} {Q : Int32 → pz_H → Prop}
/-- a paper is another -/
theorem CR.paper (M : CR h c np Ps td cl st) (hp : p < np) (R : rP h' (pA c p) V A) (C : cP V A P') (en : cr_n P' = cr_n (Ps p)) (f : Fr (pA c p) (pA c p + 13) h h') : CR h' c np (va_up Ps p P') td cl st := by
  obtain ⟨O, top, scr, p1, p2, p3, p4⟩ := M
  unfold pA at f
  refine ⟨⟨tdOk_up O.1 en, O.2⟩, top.of (fun q hq => f.2 q (by omega)), scr.of (fun q q1 q2 => f.2 q (by omega)), by unfold pAr; rw [f.2 _ (by omega)]; exact p1, fun i hi => ?_, f.1.trans p3, p4⟩
  by_cases e : i = p
  · subst e
    rw [va_up_self]
    exact ⟨V, A, R, C⟩
  · obtain ⟨V1, A1, R1, C1⟩ := p2 i hi
    rw [va_up_ne _ _ e]
    exact ⟨V1, A1, R1.up (fun q q1 q2 => f.2 q (by unfold pA at q1 q2; omega)), C1⟩
theorem CR.lays {F : Int} {AY AW : Nat → Int → Int} {VW : Nat → Int} (M : CR h c np Ps td cl st) (RY : rY h' (c + 19) F AY) (z : ∀ b, AY (eA b) 0 = 0) (RW : rW h' (c + 26) VW AW) (f : Fr (c + 19) (c + 30) h h') : CR h' c np Ps td cl st := by
  refine M.of (f.sc (by omega)) ?_
  obtain ⟨⟨V1, A1, R1⟩, ⟨V2, A2, R2⟩, ⟨f3, R3⟩, ⟨f4, R4⟩, ⟨F5, A5, R5, z5⟩, V6, A6, R6⟩ := M.2.2.1
  have e4 : lr h' (c + 17) f4 := by unfold lr; rw [f.2 _ (by omega)]; exact R4
  exact ⟨⟨V1, A1, R1.fr f (by omega)⟩, ⟨V2, A2, R2.fr f (by omega)⟩, ⟨f3, R3.fr f (by omega)⟩, ⟨f4, e4⟩, ⟨F, AY, RY, z⟩, VW, AW, RW⟩
theorem C_layPut (M : CR h c np Ps td cl st) (hp : p < np) (hq : ∀ h' AY, rY h' (c + 19) (cr_F (Ps p) : Nat) AY → lyS AY (Ps p) (cr_F (Ps p)) → CR h' c np Ps td cl st → Fo c h h' → K h') : F_X0_put (c + 19) (pA c p) (iI (cr_F (Ps p))) h K := by
  obtain ⟨VP, AP, RP, C⟩ := M.pap hp
  obtain ⟨-, -, -, -, ⟨F5, A5, R5, z5⟩, V6, A6, R6⟩ := M.2.2.1
  have lt := cr_F_lt C.1.1
  refine c_layPut R5 RP C.1 (by unfold pA; omega) (by omega) z5 (fun h1 A1 R1 L1 z1 f1 => ?_)
  exact hq h1 A1 R1 L1 (M.lays R1 z1 (R6.fr f1 (by omega)) (f1.wide (by omega) (by omega))) (f1.fo (by omega))
theorem C_simple {z : Int} (M : CR h c np Ps td cl st) (hz : iB z) (hq : ∀ h', CR h' c np Ps td cl (s_simpleT np Ps st z) → Fo c h h' → Q (iI (s_simple np Ps z)) h') : F_X4_simple c (iI z) h Q := by
  unfold F_X4_simple
  rw [(cE M).1]
  unfold s_simple s_simpleT at hq
  refine c_find M hz (fun w => ?_) (fun p e hp => ?_)
  · rw [w] at hq
    exact hq h M Fo.rf
  · subst e
    rw [vN_n hp] at hq
    simp only [if_true, Int.toNat_natCast] at hq
    obtain ⟨VP, AP, RP, C⟩ := M.pap hp
    have ok := C.1.1
    have kd := ok.1.1
    show pq_gI h (pA c p) 1 0 _
    rw [(pE RP).2.1, C.1.2.1]
    refine br_eq (b := 1) (by omega) (by omega) (fun w => ?_) (fun w => ?_)
    · rw [if_pos (by omega), if_pos (by omega)] at hq
      exact hq h M Fo.rf
    · have hk : ¬ cr_kd (Ps p) = 1 := by omega
      rw [if_neg hk, if_neg hk] at hq
      rw [(cE M).2.2.2.2.2.2.2.2.2.2.2.2.2.1, (cE M).2.2.2.2.2.2.2.2.2.2.2.2.1, (cE M).2.2.2.2.2.2.2.2.2.2.2.2.2.2.2.2.2.2.2]
      obtain ⟨-, -, -, -, ⟨F5, A5, R5, z5⟩, V6, A6, R6⟩ := M.2.2.1
      refine c_explore (y := c + 19) hk C (by unfold pA; omega) R6 R5 z5 RP (fun h1 A1 F1 AY1 R1 T1 RY1 z1 f1 => ?_)
      have M1 := M.lays RY1 z1 R1 (f1.wide (by omega) (by omega))
      have RP1 : rP h1 (pA c p) VP AP := RP.fr f1 (by unfold pA; omega)
      have R1 : rW h1 (c + 26) V6 A1 := R1
      rw [(cE M1).2.2.2.2.2.2.2.2.2.2.2.2.2.1, (wE R1).2.1]
      have e0 := (T1 0 (by omega) (by omega)).1
      have tsE : TS (Ps p) 0 0 = tbF (Ps p) (cr_al (Ps p)) 0 := by unfold TS TT; simp
      rw [← tsE] at e0
      have a0 := (wE R1).2.2.2.2.1 0
      have F1 : Fo c h h1 := f1.fo (by omega)
      rw [show (0 : Int32) = iI 0 from rfl, a0 _ (by omega) (by omega), show A1 1 (0 : Int) = eN (TS (Ps p) 0 0) from e0]
      have z0 : 0 < 2 ^ gaps (Ps p) false := Nat.two_pow_pos _
      have z2 : 0 < 2 ^ gaps (Ps p) true := Nat.two_pow_pos _
      unfold way at hq
      cases hT : TS (Ps p) 0 0 with
      | none =>
        rw [hT] at hq
        exact br_ff (by decide) (hq h1 M1 F1)
      | some q =>
        have q8 := TS_8 ok z0 z2 hT
        rw [hT] at hq
        simp only at hq
        show pq_br (iI (q.1 : Int) ≤ (8 : Int32)) _ _
        refine br_le (b := 8) (by omega) (by omega) (fun _ => ?_) (fun w => absurd w (by omega))
        rw [(cE M1).2.2.2.2.2.2.2.2.2.2.2.2.2.1, (pE RP1).1]
        refine c_allLines RP1 C.1 ?_
        rw [(cE M1).2.2.2.2.2.2.2.2.2.2.2.2.2.2.1, (cE M1).2.2.2.2.2.2.2.2.2.2.2.2.2.2.2.2.2.2.2]
        obtain ⟨O, ⟨V, T5, T6, KK, S, ⟨r1, r2, r3, r4, r5⟩, tt, bb, dd⟩, scr, pap⟩ := M1
        unfold F_X3_trace
        refine ⟨20, ?_⟩
        have tr := c_trace_loop (Q := fun v16 h15 => pq_p h15 c 4 14 (.int v16) (fun h17 => pq_gI h17 c 4 14 (fun v18 => Q v18 h17))) (w := c + 26) (b := c + 30) ok T1 (by omega) q.1 20 0 0 [] h1 S (by omega) z0 z2 (by simp; omega) ⟨q.2, hT⟩ R1 dd.1 (fun i hi => by simp at hi) (fun h2 f2 a2 e2 fr2 => ?_)
        · rw [Nat.zero_mul] at tr
          exact tr
        rw [List.nil_append, trc_len] at e2
        have R2 : rX h2 c V := r1.fr fr2 (by omega)
        rw [List.length_nil, Nat.zero_add]
        refine rg_p (V' := va_up V 14 (q.1 : Int)) R2 rfl (Nat.le_of_ble_eq_true rfl) fun h3 R3 f3 => ?_
        rw [(cxE R3).2.2.2.2.2.2.2.2.2.2.2.2.2.2.2]
        have FF : ∀ q, (q ≠ c ∧ q ≠ c + 30) → h3.1 q = h1.1 q := fun q hq => by rw [f3.2 q (by omega), fr2.2 q (by omega)]
        have E : h3.2 = h1.2 := by rw [f3.1, fr2.1]
        refine hq h3 ⟨⟨O.1, O.2.1, by rw [trc_len]; exact q8⟩, ⟨_, T5, T6, KK, f2, ⟨R3, r2, r3, r4, by rw [trc_len]; rfl⟩, ⟨(tt.1.fr fr2 (by omega)).fr f3 (by omega), (tt.2.1.fr fr2 (by omega)).fr f3 (by omega), tt.2.2⟩, ⟨(bb.1.fr fr2 (by omega)).fr f3 (by omega), bb.2⟩, a2.fr f3 (by omega), fun i hi => e2 i (by rw [trc_len] at hi; exact hi)⟩, scr.of (fun q q1 q2 => FF q (by omega)), pap.of (fun q hq => FF q (by omega)) E⟩ (fun q q1 q2 => ?_)
        rw [FF q (by omega), F1 q q1 q2]
theorem C_fold {z t : Int} (M : CR h c np Ps td cl st) (hz : iB z) (ht : iB t) (hq : ∀ h', CR h' c np (s_foldS np Ps z t) td cl st → Fo c h h' → Q (iI (s_fold np Ps z t)) h') : F_X4_fold c (iI z) (iI t) h Q := by
  unfold F_X4_fold
  rw [(cE M).1]
  unfold s_fold s_foldS at hq
  refine c_find M hz (fun w => ?_) (fun p e hp => ?_)
  · rw [w] at hq
    exact hq h M Fo.rf
  · subst e
    rw [vN_n hp] at hq
    simp only [if_true, Int.toNat_natCast] at hq
    obtain ⟨VP, AP, RP, C⟩ := M.pap hp
    have ok := C.1.1
    have kd := ok.1.1
    show pq_gI h (pA c p) 1 0 _
    rw [(pE RP).2.1, C.1.2.1]
    refine br_eq (b := 1) (by omega) (by omega) (fun w => ?_) (fun w => ?_)
    · rw [if_pos (by omega), if_pos (by omega)] at hq
      exact hq h M Fo.rf
    · have hk : ¬ cr_kd (Ps p) = 1 := by omega
      rw [if_neg hk, if_neg hk] at hq
      rw [(cE M).2.2.2.2.2.2.2.2.2.2.2.2.1, (pE RP).2.2.2.2.2.2.2.2.2.2.2.2.2.2.2.2.2.2.1, C.2.2.2, (cE M).2.2.2.2.2.2.2.2.2.2.2.2.2.2.2.2.2.2.1]
      refine C_layPut M hp (fun h1 AY RY L M1 f1 => ?_)
      obtain ⟨VP, AP, RP, C⟩ := M1.pap hp
      rw [(cE M1).2.2.2.2.2.2.2.2.2.2.2.2.1, (cE M1).2.2.2.2.2.2.2.2.2.2.2.2.2.2.2.2.2.2.1]
      have lt := cr_F_lt ok
      refine c_lines ht (by omega) hk RY L RP C ?_
      rw [(cr_F_fs ok).1, (cr_F_fs ok).2, (pE RP).2.2.2.2.2.2.2.2.2.2.2.2.2.2.2.2.2.2.1, C.2.2.2, iI_or, ← foldP_F ok]
      have d : s_done (Ps p) (cr_gp (Ps p)) (cr_rg (Ps p)) t < 2 ^ gaps (Ps p) (isRow t) := (s_done_lt ok (cr_gp (Ps p)) (cr_rg (Ps p)) t).1
      have lb := lnB_lt ok d
      have okf := foldP_ok ok t
      obtain ⟨g, r, eP⟩ : ∃ g r, foldP (Ps p) t = withG (Ps p) g r := by
        unfold foldP
        split
        · exact ⟨_, _, rfl⟩
        · exact ⟨_, _, rfl⟩
      rw [eP] at hq okf ⊢
      refine rg_p (V' := va_up VP 17 (cr_F (withG (Ps p) g r) : Nat)) RP rfl (Nat.le_of_ble_eq_true rfl) fun h2 R2 f2 => ?_
      have M2 := M1.paper hp R2 (C.g okf) rfl f2
      rw [(pE R2).1]
      refine c_creasesOn (ls := lnB (Ps p) (isRow t) (s_done (Ps p) (cr_gp (Ps p)) (cr_rg (Ps p)) t)) (by omega) R2 (C.g okf).1 ?_
      have ec : con (withG (Ps p) g r) (lnB (Ps p) (isRow t) (s_done (Ps p) (cr_gp (Ps p)) (cr_rg (Ps p)) t)) = con (Ps p) (lnB (Ps p) (isRow t) (s_done (Ps p) (cr_gp (Ps p)) (cr_rg (Ps p)) t)) := rfl
      rw [ec, con_B ok hk d]
      exact hq h2 M2 (Fo.tr f1 (f2.fo (by unfold pA; omega)))
theorem C_flatten {z : Int} (M : CR h c np Ps td cl st) (hz : iB z) (hq : ∀ h', CR h' c np (s_flattenS np Ps z) td cl st → Fo c h h' → Q (iI (s_flatten np Ps z)) h') : F_X4_flatten c (iI z) h Q := by
  unfold F_X4_flatten
  rw [(cE M).1]
  unfold s_flatten s_flattenS at hq
  refine c_find M hz (fun w => ?_) (fun p e hp => ?_)
  · rw [w] at hq
    exact hq h M Fo.rf
  · subst e
    rw [vN_n hp] at hq
    simp only [if_true, Int.toNat_natCast] at hq
    obtain ⟨VP, AP, RP, C⟩ := M.pap hp
    have ok := C.1.1
    have kd := ok.1.1
    show pq_gI h (pA c p) 1 0 _
    rw [(pE RP).2.1, C.1.2.1]
    refine br_eq (b := 1) (by omega) (by omega) (fun w => ?_) (fun w => ?_)
    · rw [if_pos (by omega), if_pos (by omega)] at hq
      exact hq h M Fo.rf
    · have hk : ¬ cr_kd (Ps p) = 1 := by omega
      rw [if_neg hk, if_neg hk] at hq
      have lt := cr_F_lt ok
      rw [(pE RP).2.2.2.2.2.2.2.2.2.2.2.2.2.2.2.2.2.2.1, C.2.2.2, (pE RP).1]
      refine c_creasesOn (by omega) RP C.1 ?_
      have okf : cr_ok (withG (Ps p) 0 0) := withG_ok ok (Nat.two_pow_pos _) (Nat.two_pow_pos _)
      have e0 : cr_F (withG (Ps p) 0 0) = 0 := by
        show 0 + 0 * _ = 0
        rw [Nat.zero_mul]
      have C2 := C.g okf
      rw [e0] at C2
      refine rg_p (V' := va_up VP 17 ((0 : Nat) : Int)) RP rfl (Nat.le_of_ble_eq_true rfl) fun h2 R2 f2 => ?_
      have M2 := M.paper hp R2 C2 rfl f2
      have ec := con_F ok hk ok.gB.2.2.1 ok.gB.2.2.2
      show Q (iI (con (Ps p) (cr_gp (Ps p) + cr_rg (Ps p) * 2 ^ gaps (Ps p) false))) h2
      rw [ec]
      exact hq h2 M2 (f2.fo (by unfold pA; omega))
theorem C_lies {z f w : Int} (M : CR h c np Ps td cl st) (hz : iB z) (hf : iB f) (hw : iB w) (hq : ∀ h', CR h' c np Ps td cl st → Fo c h h' → Q (iI (s_lies np Ps z f w)) h') : F_X4_lies c (iI z) (iI f) (iI w) h Q := by
  unfold F_X4_lies B_X4_lies_21 B_X4_lies_33 B_X4_lies_144
  rw [(cE M).1]
  unfold s_lies vF at hq
  refine c_find M hz (fun w => ?_) (fun p e hp => ?_)
  · rw [w] at hq
    exact hq h M Fo.rf
  · subst e
    rw [vN_n hp] at hq
    simp only [Bool.true_and, Int.toNat_natCast] at hq
    obtain ⟨VP, AP, RP, C⟩ := M.pap hp
    have ok := C.1.1
    have kd := ok.1.1
    have hn := ok.n9
    show pq_o h (pA c p) 1 _
    rw [(pE RP).1]
    refine c_hasFace RP C.1 hf ?_
    by_cases wf : 0 ≤ f ∧ f < cr_n (Ps p)
    · rw [decide_eq_true wf] at hq ⊢
      simp only [if_true] at hq
      refine br_ff (by decide) ?_
      refine br_lt (b := 0) hw (by omega) (fun w1 => ?_) (fun w1 => ?_)
      · rw [if_pos (by omega)] at hq; exact hq h M Fo.rf
      refine br_le (b := 3) hw (by omega) (fun w2 => ?_) (fun w2 => ?_)
      · rw [if_neg (by omega)] at hq
        rw [(pE RP).2.1, C.1.2.1]
        refine br_eq (b := 1) (by omega) (by omega) (fun k1 => ?_) (fun k1 => ?_)
        · rw [if_pos (by omega)] at hq; exact hq h M Fo.rf
        · rw [if_neg (by omega)] at hq
          rw [(cE M).2.2.2.2.2.2.2.2.2.2.2.2.1, (pE RP).2.2.2.2.2.2.2.2.2.2.2.2.2.2.2.2.2.2.1, C.2.2.2, (cE M).2.2.2.2.2.2.2.2.2.2.2.2.2.2.2.2.2.2.1]
          refine C_layPut M hp (fun h1 AY RY L M1 f1 => ?_)
          obtain ⟨VP, AP, RP, C⟩ := M1.pap hp
          obtain ⟨g, rfl⟩ : ∃ g : Nat, f = g := ⟨f.toNat, by omega⟩
          rw [Int.toNat_natCast] at hq
          have hq1 := hq h1 M1 f1
          unfold cr_lies at hq1
          have q1 := C.1.2.2.2.2.2.2.1 g (by omega)
          have q2 := C.1.2.2.2.2.2.2.2.1 g (by omega)
          have c1 := ok.1.2.2.1
          have hb0 : g % cr_cl (Ps p) < bnd (Ps p) false := Nat.mod_lt _ c1
          have hb1 : g / cr_cl (Ps p) < bnd (Ps p) true := by
            show g / cr_cl (Ps p) < cr_rw (Ps p)
            refine Nat.div_lt_of_lt_mul ?_
            have : cr_n (Ps p) = cr_rw (Ps p) * cr_cl (Ps p) := rfl
            rw [Nat.mul_comm]
            omega
          have nn : (0 : Int) ≤ ((g / cr_cl (Ps p) : Nat) : Int) := Int.natCast_nonneg _
          have nm : (0 : Int) ≤ ((g % cr_cl (Ps p) : Nat) : Int) := Int.natCast_nonneg _
          have bg0 := bnd_g ok false
          have bg1 := bnd_g ok true
          have l0 := (L false).1 (g % cr_cl (Ps p)) (by omega)
          have t0 := (L false).2 (g % cr_cl (Ps p)) hb0
          have l1 := (L true).1 (g / cr_cl (Ps p)) (by omega)
          rw [(cr_F_fs ok).1] at l0 t0
          rw [(cr_F_fs ok).2] at l1
          have y11 := (cE M1).2.2.2.2.2.2.2.2.2.2.2.2.1
          refine tab_of hw (fun d => ?_) (fun k ek hk => ?_)
          · have w3 : w = 3 := by omega
            subst w3
            rw [y11, (ylE RY).2.2.1, show (1 : Int32) = iI (bI true) from rfl, (ylE RY).2.2.2.2.1, (pE RP).2.2.2.2.2.2.1, (pE RP).2.2.2.2.2.2.2.2.2.2.2.2.2.2.2.2.2.2.2.1 _ _ (by omega) (by omega), q1, (ylE RY).2.2.2.2.2.2.1 true _ _ (by omega) (by omega), l1]
            exact hq1
          · match k, hk with
            | 0, _ =>
              have : w = 0 := by omega
              subst this
              show pq_gA h1 c 4 11 _
              rw [y11, (ylE RY).2.2.1, show (0 : Int32) = iI (bI false) from rfl, (ylE RY).2.2.2.2.1, (pE RP).2.2.2.2.2.2.2.1, (pE RP).2.2.2.2.2.2.2.2.2.2.2.2.2.2.2.2.2.2.2.2.1 _ _ (by omega) (by omega), q2, (ylE RY).2.2.2.2.2.2.1 false _ _ (by omega) (by omega), l0]
              exact hq1
            | 1, _ =>
              have : w = 1 := by omega
              subst this
              show pq_gA h1 c 4 11 _
              rw [y11, (ylE RY).2.2.2.1, show (0 : Int32) = iI (bI false) from rfl, (ylE RY).2.2.2.2.2.1, (pE RP).2.2.2.2.2.2.2.1, (pE RP).2.2.2.2.2.2.2.2.2.2.2.2.2.2.2.2.2.2.2.2.1 _ _ (by omega) (by omega), q2, (ylE RY).2.2.2.2.2.2.2 false _ _ (by omega) (by omega), t0, iI_1, iI_sub]
              have : (1 : Int) - bI (!gU (cr_gp (Ps p)) (g % cr_cl (Ps p))) = bI (gU (cr_gp (Ps p)) (g % cr_cl (Ps p))) := by cases gU (cr_gp (Ps p)) (g % cr_cl (Ps p)) <;> rfl
              rw [this]
              exact hq1
            | 2, _ =>
              have : w = 2 := by omega
              subst this
              show pq_gA h1 c 4 11 _
              rw [y11, (ylE RY).1]
              refine c_layUp RY L RP C.1 (by omega) ?_
              rw [(cr_F_fs ok).1, (cr_F_fs ok).2]
              have hq2 : Q (iI (bI (upIn (Ps p) (cr_gp (Ps p)) (cr_rg (Ps p)) g))) h1 := hq1
              cases hu : upIn (Ps p) (cr_gp (Ps p)) (cr_rg (Ps p)) g with
              | true => rw [hu] at hq2; exact br_ff (by decide) hq2
              | false => rw [hu] at hq2; exact br_tt rfl hq2
            | k + 3, hk => omega
      · rw [if_pos (by omega)] at hq; exact hq h M Fo.rf
    · rw [decide_eq_false wf] at hq ⊢
      exact br_tt rfl (hq h M Fo.rf)
end T6
