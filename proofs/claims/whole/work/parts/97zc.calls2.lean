/-! THE CLASS: check, forced, above -/
theorem j_divN {w : Nat} (hv : jB (-(w : Int))) : jI (-(w : Int)) / (10 : Int64) = jI (-((w / 10 : Nat) : Int)) := by
  have h1 : (jI (-(w : Int)) / (10 : Int64)).toInt = -((w / 10 : Nat) : Int) := by
    rw [Int64.toInt_div_of_ne_right _ _ (by decide), jI_toInt hv]
    show (-(w : Int)).tdiv 10 = _
    rw [Int.neg_tdiv, Int.tdiv_eq_ediv_of_nonneg (by omega)]
    omega
  rw [← Int64.ofInt_toInt (jI (-(w : Int)) / (10 : Int64)), h1]
  rfl
theorem j_modN {w : Nat} (hv : jB (-(w : Int))) : jI (-(w : Int)) - jI (-(w : Int)) / (10 : Int64) * (10 : Int64) = jI (-((w % 10 : Nat) : Int)) := by
  rw [j_divN hv, show (10 : Int64) = jI 10 from rfl, jI_mul]
  show jI _ - jI _ = _
  rw [jI, jI, ← Int64.ofInt_sub, jI]
  congr 1
  omega
theorem j_iz (z : Int) : Int64.toInt32 (jI z) = iI z := by
  show Int64.toInt32 (Int64.ofInt _) = Int32.ofInt _
  exact Int64.toInt32_ofInt
theorem any_iff {P : cr_P} (ok : cr_ok P) {q : List Nat → Bool} : (mOrd P).any q = true ↔ ∃ l, isR (cr_n P) l ∧ cr_un P = false ∧ (alM P (ps l) ∧ q l = true) ∧ alT P (ps l) ∧ alA P (ps l) := by
  rw [List.any_eq_true, mOrd_eq]
  constructor
  · intro ⟨l, hl, hq⟩
    obtain ⟨l1, l2⟩ := List.mem_filter.mp hl
    have hR := pms_R l1
    obtain ⟨a1, a2, a3, a4⟩ := (alB_iff ok hR).mp l2
    exact ⟨l, hR, a1, ⟨a2, hq⟩, a3, a4⟩
  · intro ⟨l, hR, a1, ⟨a2, hq⟩, a3, a4⟩
    exact ⟨l, List.mem_filter.mpr ⟨R_pms hR, (alB_iff ok hR).mpr ⟨a1, a2, a3, a4⟩⟩, hq⟩
theorem cM_B {P : cr_P} (ok : cr_ok P) {H : Nat → Int} {x : Int} (h : fst1 (cr_cM P H) 0 (cr_m P) = some x) : 0 < x ∧ x < 100000 := by
  obtain ⟨j, -, h2, h3⟩ := fst1_some _ _ _ _ h
  have := ok.m12
  unfold cr_cM at h3
  split at h3
  · cases h3
  · cases h3; omega
theorem cT_B {P : cr_P} (ok : cr_ok P) {H : Nat → Int} {x : Int} (h : fst1 (cr_cT P H) 0 (cr_m P) = some x) : 0 < x ∧ x < 100000 := by
  obtain ⟨j, -, h2, h3⟩ := fst1_some _ _ _ _ h
  have := ok.m12
  have := ok.n9
  unfold cr_cT at h3
  obtain ⟨f, -, f2, f3⟩ := fst1_some _ _ _ _ h3
  unfold cr_cT1 at f3
  split at f3
  · cases f3; omega
  · cases f3
section T2
variable {h h' : pz_H} {c np p b : Nat} {V : Nat → Int} {A : Nat → Int → Int} {Ps : Nat → cr_P} {td : Option (Nat × List Nat)} {cl : List Nat} {st : List Int} {K : pz_H → Prop} {Q : Int32 → pz_H → Prop}
theorem CR.read {g : Int → Int} (M : CR h c np Ps td cl st) (R : ar h' (c + 16) 9 g) (f : Fr (c + 16) (c + 17) h h') : CR h' c np Ps td cl st := by
  refine M.of (f.sc (by omega)) ?_
  obtain ⟨⟨V1, A1, R1⟩, ⟨V2, A2, R2⟩, ⟨f3, R3⟩, ⟨f4, R4⟩, ⟨F5, A5, R5, z5⟩, V6, A6, R6⟩ := M.2.2.1
  have e4 : lr h' (c + 17) f4 := by unfold lr; rw [f.2 _ (by omega)]; exact R4
  exact ⟨⟨V1, A1, R1.fr f (by omega)⟩, ⟨V2, A2, R2.fr f (by omega)⟩, ⟨g, R⟩, ⟨f4, e4⟩, ⟨F5, A5, R5.fr f (by omega), z5⟩, V6, A6, R6.fr f (by omega)⟩
theorem c_readN {n : Nat} (hn : n ≤ 9) : ∀ (k u w s i : Nat) (h : pz_H), i + k = n → k < u → 0 < w → jB (-(w : Int)) → s < 2 ^ 9 → CR h c np Ps td cl st → (∀ h', CR h' c np Ps td cl st → Fo c h h' → Q (0 : Int32) h') → L_X4_readOrder_9 c (iI n) Q u (jI (-(w : Int))) (iI s) (iI i) h := by
  intro k
  induction k with
  | zero =>
    intro u w s i h hi hu hw hj hs M hq
    obtain ⟨u, rfl⟩ : ∃ v, u = v + 1 := ⟨u - 1, by omega⟩
    unfold L_X4_readOrder_9 B_X4_readOrder_91
    refine br_le (by omega) (by omega) (fun _ => ?_) (fun w => absurd w (by omega))
    refine br_ff (fun e => ?_) (rg_z (Or.inl rfl) (hq h M Fo.rf))
    have := (lg_z hj).mp e
    omega
  | succ k ih =>
    intro u w s i h hi hu hw hj hs M hq
    obtain ⟨u, rfl⟩ : ∃ v, u = v + 1 := ⟨u - 1, by omega⟩
    unfold L_X4_readOrder_9 B_X4_readOrder_53
    refine br_le (by omega) (by omega) (fun w => absurd w (by omega)) (fun _ => ?_)
    rw [j_modN hj, j_divN hj, j_iz]
    refine ⟨by decide, by decide, ?_⟩
    refine br_lt (b := 0) (by omega) (by omega) (fun _ => hq h M Fo.rf) (fun w0 => ?_)
    have e0 : w % 10 = 0 := by omega
    rw [e0]
    refine br_le (by omega) (by omega) (fun w => absurd w (by omega)) (fun _ => ?_)
    refine c_has (s := s) (i := 0) (by omega) (by omega) ?_
    cases hb : s.testBit 0 with
    | true => exact br_ff (by decide) (hq h M Fo.rf)
    | false =>
      refine br_tt rfl ?_
      obtain ⟨f3, R3⟩ := M.2.2.1.2.2.1
      rw [(cE M).2.2.2.2.2.2.2.2.1]
      refine ar_s (x := 0) (z := i) R3 (by decide) ⟨by omega, by omega⟩ fun h1 e1 f1 => ?_
      have R1 : ar h1 (c + 16) 9 (zu f3 0 i) := by unfold ar; rw [e1, pz_up_at]
      have M1 := M.read R1 f1
      have e2 : iI (s : Int) ||| ((1 : Int32) <<< (iI (-((0 : Nat) : Int)) &&& 31)) = iI ((s ||| 2 ^ 0 : Nat) : Int) := by
        have : (1 : Int32) <<< (iI (-((0 : Nat) : Int)) &&& 31) = iI ((2 ^ 0 : Nat) : Int) := by decide
        rw [this, iI_or]
      have e3 : iI (i : Int) + (1 : Int32) = iI ((i + 1 : Nat) : Int) := by rw [iI_1, iI_add]; rfl
      rw [e2, e3]
      refine ih u (w / 10) _ (i + 1) h1 (by omega) (by omega) (by omega) (by omega) (nu_lt_or hs (by decide)) M1 (fun h2 M2 f2 => hq h2 M2 (Fo.tr (f1.fo (by omega)) f2))
theorem c_readP {n : Nat} (hn : n ≤ 9) : ∀ (k u v : Nat) (l : List Nat) (h : pz_H) (g : Int → Int), l.length + k = n → k < u → jB (v : Int) → CR h c np Ps td cl st → ar h (c + 16) 9 g → (∀ f : Nat, f ∈ l → g f = ps l f) → l.Nodup → (∀ f ∈ l, f < n) →
    (rd n k v l = none → ∀ h', CR h' c np Ps td cl st → Fo c h h' → Q (0 : Int32) h') →
    (∀ l', rd n k v l = some l' → ∀ h' g', CR h' c np Ps td cl st → ar h' (c + 16) 9 g' → (∀ f : Nat, f ∈ l' → g' f = ps l' f) → isR n l' → Fo c h h' → Q (1 : Int32) h') → L_X4_readOrder_9 c (iI n) Q u (jI v) (iI (stL l)) (iI l.length) h := by
  intro k
  induction k with
  | zero =>
    intro u v l h g hl hu hj M R hg hd hlt h1 h2
    obtain ⟨u, rfl⟩ : ∃ v, u = v + 1 := ⟨u - 1, by omega⟩
    unfold L_X4_readOrder_9 B_X4_readOrder_91
    rw [rd] at h1 h2
    refine br_le (by omega) (by omega) (fun _ => ?_) (fun w => absurd w (by omega))
    by_cases e : v = 0
    · rw [if_pos e] at h1 h2
      refine br_tt ((lg_z hj).mpr (by omega)) (rg_z (Or.inr rfl) (h2 l rfl h g M R hg ⟨by omega, hd, hlt⟩ Fo.rf))
    · rw [if_neg e] at h1 h2
      refine br_ff (fun w => e (by have := (lg_z hj).mp w; omega)) (rg_z (Or.inl rfl) (h1 rfl h M Fo.rf))
  | succ k ih =>
    intro u v l h g hl hu hj M R hg hd hlt h1 h2
    obtain ⟨u, rfl⟩ : ∃ v, u = v + 1 := ⟨u - 1, by omega⟩
    unfold L_X4_readOrder_9 B_X4_readOrder_53
    rw [rd] at h1 h2
    refine br_le (by omega) (by omega) (fun w => absurd w (by omega)) (fun _ => ?_)
    rw [j_mod hj, j_div hj, j_iz]
    refine ⟨by decide, by decide, ?_⟩
    refine br_lt (b := 0) (by omega) (by omega) (fun w => absurd w (by omega)) (fun _ => ?_)
    refine br_le (by omega) (by omega) (fun w => ?_) (fun w => ?_)
    · rw [if_neg (by omega)] at h1
      exact h1 rfl h M Fo.rf
    · have hs := stL_lt l
      refine c_has (s := stL l) (i := v % 10) (by omega) (by omega) ?_
      rw [stL_bit, decide_eq_true (show v % 10 < 9 by omega), Bool.true_and]
      by_cases hm : v % 10 ∈ l
      · rw [decide_eq_true hm]
        rw [if_neg (fun z => z.2 hm)] at h1
        exact br_ff (by decide) (h1 rfl h M Fo.rf)
      · rw [decide_eq_false hm]
        rw [if_pos ⟨by omega, hm⟩] at h1 h2
        refine br_tt rfl ?_
        rw [(cE M).2.2.2.2.2.2.2.2.1]
        refine ar_s R (by decide) ⟨by omega, by omega⟩ fun h3 e3 f3 => ?_
        have R3 : ar h3 (c + 16) 9 (zu g ((v % 10 : Nat) : Int) l.length) := by unfold ar; rw [e3, pz_up_at]
        have M3 := M.read R3 f3
        have e4 : iI (stL l : Int) ||| ((1 : Int32) <<< (iI ((v % 10 : Nat) : Int) &&& 31)) = iI ((stL (l ++ [v % 10]) : Nat) : Int) := by
          rw [iI_shl (by omega), iI_or, stL_new (by omega)]
        have e5 : iI (l.length : Int) + (1 : Int32) = iI ((l ++ [v % 10]).length : Int) := by rw [iI_1, iI_add, List.length_append]; rfl
        rw [e4, e5]
        refine ih u (v / 10) (l ++ [v % 10]) h3 _ (by simp; omega) (by omega) (by omega) M3 R3 (fun f hf => ?_) ?_ (fun f hf => ?_) (fun e h5 M5 f5 => h1 e h5 M5 (Fo.tr (f3.fo (by omega)) f5)) (fun l' e h5 g5 M5 R5 hg5 hR5 f5 => h2 l' e h5 g5 M5 R5 hg5 hR5 (Fo.tr (f3.fo (by omega)) f5))
        · rcases List.mem_append.mp hf with w | w
          · have ne : f ≠ v % 10 := fun e => hm (by rw [← e]; exact w)
            rw [zu_ne (by omega), ps_old ne]; exact hg f w
          · have : f = v % 10 := by simpa using w
            subst this
            rw [zu_at, ps_new hm]
        · rw [List.nodup_append]
          refine ⟨hd, by simp, fun x hx y hy => ?_⟩
          have : y = v % 10 := by simpa using hy
          subst this
          exact fun e => hm (by rw [← e]; exact hx)
        · rcases List.mem_append.mp hf with w | w
          · exact hlt f w
          · have : f = v % 10 := by simpa using w
            omega
theorem c_read {n : Nat} {v : Int} (hn : n ≤ 9) (hv : jB v) (M : CR h c np Ps td cl st) (h1 : s_read n v = none → ∀ h', CR h' c np Ps td cl st → Fo c h h' → Q (0 : Int32) h') (h2 : ∀ l', s_read n v = some l' → ∀ h' g', CR h' c np Ps td cl st → ar h' (c + 16) 9 g' → (∀ f : Nat, f ∈ l' → g' f = ps l' f) → isR n l' → Fo c h h' → Q (1 : Int32) h') : F_X4_readOrder c (iI n) (jI v) h Q := by
  unfold F_X4_readOrder
  unfold s_read at h1 h2
  refine ⟨20, ?_⟩
  by_cases c0 : v < 0
  · rw [if_pos c0] at h1
    obtain ⟨w, hw, rfl⟩ : ∃ w : Nat, 0 < w ∧ v = -(w : Int) := ⟨(-v).toNat, by omega, by omega⟩
    exact c_readN hn n 20 w 0 0 h (by omega) (by omega) hw hv (by decide) M (h1 rfl)
  · rw [if_neg c0] at h1 h2
    obtain ⟨w, rfl⟩ : ∃ w : Nat, v = (w : Int) := ⟨v.toNat, by omega⟩
    rw [Int.toNat_natCast] at h1 h2
    obtain ⟨g, R⟩ := M.2.2.1.2.2.1
    exact c_readP hn n 20 w [] h g (by simp) (by omega) hv M R (fun f hf => by cases hf) (by simp) (fun f hf => by cases hf) h1 h2
theorem C_check {z v : Int} (M : CR h c np Ps td cl st) (hz : iB z) (hv : jB v) (hq : ∀ h', CR h' c np Ps td cl st → Fo c h h' → Q (iI (s_check np Ps z v)) h') : F_X4_check c (iI z) (jI v) h Q := by
  unfold F_X4_check B_X4_check_69 B_X4_check_88
  rw [(cE M).1]
  unfold s_check at hq
  refine c_find M hz (fun w => ?_) (fun p e hp => ?_)
  · rw [w] at hq
    exact hq h M Fo.rf
  · subst e
    rw [vN_n hp] at hq
    simp only [if_true, Int.toNat_natCast] at hq
    have ok := M.ok hp
    have hn := ok.n9
    obtain ⟨VP0, AP0, RP0, C0⟩ := M.pap hp
    show pq_gI h (pA c p) 1 3 _
    rw [(pE RP0).2.2.2.2.1, C0.1.2.2.2.2.1, (cE M).1]
    refine c_read hn.2 hv M (fun e h1 M1 f1 => ?_) (fun l e h1 g M1 R1 hg hR f1 => ?_)
    · rw [e] at hq
      exact br_tt rfl (hq h1 M1 f1)
    · rw [e] at hq
      simp only at hq
      refine br_ff (by decide) ?_
      obtain ⟨VP, AP, RP, C⟩ := M1.pap hp
      have hm := mem_of_full hR.2.1 hR.2.2 hR.1
      have hh : ∀ f : Nat, f < cr_n (Ps p) → g f = ps l f ∧ iB (ps l f) := fun f hf => ⟨hg f (hm f hf), by
        have := @ps_B l f
        have := hR.1
        omega⟩
      have hq1 := hq h1 M1 f1
      unfold cr_chk at hq1
      rw [(pE RP).1]
      refine c_isUneven RP C ?_
      cases hu : cr_un (Ps p) with
      | true =>
        rw [hu] at hq1
        exact br_ff (by decide) hq1
      | false =>
        rw [hu] at hq1
        simp only [Bool.false_eq_true, if_false] at hq1
        refine br_tt rfl ?_
        rw [(cE M1).2.2.2.2.2.2.2.2.1, (pE RP).1]
        refine c_brokenMark RP C R1 hh ?_
        cases hM : fst1 (cr_cM (Ps p) (ps l)) 0 (cr_m (Ps p)) with
        | some x =>
          have xb := cM_B ok hM
          rw [hM] at hq1
          show pq_br (iI x = 0) _ (pq_br (iI x = 0) _ (Q (iI x) h1))
          refine br_eq (b := 0) (by omega) (by omega) (fun w => absurd w (by omega)) (fun _ => br_eq (b := 0) (by omega) (by omega) (fun w => absurd w (by omega)) (fun _ => hq1))
        | none =>
          rw [hM] at hq1
          simp only at hq1
          refine br_tt rfl ?_
          rw [(cE M1).2.2.2.2.2.2.2.2.1, (pE RP).1]
          refine c_brokenThrough RP C R1 hh ?_
          cases hT : fst1 (cr_cT (Ps p) (ps l)) 0 (cr_m (Ps p)) with
          | some x =>
            have xb := cT_B ok hT
            rw [hT] at hq1
            show pq_br (iI x = 0) _ (Q (iI x) h1)
            exact br_eq (b := 0) (by omega) (by omega) (fun w => absurd w (by omega)) (fun _ => hq1)
          | none =>
            rw [hT] at hq1
            simp only at hq1
            refine br_tt rfl ?_
            rw [(cE M1).2.2.2.2.2.2.2.2.1, (pE RP).1]
            exact c_brokenAcross RP C R1 hh hq1
theorem c_canBecome {k t : Nat} (hp : p < np) (M : CR h c np Ps td cl st) (hk : k < cr_m (Ps p)) (ht : t = 1 ∨ t = 2) (hq : ∀ h', CR h' c np Ps td cl st → Fo c h h' → Q (iI (bI ((mOrd (Ps p)).any (fun l => decide (cr_mi (Ps p) (ps l) k = t))))) h') : F_X4_canBecome c (pA c p) (iI k) (iI t) h Q := by
  obtain ⟨VP, AP, RP, C⟩ := M.pap hp
  obtain ⟨V, A, R⟩ := M.q (b := c + 2) (Or.inl rfl)
  have ok := C.1.1
  unfold F_X4_canBecome
  rw [(cE M).2.2.2.1, (cE M).2.2.2.2.2.2.2.2.2.2.2.2.2.2.2.2.1]
  refine c_begin R C (by unfold pA; omega) RP (fun h1 V1 A1 Bw1 Dm1 S1 e1 f1 => ?_)
  have M1 := M.pile (Or.inl rfl) S1.1 f1
  have RP1 := RP.fr f1 (by unfold pA; omega)
  rw [(cE M1).2.2.2.1, (cE M1).2.2.2.2.2.2.2.2.2.2.2.2.2.2.2.2.1]
  refine c_demandTurn S1 RP1 C hk ht (fun h2 V2 A2 Bw2 Dm2 S2 e2 f2 => ?_)
  have M2 := M1.pile (Or.inl rfl) S2.1 f2
  rw [(cE M2).2.2.2.1, (cE M2).2.2.2.2.2.2.2.2.2.2.2.2.2.2.2.2.1]
  have ne := pO_ne ok S2.2.2.2.2.2.2.2.2.1 (D := fun H => alM (Ps p) H ∧ cr_mi (Ps p) H k = t) (fun H hH => by rw [e2 H hH, e1 H hH])
  have an := any_iff ok (q := fun l => decide (cr_mi (Ps p) (ps l) k = t))
  simp only [decide_eq_true_eq] at an
  refine C_next (Or.inl rfl) (Or.inl ⟨Bw2, Dm2, S2, rfl⟩) M2 hp (fun e h3 M3 f3 => rg_z (Or.inl rfl) ?_) (fun l ys e h3 V3 A3 R3 L3 hR N3 M3 f3 => rg_z (Or.inr rfl) ?_)
  · have : (mOrd (Ps p)).any (fun l => decide (cr_mi (Ps p) (ps l) k = t)) = false := by
      rw [Bool.eq_false_iff]
      exact fun w => (ne.mpr (an.mp w)) e
    rw [this] at hq
    exact hq h3 M3 ((f1.tr (f2.tr f3)).fo (by omega))
  · have := an.mpr (ne.mp (by rw [e]; simp))
    rw [this] at hq
    exact hq h3 M3 ((f1.tr (f2.tr f3)).fo (by omega))
theorem c_canLie {x y : Nat} (hp : p < np) (M : CR h c np Ps td cl st) (hx : x < cr_n (Ps p)) (hy : y < cr_n (Ps p)) (hq : ∀ h', CR h' c np Ps td cl st → Fo c h h' → Q (iI (bI ((mOrd (Ps p)).any (fun l => decide (ps l x < ps l y))))) h') : F_X4_canLieBelow c (pA c p) (iI x) (iI y) h Q := by
  obtain ⟨VP, AP, RP, C⟩ := M.pap hp
  obtain ⟨V, A, R⟩ := M.q (b := c + 2) (Or.inl rfl)
  have ok := C.1.1
  unfold F_X4_canLieBelow
  rw [(cE M).2.2.2.1, (cE M).2.2.2.2.2.2.2.2.2.2.2.2.2.2.2.2.1]
  refine c_begin R C (by unfold pA; omega) RP (fun h1 V1 A1 Bw1 Dm1 S1 e1 f1 => ?_)
  have M1 := M.pile (Or.inl rfl) S1.1 f1
  have RP1 := RP.fr f1 (by unfold pA; omega)
  rw [(cE M1).2.2.2.1, (cE M1).2.2.2.2.2.2.2.2.2.2.2.2.2.2.2.2.1]
  refine c_demandBelow S1 RP1 C hx hy (fun h2 V2 A2 S2 f2 => ?_)
  have M2 := M1.pile (Or.inl rfl) S2.1 f2
  rw [(cE M2).2.2.2.1, (cE M2).2.2.2.2.2.2.2.2.2.2.2.2.2.2.2.2.1]
  have ne := pO_ne ok S2.2.2.2.2.2.2.2.2.1 (D := fun H => alM (Ps p) H ∧ H x < H y) (fun H hH => by rw [addD_dem hx ok.n9.2 hy, e1 H hH])
  have an := any_iff ok (q := fun l => decide (ps l x < ps l y))
  simp only [decide_eq_true_eq] at an
  refine C_next (Or.inl rfl) (Or.inl ⟨_, _, S2, rfl⟩) M2 hp (fun e h3 M3 f3 => rg_z (Or.inl rfl) ?_) (fun l ys e h3 V3 A3 R3 L3 hR N3 M3 f3 => rg_z (Or.inr rfl) ?_)
  · have : (mOrd (Ps p)).any (fun l => decide (ps l x < ps l y)) = false := by
      rw [Bool.eq_false_iff]
      exact fun w => (ne.mpr (an.mp w)) e
    rw [this] at hq
    exact hq h3 M3 ((f1.tr (f2.tr f3)).fo (by omega))
  · have := an.mpr (ne.mp (by rw [e]; simp))
    rw [this] at hq
    exact hq h3 M3 ((f1.tr (f2.tr f3)).fo (by omega))
theorem C_forced {z f : Int} (M : CR h c np Ps td cl st) (hz : iB z) (hf : iB f) (hq : ∀ h', CR h' c np Ps td cl st → Fo c h h' → Q (iI (s_forced np Ps z f)) h') : F_X4_forced c (iI z) (iI f) h Q := by
  unfold F_X4_forced B_X4_forced_18 B_X4_forced_36 B_X4_forced_51
  rw [(cE M).1]
  unfold s_forced vC at hq
  refine c_find M hz (fun w => ?_) (fun p e hp => ?_)
  · rw [w] at hq
    exact hq h M Fo.rf
  · subst e
    rw [vN_n hp] at hq
    simp only [Bool.true_and, Int.toNat_natCast] at hq
    obtain ⟨VP, AP, RP, C⟩ := M.pap hp
    show pq_o h (pA c p) 1 _
    rw [(pE RP).1]
    refine c_hasCrease RP C.1 hf ?_
    by_cases w : 0 ≤ f ∧ f < cr_m (Ps p)
    · rw [decide_eq_true w] at hq ⊢
      simp only [if_true] at hq
      obtain ⟨k, rfl⟩ : ∃ k : Nat, f = k := ⟨f.toNat, by omega⟩
      rw [Int.toNat_natCast] at hq
      refine br_ff (by decide) ?_
      rw [(cE M).1]
      refine c_canBecome (t := 1) hp M (by omega) (Or.inl rfl) (fun h1 M1 f1 => ?_)
      have second : ∀ x : Bool, (mOrd (Ps p)).any (fun l => decide (cr_mi (Ps p) (ps l) k = 1)) = x → pq_o h1 c 4 (F_X4_canBecome c (pA c p) (iI k) (2 : Int32) h1 (fun v2 h2 => (pq_br (v2 = 0) (Q ((if x then (1 : Int32) else 0) + (0 : Int32)) h2) (Q ((if x then (1 : Int32) else 0) + (2 : Int32)) h2)))) := fun x hx => by
        rw [(cE M1).1]
        refine c_canBecome (t := 2) hp M1 (by omega) (Or.inr rfl) (fun h2 M2 f2 => ?_)
        have hq2 := hq h2 M2 (Fo.tr f1 f2)
        cases hy : (mOrd (Ps p)).any (fun l => decide (cr_mi (Ps p) (ps l) k = 2)) with
        | true =>
          simp only [hx, hy, if_true] at hq2
          refine br_ff (by decide) ?_
          cases x <;> exact hq2
        | false =>
          simp only [hx, hy, Bool.false_eq_true, if_false] at hq2
          refine br_tt rfl ?_
          cases x <;> exact hq2
      cases hx : (mOrd (Ps p)).any (fun l => decide (cr_mi (Ps p) (ps l) k = 1)) with
      | true => exact br_ff (by decide) (second true hx)
      | false => exact br_tt rfl (second false hx)
    · rw [decide_eq_false w] at hq ⊢
      exact br_tt rfl (hq h M Fo.rf)
theorem C_above {z f g : Int} (M : CR h c np Ps td cl st) (hz : iB z) (hf : iB f) (hg : iB g) (hq : ∀ h', CR h' c np Ps td cl st → Fo c h h' → Q (iI (s_above np Ps z f g)) h') : F_X4_above c (iI z) (iI f) (iI g) h Q := by
  unfold F_X4_above B_X4_above_30 B_X4_above_77 B_X4_above_88
  rw [(cE M).1]
  unfold s_above vF at hq
  refine c_find M hz (fun w => ?_) (fun p e hp => ?_)
  · rw [w] at hq
    exact hq h M Fo.rf
  · subst e
    rw [vN_n hp] at hq
    simp only [Bool.true_and, Int.toNat_natCast] at hq
    obtain ⟨VP, AP, RP, C⟩ := M.pap hp
    have hn := C.1.1.n9
    show pq_o h (pA c p) 1 _
    rw [(pE RP).1]
    refine c_hasFace RP C.1 hf ?_
    by_cases w : 0 ≤ f ∧ f < cr_n (Ps p)
    · rw [decide_eq_true w] at hq ⊢
      refine br_ff (by decide) ?_
      rw [(pE RP).1]
      refine c_hasFace RP C.1 hg ?_
      by_cases w2 : 0 ≤ g ∧ g < cr_n (Ps p)
      · rw [decide_eq_true w2] at hq ⊢
        simp only [Bool.and_self, if_true] at hq
        obtain ⟨x, rfl⟩ : ∃ k : Nat, f = k := ⟨f.toNat, by omega⟩
        obtain ⟨y, rfl⟩ : ∃ k : Nat, g = k := ⟨g.toNat, by omega⟩
        rw [Int.toNat_natCast, Int.toNat_natCast] at hq
        refine br_ff (by decide) ?_
        refine br_eq (by omega) (by omega) (fun e => ?_) (fun e => ?_)
        · rw [if_pos e] at hq; exact hq h M Fo.rf
        · rw [if_neg e] at hq
          rw [(cE M).1]
          refine c_canLie hp M (by omega) (by omega) (fun h1 M1 f1 => ?_)
          rw [(cE M1).1]
          refine c_canLie hp M1 (by omega) (by omega) (fun h2 M2 f2 => ?_)
          have hq2 := hq h2 M2 (Fo.tr f1 f2)
          generalize (mOrd (Ps p)).any (fun l => decide (ps l y < ps l x)) = up at *
          generalize (mOrd (Ps p)).any (fun l => decide (ps l x < ps l y)) = dn at *
          cases up <;> cases dn
          · exact br_tt rfl (br_tt rfl hq2)
          · exact br_ff (by decide) (br_tt rfl hq2)
          · exact br_ff (by decide) (br_ff (by decide) hq2)
          · exact br_tt rfl (br_ff (by decide) hq2)
      · rw [decide_eq_false w2] at hq ⊢
        exact br_tt rfl (hq h M Fo.rf)
    · rw [decide_eq_false w] at hq ⊢
      exact br_tt rfl (hq h M Fo.rf)
end T2
