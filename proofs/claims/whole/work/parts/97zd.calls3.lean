/-! THE CLASS: alike, foldings, clash -/
theorem lg_eq {a b : Int} (ha : jB a) (hb : jB b) : (lg_cmp (jI a) (jI b) = 0) ↔ a = b := by
  have h2 := jI_lt (a := b) (b := a) hb ha
  have h3 := jI_inj ha hb
  show (if jI b < jI a then (1 : Int32) else if jI a = jI b then 0 else -1) = 0 ↔ a = b
  by_cases c1 : b < a
  · rw [if_pos (h2.mpr c1)]; exact ⟨fun e => absurd e (by decide), fun e => by omega⟩
  · rw [if_neg (mt h2.mp c1)]
    by_cases c2 : a = b
    · rw [if_pos (h3.mpr c2)]; exact ⟨fun _ => c2, fun _ => rfl⟩
    · rw [if_neg (mt h3.mp c2)]; exact ⟨fun e => absurd e (by decide), fun e => absurd e c2⟩
theorem num_inj {n : Nat} (hn : n ≤ 9) {l l' : List Nat} (h : isR n l) (h' : isR n l') : (num l : Int) = (num l' : Int) ↔ l = l' := by
  refine ⟨fun e => ?_, fun e => by rw [e]⟩
  have a := s_read_num hn h
  have b := s_read_num hn h'
  rw [e, b] at a
  exact (Option.some.inj a).symm
section T3
variable {h h' : pz_H} {c np p q b : Nat} {V : Nat → Int} {A : Nat → Int → Int} {Ps : Nat → cr_P} {td : Option (Nat × List Nat)} {cl : List Nat} {st : List Int} {K : pz_H → Prop} {Q : Int32 → pz_H → Prop}
theorem c_same_loop (hp : p < np) (hp2 : q < np) (en : cr_n (Ps p) = cr_n (Ps q)) : ∀ (xs : List (List Nat)) (u i : Nat) (ys : List (List Nat)) (h : pz_H) (V V2 : Nat → Int) (A A2 : Nat → Int → Int), xs.length < u → i + xs.length ≤ 362880 → qR h (c + 2) V A (pA c p) (Ps p) xs → qR h (c + 8) V2 A2 (pA c q) (Ps q) ys → CR h c np Ps td cl st → (∀ h', CR h' c np Ps td cl st → Fo c h h' → Q (iI (bI (decide (xs = ys)))) h') → L_X4_allowTheSame_18 c Q u (iI i) h := by
  intro xs
  induction xs with
  | nil =>
    intro u i ys h V V2 A A2 hu hi N N2 M hq
    obtain ⟨u, rfl⟩ : ∃ v, u = v + 1 := ⟨u - 1, by omega⟩
    simp only [List.length_nil] at hi
    unfold L_X4_allowTheSame_18
    refine br_lt (a := 362880) (by omega) (by omega) (fun w => absurd w (by omega)) (fun _ => ?_)
    rw [(cE M).2.2.2.1, (cE M).2.2.2.2.2.2.2.2.2.2.2.2.2.2.2.2.1]
    refine C_next (Or.inl rfl) N M hp (fun e h2 M2 f2 => ?_) (fun l ys e => by cases e)
    rw [(cE M2).2.2.2.2.1, (cE M2).2.2.2.2.2.2.2.2.2.2.2.2.2.2.2.2.2.1]
    refine C_next (Or.inr rfl) (N2.fr f2 (by omega)) M2 hp2 (fun e h3 M3 f3 => ?_) (fun l zs e h3 V3 A3 R3 L3 hR N3 M3 f3 => ?_)
    · refine br_tt rfl (br_tt rfl ?_)
      subst e
      exact hq h3 M3 (Fo.tr (f2.fo (by omega)) (f3.fo (by omega)))
    · refine br_ff (by decide) ?_
      subst e
      exact hq h3 M3 (Fo.tr (f2.fo (by omega)) (f3.fo (by omega)))
  | cons x xs ih =>
    intro u i ys h V V2 A A2 hu hi N N2 M hq
    obtain ⟨u, rfl⟩ : ∃ v, u = v + 1 := ⟨u - 1, by omega⟩
    simp only [List.length_cons] at hi hu
    have hn := (M.ok hp).n9
    unfold L_X4_allowTheSame_18
    refine br_lt (a := 362880) (by omega) (by omega) (fun w => absurd w (by omega)) (fun _ => ?_)
    rw [(cE M).2.2.2.1, (cE M).2.2.2.2.2.2.2.2.2.2.2.2.2.2.2.2.1]
    refine C_next (Or.inl rfl) N M hp (fun e => by cases e) (fun l xs' e h2 V2' A2' R2 L2 hR2 N2' M2 f2 => ?_)
    cases e
    rw [(cE M2).2.2.2.2.1, (cE M2).2.2.2.2.2.2.2.2.2.2.2.2.2.2.2.2.2.1]
    refine C_next (Or.inr rfl) (N2.fr f2 (by omega)) M2 hp2 (fun e h3 M3 f3 => ?_) (fun l zs e h3 V3 A3 R3 L3 hR3 N3 M3 f3 => ?_)
    · refine br_ff (by decide) ?_
      subst e
      exact hq h3 M3 (Fo.tr (f2.fo (by omega)) (f3.fo (by omega)))
    · refine br_tt rfl (br_ff (by decide) ?_)
      subst e
      have R2' : rQ h3 (c + 2) V2' A2' := R2.fr f3 (by omega)
      rw [(cE M3).2.2.2.1, (cE M3).2.2.2.2.2.2.2.2.2.2.2.2.2.2.2.2.1]
      refine c_asNumber hn.2 R2' L2 hR2 ?_
      rw [(cE M3).2.2.2.2.1, (cE M3).2.2.2.2.2.2.2.2.2.2.2.2.2.2.2.2.2.1]
      rw [← en] at hR3
      refine c_asNumber hn.2 R3 L3 hR3 ?_
      have F : Fo c h h3 := Fo.tr (f2.fo (by omega)) (f3.fo (by omega))
      by_cases e : x = l
      · refine br_tt ((lg_eq (num_jB hn.2 hR2) (num_jB hn.2 hR3)).mpr ((num_inj hn.2 hR2 hR3).mpr e)) ?_
        subst e
        have ei : iI (i : Int) + (1 : Int32) = iI ((i + 1 : Nat) : Int) := by rw [iI_1, iI_add]; rfl
        rw [ei]
        refine ih u (i + 1) zs h3 V2' V3 A2' A3 (by omega) (by omega) (N2'.fr f3 (by omega)) N3 M3 (fun h4 M4 f4 => ?_)
        have := hq h4 M4 (Fo.tr F f4)
        have ed : decide (x :: xs = x :: zs) = decide (xs = zs) := by simp
        rw [ed] at this
        exact this
      · refine br_ff (fun w => e ((num_inj hn.2 hR2 hR3).mp ((lg_eq (num_jB hn.2 hR2) (num_jB hn.2 hR3)).mp w))) ?_
        have := hq h3 M3 F
        have ed : decide (x :: xs = l :: zs) = false := by simp [e]
        rw [ed] at this
        exact this
theorem C_alike {y z : Int} (M : CR h c np Ps td cl st) (hy : iB y) (hz : iB z) (hq : ∀ h', CR h' c np Ps td cl st → Fo c h h' → Q (iI (s_alike np Ps y z)) h') : F_X4_alike c (iI y) (iI z) h Q := by
  unfold F_X4_alike B_X4_alike_22 B_X4_alike_51 B_X4_alike_52
  rw [(cE M).1]
  unfold s_alike at hq
  refine c_find M hy (fun w => ?_) (fun p e hp => ?_)
  · rw [w] at hq
    show pq_o h c 4 _
    rw [(cE M).1]
    refine c_find M hz (fun w => ?_) (fun p e hp => ?_)
    · exact hq h M Fo.rf
    · exact hq h M Fo.rf
  · subst e
    show pq_o h c 4 _
    rw [(cE M).1]
    rw [vN_n hp, Bool.true_and] at hq
    refine c_find M hz (fun w => ?_) (fun q e hp2 => ?_)
    · rw [w] at hq
      exact hq h M Fo.rf
    · subst e
      rw [vN_n hp2] at hq
      simp only [if_true, Int.toNat_natCast] at hq
      obtain ⟨VP, AP, RP, C⟩ := M.pap hp
      obtain ⟨VP2, AP2, RP2, C2⟩ := M.pap hp2
      have hn := C.1.1.n9
      have hn2 := C2.1.1.n9
      show pq_gI h (pA c p) 1 3 _
      rw [(pE RP).2.2.2.2.1, (pE RP2).2.2.2.2.1, C.1.2.2.2.2.1, C2.1.2.2.2.2.1]
      refine br_eq (by omega) (by omega) (fun e => ?_) (fun e => ?_)
      · have en : cr_n (Ps p) = cr_n (Ps q) := by omega
        have ml := mOrd_len C.1.1
        rw [(cE M).1]
        unfold F_X4_allowTheSame
        rw [(cE M).2.2.2.1, (cE M).2.2.2.2.2.2.2.2.2.2.2.2.2.2.2.2.1]
        refine C_begin (Or.inl rfl) M hp (fun h1 V1 A1 N1 M1 f1 => ?_)
        rw [(cE M1).2.2.2.2.1, (cE M1).2.2.2.2.2.2.2.2.2.2.2.2.2.2.2.2.2.1]
        refine C_begin (Or.inr rfl) M1 hp2 (fun h2 V2 A2 N2 M2 f2 => ?_)
        refine ⟨(mOrd (Ps p)).length + 1, c_same_loop hp hp2 en (mOrd (Ps p)) _ 0 (mOrd (Ps q)) h2 V1 V2 A1 A2 (by omega) (by omega) (N1.fr f2 (by omega)) N2 M2 (fun h3 M3 f3 => ?_)⟩
        have hq3 := hq h3 M3 (Fo.tr (f1.fo (by omega)) (Fo.tr (f2.fo (by omega)) f3))
        by_cases w : mOrd (Ps p) = mOrd (Ps q)
        · rw [decide_eq_true w]
          rw [if_pos ⟨en, w⟩] at hq3
          exact br_ff (by decide) hq3
        · rw [decide_eq_false w]
          rw [if_neg (fun z => w z.2)] at hq3
          exact br_tt rfl hq3
      · rw [if_neg (fun z => e (by omega))] at hq
        exact hq h M Fo.rf
end T3
/-! what is met in a call: bits of longs -/
def metL (f : Nat → Int64) (s : List Nat) : Prop := ∀ v : Nat, v < 4096 → ((f (v / 64)).toBitVec.getLsbD (v % 64) = true ↔ v ∈ s)
theorem mt_bit : ∀ j : Nat, j < 64 → ((1 : Int64) <<< (Int32.toInt64 (iI (j : Int)) &&& 63)).toBitVec = BitVec.twoPow 64 j := by decide +kernel
theorem mt_lo : ∀ v : Nat, v < 4096 → iI (v : Int) &&& (63 : Int32) = iI ((v % 64 : Nat) : Int) := fun v _ => by
  have : (63 : Int32) = iI ((63 : Nat) : Int) := rfl
  rw [this, iI_and]
  congr 2
  exact Nat.and_two_pow_sub_one_eq_mod v 6
theorem iI_sh6 {z : Int} (h : iB z) : iI z >>> ((6 : Int32) &&& 31) = iI (z / 64) := by
  apply Int32.toInt_inj.mp
  rw [← Int32.toInt_toBitVec, Int32.toBitVec_shiftRight, BitVec.toInt_sshiftRight', Int32.toInt_toBitVec, iI_toInt h.1 h.2, iI_toInt (by omega) (by omega)]
  have e : (((6 : Int32) &&& 31).toBitVec.smod 32).toNat = 6 := by decide
  rw [e, Int.shiftRight_eq_div_pow]
  rfl
theorem lg_0 (x : Int64) : (lg_cmp x (0 : Int64) = 0) ↔ x = 0 := by
  obtain ⟨z, hz, rfl⟩ := jI_of64 x
  rw [lg_z hz]
  exact (jI_inj hz (b := 0) (by omega)).symm
theorem mt_zero {x y : Int64} {j : Nat} (hj : j < 64) (hy : y.toBitVec = BitVec.twoPow 64 j) : (x &&& y = 0) ↔ x.toBitVec.getLsbD j = false := by
  rw [← Int64.toBitVec_inj, Int64.toBitVec_and, hy, BitVec.and_twoPow]
  cases x.toBitVec.getLsbD j with
  | false => simp
  | true =>
    simp only [if_true]
    refine ⟨fun e => ?_, fun e => by cases e⟩
    have := congrArg (fun w => w.getLsbD j) e
    simp [BitVec.getLsbD_twoPow, hj] at this
theorem mt_set {f : Nat → Int64} {s : List Nat} {v : Nat} {y : Int64} (H : metL f s) (hv : v < 4096) (hy : y.toBitVec = BitVec.twoPow 64 (v % 64)) : metL (vp_updL f (v / 64) (f (v / 64) ||| y)) (v :: s) := by
  intro w hw
  have h64 : v % 64 < 64 := Nat.mod_lt _ (by decide)
  by_cases e : w / 64 = v / 64
  · have e1 : vp_updL f (v / 64) (f (v / 64) ||| y) (w / 64) = f (w / 64) ||| y := by
      unfold vp_updL; rw [e]; simp
    rw [e1, Int64.toBitVec_or, hy, BitVec.getLsbD_or, BitVec.getLsbD_twoPow, Bool.or_eq_true, H w hw, List.mem_cons]
    simp only [Bool.and_eq_true, decide_eq_true_eq]
    constructor
    · intro z
      rcases z with z | z
      · exact Or.inr z
      · exact Or.inl (by omega)
    · intro z
      rcases z with z | z
      · exact Or.inr ⟨h64, by omega⟩
      · exact Or.inl z
  · have e1 : vp_updL f (v / 64) (f (v / 64) ||| y) (w / 64) = f (w / 64) := by
      unfold vp_updL; simp [e]
    rw [e1, H w hw, List.mem_cons]
    exact ⟨fun z => Or.inr z, fun z => z.elim (fun z => absurd (by rw [z]) e) id⟩
section T4
variable {h h' : pz_H} {c np p q b : Nat} {V : Nat → Int} {A : Nat → Int → Int} {Ps : Nat → cr_P} {td : Option (Nat × List Nat)} {cl : List Nat} {st : List Int} {K : pz_H → Prop} {Q : Int32 → pz_H → Prop}
theorem CR.met {g : Nat → Int64} (M : CR h c np Ps td cl st) (R : lr h' (c + 17) g) (f : Fr (c + 17) (c + 18) h h') : CR h' c np Ps td cl st := by
  refine M.of (f.sc (by omega)) ?_
  obtain ⟨⟨V1, A1, R1⟩, ⟨V2, A2, R2⟩, ⟨f3, R3⟩, ⟨f4, R4⟩, ⟨F5, A5, R5, z5⟩, V6, A6, R6⟩ := M.2.2.1
  exact ⟨⟨V1, A1, R1.fr f (by omega)⟩, ⟨V2, A2, R2.fr f (by omega)⟩, ⟨f3, R3.fr f (by omega)⟩, ⟨g, R⟩, ⟨F5, A5, R5.fr f (by omega), z5⟩, V6, A6, R6.fr f (by omega)⟩
theorem lr_s {f : Nat → Int64} {i : Nat} {x : Int64} {K : pz_H → Prop} (R : lr h b f) (hi : i < 64) (kk : ∀ h', lr h' b (vp_updL f i x) → Fr b (b + 1) h h' → K h') : pq_sJ h b (iI i) x K := by
  refine ⟨64, f, R, iI_in hi (by decide), ?_⟩
  rw [iI_clamp (by omega)]
  exact kk _ (by unfold lr; rw [pz_up_at]) (Fr.up (by omega) (by omega))
theorem lr_len {f : Nat → Int64} {K : Int32 → Prop} (R : lr h b f) (k : K (iI 64)) : pq_len h b K := ⟨1, _, _, R, rfl, k⟩
theorem lr_a {f : Nat → Int64} {i : Nat} {K : Int64 → Prop} (R : lr h b f) (hi : i < 64) (k : K (f i)) : pq_aJ h b (iI i) K := by
  refine ⟨64, f, R, iI_in hi (by decide), ?_⟩
  rw [iI_clamp (by omega)]
  exact k
theorem lr_fill (kk : ∀ h' f', lr h' b f' → (∀ i, i < 64 → f' i = 0) → Fr b (b + 1) h h' → K h') : ∀ (k u i : Nat) (h0 : pz_H) (f : Nat → Int64), i + k = 64 → k < u → lr h0 b f → (∀ j, j < i → f j = 0) → Fr b (b + 1) h h0 → L_J7_fill_d0a16_6 b (0 : Int64) (iI 64) K u (iI i) h0 := by
  intro k
  induction k with
  | zero =>
    intro u i h0 f hi hu R e fr
    obtain ⟨u, rfl⟩ : ∃ v, u = v + 1 := ⟨u - 1, by omega⟩
    unfold L_J7_fill_d0a16_6
    refine br_le (by omega) (by omega) (fun _ => kk h0 f R (fun j hj => e j (by omega)) fr) (fun w => absurd w (by omega))
  | succ k ih =>
    intro u i h0 f hi hu R e fr
    obtain ⟨u, rfl⟩ : ∃ v, u = v + 1 := ⟨u - 1, by omega⟩
    unfold L_J7_fill_d0a16_6
    refine br_le (by omega) (by omega) (fun w => absurd w (by omega)) (fun _ => ?_)
    refine lr_s R (by omega) (fun h1 R1 f1 => ?_)
    have ei : iI (i : Int) + (1 : Int32) = iI ((i + 1 : Nat) : Int) := by rw [iI_1, iI_add]; rfl
    rw [ei]
    refine ih u (i + 1) h1 _ (by omega) (by omega) R1 (fun j hj => ?_) (fr.tr f1)
    unfold vp_updL
    by_cases w : j = i
    · simp [w]
    · simp [w]; exact e j (by omega)
theorem c_isNew {f : Nat → Int64} {s : List Nat} {v : Nat} (M : CR h c np Ps td cl st) (R : lr h (c + 17) f) (H : metL f s) (hv : v < 4096) (hq : ∀ h' f', CR h' c np Ps td cl st → lr h' (c + 17) f' → (v ∉ s → metL f' (v :: s)) → (v ∈ s → metL f' s) → Fr (c + 17) (c + 18) h h' → Q (iI (bI (decide (v ∉ s)))) h') : F_X4_isNew c (iI v) h Q := by
  unfold F_X4_isNew B_X4_isNew_42
  have eb := mt_bit (v % 64) (by omega)
  rw [iI_sh6 (by omega), mt_lo v hv]
  have ew : (v : Int) / 64 = ((v / 64 : Nat) : Int) := by omega
  rw [ew]
  generalize (1 : Int64) <<< (Int32.toInt64 (iI ((v % 64 : Nat) : Int)) &&& 63) = y at *
  refine br_lt (b := 0) (by omega) (by omega) (fun w => absurd w (by omega)) (fun _ => ?_)
  rw [(cE M).2.2.2.2.2.2.2.2.2.1]
  refine lr_len R ?_
  refine br_le (a := 64) (by omega) (by omega) (fun w => absurd w (by omega)) (fun _ => ?_)
  rw [(cE M).2.2.2.2.2.2.2.2.2.1]
  refine lr_a R (by omega) ?_
  have k1 := mt_zero (x := f (v / 64)) (y := y) (Nat.mod_lt v (by decide)) eb
  by_cases w : v ∈ s
  · have : (f (v / 64)).toBitVec.getLsbD (v % 64) = true := (H v hv).mpr w
    refine br_ff (fun e => ?_) ?_
    · rw [lg_0, k1, this] at e; cases e
    · have := hq h f M R (fun z => absurd w z) (fun _ => H) Fr.rf
      rw [decide_eq_false (fun z => z w)] at this
      exact this
  · have : (f (v / 64)).toBitVec.getLsbD (v % 64) = false := by
      rw [Bool.eq_false_iff]; exact fun z => w ((H v hv).mp z)
    refine br_tt ((lg_0 _).mpr (k1.mpr this)) ?_
    rw [(cE M).2.2.2.2.2.2.2.2.2.1]
    refine lr_a R (by omega) (lr_s R (by omega) (fun h1 R1 f1 => ?_))
    have := hq h1 _ (M.met R1 f1) R1 (fun _ => mt_set H hv eb) (fun z => absurd z w) f1
    rw [decide_eq_true w] at this
    exact this
theorem vs_lt (ok : cr_ok (Ps p)) (l : List Nat) : cr_vs (Ps p) l < 4096 := by
  have h1 : cr_vs (Ps p) l < 2 ^ cr_m (Ps p) := nu_bm_lt _ _
  have h2 : 2 ^ cr_m (Ps p) ≤ 2 ^ 12 := Nat.pow_le_pow_right (by decide) ok.m12
  omega
theorem dis_le : ∀ (xs s : List Nat), dis s xs ≤ xs.length
  | [], _ => Nat.le_refl _
  | x :: xs, s => by
    rw [dis]
    split
    · have := dis_le xs s; simp; omega
    · have := dis_le xs (x :: s); simp; omega
theorem c_fold_loop (hp : p < np) : ∀ (xs : List (List Nat)) (u n i : Nat) (s : List Nat) (f : Nat → Int64) (h : pz_H) (V : Nat → Int) (A : Nat → Int → Int), xs.length < u → i + xs.length ≤ 362880 → n ≤ i → qR h (c + 2) V A (pA c p) (Ps p) xs → CR h c np Ps td cl st → lr h (c + 17) f → metL f s → (∀ h', CR h' c np Ps td cl st → Fo c h h' → Q (iI ((n + dis s (xs.map (cr_vs (Ps p))) : Nat) : Int)) h') → L_X4_foldings_34 c (pA c p) Q u (iI n) (iI i) h := by
  intro xs
  induction xs with
  | nil =>
    intro u n i s f h V A hu hi hni N M R H hq
    obtain ⟨u, rfl⟩ : ∃ v, u = v + 1 := ⟨u - 1, by omega⟩
    simp only [List.length_nil] at hi
    unfold L_X4_foldings_34 B_X4_foldings_78
    refine br_le (a := 362880) (by omega) (by omega) (fun _ => hq h M Fo.rf) (fun _ => ?_)
    rw [(cE M).2.2.2.1, (cE M).2.2.2.2.2.2.2.2.2.2.2.2.2.2.2.2.1]
    exact C_next (Or.inl rfl) N M hp (fun e h2 M2 f2 => br_tt rfl (hq h2 M2 (f2.fo (by omega)))) (fun l ys e => by cases e)
  | cons x xs ih =>
    intro u n i s f h V A hu hi hni N M R H hq
    obtain ⟨u, rfl⟩ : ∃ v, u = v + 1 := ⟨u - 1, by omega⟩
    simp only [List.length_cons] at hi hu
    have ok := M.ok hp
    have hn := ok.n9
    unfold L_X4_foldings_34 B_X4_foldings_78 B_X4_foldings_72
    refine br_le (a := 362880) (by omega) (by omega) (fun w => absurd w (by omega)) (fun _ => ?_)
    rw [(cE M).2.2.2.1, (cE M).2.2.2.2.2.2.2.2.2.2.2.2.2.2.2.2.1]
    refine C_next (Or.inl rfl) N M hp (fun e => by cases e) (fun l ys e h2 V2 A2 R2 L2 hR N2 M2 f2 => br_ff (by decide) ?_)
    cases e
    have Rm : lr h2 (c + 17) f := by unfold lr; rw [f2.2 _ (by omega)]; exact R
    obtain ⟨VP, AP, RP, C⟩ := M2.pap hp
    rw [(cE M2).2.2.2.1, (qE R2).2.2.2.1, (pE RP).1]
    have hm := mem_of_full hR.2.1 hR.2.2 hR.1
    refine c_valleysIn (HH := ps x) RP C.1 (rg_ar R2 (j := 2) (by decide) (by decide) rfl) (fun f hf => ⟨L2.2.2 f (hm f hf), by
      have := @ps_B x f
      have := hR.1
      omega⟩) ?_
    rw [(cE M2).1]
    refine c_isNew (v := cr_vs (Ps p) x) M2 Rm H (vs_lt ok x) (fun h3 f3 M3 R3 a1 a2 fr3 => ?_)
    have ei : iI (i : Int) + (1 : Int32) = iI ((i + 1 : Nat) : Int) := by rw [iI_1, iI_add]; rfl
    have en : iI (n : Int) + (1 : Int32) = iI ((n + 1 : Nat) : Int) := by rw [iI_1, iI_add]; rfl
    rw [ei, en]
    rw [List.map_cons, dis] at hq
    have N3 := N2.fr fr3 (by omega)
    have F : Fo c h h3 := Fo.tr (f2.fo (by omega)) (fr3.fo (by omega))
    by_cases w : cr_vs (Ps p) x ∈ s
    · rw [decide_eq_false (fun z => z w)]
      rw [if_pos w] at hq
      exact br_tt rfl (ih u n (i + 1) s f3 h3 V2 A2 (by omega) (by omega) (by omega) N3 M3 R3 (a2 w) (fun h4 M4 f4 => hq h4 M4 (Fo.tr F f4)))
    · rw [decide_eq_true w]
      rw [if_neg w] at hq
      refine br_ff (by decide) (ih u (n + 1) (i + 1) (cr_vs (Ps p) x :: s) f3 h3 V2 A2 (by omega) (by omega) (by omega) N3 M3 R3 (a1 w) (fun h4 M4 f4 => ?_))
      have := hq h4 M4 (Fo.tr F f4)
      rw [show n + 1 + dis (cr_vs (Ps p) x :: s) (xs.map (cr_vs (Ps p))) = n + (dis (cr_vs (Ps p) x :: s) (xs.map (cr_vs (Ps p))) + 1) by omega]
      exact this
theorem C_foldings {z : Int} (M : CR h c np Ps td cl st) (hz : iB z) (hq : ∀ h', CR h' c np Ps td cl st → Fo c h h' → Q (iI (s_foldings np Ps z)) h') : F_X4_foldings c (iI z) h Q := by
  unfold F_X4_foldings
  rw [(cE M).1]
  unfold s_foldings at hq
  refine c_find M hz (fun w => ?_) (fun p e hp => ?_)
  · rw [w] at hq
    exact hq h M Fo.rf
  · subst e
    rw [vN_n hp] at hq
    simp only [if_true, Int.toNat_natCast] at hq
    have ml := mOrd_len (M.ok hp)
    obtain ⟨f0, R0⟩ := M.2.2.1.2.2.2.1
    show pq_gA h c 4 8 _
    rw [(cE M).2.2.2.2.2.2.2.2.2.1]
    unfold F_J7_fill_d0a16
    refine lr_len R0 ⟨65, lr_fill (h := h) (fun h1 f1 R1 e1 fr1 => ?_) 64 65 0 h f0 (by omega) (by omega) R0 (fun j hj => by omega) Fr.rf⟩
    have M1 := M.met R1 fr1
    rw [(cE M1).2.2.2.1, (cE M1).2.2.2.2.2.2.2.2.2.2.2.2.2.2.2.2.1]
    refine C_begin (Or.inl rfl) M1 hp (fun h2 V2 A2 N2 M2 f2 => ?_)
    have R2 : lr h2 (c + 17) f1 := by unfold lr; rw [f2.2 _ (by omega)]; exact R1
    refine ⟨(mOrd (Ps p)).length + 1, c_fold_loop hp (mOrd (Ps p)) _ 0 0 [] f1 h2 V2 A2 (by omega) (by omega) (by omega) N2 M2 R2 (fun v hv => ?_) (fun h3 M3 f3 => ?_)⟩
    · rw [e1 _ (by omega)]
      simp
    · rw [Nat.zero_add]
      exact hq h3 M3 (Fo.tr (fr1.fo (by omega)) (Fo.tr (f2.fo (by omega)) f3))
end T4
