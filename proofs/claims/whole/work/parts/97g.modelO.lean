/-! THE REFERENCE: best -/
def stp (P : cr_P) (ly : Nat) (b : Bool) (g : Nat) (un : Bool) : Int := 4 * lA (cr_ln P) ly (g + 1) + 2 * bI b + bI un
def upd1 (acc : Option (Nat × Int)) (n : Nat) (z : Int) : Option (Nat × Int) := match acc with
  | none => some (n, z)
  | some q => if n < q.1 ∨ (n = q.1 ∧ z < q.2) then some (n, z) else some q
def upd2 (acc : Option (Nat × Int)) (o : Option (Nat × Int)) (z : Int) : Option (Nat × Int) := match o with
  | none => acc
  | some q => upd1 acc (q.1 + 1) z
/-- what is known of the paper with fs folded too -/
def nxT (T : Nat → Nat → Option (Nat × Int)) (s r : Nat) (b : Bool) (fs : Nat) : Option (Nat × Int) := if fs = 0 then none else if b then T s (r ||| fs) else T (s ||| fs) r
def try1 (P : cr_P) (T : Nat → Nat → Option (Nat × Int)) (s r : Nat) (b : Bool) (g : Nat) (acc : Option (Nat × Int)) (un : Bool) : Option (Nat × Int) := upd2 acc (nxT T s r b (s_done P s r (stp P (if b then r else s) b g un))) (stp P (if b then r else s) b g un)
def tryG (P : cr_P) (T : Nat → Nat → Option (Nat × Int)) (s r : Nat) (b : Bool) (acc : Option (Nat × Int)) (g : Nat) : Option (Nat × Int) := if (if b then r else s).testBit g then acc else try1 P T s r b g (try1 P T s r b g acc false) true
def bestS (P : cr_P) (T : Nat → Nat → Option (Nat × Int)) (s r : Nat) : Option (Nat × Int) := (List.range (gaps P true)).foldl (tryG P T s r true) ((List.range (gaps P false)).foldl (tryG P T s r false) none)
def eC (o : Option (Nat × Int)) : Int := match o with
  | none => -1
  | some q => q.1
def eS (o : Option (Nat × Int)) : Int := match o with
  | none => 0
  | some q => q.2
def okO (o : Option (Nat × Int)) : Prop := ∀ q, o = some q → q.1 ≤ 1000 ∧ -100000 ≤ q.2 ∧ q.2 ≤ 100000
theorem okO_none : okO none := fun _ h => by cases h
theorem stp_b (P : cr_P) (ly : Nat) (b : Bool) (g : Nat) (un : Bool) : decide (stp P ly b g un / 2 % 2 ≠ 0) = b ∧ decide (stp P ly b g un % 2 ≠ 0) = un ∧ stp P ly b g un / 4 = lA (cr_ln P) ly (g + 1) := by
  unfold stp bI
  cases b <;> cases un <;> simp <;> omega
theorem stp_B {P : cr_P} (ok : cr_ok P) (ly : Nat) (b : Bool) {g : Nat} (hg : g ≤ 10) (un : Bool) : -90000 ≤ stp P ly b g un ∧ stp P ly b g un ≤ 90000 := by
  have := ok.lB ly (f := g + 1) (by omega)
  unfold stp bI
  cases b <;> cases un <;> simp <;> omega
theorem upd2_ok {acc o : Option (Nat × Int)} {z : Int} (h1 : okO acc) (h2 : ∀ q, o = some q → q.1 ≤ 300) (hz : -90000 ≤ z ∧ z ≤ 90000) : okO (upd2 acc o z) := by
  unfold upd2
  cases o with
  | none => exact h1
  | some q =>
    have hq := h2 q rfl
    unfold upd1
    cases acc with
    | none => intro x hx; cases hx; simp only; omega
    | some a =>
      simp only
      split
      · intro x hx; cases hx; simp only; omega
      · exact h1
theorem dn_grow {P : cr_P} {s r : Nat} {b un : Bool} {ly : Nat} {x : Int} (h : s_dn P s r b un ly x ≠ 0) : ly < ly ||| s_dn P s r b un ly x := by
  have bit : ∀ i, (s_dn P s r b un ly x).testBit i = true → ly.testBit i = false := by
    intro i hi
    unfold s_dn at hi
    split at hi
    · simp at hi
    · split at hi
      · simp at hi
      · split at hi
        · unfold foldsAt at hi
          rw [nu_bm_bit] at hi
          simp only [Bool.and_eq_true, Bool.not_eq_true'] at hi
          exact hi.2.1
        · simp at hi
  rcases Nat.lt_or_ge ly (ly ||| s_dn P s r b un ly x) with g | g
  · exact g
  · exfalso
    have e : ly ||| s_dn P s r b un ly x = ly := Nat.le_antisymm g Nat.left_le_or
    apply h
    apply Nat.eq_of_testBit_eq
    intro i
    rw [Nat.zero_testBit]
    cases hi : (s_dn P s r b un ly x).testBit i with
    | false => rfl
    | true =>
      have h1 := bit i hi
      have h2 : (ly ||| s_dn P s r b un ly x).testBit i = true := by rw [Nat.testBit_or, hi, Bool.or_true]
      rw [e, h1] at h2
      cases h2
theorem nu_sh8 : ∀ r, r < 256 → nI r <<< ((8 : Int32) &&& 31) = nI (r * 256) := by decide +kernel
theorem or_256 {s r : Nat} (hs : s < 256) : s ||| r * 256 = s + 256 * r := by
  have := Nat.shiftLeft_add_eq_or_of_lt (a := r) (b := s) (i := 8) hs
  rw [Nat.shiftLeft_eq, show 2 ^ 8 = 256 from rfl] at this
  rw [Nat.or_comm]
  omega
section MO
variable {h : pz_H} {m np p : Nat} {V : Nat → Int} {A : Nat → Int → Int} {Ps : Nat → cr_P} {P : cr_P} {Q : Int32 → pz_H → Prop}
theorem m_stateOf {s r : Nat} (hs : s < 256) (hr : r < 256) (hq : Q (iI ((s : Int) + 256 * (r : Int))) h) : F_X5_stateOf m (iI s) (iI r) h Q := by
  unfold F_X5_stateOf
  rw [iI_nat r, nu_sh8 r hr, ← iI_nat, iI_or, or_256 hs]
  have e : ((s + 256 * r : Nat) : Int) = (s : Int) + 256 * (r : Int) := by omega
  rw [e]
  exact hq
theorem m_b165 {acc o : Option (Nat × Int)} {z : Int} {x1 x2 x3 x6 x9 x10 x11 x12 : Int32} {k9 k45 k79 : Int32 → Int32 → Int32 → pz_H → Prop} (h1 : okO acc) (h2 : ∀ q, o = some q → q.1 ≤ 300) (hz : -90000 ≤ z ∧ z ≤ 90000) (hq : k79 (iI (eC (upd2 acc o z))) (iI (eS (upd2 acc o z))) (x12 + (1 : Int32)) h) : B_X5_best_165 m x1 x2 x3 x6 (iI (eC acc)) (iI (eS acc)) x9 x10 x11 x12 (iI z) (iI (eC o)) k9 k45 k79 Q h := by
  unfold B_X5_best_165 B_X5_best_204 B_X5_best_214
  cases o with
  | none => exact br_tt rfl hq
  | some q =>
    have b2 := h2 q rfl
    simp only [upd2] at hq
    refine br_eq (a := (q.1 : Int)) (b := -1) (by omega) (by omega) (fun c => absurd c (by omega)) (fun _ => ?_)
    cases acc with
    | none =>
      refine br_tt rfl ?_
      have e1 : iI (eC (some q)) + (1 : Int32) = iI ((q.1 + 1 : Nat) : Int) := by rw [iI_1]; show iI (q.1 : Int) + iI 1 = _; rw [iI_add]; rfl
      rw [e1]
      exact hq
    | some a =>
      have b1 := h1 a rfl
      refine br_eq (a := (a.1 : Int)) (b := -1) (by omega) (by omega) (fun c => absurd c (by omega)) (fun _ => ?_)
      simp only [upd1] at hq
      have e1 : iI (eC (some q)) + (1 : Int32) = iI ((q.1 + 1 : Nat) : Int) := by rw [iI_1]; show iI (q.1 : Int) + iI 1 = _; rw [iI_add]; rfl
      rw [e1]
      refine br_lt (b := (a.1 : Int)) (by omega) (by omega) (fun c1 => ?_) (fun c1 => ?_)
      · rw [if_pos (Or.inl (by omega))] at hq; exact hq
      · refine br_eq (b := (a.1 : Int)) (by omega) (by omega) (fun c2 => ?_) (fun c2 => ?_)
        · refine br_le (a := a.2) (by omega) (by omega) (fun c3 => ?_) (fun c3 => ?_)
          · rw [if_neg (by omega)] at hq; exact hq
          · rw [if_pos (Or.inr (by omega))] at hq; exact hq
        · rw [if_neg (by omega)] at hq; exact hq
/-- what the table of the reference holds, beyond s, r -/
def tbOk (P : cr_P) (A : Nat → Int → Int) (T : Nat → Nat → Option (Nat × Int)) (s r : Nat) : Prop := ∀ s' r', s' < 2 ^ gaps P false → r' < 2 ^ gaps P true → (s < s' ∧ r' = r ∨ s' = s ∧ r < r') → A 21 ((s' : Int) + 256 * (r' : Int)) = eC (T s' r') ∧ ∀ q, T s' r' = some q → q.1 ≤ 300
theorem m_try {T : Nat → Nat → Option (Nat × Int)} {s r g : Nat} {b un : Bool} {acc : Option (Nat × Int)} {x6 : Int32} {k9 k45 k79 : Int32 → Int32 → Int32 → pz_H → Prop} (R : rM h m V A) (H : mP A p P) (hp : p < 30) (hs : s < 2 ^ gaps P false) (hr : r < 2 ^ gaps P true) (hT : tbOk P A T s r) (hg : g < gaps P b) (h1 : okO acc)
    (hq : okO (try1 P T s r b g acc un) → k79 (iI (eC (try1 P T s r b g acc un))) (iI (eS (try1 P T s r b g acc un))) (iI (bI un) + (1 : Int32)) h) :
    (pq_o h m 5 (F_X5_liesAt m (iI p) (iI ((if b then r else s : Nat) : Int)) (iI g + (1 : Int32)) h (fun v6 h5 => (pq_o h5 m 5 (F_X5_done m (iI p) (iI s) (iI r) ((((4 : Int32) * v6) + ((2 : Int32) * iI (bI b))) + iI (bI un)) h5 (fun v8 h7 => (pq_br (v8 = 0) (B_X5_best_165 m (iI p) (iI s) (iI r) x6 (iI (eC acc)) (iI (eS acc)) (iI (bI b)) (iI ((if b then r else s : Nat) : Int)) (iI g) (iI (bI un)) ((((4 : Int32) * v6) + ((2 : Int32) * iI (bI b))) + iI (bI un)) (-1 : Int32) k9 k45 k79 Q h7) (pq_br (iI (bI b) = (1 : Int32)) (pq_gA h7 m 5 26 (fun b13 => (pq_o h7 m 5 (F_X5_stateOf m (iI s) (iI r ||| v8) h7 (fun v15 h14 => (pq_aI h14 b13 v15 (fun v16 => (B_X5_best_165 m (iI p) (iI s) (iI r) x6 (iI (eC acc)) (iI (eS acc)) (iI (bI b)) (iI ((if b then r else s : Nat) : Int)) (iI g) (iI (bI un)) ((((4 : Int32) * v6) + ((2 : Int32) * iI (bI b))) + iI (bI un)) v16 k9 k45 k79 Q h14)))))))) (pq_gA h7 m 5 26 (fun b9 => (pq_o h7 m 5 (F_X5_stateOf m (iI s ||| v8) (iI r) h7 (fun v11 h10 => (pq_aI h10 b9 v11 (fun v12 => (B_X5_best_165 m (iI p) (iI s) (iI r) x6 (iI (eC acc)) (iI (eS acc)) (iI (bI b)) (iI ((if b then r else s : Nat) : Int)) (iI g) (iI (bI un)) ((((4 : Int32) * v6) + ((2 : Int32) * iI (bI b))) + iI (bI un)) v12 k9 k45 k79 Q h10)))))))))))))))) := by
  have g8 := H.1.g8 b
  have gf : 2 ^ gaps P false ≤ 2 ^ 8 := Nat.pow_le_pow_right (by decide) (H.1.g8 false).1
  have gt : 2 ^ gaps P true ≤ 2 ^ 8 := Nat.pow_le_pow_right (by decide) (H.1.g8 true).1
  have eg : iI (g : Int) + (1 : Int32) = iI ((g + 1 : Nat) : Int) := by rw [iI_1, iI_add]; rfl
  rw [eg]
  have hly : (if b then r else s) < 2 ^ 31 := by split <;> omega
  refine rg_o R (m_liesAt R H hp hly (by omega) ?_)
  have ez : ((4 : Int32) * iI (lA (cr_ln P) (if b then r else s) (g + 1)) + (2 : Int32) * iI (bI b)) + iI (bI un) = iI (stp P (if b then r else s) b g un) := by
    rw [show (4 : Int32) = iI 4 from rfl, show (2 : Int32) = iI 2 from rfl, iI_mul, iI_mul, iI_add, iI_add]; rfl
  rw [ez]
  have zB := stp_B H.1 (if b then r else s) b (g := g) (by omega) un
  obtain ⟨z1, z2, z3⟩ := stp_b P (if b then r else s) b g un
  unfold try1 at hq
  generalize stp P (if b then r else s) b g un = z at *
  refine rg_o R (m_done R H hp (by omega) (by omega) (by omega) ?_)
  have ed : s_done P s r z = s_dn P s r b un (if b then r else s) (lA (cr_ln P) (if b then r else s) (g + 1)) := by
    unfold s_done; rw [z1, z2, z3]
  have dlt := s_done_lt H.1 s r z
  rw [z1] at dlt
  have grow : s_done P s r z ≠ 0 → (if b then r else s) < (if b then r else s) ||| s_done P s r z := by rw [ed]; exact dn_grow
  generalize s_done P s r z = fs at *
  refine br_eq (b := 0) (by omega) (by omega) (fun c0 => ?_) (fun c0 => ?_)
  · have e0 : fs = 0 := by omega
    have en : nxT T s r b fs = none := by unfold nxT; rw [if_pos e0]
    rw [en] at hq
    exact m_b165 (o := none) h1 (fun q hq => by cases hq) zB (hq h1)
  · have gr := grow (by omega)
    have run : ∀ o, nxT T s r b fs = o → (∀ q, o = some q → q.1 ≤ 300) → B_X5_best_165 m (iI p) (iI s) (iI r) x6 (iI (eC acc)) (iI (eS acc)) (iI (bI b)) (iI ((if b then r else s : Nat) : Int)) (iI g) (iI (bI un)) (iI z) (iI (eC o)) k9 k45 k79 Q h := fun o eo ho => by
      rw [eo] at hq
      exact m_b165 h1 ho zB (hq (upd2_ok h1 ho zB))
    cases b with
    | true =>
      simp only [if_true] at gr run dlt
      refine br_tt rfl (rg_gA R rfl (rg_o R ?_))
      rw [iI_or]
      have hlt : r ||| fs < 2 ^ gaps P true := nu_lt_or hr dlt.1
      refine m_stateOf (by omega) (by omega) ?_
      refine rg_aI R (by decide) (by decide) rfl (by decide) ⟨by omega, by simp only [lM]; omega⟩ ?_
      obtain ⟨t1, t2⟩ := hT s (r ||| fs) hs hlt (Or.inr ⟨rfl, gr⟩)
      rw [t1]
      exact run _ (by unfold nxT; rw [if_neg (by omega), if_pos rfl]) t2
    | false =>
      simp only [Bool.false_eq_true, if_false] at gr run dlt
      refine br_ff (by decide) (rg_gA R rfl (rg_o R ?_))
      rw [iI_or]
      have hlt : s ||| fs < 2 ^ gaps P false := nu_lt_or hs dlt.1
      refine m_stateOf (by omega) (by omega) ?_
      refine rg_aI R (by decide) (by decide) rfl (by decide) ⟨by omega, by simp only [lM]; omega⟩ ?_
      obtain ⟨t1, t2⟩ := hT (s ||| fs) r hlt hr (Or.inl ⟨gr, rfl⟩)
      rw [t1]
      exact run _ (by unfold nxT; rw [if_neg (by omega), if_neg (by decide)]) t2
theorem m_best79 {T : Nat → Nat → Option (Nat × Int)} {s r g : Nat} {b : Bool} {acc : Option (Nat × Int)} {x6 : Int32} {k9 k45 : Int32 → Int32 → Int32 → pz_H → Prop} (R : rM h m V A) (H : mP A p P) (hp : p < 30) (hs : s < 2 ^ gaps P false) (hr : r < 2 ^ gaps P true) (hT : tbOk P A T s r) (hg : g < gaps P b) (h1 : okO acc)
    (hq : okO (try1 P T s r b g (try1 P T s r b g acc false) true) → k45 (iI (eC (try1 P T s r b g (try1 P T s r b g acc false) true))) (iI (eS (try1 P T s r b g (try1 P T s r b g acc false) true))) (iI ((g + 1 : Nat) : Int)) h) :
    pq_ex (fun m79 => L_X5_best_79 m (iI p) (iI s) (iI r) x6 (iI (bI b)) (iI ((if b then r else s : Nat) : Int)) (iI g) k9 k45 Q m79 (iI (eC acc)) (iI (eS acc)) (0 : Int32) h) := by
  refine ⟨3, ?_⟩
  unfold L_X5_best_79
  refine br_ff (by decide) ?_
  refine m_try (un := false) R H hp hs hr hT hg h1 (fun o1 => ?_)
  show L_X5_best_79 m (iI p) (iI s) (iI r) x6 (iI (bI b)) (iI ((if b then r else s : Nat) : Int)) (iI g) k9 k45 Q 2 _ _ (1 : Int32) h
  unfold L_X5_best_79
  refine br_ff (by decide) ?_
  refine m_try (un := true) R H hp hs hr hT hg o1 (fun o2 => ?_)
  show L_X5_best_79 m (iI p) (iI s) (iI r) x6 (iI (bI b)) (iI ((if b then r else s : Nat) : Int)) (iI g) k9 k45 Q 1 _ _ (2 : Int32) h
  unfold L_X5_best_79 B_X5_best_220
  refine br_tt (by decide) ?_
  have eg : iI (g : Int) + (1 : Int32) = iI ((g + 1 : Nat) : Int) := by rw [iI_1, iI_add]; rfl
  rw [eg]
  exact hq o2
theorem m_best45 {T : Nat → Nat → Option (Nat × Int)} {s r : Nat} {b : Bool} {x6 : Int32} {k9 : Int32 → Int32 → Int32 → pz_H → Prop} (R : rM h m V A) (H : mP A p P) (hp : p < 30) (hs : s < 2 ^ gaps P false) (hr : r < 2 ^ gaps P true) (hT : tbOk P A T s r) : ∀ (k u g : Nat) (acc : Option (Nat × Int)), g + k = gaps P b → k < u → okO acc →
    (okO ((List.range' g k).foldl (tryG P T s r b) acc) → k9 (iI (eC ((List.range' g k).foldl (tryG P T s r b) acc))) (iI (eS ((List.range' g k).foldl (tryG P T s r b) acc))) (iI (bI b) + (1 : Int32)) h) →
    L_X5_best_45 m (iI p) (iI s) (iI r) x6 (iI (bI b)) (iI ((if b then r else s : Nat) : Int)) k9 Q u (iI (eC acc)) (iI (eS acc)) (iI g) h := by
  intro k
  have g8 := (H.1.g8 b).1
  have gf : 2 ^ gaps P false ≤ 2 ^ 8 := Nat.pow_le_pow_right (by decide) (H.1.g8 false).1
  have gt : 2 ^ gaps P true ≤ 2 ^ 8 := Nat.pow_le_pow_right (by decide) (H.1.g8 true).1
  have hly : (if b then r else s) < 2 ^ 31 := by split <;> omega
  induction k with
  | zero =>
    intro u g acc hg hu h1 hq
    obtain ⟨u, rfl⟩ : ∃ v, u = v + 1 := ⟨u - 1, by omega⟩
    have body : B_X5_best_60 m (iI p) (iI s) (iI r) x6 (iI (eC acc)) (iI (eS acc)) (iI (bI b)) (iI ((if b then r else s : Nat) : Int)) (iI g) (iI g) m (iI p) (iI (bI b)) k9 (fun z0 z1 z2 hz => L_X5_best_45 m (iI p) (iI s) (iI r) x6 (iI (bI b)) (iI ((if b then r else s : Nat) : Int)) k9 Q u z0 z1 z2 hz) Q h := by
      unfold B_X5_best_60
      refine rg_o R (m_gapsOf R H hp ?_)
      have e : (if b then cr_rw P else cr_cl P) - 1 = gaps P b := rfl
      rw [e]
      refine br_le (by omega) (by omega) (fun _ => hq h1) (fun c => by omega)
    unfold L_X5_best_45
    cases b with
    | true => exact br_tt rfl body
    | false => exact br_ff (by decide) body
  | succ k ih =>
    intro u g acc hg hu h1 hq
    obtain ⟨u, rfl⟩ : ∃ v, u = v + 1 := ⟨u - 1, by omega⟩
    rw [List.range'_succ, List.foldl_cons] at hq
    have body : B_X5_best_60 m (iI p) (iI s) (iI r) x6 (iI (eC acc)) (iI (eS acc)) (iI (bI b)) (iI ((if b then r else s : Nat) : Int)) (iI g) (iI g) m (iI p) (iI (bI b)) k9 (fun z0 z1 z2 hz => L_X5_best_45 m (iI p) (iI s) (iI r) x6 (iI (bI b)) (iI ((if b then r else s : Nat) : Int)) k9 Q u z0 z1 z2 hz) Q h := by
      unfold B_X5_best_60
      refine rg_o R (m_gapsOf R H hp ?_)
      have e : (if b then cr_rw P else cr_cl P) - 1 = gaps P b := rfl
      rw [e]
      refine br_le (by omega) (by omega) (fun c => by omega) (fun _ => ?_)
      rw [iI_bit hly (by omega)]
      cases q : (if b then r else s).testBit g with
      | false =>
        have et : tryG P T s r b acc g = try1 P T s r b g (try1 P T s r b g acc false) true := by unfold tryG; rw [q]; rfl
        rw [et] at hq
        exact br_tt rfl (m_best79 R H hp hs hr hT (by omega) h1 (fun o => ih u (g + 1) _ (by omega) (by omega) o hq))
      | true =>
        have et : tryG P T s r b acc g = acc := by unfold tryG; rw [q]; rfl
        rw [et] at hq
        refine br_ff (by decide) ?_
        unfold B_X5_best_220
        have eg : iI (g : Int) + (1 : Int32) = iI ((g + 1 : Nat) : Int) := by rw [iI_1, iI_add]; rfl
        rw [eg]
        exact ih u (g + 1) acc (by omega) (by omega) h1 hq
    unfold L_X5_best_45
    cases b with
    | true => exact br_tt rfl body
    | false => exact br_ff (by decide) body
theorem m_best {T : Nat → Nat → Option (Nat × Int)} {s r : Nat} {wh : Bool} {x4 x5 : Int32} (R : rM h m V A) (H : mP A p P) (hp : p < 30) (hs : s < 2 ^ gaps P false) (hr : r < 2 ^ gaps P true) (hT : tbOk P A T s r) (hq : okO (bestS P T s r) → Q (iI (if wh then eS (bestS P T s r) else eC (bestS P T s r))) h) : F_X5_best m (iI p) (iI s) (iI r) x4 x5 (iI (bI wh)) h Q := by
  have hkd := H.1.1.1
  have kind : ∀ (X Y : Prop), (cr_kd P = 2 → X) → (cr_kd P ≠ 2 → Y) → pq_gA h m 5 1 (fun b1 => (pq_aI h b1 (iI p) (fun v2 => (pq_br (v2 = (2 : Int32)) X Y)))) := fun X Y hX hY => by
    refine rg_gA R rfl (rg_aI R (by decide) (by decide) rfl (by decide) ⟨by omega, by simp only [lM]; omega⟩ ?_)
    rw [H.2.1]
    exact br_eq (b := 2) (by omega) (by omega) (fun c => hX (by omega)) (fun c => hY (by omega))
  unfold F_X5_best
  refine ⟨3, ?_⟩
  have fin : ∀ o : Option (Nat × Int), o = bestS P T s r → okO o → pq_br (iI (bI wh) = 0) (B_X5_best_244 (iI (eC o)) Q h) (B_X5_best_244 (iI (eS o)) Q h) := fun o eo ho => by
    unfold B_X5_best_244
    subst eo
    have := hq ho
    cases wh with
    | false => exact br_tt rfl this
    | true => exact br_ff (by decide) this
  have e1 : ((0 : Int32) + (1 : Int32)) = 1 := by decide
  -- the second round: rows
  have second : okO ((List.range' 0 (gaps P false)).foldl (tryG P T s r false) none) → L_X5_best_9 m (iI p) (iI s) (iI r) (iI (bI wh)) Q 2 (iI (eC ((List.range' 0 (gaps P false)).foldl (tryG P T s r false) none))) (iI (eS ((List.range' 0 (gaps P false)).foldl (tryG P T s r false) none))) (1 : Int32) h := fun o1 => by
    unfold L_X5_best_9 B_X5_best_26 B_X5_best_40
    refine kind _ _ (fun k2 => ?_) (fun k2 => ?_)
    · refine br_ff (by decide) (br_tt rfl ⟨gaps P true + 1, ?_⟩)
      refine m_best45 (b := true) R H hp hs hr hT (gaps P true) _ 0 _ (by omega) (by omega) o1 (fun o2 => ?_)
      show L_X5_best_9 m (iI p) (iI s) (iI r) (iI (bI wh)) Q 1 _ _ (2 : Int32) h
      unfold L_X5_best_9 B_X5_best_26
      refine kind _ _ (fun _ => ?_) (fun c => absurd k2 c)
      refine br_tt (by decide) (fin _ ?_ o2)
      unfold bestS
      rw [List.range_eq_range', List.range_eq_range']
    · refine br_tt (by decide) (fin _ ?_ o1)
      have hr1 : cr_rw P = 1 := H.1.1.2.2.2.2.1 k2
      have g0 : gaps P true = 0 := by unfold gaps; rw [hr1]; rfl
      unfold bestS
      rw [g0, List.range_eq_range']
      rfl
  unfold L_X5_best_9 B_X5_best_26 B_X5_best_40
  have go : pq_ex (fun m45 => L_X5_best_45 m (iI p) (iI s) (iI r) (iI (bI wh)) (0 : Int32) (iI s) (fun z0 z1 z2 hz => L_X5_best_9 m (iI p) (iI s) (iI r) (iI (bI wh)) Q 2 z0 z1 z2 hz) Q m45 (-1 : Int32) (0 : Int32) (0 : Int32) h) := ⟨gaps P false + 1, m_best45 (b := false) R H hp hs hr hT (gaps P false) _ 0 none (by omega) (by omega) okO_none (fun o1 => second o1)⟩
  exact kind _ _ (fun _ => br_ff (by decide) (br_ff (by decide) go)) (fun _ => br_ff (by decide) (br_ff (by decide) go))
end MO
