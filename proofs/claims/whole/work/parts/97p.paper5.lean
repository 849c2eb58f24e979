/-! THE CLASS: a new Paper -/
/-- the same with the fields as a function -/
def fl (N : Nat) (g : Nat → Value) : List Value := (List.range N).map g
theorem fl_set (N : Nat) (g : Nat → Value) (k : Nat) (v : Value) : (fl N g).set k v = fl N (va_up g k v) := by
  unfold fl
  apply List.ext_getElem
  · simp
  · intro i h1 h2
    rw [List.getElem_set]
    simp only [List.getElem_map, List.getElem_range]
    by_cases e : k = i
    · subst e; rw [if_pos rfl, va_up_self]
    · rw [if_neg e, va_up_ne _ _ (fun z => e z.symm)]
theorem bf_p {ci a n k N : Nat} {C : Nat → pz_E} {h0 h : pz_H} {g : Nat → Value} {v : Value} {K : pz_H → Prop} (B : bl ci C h0 a (fl N g) n h) (hk : k < N) (kk : ∀ h', bl ci C h0 a (fl N (va_up g k v)) n h' → K h') : pq_p h a ci k v K :=
  bl_p B (by unfold fl; simpa using hk) (fun h' B' => kk h' (by rw [fl_set] at B'; exact B'))
theorem newP_ok {k r c : Nat} (sh : cr_shape k r c) : cr_ok (newP k r c) := ⟨sh, fun _ => ⟨Nat.le_refl 1, show 1 ≤ 1000 by decide⟩, fun _ => show 0 ≤ 2 by decide, Nat.two_pow_pos _, Nat.two_pow_pos _, fun _ _ => rfl⟩
section C5
variable {h : pz_H} {a : Nat} {V : Nat → Int} {A : Nat → Int → Int} {P : cr_P} {Q : Int32 → pz_H → Prop} {K : pz_H → Prop}
def cP_fs : List Value := [.int 0, .int 0, .int 0, .int 0, .int 0, .null, .null, .null, .null, .null, .null, .null, .null, .null, .null, .null, .null, .int 0]
theorem c_init {kd r c : Nat} {h0 : pz_H} (sh : cr_shape kd r c) (B : bl 1 (fun j => rg_c 0 (lP j) (fun _ => 0)) h0 a cP_fs 0 h) (hq : ∀ h' V A, rP h' a V A → cP V A (newP kd r c) → (∀ q, q < a → h'.1 q = h0.1 q) → h'.2 = a + 13 → K h') : F_X1_init a (iI kd) (iI r) (iI c) h K := by
  obtain ⟨hk2, r1, c1, rc, hk, hk1⟩ := id sh
  obtain ⟨b1, b2⟩ := cr_small sh
  have L : ∀ (fs : List Value) (i : Nat) (v : Value), (fs.set i v).length = fs.length := fun fs i v => List.length_set
  unfold F_X1_init
  have B := show bl 1 (fun j => rg_c 0 (lP j) (fun _ => 0)) h0 a (fl 18 (fun i => cP_fs.getD i .null)) 0 h from B
  refine bf_p B (by decide) fun h1 B => ?_
  refine bl_n B rfl fun h1 B => bf_p B (by decide) fun h1 B => ?_
  refine bl_n B rfl fun h1 B => bf_p B (by decide) fun h1 B => ?_
  refine bl_n B rfl fun h1 B => bf_p B (by decide) fun h1 B => ?_
  refine bl_n B rfl fun h1 B => bf_p B (by decide) fun h1 B => ?_
  refine bl_n B rfl fun h1 B => bf_p B (by decide) fun h1 B => ?_
  refine bl_n B rfl fun h1 B => bf_p B (by decide) fun h1 B => ?_
  refine bl_n B rfl fun h1 B => bf_p B (by decide) fun h1 B => ?_
  refine bl_n B rfl fun h1 B => bf_p B (by decide) fun h1 B => ?_
  refine bl_n B rfl fun h1 B => bf_p B (by decide) fun h1 B => ?_
  refine bl_n B rfl fun h1 B => bf_p B (by decide) fun h1 B => ?_
  refine bl_n B rfl fun h1 B => bf_p B (by decide) fun h1 B => ?_
  refine bl_n B rfl fun h1 B => bf_p B (by decide) fun h1 B => ?_
  refine bf_p B (by decide) fun h1 B => ?_
  refine bf_p B (by decide) fun h1 B => ?_
  refine bf_p B (by decide) fun h1 B => ?_
  refine bf_p B (by decide) fun h1 B => ?_
  refine bf_p B (by decide) fun h1 B => ?_
  rw [iI_mul] at B
  obtain ⟨V0, hV⟩ : ∃ V : Nat → Int, V = fun i => if i = 0 then (kd : Int) else if i = 1 then (r : Int) else if i = 2 then (c : Int) else if i = 3 then (r : Int) * (c : Int) else 0 := ⟨_, rfl⟩
  have R0 : rP h1 a V0 (fun _ _ => 0) := by
    refine ⟨?_, fun j q1 q2 => B.2.1 j q1 q2⟩
    rw [B.1, hV]
    rfl
  have v0 : V0 0 = kd := by rw [hV]; rfl
  have v1 : V0 1 = r := by rw [hV]; rfl
  have v2 : V0 2 = c := by rw [hV]; rfl
  have v3 : V0 3 = (r * c : Nat) := by rw [hV]; simp
  have v4 : V0 4 = 0 := by rw [hV]; rfl
  have v17 : V0 17 = 0 := by rw [hV]; rfl
  have hsz : h1.2 = a + 13 := B.2.2.1
  have hlow := B.2.2.2
  clear hV B
  refine rg_gA R0 rfl (rg_fill (x := 1) R0 (by decide) (by decide) rfl (by decide) (fun h2 A2 R2 e2 l2 f2 => ?_))
  have e00 : iI ((0 * c : Nat) : Int) = (0 : Int32) := by rw [Nat.zero_mul]; rfl
  have L0 := c_in146 (K := K) (A := A2) (h := h2) (a := a) (V := V0) sh ?_ r 20 0 h2 A2 (by omega) (by omega) R2 (fun f hf => by simp at hf) (fun f hf => by simp at hf) (fun _ _ _ => rfl) Fr.rf
  · rw [e00] at L0; exact ⟨20, L0⟩
  intro h3 A3 R3 q1 q2 e3 f3
  have z : ∀ j, j ≠ 1 → j ≠ 2 → j ≠ 3 → A3 j = fun _ => 0 := fun j w1 w2 w3 => by rw [e3 j w1 w2, e2 j w3]
  refine ⟨20, c_jf2 sh (r * c) 20 0 h3 V0 A3 (by omega) (by omega) R3 ⟨v0, v1, v2, v3, q1, q2⟩ ⟨v4, fun i hi => by simp at hi, fun f hf => by rw [z 12 (by decide) (by decide) (by decide)]; rfl⟩ (fun h4 V4 A4 R4 S4 J4 e4 w4 f4 => ?_)⟩
  obtain ⟨s0, s1, s2, s3, s4, s5⟩ := S4
  obtain ⟨j4, j5, j12⟩ := J4
  have ok : cr_ok (newP kd r c) := newP_ok sh
  have cs := cs3_of ok
  have csl : (cs3 kd r c).length = cr_m (newP kd r c) := cs.1
  have csa : ∀ i, i < cr_m (newP kd r c) → at3 (cs3 kd r c) i = (cr_a (newP kd r c) i, cr_b (newP kd r c) i, cr_lin (newP kd r c) i) := cs.2
  have hn9 : cr_n (newP kd r c) ≤ 9 := ok.n9.2
  rw [(pE R4).1]
  have B4 : cB V4 A4 (newP kd r c) := by
    refine ⟨ok, s0, s1, s2, s3, by rw [j4, csl], s4, s5, fun f hf => ?_, fun i hi => ?_, fun i hi => ?_, fun i hi => ?_, fun f hf => ?_⟩
    · rw [e4 3 (by decide) (by decide) (by decide) (by decide), e3 3 (by decide) (by decide)]; exact l2 f hf
    · have := (j5 i (by omega)).1
      rw [csa i hi] at this
      exact this
    · have := (j5 i (by omega)).2.1
      rw [csa i hi] at this
      exact this
    · have := (j5 i (by omega)).2.2
      rw [csa i hi] at this
      exact this
    · rw [j12 f (by omega)]
      unfold tchL cr_tch
      rw [csl]
      congr 1
      exact nu_bm_cong _ (fun i hi => by rw [csa i hi])
  refine c_measure R4 B4 (by rw [e4 4 (by decide) (by decide) (by decide) (by decide), z 4 (by decide) (by decide) (by decide)]) (fun h5 A5 R5 B5 D5 e5 f5 => ?_)
  have F := f2.tr (f3.tr (f4.tr f5))
  refine hq h5 V4 A5 R5 ⟨B5, D5, fun i hi => ?_, ?_⟩ (fun q hq => ?_) (F.1.trans hsz)
  · rw [e5 8 (by decide) (by decide) (by decide) (by decide), e4 8 (by decide) (by decide) (by decide) (by decide), z 8 (by decide) (by decide) (by decide)]; rfl
  · rw [w4 17 (by decide), v17]
    unfold cr_F
    show (0 : Int) = ((0 + 0 * 2 ^ gaps (newP kd r c) false : Nat) : Int)
    rw [Nat.zero_mul]; rfl
  · rw [F.2 q (by omega)]; exact hlow q hq
theorem c_allLines (R : rP h a V A) (B : cB V A P) (hq : Q (iI (cr_al P)) h) : F_X1_allLines a h Q := by
  obtain ⟨ok, -, k1, k2, -⟩ := id B
  have r1 := ok.1.2.1
  have c1 := ok.1.2.2.1
  have g := ok.gg
  unfold F_X1_allLines
  have e : ∀ x : Int32, x = iI ((gaps P false + gaps P true : Nat) : Int) → Q ((1 : Int32) <<< (x &&& 31) - (1 : Int32)) h := fun x hx => by
    rw [hx, iI_shl (by omega), iI_1, iI_sub]
    have e2 : ((2 ^ (gaps P false + gaps P true) : Nat) : Int) - 1 = (cr_al P : Int) := by
      unfold cr_al
      have := al_pos P
      rw [Nat.pow_add]
      omega
    rw [e2]
    exact hq
  refine rg_gI R rfl (rg_gI R rfl ?_)
  refine e _ ?_
  rw [k1, k2, iI_1, iI_sub, iI_add, iI_sub]
  congr 1
  unfold gaps
  simp only [if_true, Bool.false_eq_true, if_false]
  omega
def con (P : cr_P) (ls : Nat) : Nat := ((List.range (cr_m P)).filter (fun c => ls.testBit (cr_lin P c))).length
theorem lin_lt (ok : cr_ok P) {c : Nat} (hc : c < cr_m P) : cr_lin P c < 32 := by
  have a1 := (ok.ab hc).1
  have hn := ok.n9
  obtain ⟨b1, b2⟩ := cr_small ok.1
  have l1 : cr_a P c / cr_cl P ≤ cr_a P c := Nat.div_le_self _ _
  have l2 : cr_a P c % cr_cl P ≤ cr_a P c := Nat.mod_le _ _
  unfold cr_lin
  split <;> omega
theorem c_creasesOn_loop {ls : Nat} (hl : ls < 2 ^ 31) (R : rP h a V A) (B : cB V A P) (hq : Q (iI (con P ls)) h) : ∀ (k u c : Nat), c + k = cr_m P → k < u → L_X1_creasesOn_4 a (iI ls) Q u (iI (((List.range c).filter (fun c => ls.testBit (cr_lin P c))).length)) (iI c) h := by
  intro k
  obtain ⟨ok, -, -, -, -, k4, -, -, -, -, -, q7, -⟩ := id B
  have hm := ok.m12
  induction k with
  | zero =>
    intro u c hc hu
    obtain ⟨u, rfl⟩ : ∃ v, u = v + 1 := ⟨u - 1, by omega⟩
    unfold L_X1_creasesOn_4
    simp (disch := omega) only [pE R, k4, ebr_le, lits, iI_add, iI_sub, iI_mul, iI_neg]
    rw [if_pos (by omega), show c = cr_m P by omega]
    exact hq
  | succ k ih =>
    intro u c hc hu
    obtain ⟨u, rfl⟩ : ∃ v, u = v + 1 := ⟨u - 1, by omega⟩
    have hc' : c < cr_m P := by omega
    have h1 := ih u (c + 1) (by omega) (by omega)
    rw [List.range_succ, List.filter_append] at h1
    unfold L_X1_creasesOn_4 B_X1_creasesOn_28
    simp (disch := omega) only [pE R, k4, ebr_le, q7 c hc', iI_s, lits, iI_add, iI_sub, iI_mul, iI_neg]
    rw [if_neg (by omega)]
    refine c_has hl (lin_lt ok hc') ?_
    cases e : ls.testBit (cr_lin P c) with
    | false =>
      refine br_tt rfl ?_
      simpa [e] using h1
    | true =>
      refine br_ff (by decide) ?_
      have e1 : [c].filter (fun c => ls.testBit (cr_lin P c)) = [c] := by simp [e]
      rw [e1, List.length_append] at h1
      exact h1
theorem c_creasesOn {ls : Nat} (hl : ls < 2 ^ 31) (R : rP h a V A) (B : cB V A P) (hq : Q (iI (con P ls)) h) : F_X1_creasesOn a (iI ls) h Q := ⟨20, c_creasesOn_loop hl R B hq (cr_m P) 20 0 (by omega) (by have := B.1.m12; omega)⟩
end C5
