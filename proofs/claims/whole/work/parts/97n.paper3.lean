/-! THE CLASS: building an object with its arrays; a new Paper -/
/-- an object at a with fields fs, n arrays behind it, and nothing else new since h0 -/
def bl (ci : Nat) (C : Nat → pz_E) (h0 : pz_H) (a : Nat) (fs : List Value) (n : Nat) (h : pz_H) : Prop := h.1 a = some (.inr (ci, fs)) ∧ (∀ j, 1 ≤ j → j ≤ n → h.1 (a + j) = some (C j)) ∧ h.2 = a + n + 1 ∧ ∀ q, q < a → h.1 q = h0.1 q
theorem bl_n {ci a n : Nat} {C : Nat → pz_E} {h0 h : pz_H} {fs : List Value} {c : pz_E} {K : Nat → pz_H → Prop} (B : bl ci C h0 a fs n h) (hc : C (n + 1) = c) (kk : ∀ h', bl ci C h0 a fs (n + 1) h' → K (a + (n + 1)) h') : pq_n h c K := by
  intro _
  have e : h.2 = a + (n + 1) := B.2.2.1
  have := kk (pz_nw h c) ⟨by rw [pz_nw_ne (by omega)]; exact B.1, fun j h1 h2 => ?_, by show h.2 + 1 = _; omega, fun q hq => by rw [pz_nw_ne (by omega)]; exact B.2.2.2 q hq⟩
  · rw [← e] at this; exact this
  · by_cases q : j = n + 1
    · subst q; rw [← e, pz_nw_at, hc]
    · rw [pz_nw_ne (by omega)]; exact B.2.1 j h1 (by omega)
theorem bl_p {ci a n k : Nat} {C : Nat → pz_E} {h0 h : pz_H} {fs : List Value} {v : Value} {K : pz_H → Prop} (B : bl ci C h0 a fs n h) (hk : k < fs.length) (kk : ∀ h', bl ci C h0 a (fs.set k v) n h' → K h') : pq_p h a ci k v K :=
  ⟨fs, B.1, hk, kk _ ⟨pz_up_at, fun j h1 h2 => by rw [pz_up_ne (by omega)]; exact B.2.1 j h1 h2, B.2.2.1, fun q hq => by rw [pz_up_ne (by omega)]; exact B.2.2.2 q hq⟩⟩
theorem rg_c0 (t n : Nat) : (.inl (t, n, .inl (fun _ => 0)) : pz_E) = rg_c t n (fun _ => 0) := rfl
/-- fill -/
theorem rg_fill {ci n : Nat} {F : Nat → (Nat → Int) → List Value} {tg ln : Nat → Nat} {h : pz_H} {a : Nat} {V : Nat → Int} {A : Nat → Int → Int} {j : Nat} {x : Int} {K : pz_H → Prop} (R : rg ci F n tg ln h a V A) (h1 : 1 ≤ j) (h2 : j ≤ n) (ht : tg j = 0) (hn : ln j ≤ 65536)
    (kk : ∀ h' A', rg ci F n tg ln h' a V A' → (∀ k, k ≠ j → A' k = A k) → (∀ i : Nat, i < ln j → A' j i = x) → Fr a (a + n + 1) h h' → K h') : F_J7_fill_53178 (a + j) (iI x) h K := by
  have loop : ∀ (k u i : Nat) (h0 : pz_H) (A0 : Nat → Int → Int), i + k = ln j → k < u → rg ci F n tg ln h0 a V A0 → (∀ k, k ≠ j → A0 k = A k) → (∀ d : Nat, d < i → A0 j d = x) → Fr a (a + n + 1) h h0 → L_J7_fill_53178_5 (a + j) (iI x) (iI (ln j)) K u (iI i) h0 := by
    intro k
    induction k with
    | zero =>
      intro u i h0 A0 hi hu R0 e0 g fr
      obtain ⟨u, rfl⟩ : ∃ v, u = v + 1 := ⟨u - 1, by omega⟩
      unfold L_J7_fill_53178_5
      refine br_le (by omega) (by omega) (fun _ => kk h0 A0 R0 e0 (fun d hd => g d (by omega)) fr) (fun c => by omega)
    | succ k ih =>
      intro u i h0 A0 hi hu R0 e0 g fr
      obtain ⟨u, rfl⟩ : ∃ v, u = v + 1 := ⟨u - 1, by omega⟩
      unfold L_J7_fill_53178_5
      refine br_le (by omega) (by omega) (fun c => by omega) (fun _ => ?_)
      refine rg_sI R0 h1 h2 ht hn ⟨by omega, by omega⟩ fun h3 R3 f3 => ?_
      rw [iI_1, iI_add, iI_s]
      refine ih u (i + 1) h3 _ (by omega) (by omega) R3 (fun k hk => (au_nk hk).trans (e0 k hk)) (fun d hd => ?_) (fr.tr f3)
      by_cases e : d = i
      · subst e; exact au_at
      · rw [au_ne (by omega)]; exact g d (by omega)
  refine ⟨0, (ln j, .inl (fun i => iI (A j (i : Int)))), .int, ?_, rfl, ?_⟩
  · rw [R.2 j h1 h2, ht]; rfl
  · refine ⟨ln j + 1, ?_⟩
    show L_J7_fill_53178_5 (a + j) (iI x) (Int32.ofNat (ln j)) K _ (0 : Int32) h
    have e : Int32.ofNat (ln j) = iI (ln j) := by rw [iI_nat]; rfl
    rw [e]
    exact loop (ln j) _ 0 h A (by omega) (by omega) R (fun _ _ => rfl) (fun d hd => by omega) Fr.rf
theorem nu_bm_cong {p q : Nat → Bool} : ∀ n, (∀ i, i < n → p i = q i) → nu_bm p n = nu_bm q n
  | 0, _ => rfl
  | n + 1, h => by rw [nu_bm, nu_bm, nu_bm_cong n (fun i hi => h i (by omega)), h n (by omega)]
abbrev T3 : Type := Nat × Nat × Nat
def at3 (L : List T3) (i : Nat) : T3 := L.getD i (0, 0, 0)
theorem at3_lt {L : List T3} {t : T3} {i : Nat} (h : i < L.length) : at3 (L ++ [t]) i = at3 L i := by
  unfold at3; rw [List.getD_eq_getElem?_getD, List.getD_eq_getElem?_getD, List.getElem?_append_left h]
theorem at3_eq {L : List T3} {t : T3} : at3 (L ++ [t]) L.length = t := by
  unfold at3; rw [List.getD_eq_getElem?_getD, List.getElem?_append_right (Nat.le_refl _)]; simp
def tchL (L : List T3) (f : Nat) : Nat := nu_bm (fun i => decide ((at3 L i).1 = f) || decide ((at3 L i).2.1 = f)) L.length
theorem tchL_new (L : List T3) (t : T3) (f : Nat) : tchL (L ++ [t]) f = tchL L f ||| (if (decide (t.1 = f) || decide (t.2.1 = f)) then 2 ^ L.length else 0) := by
  unfold tchL
  rw [List.length_append, List.length_singleton, nu_bm, at3_eq]
  congr 1
  exact nu_bm_cong _ (fun i hi => by rw [at3_lt hi])
/-- the paper's creases as far as they are joined -/
def jn (V : Nat → Int) (A : Nat → Int → Int) (L : List T3) : Prop := V 4 = L.length ∧ (∀ i : Nat, i < L.length → A 5 i = (at3 L i).1 ∧ A 6 i = (at3 L i).2.1 ∧ A 7 i = (at3 L i).2.2) ∧ ∀ f : Nat, f < 9 → A 12 f = tchL L f
def hl3 (r c : Nat) (f : Nat) : Option T3 := if f % c + 1 < c then some (f, f + 1, f % c) else none
def vl3 (r c : Nat) (f : Nat) : Option T3 := if f / c + 1 < r then some (f, f + c, c - 1 + f / c) else none
def cs3 (k r c : Nat) : List T3 := (List.range (r * c)).filterMap (hl3 r c) ++ ((List.range (r * c)).filterMap (vl3 r c) ++ (if k = 1 then [(r * c - 1, 0, c - 1)] else []))
def cr_t5 (k r c : Nat) : Bool := decide ((cs3 k r c).map (fun t => (t.1, t.2.1)) = cr_cs k r c) && (List.range (cr_cs k r c).length).all (fun d => decide ((at3 (cs3 k r c) d).2.2 = if (decide (k = 2) && decide (r * (c - 1) ≤ d)) then c - 1 + ((cr_cs k r c).getD d (0, 0)).1 / c else ((cr_cs k r c).getD d (0, 0)).1 % c))
theorem cr_t5_all : ∀ k, k < 3 → ∀ r, r < 10 → ∀ c, c < 10 → (!cr_shb k r c || cr_t5 k r c) = true := by decide +kernel
theorem cs3_of {P : cr_P} (H : cr_ok P) : (cs3 (cr_kd P) (cr_rw P) (cr_cl P)).length = cr_m P ∧ ∀ c, c < cr_m P → at3 (cs3 (cr_kd P) (cr_rw P) (cr_cl P)) c = (cr_a P c, cr_b P c, cr_lin P c) := by
  obtain ⟨h3, h4⟩ := cr_small H.1
  have := cr_t5_all (cr_kd P) (by have := H.1.1; omega) _ h3 _ h4
  rw [cr_shb_of H.1] at this
  have : cr_t5 (cr_kd P) (cr_rw P) (cr_cl P) = true := by simpa using this
  unfold cr_t5 at this
  rw [Bool.and_eq_true] at this
  obtain ⟨t1, t2⟩ := this
  have t1 := of_decide_eq_true t1
  have hl : (cs3 (cr_kd P) (cr_rw P) (cr_cl P)).length = cr_m P := by
    unfold cr_m cr_L
    rw [← t1, List.length_map]
  refine ⟨hl, fun c hc => ?_⟩
  have t3 := of_decide_eq_true (List.all_eq_true.mp t2 c (List.mem_range.mpr hc))
  have hg : (cr_cs (cr_kd P) (cr_rw P) (cr_cl P)).getD c (0, 0) = ((at3 (cs3 (cr_kd P) (cr_rw P) (cr_cl P)) c).1, (at3 (cs3 (cr_kd P) (cr_rw P) (cr_cl P)) c).2.1) := by
    rw [← t1]
    unfold at3
    have hc' : c < (cs3 (cr_kd P) (cr_rw P) (cr_cl P)).length := by omega
    rw [List.getD_eq_getElem?_getD, List.getD_eq_getElem?_getD, List.getElem?_map, List.getElem?_eq_getElem hc']
    rfl
  have ea : cr_a P c = (at3 (cs3 (cr_kd P) (cr_rw P) (cr_cl P)) c).1 := by unfold cr_a cr_L; rw [hg]
  have eb : cr_b P c = (at3 (cs3 (cr_kd P) (cr_rw P) (cr_cl P)) c).2.1 := by unfold cr_b cr_L; rw [hg]
  have el : cr_lin P c = (at3 (cs3 (cr_kd P) (cr_rw P) (cr_cl P)) c).2.2 := by
    rw [t3]
    unfold cr_lin cr_iR cr_a cr_L
    rfl
  rw [ea, eb, el]
section C3
variable {h : pz_H} {a : Nat} {V : Nat → Int} {A : Nat → Int → Int} {P : cr_P} {Q : Int32 → pz_H → Prop} {K : pz_H → Prop}
theorem c_join {L : List T3} {x y l : Nat} (R : rP h a V A) (J : jn V A L) (hL : L.length < 12) (hx : x < 9) (hy : y < 9) (hxy : x ≠ y)
    (hq : ∀ h' A', rP h' a (va_up V 4 ((L.length : Int) + 1)) A' → jn (va_up V 4 ((L.length : Int) + 1)) A' (L ++ [(x, y, l)]) → (∀ j, j ≠ 5 → j ≠ 6 → j ≠ 7 → j ≠ 12 → A' j = A j) → Fr a (a + 13) h h' → K h') : F_X1_join a (iI x) (iI y) (iI l) h K := by
  obtain ⟨j4, j5, j12⟩ := J
  have tx : ∀ f, tchL L f < 2 ^ L.length := fun f => nu_bm_lt _ _
  have gx := j12 x hx
  have gy := j12 y hy
  unfold F_X1_join
  simp (disch := omega) only [pE R, j4, ebr_lt, lits, iI_add, iI_sub, iI_mul, iI_neg]
  rw [if_pos (by omega)]
  refine rg_sI R (by decide) (by decide) rfl (by decide) ⟨by omega, by simp only [lP]; omega⟩ fun h1 R1 f1 => ?_
  simp (disch := omega) only [pE R1, j4, lits, iI_add, iI_sub, iI_mul, iI_neg]
  refine rg_sI R1 (by decide) (by decide) rfl (by decide) ⟨by omega, by simp only [lP]; omega⟩ fun h2 R2 f2 => ?_
  simp (disch := omega) only [pE R2, j4, lits, iI_add, iI_sub, iI_mul, iI_neg]
  refine rg_sI R2 (by decide) (by decide) rfl (by decide) ⟨by omega, by simp only [lP]; omega⟩ fun h3 R3 f3 => ?_
  have s1 : (au (au (au A 5 (L.length : Int) (x : Int)) 6 (L.length : Int) (y : Int)) 7 (L.length : Int) (l : Int)) 12 = A 12 := by rw [au_nk (by decide), au_nk (by decide), au_nk (by decide)]
  simp (disch := omega) only [pE R3, j4, s1, gx, lits, iI_add, iI_sub, iI_mul, iI_neg]
  rw [show iI 1 <<< (iI (L.length : Int) &&& iI 31) = iI ((2 ^ L.length : Nat) : Int) from iI_shl (by omega), iI_or]
  refine rg_sI R3 (by decide) (by decide) rfl (by decide) ⟨by omega, by simp only [lP]; omega⟩ fun h4 R4 f4 => ?_
  have s2 : (au (au (au (au A 5 (L.length : Int) (x : Int)) 6 (L.length : Int) (y : Int)) 7 (L.length : Int) (l : Int)) 12 (x : Int) ((tchL L x ||| 2 ^ L.length : Nat) : Int)) 12 (y : Int) = (tchL L y : Nat) := by rw [au_ne (by omega), s1]; exact gy
  simp (disch := omega) only [pE R4, j4, s2, lits, iI_add, iI_sub, iI_mul, iI_neg]
  rw [show iI 1 <<< (iI (L.length : Int) &&& iI 31) = iI ((2 ^ L.length : Nat) : Int) from iI_shl (by omega), iI_or]
  refine rg_sI R4 (by decide) (by decide) rfl (by decide) ⟨by omega, by simp only [lP]; omega⟩ fun h5 R5 f5 => ?_
  simp (disch := omega) only [pE R5, j4, lits, iI_add, iI_sub, iI_mul, iI_neg]
  refine rg_p (V' := va_up V 4 ((L.length : Int) + 1)) R5 rfl (Nat.le_of_ble_eq_true rfl) fun h6 R6 f6 => ?_
  refine hq h6 _ R6 ⟨?_, fun i hi => ?_, fun f hf => ?_⟩ (fun j b1 b2 b3 b4 => ?_) (f1.tr (f2.tr (f3.tr (f4.tr (f5.tr f6)))))
  · rw [va_up_self]; simp
  · by_cases e : i = L.length
    · subst e
      rw [at3_eq]
      refine ⟨?_, ?_, ?_⟩
      · rw [au_if, if_neg (by omega), au_if, if_neg (by omega), au_if, if_neg (by omega), au_if, if_neg (by omega), au_if, if_pos (by omega)]
      · rw [au_if, if_neg (by omega), au_if, if_neg (by omega), au_if, if_neg (by omega), au_if, if_pos (by omega)]
      · rw [au_if, if_neg (by omega), au_if, if_neg (by omega), au_if, if_pos (by omega)]
    · have hi' : i < L.length := by rw [List.length_append, List.length_singleton] at hi; omega
      rw [at3_lt hi']
      obtain ⟨p1, p2, p3⟩ := j5 i hi'
      refine ⟨?_, ?_, ?_⟩
      · rw [au_if, if_neg (by omega), au_if, if_neg (by omega), au_if, if_neg (by omega), au_if, if_neg (by omega), au_if, if_neg (by omega)]; exact p1
      · rw [au_if, if_neg (by omega), au_if, if_neg (by omega), au_if, if_neg (by omega), au_if, if_neg (by omega), au_if, if_neg (by omega)]; exact p2
      · rw [au_if, if_neg (by omega), au_if, if_neg (by omega), au_if, if_neg (by omega), au_if, if_neg (by omega), au_if, if_neg (by omega)]; exact p3
  · rw [tchL_new]
    simp only
    by_cases e1 : f = y
    · subst e1
      rw [au_at, decide_eq_true (show f = f from rfl), Bool.or_true, if_pos rfl]
    · rw [au_ne (by omega)]
      by_cases e2 : f = x
      · subst e2
        rw [au_at, decide_eq_true (show f = f from rfl), Bool.true_or, if_pos rfl]
      · rw [au_ne (by omega), s1, decide_eq_false (show ¬ x = f from fun z => e2 z.symm), decide_eq_false (show ¬ y = f from fun z => e1 z.symm)]
        simp only [Bool.or_self, Bool.false_eq_true, if_false, Nat.or_zero]
        exact j12 f hf
  · rw [au_nk b4, au_nk b4, au_nk b3, au_nk b2, au_nk b1]
end C3
