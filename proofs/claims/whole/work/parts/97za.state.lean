/-! THE CLASS's whole state -/
def fX (c : Nat) (V : Nat → Int) : List Value := [.ref (c + 1), .int (iI (V 1)), .ref (c + 2), .ref (c + 8), va_rf (oR (V 4)), .ref (c + 14), .ref (c + 15), .ref (c + 16), .ref (c + 17), .ref (c + 18), .int (iI (V 10)), .ref (c + 19), .ref (c + 26), .ref (c + 30), .int (iI (V 14))]
abbrev rX (h : pz_H) (c : Nat) (V : Nat → Int) : Prop := rg 4 fX 0 t0 t0 h c V (fun _ _ => 0)
theorem cxE {h : pz_H} {c : Nat} {V : Nat → Int} (R : rX h c V) : (∀ K, pq_o h c 4 K = K) ∧ (∀ K, pq_gA h c 4 0 K = K (c + 1)) ∧ (∀ K, pq_gI h c 4 1 K = K (iI (V 1))) ∧ (∀ K, pq_gA h c 4 2 K = K (c + 2)) ∧ (∀ K, pq_gA h c 4 3 K = K (c + 8)) ∧ (∀ K, pq_gN h c 4 4 K = K (oR (V 4))) ∧ (∀ K, pq_gA h c 4 5 K = K (c + 14)) ∧ (∀ K, pq_gA h c 4 6 K = K (c + 15)) ∧ (∀ K, pq_gA h c 4 7 K = K (c + 16)) ∧ (∀ K, pq_gA h c 4 8 K = K (c + 17)) ∧ (∀ K, pq_gA h c 4 9 K = K (c + 18)) ∧ (∀ K, pq_gI h c 4 10 K = K (iI (V 10))) ∧ (∀ K, pq_gA h c 4 11 K = K (c + 19)) ∧ (∀ K, pq_gA h c 4 12 K = K (c + 26)) ∧ (∀ K, pq_gA h c 4 13 K = K (c + 30)) ∧ (∀ K, pq_gI h c 4 14 K = K (iI (V 14))) :=
  ⟨eg_o R, eg_gA R rfl, eg_gI R rfl, eg_gA R rfl, eg_gA R rfl, eg_gN R rfl, eg_gA R rfl, eg_gA R rfl, eg_gA R rfl, eg_gA R rfl, eg_gA R rfl, eg_gI R rfl, eg_gA R rfl, eg_gA R rfl, eg_gA R rfl, eg_gI R rfl⟩
def pA (c i : Nat) : Nat := c + 54 + 13 * i
def pAr (h : pz_H) (c np : Nat) : Prop := h.1 (c + 1) = some (.inl (2, 30, .inr (.inr (.inr (.inr (fun i => if i < np then some (pA c i) else none))))))
def tdV (c : Nat) (td : Option (Nat × List Nat)) : Int := match td with
  | none => -1
  | some (p, _) => (pA c p : Nat)
def tdX (T5 T6 : Int → Int) (td : Option (Nat × List Nat)) : Prop := match td with
  | none => True
  | some (_, l) => (∀ i : Nat, i < l.length → T5 i = (l.getD i 0 : Nat)) ∧ ∀ f : Nat, f ∈ l → T6 f = ps l f
def cTop (h : pz_H) (c np : Nat) (td : Option (Nat × List Nat)) (cl : List Nat) (st : List Int) : Prop := ∃ (V : Nat → Int) (T5 T6 K S : Int → Int), (rX h c V ∧ V 1 = np ∧ V 4 = tdV c td ∧ V 10 = cl.length ∧ V 14 = st.length) ∧ (ar h (c + 14) 9 T5 ∧ ar h (c + 15) 9 T6 ∧ tdX T5 T6 td) ∧ (ar h (c + 18) 12 K ∧ ∀ i : Nat, i < cl.length → K i = (cl.getD i 0 : Nat)) ∧ (ar h (c + 30) 8 S ∧ ∀ i : Nat, i < st.length → S i = st.getD i 0)
def lr (h : pz_H) (b : Nat) (f : Nat → Int64) : Prop := h.1 b = some (.inl (1, 64, .inr (.inl f)))
def cScr (h : pz_H) (c : Nat) : Prop := (∃ V A, rQ h (c + 2) V A) ∧ (∃ V A, rQ h (c + 8) V A) ∧ (∃ f, ar h (c + 16) 9 f) ∧ (∃ f, lr h (c + 17) f) ∧ (∃ F A, rY h (c + 19) F A ∧ ∀ b, A (eA b) 0 = 0) ∧ ∃ V A, rW h (c + 26) V A
def cPap (h : pz_H) (c np : Nat) (Ps : Nat → cr_P) : Prop := pAr h c np ∧ (∀ i, i < np → ∃ V A, rP h (pA c i) V A ∧ cP V A (Ps i)) ∧ h.2 = pA c np ∧ np ≤ 30
def CR (h : pz_H) (c np : Nat) (Ps : Nat → cr_P) (td : Option (Nat × List Nat)) (cl : List Nat) (st : List Int) : Prop := okS np Ps td cl st ∧ cTop h c np td cl st ∧ cScr h c ∧ cPap h c np Ps
/-- only the class's scratch differs -/
def Sc (c : Nat) (h h' : pz_H) : Prop := h'.2 = h.2 ∧ ∀ q : Nat, (q < c + 2 ∨ q = c + 14 ∨ q = c + 15 ∨ q = c + 18 ∨ c + 30 ≤ q) → h'.1 q = h.1 q
theorem Sc.rf {c : Nat} {h : pz_H} : Sc c h h := ⟨rfl, fun _ _ => rfl⟩
theorem Sc.tr {c : Nat} {h h1 h2 : pz_H} (a : Sc c h h1) (b : Sc c h1 h2) : Sc c h h2 := ⟨b.1.trans a.1, fun q hq => (b.2 q hq).trans (a.2 q hq)⟩
theorem Fr.sc {c lo hi : Nat} {h h' : pz_H} (f : Fr lo hi h h') (hd : (c + 2 ≤ lo ∧ hi ≤ c + 14) ∨ (c + 16 ≤ lo ∧ hi ≤ c + 18) ∨ (c + 19 ≤ lo ∧ hi ≤ c + 30)) : Sc c h h' := ⟨f.1, fun q hq => f.2 q (by omega)⟩
/-- the reference's cells are as they were -/
def Fo (c : Nat) (h h' : pz_H) : Prop := ∀ q : Nat, c + 31 ≤ q → q < c + 54 → h'.1 q = h.1 q
theorem Fo.rf {c : Nat} {h : pz_H} : Fo c h h := fun _ _ _ => rfl
theorem Fo.tr {c : Nat} {h h1 h2 : pz_H} (a : Fo c h h1) (b : Fo c h1 h2) : Fo c h h2 := fun q h1 h2 => (b q h1 h2).trans (a q h1 h2)
theorem Sc.fo {c : Nat} {h h' : pz_H} (s : Sc c h h') : Fo c h h' := fun q h1 h2 => s.2 q (by omega)
theorem Fr.fo {c lo hi : Nat} {h h' : pz_H} (f : Fr lo hi h h') (hd : hi ≤ c + 31 ∨ c + 54 ≤ lo) : Fo c h h' := fun q h1 h2 => f.2 q (by omega)
theorem rP.up {h h' : pz_H} {a : Nat} {V : Nat → Int} {A : Nat → Int → Int} (R : rP h a V A) (e : ∀ q, a ≤ q → q < a + 13 → h'.1 q = h.1 q) : rP h' a V A := ⟨by rw [e a (by omega) (by omega)]; exact R.1, fun j h1 h2 => by rw [e (a + j) (by omega) (by omega)]; exact R.2 j h1 h2⟩
section S1
variable {h h' : pz_H} {c np : Nat} {Ps : Nat → cr_P} {td : Option (Nat × List Nat)} {cl : List Nat} {st : List Int} {K : pz_H → Prop}
theorem cTop.of (T : cTop h c np td cl st) (e : ∀ q, (q = c ∨ q = c + 14 ∨ q = c + 15 ∨ q = c + 18 ∨ q = c + 30) → h'.1 q = h.1 q) : cTop h' c np td cl st := by
  obtain ⟨V, T5, T6, K, S, ⟨r1, r2⟩, ⟨a1, a2, a3⟩, ⟨b1, b2⟩, d1, d2⟩ := T
  refine ⟨V, T5, T6, K, S, ⟨⟨by rw [e c (by omega)]; exact r1.1, fun j h1 h2 => by omega⟩, r2⟩, ⟨?_, ?_, a3⟩, ⟨?_, b2⟩, ?_, d2⟩
  · unfold ar; rw [e _ (by omega)]; exact a1
  · unfold ar; rw [e _ (by omega)]; exact a2
  · unfold ar; rw [e _ (by omega)]; exact b1
  · unfold ar; rw [e _ (by omega)]; exact d1
theorem cPap.of (T : cPap h c np Ps) (e : ∀ q, (q = c + 1 ∨ c + 54 ≤ q) → h'.1 q = h.1 q) (e2 : h'.2 = h.2) : cPap h' c np Ps := by
  obtain ⟨p1, p2, p3, p4⟩ := T
  refine ⟨by unfold pAr; rw [e _ (by omega)]; exact p1, fun i hi => ?_, e2.trans p3, p4⟩
  obtain ⟨V, A, R, C⟩ := p2 i hi
  exact ⟨V, A, R.up (fun q h1 h2 => e q (by unfold pA at h1; omega)), C⟩
theorem CR.of (M : CR h c np Ps td cl st) (s : Sc c h h') (S : cScr h' c) : CR h' c np Ps td cl st := ⟨M.1, M.2.1.of (fun q hq => s.2 q (by omega)), S, M.2.2.2.of (fun q hq => s.2 q (by omega)) s.1⟩
theorem cScr.of (T : cScr h c) (e : ∀ q, c + 2 ≤ q → (q < c + 30 ∧ q ≠ c + 14 ∧ q ≠ c + 15 ∧ q ≠ c + 18) → h'.1 q = h.1 q) : cScr h' c := by
  obtain ⟨⟨V1, A1, R1⟩, ⟨V2, A2, R2⟩, ⟨f3, R3⟩, ⟨f4, R4⟩, ⟨F5, A5, R5, z5⟩, V6, A6, R6⟩ := T
  refine ⟨⟨V1, A1, by rw [e _ (by omega) (by omega)]; exact R1.1, fun j h1 h2 => by rw [e _ (by omega) (by omega)]; exact R1.2 j h1 h2⟩, ⟨V2, A2, by rw [e _ (by omega) (by omega)]; exact R2.1, fun j h1 h2 => by rw [e _ (by omega) (by omega)]; exact R2.2 j h1 h2⟩, ⟨f3, ?_⟩, ⟨f4, ?_⟩, ⟨F5, A5, ?_, z5⟩, V6, A6, by rw [e _ (by omega) (by omega)]; exact R6.1, fun j h1 h2 => by rw [e _ (by omega) (by omega)]; exact R6.2 j h1 h2⟩
  · unfold ar; rw [e _ (by omega) (by omega)]; exact R3
  · unfold lr; rw [e _ (by omega) (by omega)]; exact R4
  · obtain ⟨r0, r1, r4, ra⟩ := R5
    refine ⟨by rw [e _ (by omega) (by omega)]; exact r0, by rw [e _ (by omega) (by omega)]; exact r1, by rw [e _ (by omega) (by omega)]; exact r4, fun b => ?_⟩
    have eb := eA_t b
    unfold ar
    rw [e _ (by omega) (by omega), e _ (by omega) (by omega)]
    exact ra b
/-- the reference's calls leave the class alone -/
theorem CR.fr (M : CR h c np Ps td cl st) (f : Fr (c + 31) (c + 31 + 23) h h') : CR h' c np Ps td cl st := ⟨M.1, M.2.1.of (fun q hq => f.2 q (by omega)), M.2.2.1.of (fun q h1 h2 => f.2 q (by omega)), M.2.2.2.of (fun q hq => f.2 q (by omega)) f.1⟩
/-- the class's calls leave the reference alone -/
theorem MR.fo (M : MR h (c + 31) np Ps td cl st) (f : Fo c h h') : MR h' (c + 31) np Ps td cl st := by
  obtain ⟨O, V, A, R, W⟩ := M
  exact ⟨O, V, A, ⟨by rw [f _ (by omega) (by omega)]; exact R.1, fun j h1 h2 => by rw [f _ (by omega) (by omega)]; exact R.2 j h1 h2⟩, W⟩
theorem CR.n30 (M : CR h c np Ps td cl st) : np ≤ 30 := M.2.2.2.2.2.2
theorem CR.pap (M : CR h c np Ps td cl st) {p : Nat} (hp : p < np) : ∃ V A, rP h (pA c p) V A ∧ cP V A (Ps p) := M.2.2.2.2.1 p hp
theorem CR.ok (M : CR h c np Ps td cl st) {p : Nat} (hp : p < np) : cr_ok (Ps p) := by
  obtain ⟨V, A, -, C⟩ := M.pap hp
  exact C.1.1
theorem cE (M : CR h c np Ps td cl st) : (∀ K, pq_o h c 4 K = K) ∧ (∀ K, pq_gA h c 4 0 K = K (c + 1)) ∧ (∀ K, pq_gI h c 4 1 K = K (iI np)) ∧ (∀ K, pq_gA h c 4 2 K = K (c + 2)) ∧ (∀ K, pq_gA h c 4 3 K = K (c + 8)) ∧ (∀ K, pq_gN h c 4 4 K = K (oR (tdV c td))) ∧ (∀ K, pq_gA h c 4 5 K = K (c + 14)) ∧ (∀ K, pq_gA h c 4 6 K = K (c + 15)) ∧ (∀ K, pq_gA h c 4 7 K = K (c + 16)) ∧ (∀ K, pq_gA h c 4 8 K = K (c + 17)) ∧ (∀ K, pq_gA h c 4 9 K = K (c + 18)) ∧ (∀ K, pq_gI h c 4 10 K = K (iI cl.length)) ∧ (∀ K, pq_gA h c 4 11 K = K (c + 19)) ∧ (∀ K, pq_gA h c 4 12 K = K (c + 26)) ∧ (∀ K, pq_gA h c 4 13 K = K (c + 30)) ∧ (∀ K, pq_gI h c 4 14 K = K (iI st.length)) ∧ (∀ K, pq_o h (c + 2) 2 K = K) ∧ (∀ K, pq_o h (c + 8) 2 K = K) ∧ (∀ K, pq_o h (c + 19) 0 K = K) ∧ (∀ K, pq_o h (c + 26) 3 K = K) := by
  obtain ⟨V, T5, T6, K, S, ⟨r1, r2, r3, r4, r5⟩, -⟩ := M.2.1
  obtain ⟨⟨V1, A1, R1⟩, ⟨V2, A2, R2⟩, -, -, ⟨F5, A5, R5, -⟩, V6, A6, R6⟩ := M.2.2.1
  have e := cxE r1
  rw [r2, r3, r4, r5] at e
  obtain ⟨e0, e1, e2, e3, e4, e5, e6, e7, e8, e9, e10, e11, e12, e13, e14, e15⟩ := e
  exact ⟨e0, e1, e2, e3, e4, e5, e6, e7, e8, e9, e10, e11, e12, e13, e14, e15, eg_o R1, eg_o R2, (ylE R5).1, eg_o R6⟩
theorem c_find {z : Int} {Q : Option Nat → pz_H → Prop} (M : CR h c np Ps td cl st) (hz : iB z) (h0 : vN np z = false → Q none h) (h1 : ∀ p : Nat, z = p → p < np → Q (some (pA c p)) h) : F_X4_find c (iI z) h Q := by
  have n30 := M.n30
  obtain ⟨V, T5, T6, K, S, ⟨r1, r2, -⟩, -⟩ := M.2.1
  have pa := M.2.2.2.1
  unfold F_X4_find B_X4_find_12 B_X4_find_22
  have no : ¬ (0 ≤ z ∧ z < np) → Q none h := fun w => h0 (by unfold vN; exact decide_eq_false w)
  refine br_lt (b := 0) hz (by omega) (fun w => no (by omega)) (fun w => ?_)
  rw [(cxE r1).2.2.1, r2]
  refine br_lt hz (by omega) (fun w2 => ?_) (fun w2 => no (by omega))
  rw [(cxE r1).2.1]
  obtain ⟨p, rfl⟩ : ∃ p : Nat, z = p := ⟨z.toNat, by omega⟩
  refine ⟨30, _, pa, iI_in (by omega) (by omega), ?_⟩
  rw [iI_clamp (by omega), if_pos (by omega)]
  exact h1 p rfl (by omega)
end S1
