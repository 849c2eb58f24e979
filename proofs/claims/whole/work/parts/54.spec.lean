/-! A PAPER as the document has it: kind (0 strip, 1 corner, 2 map), rows, columns, lengths, marks, folded gaps of columns and of rows -/
abbrev cr_P : Type := Nat × Nat × Nat × (Nat → Nat) × (Nat → Nat) × Nat × Nat
def cr_kd (P : cr_P) : Nat := P.1
def cr_rw (P : cr_P) : Nat := P.2.1
def cr_cl (P : cr_P) : Nat := P.2.2.1
def cr_ln (P : cr_P) : Nat → Nat := P.2.2.2.1
def cr_mk (P : cr_P) : Nat → Nat := P.2.2.2.2.1
def cr_gp (P : cr_P) : Nat := P.2.2.2.2.2.1
def cr_rg (P : cr_P) : Nat := P.2.2.2.2.2.2
def cr_n (P : cr_P) : Nat := cr_rw P * cr_cl P
def cr_hl (r c : Nat) : List (Nat × Nat) := (List.range (r * c)).filterMap (fun f => if f % c + 1 < c then some (f, f + 1) else none)
def cr_vl (r c : Nat) : List (Nat × Nat) := (List.range (r * c)).filterMap (fun f => if f / c + 1 < r then some (f, f + c) else none)
def cr_cs (k r c : Nat) : List (Nat × Nat) := cr_hl r c ++ (cr_vl r c ++ (if k = 1 then [(r * c - 1, 0)] else []))
def cr_L (P : cr_P) : List (Nat × Nat) := cr_cs (cr_kd P) (cr_rw P) (cr_cl P)
def cr_m (P : cr_P) : Nat := (cr_L P).length
def cr_a (P : cr_P) (c : Nat) : Nat := ((cr_L P).getD c (0, 0)).1
def cr_b (P : cr_P) (c : Nat) : Nat := ((cr_L P).getD c (0, 0)).2
def cr_shape (k r c : Nat) : Prop := k ≤ 2 ∧ 1 ≤ r ∧ 1 ≤ c ∧ r * c ≤ 9 ∧ (k ≠ 2 → r = 1) ∧ (k = 1 → 2 ≤ c)
def cr_ok (P : cr_P) : Prop := cr_shape (cr_kd P) (cr_rw P) (cr_cl P) ∧ (∀ f, 1 ≤ cr_ln P f ∧ cr_ln P f ≤ 1000) ∧ (∀ c, cr_mk P c ≤ 2) ∧ cr_gp P < 2 ^ (cr_cl P - 1) ∧ cr_rg P < 2 ^ (cr_rw P - 1) ∧ (cr_kd P = 2 → ∀ f, cr_ln P f = 1)
/-- where face f begins, all folded -/
def cr_e (ln : Nat → Nat) : Nat → Int
  | 0 => 0
  | f + 1 => cr_e ln f + (if f % 2 = 0 then (ln f : Int) else -(ln f : Int))
def cr_up (P : cr_P) (f : Nat) : Bool := if cr_kd P = 2 then decide ((f / cr_cl P + f % cr_cl P) % 2 = 0) else decide (f % 2 = 0)
def cr_pl (P : cr_P) (c : Nat) : Int := if cr_kd P = 2 then (if c < cr_rw P * (cr_cl P - 1) then ((cr_a P c % cr_cl P % 2 : Nat) : Int) else 2 + ((cr_a P c / cr_cl P % 2 : Nat) : Int)) else cr_e (cr_ln P) (cr_a P c + 1)
/-- x lies within face f, not at its ends -/
def cr_wi (P : cr_P) (f : Nat) (x : Int) : Bool := decide (cr_kd P ≠ 2) && (decide (min (cr_e (cr_ln P) f) (cr_e (cr_ln P) (f + 1)) < x) && decide (x < max (cr_e (cr_ln P) f) (cr_e (cr_ln P) (f + 1))))
def cr_os (P : cr_P) (c d : Nat) : Bool := decide (cr_pl P c = cr_pl P d) && (decide (cr_kd P = 2) || decide (cr_a P c % 2 = cr_a P d % 2))
def cr_fo (P : cr_P) (c d : Nat) : Bool := decide (cr_a P c ≠ cr_a P d) && (decide (cr_a P c ≠ cr_b P d) && (decide (cr_b P c ≠ cr_a P d) && decide (cr_b P c ≠ cr_b P d)))
def cr_un (P : cr_P) : Bool := decide (cr_kd P = 1) && (decide (cr_n P % 2 = 1) || decide (cr_e (cr_ln P) (cr_n P) ≠ 0))
/-- what is true of the creases of every shape: by trying them all -/
def cr_t1 (k r c : Nat) : Bool := (decide ((cr_cs k r c).length ≤ 12)) && (cr_cs k r c).all (fun q => decide (q.1 < r * c) && (decide (q.2 < r * c) && decide (q.1 ≠ q.2)))
def cr_shb (k r c : Nat) : Bool := decide (k ≤ 2) && (decide (1 ≤ r) && (decide (1 ≤ c) && (decide (r * c ≤ 9) && ((decide (k = 2) || decide (r = 1)) && (decide (k ≠ 1) || decide (2 ≤ c))))))
theorem cr_shb_of {k r c : Nat} (h : cr_shape k r c) : cr_shb k r c = true := by
  obtain ⟨a1, a2, a3, a4, a5, a6⟩ := h
  unfold cr_shb
  simp only [Bool.and_eq_true, Bool.or_eq_true, decide_eq_true_eq]
  exact ⟨a1, a2, a3, a4, by omega, by omega⟩
theorem cr_t1_all : ∀ k, k < 3 → ∀ r, r < 10 → ∀ c, c < 10 → (!cr_shb k r c || cr_t1 k r c) = true := by decide +kernel
theorem cr_small {k r c : Nat} (h : cr_shape k r c) : r < 10 ∧ c < 10 := by
  obtain ⟨-, h1, h2, h3, -⟩ := h
  constructor
  · rcases Nat.lt_or_ge r 10 with h | h
    · exact h
    · have := Nat.mul_le_mul h h2; omega
  · rcases Nat.lt_or_ge c 10 with h | h
    · exact h
    · have := Nat.mul_le_mul h1 h; omega
theorem cr_t1_of {k r c : Nat} (h : cr_shape k r c) : cr_t1 k r c = true := by
  obtain ⟨h1, h2⟩ := cr_small h
  have := cr_t1_all k (by have := h.1; omega) r h1 c h2
  rw [cr_shb_of h] at this
  simpa using this
theorem cr_ok.m12 {P : cr_P} (h : cr_ok P) : cr_m P ≤ 12 := by
  have := cr_t1_of h.1
  unfold cr_t1 at this
  simp only [Bool.and_eq_true, decide_eq_true_eq] at this
  exact this.1
theorem cr_ok.ab {P : cr_P} (h : cr_ok P) {c : Nat} (hc : c < cr_m P) : cr_a P c < cr_n P ∧ cr_b P c < cr_n P ∧ cr_a P c ≠ cr_b P c := by
  have := cr_t1_of h.1
  unfold cr_t1 at this
  simp only [Bool.and_eq_true, decide_eq_true_eq, List.all_eq_true] at this
  have hm : (cr_L P).getD c (0, 0) ∈ cr_L P := by
    have hc' : c < (cr_L P).length := hc
    rw [List.getD_eq_getElem?_getD, List.getElem?_eq_getElem hc', Option.getD_some]
    exact List.getElem_mem hc'
  obtain ⟨g1, g2, g3⟩ := this.2 _ hm
  exact ⟨g1, g2, g3⟩
theorem cr_ok.n9 {P : cr_P} (h : cr_ok P) : 1 ≤ cr_n P ∧ cr_n P ≤ 9 := by
  obtain ⟨-, h1, h2, h3, -⟩ := h.1
  exact ⟨Nat.mul_pos h1 h2, h3⟩
theorem cr_e_bound {ln : Nat → Nat} (h : ∀ f, 1 ≤ ln f ∧ ln f ≤ 1000) : ∀ f : Nat, -(1000 * f : Int) ≤ cr_e ln f ∧ cr_e ln f ≤ 1000 * f
  | 0 => by simp [cr_e]
  | f + 1 => by
    have := cr_e_bound h f
    have h2 := h f
    unfold cr_e
    split <;> omega
theorem cr_ok.eB {P : cr_P} (h : cr_ok P) {f : Nat} (hf : f ≤ 20) : -20000 ≤ cr_e (cr_ln P) f ∧ cr_e (cr_ln P) f ≤ 20000 := by
  have := cr_e_bound h.2.1 f
  omega
theorem cr_ok.plB {P : cr_P} (h : cr_ok P) {c : Nat} (hc : c < cr_m P) : -20000 ≤ cr_pl P c ∧ cr_pl P c ≤ 20000 := by
  unfold cr_pl
  have h1 := (h.ab hc).1
  have h2 := h.n9.2
  split
  · split <;> omega
  · exact h.eB (by omega)
