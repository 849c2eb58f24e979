/-! THE REFERENCE's region: its object at m, its 22 arrays behind it -/
def fM (a : Nat) (V : Nat → Int) : List Value := [.int (iI (V 0)), .ref (a + 1), .ref (a + 2), .ref (a + 3), .ref (a + 4), .ref (a + 5), .ref (a + 6), .ref (a + 7), .ref (a + 8), .ref (a + 9), .ref (a + 10), .ref (a + 11), .int (iI (V 12)), .int (iI (V 13)), .ref (a + 12), .int (iI (V 15)), .ref (a + 13), .ref (a + 14), .int (iI (V 18)), .ref (a + 15), .ref (a + 16), .ref (a + 17), .ref (a + 18), .ref (a + 19), .int (iI (V 24)), .ref (a + 20), .ref (a + 21), .ref (a + 22), .int (iI (V 28))]
def tM (j : Nat) : Nat := if j = 18 then 4 else 0
def lM (j : Nat) : Nat := match j with
  | 1 => 30 | 2 => 30 | 3 => 30 | 4 => 30 | 5 => 30 | 6 => 270 | 7 => 360 | 8 => 360 | 9 => 360 | 10 => 30 | 11 => 30 | 12 => 9 | 13 => 9 | 14 => 12 | 15 => 9 | 16 => 9 | 17 => 9 | 18 => 4096 | 19 => 12 | 20 => 12 | 21 => 65536 | _ => 16
abbrev rM (h : pz_H) (m : Nat) (V : Nat → Int) (A : Nat → Int → Int) : Prop := rg 5 fM 22 tM lM h m V A
/-- what the reference's arrays hold of paper p -/
def mP (A : Nat → Int → Int) (p : Nat) (P : cr_P) : Prop := cr_ok P ∧ A 1 p = cr_kd P ∧ A 2 p = cr_n P ∧ A 3 p = cr_rw P ∧ A 4 p = cr_cl P ∧ A 5 p = cr_m P ∧ (∀ f : Nat, f < 9 → A 6 (9 * p + f) = cr_ln P f) ∧ (∀ c : Nat, c < cr_m P → A 7 (12 * p + c) = cr_a P c) ∧ (∀ c : Nat, c < cr_m P → A 8 (12 * p + c) = cr_b P c) ∧ (∀ c : Nat, c < cr_m P → A 9 (12 * p + c) = cr_mk P c) ∧ A 10 p = cr_gp P ∧ A 11 p = cr_rg P
def mS (V : Nat → Int) (A : Nat → Int → Int) (np : Nat) (Ps : Nat → cr_P) : Prop := V 0 = np ∧ np ≤ 30 ∧ ∀ p, p < np → mP A p (Ps p)
theorem m_lesser {a b : Int} {h : pz_H} {Q : Int32 → pz_H → Prop} (ha : iB a) (hb : iB b) (hq : Q (iI (min a b)) h) : F_X5_lesser (iI a) (iI b) h Q := by
  unfold F_X5_lesser B_X5_lesser_10
  refine br_le hb ha (fun c => ?_) (fun c => ?_)
  · rw [Int.min_eq_right c] at hq; exact hq
  · rw [Int.min_eq_left (by omega)] at hq; exact hq
theorem m_greater {a b : Int} {h : pz_H} {Q : Int32 → pz_H → Prop} (ha : iB a) (hb : iB b) (hq : Q (iI (max a b)) h) : F_X5_greater (iI a) (iI b) h Q := by
  unfold F_X5_greater B_X5_greater_10
  refine br_le ha hb (fun c => ?_) (fun c => ?_)
  · rw [Int.max_eq_right c] at hq; exact hq
  · rw [Int.max_eq_left (by omega)] at hq; exact hq
/-- every word is a small number's word -/
theorem iI_of (x : Int32) : ∃ z : Int, iB z ∧ x = iI z := ⟨x.toInt, ⟨Int32.le_toInt x, Int32.toInt_lt x⟩, (Int32.ofInt_toInt x).symm⟩
def bI (b : Bool) : Int := if b then 1 else 0
theorem bI_t : iI (bI true) = 1 := rfl
theorem bI_f : iI (bI false) = 0 := rfl
theorem bI_z (b : Bool) : iI (bI b) = 0 ↔ b = false := by cases b <;> decide
theorem m_has {h : pz_H} {m np : Nat} {V : Nat → Int} {A : Nat → Int → Int} {z : Int} {Q : Int32 → pz_H → Prop} (R : rM h m V A) (h0 : V 0 = np) (hn : np ≤ 30) (hz : iB z) (hq : Q (iI (bI (decide (0 ≤ z ∧ z < np)))) h) : F_X5_has m (iI z) h Q := by
  unfold F_X5_has B_X5_has_16 B_X5_has_17
  refine br_lt (b := 0) hz (by omega) (fun c => rg_z (Or.inl rfl) ?_) (fun c => ?_)
  · rw [decide_eq_false (by omega)] at hq; exact hq
  refine rg_gI R rfl ?_
  rw [h0]
  refine br_le (by omega) hz (fun c => rg_z (Or.inl rfl) ?_) (fun c => rg_z (Or.inr rfl) ?_)
  · rw [decide_eq_false (by omega)] at hq; exact hq
  · rw [decide_eq_true (by omega)] at hq; exact hq
