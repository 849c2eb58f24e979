/-! THE REFERENCE: the calls that make and change papers, with its whole state -/
def s_new (np : Nat) (ok : Bool) : Int := if ok then (if np = 30 then -104 else np) else -102
def s_newN (np : Nat) (ok : Bool) : Nat := if ok && decide (np ≠ 30) then np + 1 else np
def s_newS (np : Nat) (Ps : Nat → cr_P) (ok : Bool) (P : cr_P) : Nat → cr_P := if ok && decide (np ≠ 30) then va_up Ps np P else Ps
def okStrip (z : Int) : Bool := decide (1 ≤ z ∧ z ≤ 9)
def okCorner (z : Int) : Bool := decide (2 ≤ z ∧ z ≤ 9)
def okMap (y z : Int) : Bool := decide (1 ≤ y ∧ 1 ≤ z ∧ y ≤ 9 ∧ z ≤ 9 ∧ y * z ≤ 9)
def s_length (np : Nat) (Ps : Nat → cr_P) (z f v : Int) : Int := if vF np Ps z f then (if ¬ (1 ≤ v ∧ v ≤ 1000) then -102 else if cr_kd (Ps z.toNat) = 2 then -103 else (cr_ln (Ps z.toNat) f.toNat : Nat)) else -101
def s_lengthS (np : Nat) (Ps : Nat → cr_P) (z f v : Int) : Nat → cr_P := if vF np Ps z f then (if ¬ (1 ≤ v ∧ v ≤ 1000) then Ps else if cr_kd (Ps z.toNat) = 2 then Ps else va_up Ps z.toNat (setLn (Ps z.toNat) f.toNat v.toNat)) else Ps
def s_mark (np : Nat) (Ps : Nat → cr_P) (z f v : Int) : Int := if vC np Ps z f then (if ¬ (0 ≤ v ∧ v ≤ 2) then -102 else (cr_mk (Ps z.toNat) f.toNat : Nat)) else -101
def s_markS (np : Nat) (Ps : Nat → cr_P) (z f v : Int) : Nat → cr_P := if vC np Ps z f then (if ¬ (0 ≤ v ∧ v ≤ 2) then Ps else va_up Ps z.toNat (setMk (Ps z.toNat) f.toNat v.toNat)) else Ps
def s_about (np : Nat) (Ps : Nat → cr_P) (z w : Int) : Int := if vN np z then cr_about (Ps z.toNat) w else -101
def s_crease (np : Nat) (Ps : Nat → cr_P) (z f w : Int) : Int := if vC np Ps z f then cr_crease (Ps z.toNat) f.toNat w else -101
theorem okS_new {np : Nat} {Ps : Nat → cr_P} {P : cr_P} {td : Option (Nat × List Nat)} {cl : List Nat} {st : List Int} (O : okS np Ps td cl st) : okS (np + 1) (va_up Ps np P) td cl st := by
  refine ⟨?_, O.2⟩
  have := O.1
  cases td with
  | none => trivial
  | some t =>
    obtain ⟨q, l⟩ := t
    obtain ⟨h1, h2⟩ := this
    refine ⟨by omega, ?_⟩
    rw [va_up_ne _ _ (by omega)]
    exact h2
section MQ
variable {h : pz_H} {m np p : Nat} {V : Nat → Int} {A : Nat → Int → Int} {Ps : Nat → cr_P} {P : cr_P} {td : Option (Nat × List Nat)} {cl : List Nat} {st : List Int} {Q : Int32 → pz_H → Prop}
theorem MR.new {A' : Nat → Int → Int} {h' : pz_H} (O : okS np Ps td cl st) (W : mW V A np Ps td cl st) (R' : rM h' m (va_up V 0 ((np : Int) + 1)) A') (S' : mS (va_up V 0 ((np : Int) + 1)) A' (np + 1) (va_up Ps np P)) (e : ∀ j, 12 ≤ j → A' j = A j) : MR h' m (np + 1) (va_up Ps np P) td cl st := by
  refine ⟨okS_new O, _, A', R', S', ?_, ?_, ?_⟩
  · have := W.2.1
    unfold mT at this ⊢
    rw [e 15 (by decide), va_up_ne _ _ (by decide)]; exact this
  · have := W.2.2.1
    unfold mC at this ⊢
    rw [e 19 (by decide), va_up_ne _ _ (by decide)]; exact this
  · have := W.2.2.2
    unfold mL at this ⊢
    rw [e 22 (by decide), va_up_ne _ _ (by decide)]; exact this
theorem m_Strip {z : Int} (M : MR h m np Ps td cl st) (hz : iB z) (hq : ∀ h', MR h' m (s_newN np (okStrip z)) (s_newS np Ps (okStrip z) (newP 0 1 z.toNat)) td cl st → Fr m (m + 23) h h' → Q (iI (s_new np (okStrip z))) h') : F_X5_strip m (iI z) h Q := by
  obtain ⟨O, V, A, R, W⟩ := id M
  unfold s_newN s_newS s_new okStrip at hq
  refine m_strip R W.1 hz (fun c => ?_) (fun c1 c2 c3 => ?_) (fun n e c1 c2 c3 h' A' R' S' a f => ?_)
  · rw [decide_eq_false c] at hq; exact hq h M Fr.rf
  · rw [decide_eq_true ⟨c1, c2⟩, decide_eq_false (not_not_intro c3), if_pos rfl, if_pos c3] at hq; exact hq h M Fr.rf
  · subst e
    rw [decide_eq_true (show (1 : Int) ≤ (n : Int) ∧ (n : Int) ≤ 9 by omega), decide_eq_true (show np ≠ 30 by omega), if_pos rfl, if_neg (show ¬ np = 30 by omega)] at hq
    exact hq h' (MR.new O W R' S' a) f
theorem m_Corner {z : Int} (M : MR h m np Ps td cl st) (hz : iB z) (hq : ∀ h', MR h' m (s_newN np (okCorner z)) (s_newS np Ps (okCorner z) (newP 1 1 z.toNat)) td cl st → Fr m (m + 23) h h' → Q (iI (s_new np (okCorner z))) h') : F_X5_corner m (iI z) h Q := by
  obtain ⟨O, V, A, R, W⟩ := id M
  unfold s_newN s_newS s_new okCorner at hq
  refine m_corner R W.1 hz (fun c => ?_) (fun c1 c2 c3 => ?_) (fun n e c1 c2 c3 h' A' R' S' a f => ?_)
  · rw [decide_eq_false c] at hq; exact hq h M Fr.rf
  · rw [decide_eq_true ⟨c1, c2⟩, decide_eq_false (not_not_intro c3), if_pos rfl, if_pos c3] at hq; exact hq h M Fr.rf
  · subst e
    rw [decide_eq_true (show (2 : Int) ≤ (n : Int) ∧ (n : Int) ≤ 9 by omega), decide_eq_true (show np ≠ 30 by omega), if_pos rfl, if_neg (show ¬ np = 30 by omega)] at hq
    exact hq h' (MR.new O W R' S' a) f
theorem m_Map {y z : Int} (M : MR h m np Ps td cl st) (hy : iB y) (hz : iB z) (hq : ∀ h', MR h' m (s_newN np (okMap y z)) (s_newS np Ps (okMap y z) (newP 2 y.toNat z.toNat)) td cl st → Fr m (m + 23) h h' → Q (iI (s_new np (okMap y z))) h') : F_X5_map m (iI y) (iI z) h Q := by
  obtain ⟨O, V, A, R, W⟩ := id M
  unfold s_newN s_newS s_new okMap at hq
  refine m_map R W.1 hy hz (fun c => ?_) (fun c1 c3 => ?_) (fun r c e1 e2 sh c3 h' A' R' S' a f => ?_)
  · rw [decide_eq_false c] at hq; exact hq h M Fr.rf
  · rw [decide_eq_true c1, decide_eq_false (not_not_intro c3), if_pos rfl, if_pos c3] at hq; exact hq h M Fr.rf
  · subst e1; subst e2
    obtain ⟨-, s1, s2, s3, -⟩ := id sh
    obtain ⟨b1, b2⟩ := cr_small sh
    have s3' : (r : Int) * (c : Int) ≤ 9 := by rw [← Int.natCast_mul]; omega
    rw [decide_eq_true (show (1 : Int) ≤ (r : Int) ∧ (1 : Int) ≤ (c : Int) ∧ (r : Int) ≤ 9 ∧ (c : Int) ≤ 9 ∧ (r : Int) * (c : Int) ≤ 9 from ⟨by omega, by omega, by omega, by omega, s3'⟩), decide_eq_true (show np ≠ 30 by omega), if_pos rfl, if_neg (show ¬ np = 30 by omega)] at hq
    exact hq h' (MR.new O W R' S' a) f
theorem m_Length {z f v : Int} (M : MR h m np Ps td cl st) (hz : iB z) (hf : iB f) (hv : iB v) (hq : ∀ h', MR h' m np (s_lengthS np Ps z f v) td cl st → Fr m (m + 23) h h' → Q (iI (s_length np Ps z f v)) h') : F_X5_length m (iI z) (iI f) (iI v) h Q := by
  obtain ⟨O, V, A, R, W⟩ := id M
  unfold s_length s_lengthS at hq
  refine m_length R W.1 hz hf hv (fun c => ?_) (fun c1 c2 => ?_) (fun p g hp hg e1 e2 v1 v2 hk => ?_) (fun p g w hp hg e1 e2 e3 v1 v2 hk h' A' R' S' a fr => ?_)
  · rw [c] at hq; exact hq h M Fr.rf
  · rw [c1, if_pos rfl, if_pos rfl, if_pos c2, if_pos c2] at hq; exact hq h M Fr.rf
  · subst e1; subst e2
    have c1 : vF np Ps (p : Int) (g : Int) = true := by unfold vF; rw [vN_n hp, Bool.true_and, Int.toNat_natCast]; exact decide_eq_true (by omega)
    have n1 : ¬ ¬ (1 ≤ v ∧ v ≤ 1000) := by omega
    rw [c1, if_pos rfl, if_pos rfl, if_neg n1, if_neg n1, Int.toNat_natCast, if_pos hk, if_pos hk] at hq
    exact hq h M Fr.rf
  · subst e1; subst e2; subst e3
    have c1 : vF np Ps (p : Int) (g : Int) = true := by unfold vF; rw [vN_n hp, Bool.true_and, Int.toNat_natCast]; exact decide_eq_true (by omega)
    have n1 : ¬ ¬ (1 ≤ (w : Int) ∧ (w : Int) ≤ 1000) := by omega
    rw [c1, if_pos rfl, if_pos rfl, if_neg n1, if_neg n1, Int.toNat_natCast, if_neg hk, if_neg hk] at hq
    exact hq h' (MR.pap O W R' S' a rfl) fr
theorem m_Mark {z f v : Int} (M : MR h m np Ps td cl st) (hz : iB z) (hf : iB f) (hv : iB v) (hq : ∀ h', MR h' m np (s_markS np Ps z f v) td cl st → Fr m (m + 23) h h' → Q (iI (s_mark np Ps z f v)) h') : F_X5_mark m (iI z) (iI f) (iI v) h Q := by
  obtain ⟨O, V, A, R, W⟩ := id M
  unfold s_mark s_markS at hq
  refine m_mark R W.1 hz hf hv (fun c => ?_) (fun c1 c2 => ?_) (fun p g w hp hg e1 e2 e3 v2 h' A' R' S' a fr => ?_)
  · rw [c] at hq; exact hq h M Fr.rf
  · rw [c1, if_pos rfl, if_pos rfl, if_pos c2, if_pos c2] at hq; exact hq h M Fr.rf
  · subst e1; subst e2; subst e3
    have c1 : vC np Ps (p : Int) (g : Int) = true := by unfold vC; rw [vN_n hp, Bool.true_and, Int.toNat_natCast]; exact decide_eq_true (by omega)
    have n1 : ¬ ¬ (0 ≤ (w : Int) ∧ (w : Int) ≤ 2) := by omega
    rw [c1, if_pos rfl, if_pos rfl, if_neg n1, if_neg n1, Int.toNat_natCast] at hq
    exact hq h' (MR.pap O W R' S' a rfl) fr
theorem m_About {z w : Int} (M : MR h m np Ps td cl st) (hz : iB z) (hw : iB w) (hq : Q (iI (s_about np Ps z w)) h) : F_X5_about m (iI z) (iI w) h Q := by
  obtain ⟨O, V, A, R, W⟩ := id M
  unfold s_about at hq
  refine m_about R W.1 hz hw (fun c => ?_) (fun p hp e => ?_)
  · rw [c] at hq; exact hq
  · subst e; rw [vN_n hp] at hq; exact hq
theorem m_Crease {z f w : Int} (M : MR h m np Ps td cl st) (hz : iB z) (hf : iB f) (hw : iB w) (hq : Q (iI (s_crease np Ps z f w)) h) : F_X5_crease m (iI z) (iI f) (iI w) h Q := by
  obtain ⟨O, V, A, R, W⟩ := id M
  unfold s_crease at hq
  refine m_crease R W.1 hz hf hw (fun c => ?_) (fun p g hp hg e1 e2 => ?_)
  · rw [c] at hq; exact hq
  · subst e1; subst e2
    have c1 : vC np Ps (p : Int) (g : Int) = true := by unfold vC; rw [vN_n hp, Bool.true_and, Int.toNat_natCast]; exact decide_eq_true (by omega)
    rw [c1] at hq; exact hq
end MQ
