/-! BOTH ARE MADE: the class's cells and the reference's, and how they begin -/
def bx (h0 : pz_H) (c n : Nat) (g : Nat → pz_E) (h : pz_H) : Prop := h.2 = c + n ∧ (∀ j, j < n → h.1 (c + j) = some (g j)) ∧ ∀ q, q < c → h.1 q = h0.1 q
theorem bx_n {h0 h : pz_H} {c n : Nat} {g : Nat → pz_E} {e : pz_E} {K : Nat → pz_H → Prop} (B : bx h0 c n g h) (kk : ∀ h', bx h0 c (n + 1) (va_up g n e) h' → K (c + n) h') : pq_n h e K := by
  intro _
  obtain ⟨b1, b2, b3⟩ := B
  rw [b1]
  refine kk _ ⟨by show h.2 + 1 = _; omega, fun j hj => ?_, fun q hq => by rw [pz_nw_ne (by omega)]; exact b3 q hq⟩
  by_cases w : j = n
  · subst w
    rw [← b1, pz_nw_at, va_up_self]
  · rw [pz_nw_ne (by omega), va_up_ne _ _ w]; exact b2 j (by omega)
theorem bx_p {h0 h : pz_H} {c n j ci k : Nat} {g : Nat → pz_E} {fs : List Value} {v : Value} {K : pz_H → Prop} (B : bx h0 c n g h) (hj : j < n) (hg : g j = .inr (ci, fs)) (hk : k < fs.length) (kk : ∀ h', bx h0 c n (va_up g j (.inr (ci, fs.set k v))) h' → K h') : pq_p h (c + j) ci k v K := by
  obtain ⟨b1, b2, b3⟩ := B
  refine ⟨fs, by rw [b2 j hj, hg], hk, kk _ ⟨b1, fun i hi => ?_, fun q hq => by rw [pz_up_ne (by omega)]; exact b3 q hq⟩⟩
  by_cases w : i = j
  · subst w
    rw [pz_up_at, va_up_self]
  · rw [pz_up_ne (by omega), va_up_ne _ _ w]; exact b2 i hi
theorem bx_mul {h0 h : pz_H} {c n N k : Nat} {g : Nat → pz_E} {K : Nat → pz_H → Prop} (B : bx h0 c n g h) (kk : ∀ h', bx h0 c (n + 3) (va_up (va_up (va_up g n (out2 (c + n + 1) (c + n + 2))) (n + 1) (rg_c 0 k (fun _ => 0))) (n + 2) (rg_c 0 k (fun _ => 0))) h' → K (c + n) h') : pq_mul h N k K := by
  intro _
  obtain ⟨b1, b2, b3⟩ := B
  rw [b1]
  refine kk _ ⟨by show h.2 + 3 = _; omega, fun j hj => ?_, fun q hq => ?_⟩
  · show (if c + j = h.2 then _ else if c + j = h.2 + 1 ∨ c + j = h.2 + 2 then _ else h.1 (c + j)) = _
    by_cases w0 : j = n
    · subst w0
      rw [if_pos (by omega), va_up_ne _ _ (by omega), va_up_ne _ _ (by omega), va_up_self, b1]
      rfl
    · rw [if_neg (by omega)]
      by_cases w2 : j = n + 2
      · subst w2
        rw [if_pos (by omega), va_up_self]; rfl
      · by_cases w1 : j = n + 1
        · subst w1
          rw [if_pos (by omega), va_up_ne _ _ (by omega), va_up_self]; rfl
        · rw [if_neg (by omega), va_up_ne _ _ w2, va_up_ne _ _ w1, va_up_ne _ _ w0]
          exact b2 j (by omega)
  · show (if q = h.2 then _ else if q = h.2 + 1 ∨ q = h.2 + 2 then _ else h.1 q) = _
    rw [if_neg (by omega), if_neg (by omega)]
    exact b3 q hq
def x4_fs : List Value := [.null, .int 0, .null, .null, .null, .null, .null, .null, .null, .null, .int 0, .null, .null, .null, .int 0]
def x2_fs : List Value := [.null, .null, .null, .int 0, .int 0, .null, .int 0, .null, .null, .int 0]
/-- a pile is made -/
theorem bx_pile {h0 h : pz_H} {c n j : Nat} {g : Nat → pz_E} {K : pz_H → Prop} (B : bx h0 c n g h) (hn : n = j + 1) (hg : g j = .inr (2, x2_fs)) (kk : ∀ h' g', bx h0 c (j + 6) g' h' → (∀ i, i < j → g' i = g i) → rQ h' (c + j) (fun k => if k = 0 then -1 else 0) (fun _ _ => 0) → K h') : F_X2_init (c + j) h K := by
  subst hn
  unfold F_X2_init
  have hx : j < j + 1 := by omega
  have L : ∀ (fs : List Value) (i : Nat) (v : Value), (fs.set i v).length = fs.length := fun fs i v => List.length_set
  have l0 : x2_fs.length = 10 := rfl
  refine bx_p B (by omega) hg (by rw [l0]; omega) fun h B => ?_
  refine bx_n B fun h B => ?_
  refine bx_p B (by omega) ((va_up_ne _ _ (by omega)).trans va_up_at) (by simp only [L, l0]; omega) fun h B => ?_
  refine bx_n B fun h B => ?_
  refine bx_p B (by omega) ((va_up_ne _ _ (by omega)).trans va_up_at) (by simp only [L, l0]; omega) fun h B => ?_
  refine bx_p B (by omega) va_up_at (by simp only [L, l0]; omega) fun h B => ?_
  refine bx_p B (by omega) va_up_at (by simp only [L, l0]; omega) fun h B => ?_
  refine bx_n B fun h B => ?_
  refine bx_p B (by omega) ((va_up_ne _ _ (by omega)).trans va_up_at) (by simp only [L, l0]; omega) fun h B => ?_
  refine bx_p B (by omega) va_up_at (by simp only [L, l0]; omega) fun h B => ?_
  refine bx_n B fun h B => ?_
  refine bx_p B (by omega) ((va_up_ne _ _ (by omega)).trans va_up_at) (by simp only [L, l0]; omega) fun h B => ?_
  refine bx_n B fun h B => ?_
  refine bx_p B (by omega) ((va_up_ne _ _ (by omega)).trans va_up_at) (by simp only [L, l0]; omega) fun h B => ?_
  refine bx_p B (by omega) va_up_at (by simp only [L, l0]; omega) fun h B => ?_
  refine kk h _ B (fun i hi => ?_) ⟨?_, fun i i1 i2 => ?_⟩
  · repeat rw [va_up_ne _ _ (by omega)]
  · rw [B.2.1 j (by omega), va_up_self]
    rfl
  · have e := B.2.1 (j + i) (by omega)
    rw [← Nat.add_assoc] at e
    rw [e]
    congr 1
    match i, i1, i2 with
    | 1, _, _ => repeat (first | rw [va_up_ne _ _ (by omega)] | (rw [va_up_self]; rfl))
    | 2, _, _ => repeat (first | rw [va_up_ne _ _ (by omega)] | (rw [va_up_self]; rfl))
    | 3, _, _ => repeat (first | rw [va_up_ne _ _ (by omega)] | (rw [va_up_self]; rfl))
    | 4, _, _ => repeat (first | rw [va_up_ne _ _ (by omega)] | (rw [va_up_self]; rfl))
    | 5, _, _ => repeat (first | rw [va_up_ne _ _ (by omega)] | (rw [va_up_self]; rfl))
    | i + 6, _, _ => omega
