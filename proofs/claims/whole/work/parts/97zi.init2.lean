/-! BOTH ARE MADE: lay, ways, the class, the reference -/
theorem lay_init {h0 h : pz_H} {a : Nat} {K : pz_H → Prop} (B : bx h0 a 1 (fun _ => .inr (0, [.int 0, .null, .null])) h) (kk : ∀ h', h'.2 = a + 7 → (∀ q, q < a → h'.1 q = h0.1 q) → rY h' a 0 (fun _ _ => 0) → K h') : F_X0_init a h K := by
  unfold F_X0_init
  refine bx_p (j := 0) B (by omega) rfl (Nat.le_of_ble_eq_true rfl) fun h B => ?_
  refine bx_mul B fun h B => ?_
  refine bx_p (j := 0) B (by omega) rfl (Nat.le_of_ble_eq_true rfl) fun h B => ?_
  refine bx_mul B fun h B => ?_
  refine bx_p (j := 0) B (by omega) rfl (Nat.le_of_ble_eq_true rfl) fun h B => ?_
  obtain ⟨b1, b2, b3⟩ := B
  refine kk h b1 b3 ⟨b2 0 (by decide), b2 1 (by decide), b2 4 (by decide), fun b => ?_⟩
  cases b with
  | false => exact ⟨b2 2 (by decide), b2 5 (by decide)⟩
  | true => exact ⟨b2 3 (by decide), b2 6 (by decide)⟩
theorem ways_init {h0 h : pz_H} {a : Nat} {K : pz_H → Prop} (B : bx h0 a 1 (fun _ => .inr (3, [.null, .null, .null])) h) (kk : ∀ h', h'.2 = a + 4 → (∀ q, q < a → h'.1 q = h0.1 q) → rW h' a (fun _ => 0) (fun _ _ => 0) → K h') : F_X3_init a h K := by
  unfold F_X3_init
  refine bx_n B fun h B => ?_
  refine bx_p (j := 0) B (by omega) rfl (Nat.le_of_ble_eq_true rfl) fun h B => ?_
  refine bx_n B fun h B => ?_
  refine bx_p (j := 0) B (by omega) rfl (Nat.le_of_ble_eq_true rfl) fun h B => ?_
  refine bx_n B fun h B => ?_
  refine bx_p (j := 0) B (by omega) rfl (Nat.le_of_ble_eq_true rfl) fun h B => ?_
  obtain ⟨b1, b2, b3⟩ := B
  refine kk h b1 b3 ⟨b2 0 (by decide), fun i i1 i2 => ?_⟩
  match i, i1, i2 with
  | 1, _, _ => exact b2 1 (by decide)
  | 2, _, _ => exact b2 2 (by decide)
  | 3, _, _ => exact b2 3 (by decide)
  | i + 4, _, _ => omega
def vQ (k : Nat) : Int := if k = 0 then -1 else 0
/-- what the class's cells hold when it is new -/
def c4C (c j : Nat) : pz_E := match j with
  | 1 => .inl (2, 30, .inr (.inr (.inr (.inr (fun _ => none)))))
  | 2 => .inr (2, fQ (c + 2) vQ)
  | 3 => rg_c 0 9 (fun _ => 0) | 4 => rg_c 0 9 (fun _ => 0) | 5 => rg_c 0 9 (fun _ => 0) | 6 => rg_c 0 10 (fun _ => 0) | 7 => rg_c 0 10 (fun _ => 0)
  | 8 => .inr (2, fQ (c + 8) vQ)
  | 9 => rg_c 0 9 (fun _ => 0) | 10 => rg_c 0 9 (fun _ => 0) | 11 => rg_c 0 9 (fun _ => 0) | 12 => rg_c 0 10 (fun _ => 0) | 13 => rg_c 0 10 (fun _ => 0)
  | 14 => rg_c 0 9 (fun _ => 0) | 15 => rg_c 0 9 (fun _ => 0) | 16 => rg_c 0 9 (fun _ => 0)
  | 17 => .inl (1, 64, .inr (.inl (fun _ => 0)))
  | 18 => rg_c 0 12 (fun _ => 0)
  | 19 => .inr (0, [.int (iI 0), .ref (c + 19 + 1), .ref (c + 19 + 4)])
  | 20 => out2 (c + 19 + 2) (c + 19 + 3)
  | 21 => rg_c 0 10 (fun _ => 0) | 22 => rg_c 0 10 (fun _ => 0)
  | 23 => out2 (c + 19 + 5) (c + 19 + 6)
  | 24 => rg_c 0 9 (fun _ => 0) | 25 => rg_c 0 9 (fun _ => 0)
  | 26 => .inr (3, fW (c + 26) (fun _ => 0))
  | 27 => rg_c 0 256 (fun _ => 0) | 28 => rg_c 0 256 (fun _ => 0) | 29 => rg_c 0 256 (fun _ => 0)
  | _ => rg_c 0 8 (fun _ => 0)
theorem bl_sub {ci a n k : Nat} {C : Nat → pz_E} {h0 h h' : pz_H} {fs : List Value} (B : bl ci C h0 a fs n h) (e1 : h'.2 = a + n + 1 + k) (e2 : ∀ q, q < a + n + 1 → h'.1 q = h.1 q) (e3 : ∀ i, i < k → h'.1 (a + n + 1 + i) = some (C (n + 1 + i))) : bl ci C h0 a fs (n + k) h' := by
  obtain ⟨b1, b2, b3, b4⟩ := B
  refine ⟨by rw [e2 _ (by omega)]; exact b1, fun j h1 h2 => ?_, by omega, fun q hq => by rw [e2 _ (by omega)]; exact b4 q hq⟩
  by_cases w : j ≤ n
  · rw [e2 _ (by omega)]; exact b2 j h1 w
  · have := e3 (j - (n + 1)) (by omega)
    rw [show a + n + 1 + (j - (n + 1)) = a + j by omega, show n + 1 + (j - (n + 1)) = j by omega] at this
    exact this
theorem bl_bx {ci a n : Nat} {C : Nat → pz_E} {h0 h : pz_H} {fs : List Value} (B : bl ci C h0 a fs n h) (e : pz_E) : bx h (a + n + 1) 1 (fun _ => e) (pz_nw h e) := by
  have := B.2.2.1
  refine ⟨by show h.2 + 1 = _; omega, fun j hj => ?_, fun q hq => pz_nw_ne (by omega)⟩
  have e0 : j = 0 := by omega
  subst e0
  rw [Nat.add_zero, ← this, pz_nw_at]
section I1
variable {c n : Nat} {h0 h : pz_H} {fs : List Value} {K : Nat → pz_H → Prop}
theorem bl_pile (B : bl 4 (c4C c) h0 c fs n h) (hn : n = 1 ∨ n = 7) (kk : ∀ h', bl 4 (c4C c) h0 c fs (n + 6) h' → K (c + n + 1) h') : pq_n h (.inr (2, [.null, .null, .null, .int 0, .int 0, .null, .int 0, .null, .null, .int 0])) (fun q h1 => F_X2_init q h1 (fun h2 => K q h2)) := by
  intro _
  have Bx := bl_bx B (.inr (2, x2_fs))
  have e := B.2.2.1
  rw [e]
  refine bx_pile (j := 0) Bx rfl rfl (fun h' g' b1 b2 R => ?_)
  refine kk h' (bl_sub B b1.1 (fun q hq => b1.2.2 q hq) (fun i hi => ?_))
  obtain ⟨r1, r2⟩ := R
  rcases hn with rfl | rfl
  · match i, hi with
    | 0, _ => exact r1
    | 1, _ => exact r2 1 (by decide) (by decide)
    | 2, _ => exact r2 2 (by decide) (by decide)
    | 3, _ => exact r2 3 (by decide) (by decide)
    | 4, _ => exact r2 4 (by decide) (by decide)
    | 5, _ => exact r2 5 (by decide) (by decide)
    | i + 6, hi => omega
  · match i, hi with
    | 0, _ => exact r1
    | 1, _ => exact r2 1 (by decide) (by decide)
    | 2, _ => exact r2 2 (by decide) (by decide)
    | 3, _ => exact r2 3 (by decide) (by decide)
    | 4, _ => exact r2 4 (by decide) (by decide)
    | 5, _ => exact r2 5 (by decide) (by decide)
    | i + 6, hi => omega
theorem bl_lay (B : bl 4 (c4C c) h0 c fs 18 h) (kk : ∀ h', bl 4 (c4C c) h0 c fs 25 h' → K (c + 19) h') : pq_n h (.inr (0, [.int 0, .null, .null])) (fun q h1 => F_X0_init q h1 (fun h2 => K q h2)) := by
  intro _
  have Bx := bl_bx B (.inr (0, [.int 0, .null, .null]))
  have e := B.2.2.1
  rw [e]
  refine lay_init Bx (fun h' b1 b2 R => ?_)
  refine kk h' (bl_sub (k := 7) B b1 b2 (fun i hi => ?_))
  obtain ⟨r0, r1, r4, ra⟩ := R
  match i, hi with
  | 0, _ => exact r0
  | 1, _ => exact r1
  | 2, _ => exact (ra false).1
  | 3, _ => exact (ra true).1
  | 4, _ => exact r4
  | 5, _ => exact (ra false).2
  | 6, _ => exact (ra true).2
  | i + 7, hi => omega
theorem bl_ways (B : bl 4 (c4C c) h0 c fs 25 h) (kk : ∀ h', bl 4 (c4C c) h0 c fs 29 h' → K (c + 26) h') : pq_n h (.inr (3, [.null, .null, .null])) (fun q h1 => F_X3_init q h1 (fun h2 => K q h2)) := by
  intro _
  have Bx := bl_bx B (.inr (3, [.null, .null, .null]))
  have e := B.2.2.1
  rw [e]
  refine ways_init Bx (fun h' b1 b2 R => ?_)
  refine kk h' (bl_sub (k := 4) B b1 b2 (fun i hi => ?_))
  obtain ⟨r0, r1⟩ := R
  match i, hi with
  | 0, _ => exact r0
  | 1, _ => exact r1 1 (by decide) (by decide)
  | 2, _ => exact r1 2 (by decide) (by decide)
  | 3, _ => exact r1 3 (by decide) (by decide)
  | i + 4, hi => omega
end I1
theorem x4_init {c : Nat} {h0 h : pz_H} {K : pz_H → Prop} (B : bl 4 (c4C c) h0 c x4_fs 0 h) (kk : ∀ h', bl 4 (c4C c) h0 c (fX c (fun k => if k = 4 then -1 else 0)) 30 h' → K h') : F_X4_init c h K := by
  unfold F_X4_init
  have B := show bl 4 (c4C c) h0 c (fl 15 (fun i => x4_fs.getD i .null)) 0 h from B
  refine bl_n B rfl fun h B => bf_p B (by decide) fun h B => ?_
  refine bf_p B (by decide) fun h B => ?_
  refine bl_pile B (Or.inl rfl) fun h B => bf_p B (by decide) fun h B => ?_
  refine bl_pile B (Or.inr rfl) fun h B => bf_p B (by decide) fun h B => ?_
  refine bf_p B (by decide) fun h B => ?_
  refine bl_n B rfl fun h B => bf_p B (by decide) fun h B => ?_
  refine bl_n B rfl fun h B => bf_p B (by decide) fun h B => ?_
  refine bl_n B rfl fun h B => bf_p B (by decide) fun h B => ?_
  refine bl_n B rfl fun h B => bf_p B (by decide) fun h B => ?_
  refine bl_n B rfl fun h B => bf_p B (by decide) fun h B => ?_
  refine bf_p B (by decide) fun h B => ?_
  refine bl_lay B fun h B => bf_p B (by decide) fun h B => ?_
  refine bl_ways B fun h B => bf_p B (by decide) fun h B => ?_
  refine bl_n B rfl fun h B => bf_p B (by decide) fun h B => ?_
  refine bf_p B (by decide) fun h B => ?_
  exact kk h B
theorem CR_new {c : Nat} {h : pz_H} {Ps : Nat → cr_P} (B : ∀ j, j ≤ 30 → 1 ≤ j → h.1 (c + j) = some (c4C c j)) (B0 : h.1 c = some (.inr (4, fX c (fun k => if k = 4 then -1 else 0)))) (e : h.2 = c + 54) : CR h c 0 Ps none [] [] := by
  have g : ∀ j, 1 ≤ j → j ≤ 30 → h.1 (c + j) = some (c4C c j) := fun j h1 h2 => B j h2 h1
  refine ⟨⟨trivial, Nat.zero_le _, Nat.zero_le _⟩, ⟨_, fun _ => 0, fun _ => 0, fun _ => 0, fun _ => 0, ⟨⟨B0, fun j h1 h2 => by omega⟩, rfl, rfl, rfl, rfl⟩, ⟨g 14 (by decide) (by decide), g 15 (by decide) (by decide), trivial⟩, ⟨g 18 (by decide) (by decide), fun i hi => by simp at hi⟩, g 30 (by decide) (by decide), fun i hi => by simp at hi⟩, ⟨⟨vQ, fun _ _ => 0, g 2 (by decide) (by decide), fun i i1 i2 => ?_⟩, ⟨vQ, fun _ _ => 0, g 8 (by decide) (by decide), fun i i1 i2 => ?_⟩, ⟨fun _ => 0, g 16 (by decide) (by decide)⟩, ⟨fun _ => 0, g 17 (by decide) (by decide)⟩, ⟨0, fun _ _ => 0, ⟨g 19 (by decide) (by decide), g 20 (by decide) (by decide), g 23 (by decide) (by decide), fun b => ?_⟩, fun _ => rfl⟩, fun _ => 0, fun _ _ => 0, g 26 (by decide) (by decide), fun i i1 i2 => ?_⟩, ?_, fun i hi => by omega, e, by omega⟩
  · match i, i1, i2 with
    | 1, _, _ => exact g 3 (by decide) (by decide)
    | 2, _, _ => exact g 4 (by decide) (by decide)
    | 3, _, _ => exact g 5 (by decide) (by decide)
    | 4, _, _ => exact g 6 (by decide) (by decide)
    | 5, _, _ => exact g 7 (by decide) (by decide)
    | i + 6, _, _ => omega
  · match i, i1, i2 with
    | 1, _, _ => exact g 9 (by decide) (by decide)
    | 2, _, _ => exact g 10 (by decide) (by decide)
    | 3, _, _ => exact g 11 (by decide) (by decide)
    | 4, _, _ => exact g 12 (by decide) (by decide)
    | 5, _, _ => exact g 13 (by decide) (by decide)
    | i + 6, _, _ => omega
  · cases b with
    | false => exact ⟨g 21 (by decide) (by decide), g 24 (by decide) (by decide)⟩
    | true => exact ⟨g 22 (by decide) (by decide), g 25 (by decide) (by decide)⟩
  · match i, i1, i2 with
    | 1, _, _ => exact g 27 (by decide) (by decide)
    | 2, _, _ => exact g 28 (by decide) (by decide)
    | 3, _, _ => exact g 29 (by decide) (by decide)
    | i + 4, _, _ => omega
  · unfold pAr
    rw [g 1 (by decide) (by decide)]
    have : (fun i => if i < 0 then some (pA c i) else none) = fun _ => (none : Option Nat) := by
      funext i
      rw [if_neg (by omega)]
    rw [this]
    rfl
def x5_fs : List Value := [.int 0, .null, .null, .null, .null, .null, .null, .null, .null, .null, .null, .null, .int 0, .int 0, .null, .int 0, .null, .null, .int 0, .null, .null, .null, .null, .null, .int 0, .null, .null, .null, .int 0]
theorem x5_init {m : Nat} {h0 h : pz_H} {K : pz_H → Prop} (B : bl 5 (fun j => rg_c (tM j) (lM j) (fun _ => 0)) h0 m x5_fs 0 h) (kk : ∀ h', rM h' m (fun k => if k = 18 then -1 else 0) (fun _ _ => 0) → h'.2 = m + 23 → (∀ q, q < m → h'.1 q = h0.1 q) → K h') : F_X5_init m h K := by
  unfold F_X5_init
  have B := show bl 5 (fun j => rg_c (tM j) (lM j) (fun _ => 0)) h0 m (fl 29 (fun i => x5_fs.getD i .null)) 0 h from B
  refine bl_n B rfl fun h B => bf_p B (by decide) fun h B => ?_
  refine bl_n B rfl fun h B => bf_p B (by decide) fun h B => ?_
  refine bl_n B rfl fun h B => bf_p B (by decide) fun h B => ?_
  refine bl_n B rfl fun h B => bf_p B (by decide) fun h B => ?_
  refine bl_n B rfl fun h B => bf_p B (by decide) fun h B => ?_
  refine bl_n B rfl fun h B => bf_p B (by decide) fun h B => ?_
  refine bl_n B rfl fun h B => bf_p B (by decide) fun h B => ?_
  refine bl_n B rfl fun h B => bf_p B (by decide) fun h B => ?_
  refine bl_n B rfl fun h B => bf_p B (by decide) fun h B => ?_
  refine bl_n B rfl fun h B => bf_p B (by decide) fun h B => ?_
  refine bl_n B rfl fun h B => bf_p B (by decide) fun h B => ?_
  refine bl_n B rfl fun h B => bf_p B (by decide) fun h B => ?_
  refine bl_n B rfl fun h B => bf_p B (by decide) fun h B => ?_
  refine bl_n B rfl fun h B => bf_p B (by decide) fun h B => ?_
  refine bf_p B (by decide) fun h B => ?_
  refine bl_n B rfl fun h B => bf_p B (by decide) fun h B => ?_
  refine bl_n B rfl fun h B => bf_p B (by decide) fun h B => ?_
  refine bl_n B rfl fun h B => bf_p B (by decide) fun h B => ?_
  refine bl_n B rfl fun h B => bf_p B (by decide) fun h B => ?_
  refine bl_n B rfl fun h B => bf_p B (by decide) fun h B => ?_
  refine bl_n B rfl fun h B => bf_p B (by decide) fun h B => ?_
  refine bl_n B rfl fun h B => bf_p B (by decide) fun h B => ?_
  refine bl_n B rfl fun h B => bf_p B (by decide) fun h B => ?_
  refine kk h ⟨?_, fun j q1 q2 => B.2.1 j q1 q2⟩ B.2.2.1 B.2.2.2
  rw [B.1]
  rfl
theorem MR_new {m : Nat} {h : pz_H} {Ps : Nat → cr_P} (R : rM h m (fun k => if k = 18 then -1 else 0) (fun _ _ => 0)) : MR h m 0 Ps none [] [] := ⟨⟨trivial, Nat.zero_le _, Nat.zero_le _⟩, _, _, R, ⟨rfl, Nat.zero_le _, fun p hp => by omega⟩, rfl, ⟨rfl, fun i hi => by simp at hi⟩, rfl, fun i hi => by simp at hi⟩
