/-! THE REFERENCE: strip, corner, map -/
def newP (k r c : Nat) : cr_P := (k, r, c, fun _ => 1, fun _ => 0, 0, 0)
def st_L (i : Nat) : List (Nat × Nat) := (List.range i).map (fun i => (i, i + 1))
def co_L (n i : Nat) : List (Nat × Nat) := (List.range i).map (fun i => (i, (i + 1) % n))
def h1_L (c i j : Nat) : List (Nat × Nat) := (List.range j).map (fun j => (i * c + j, i * c + j + 1))
def h2_L (c i : Nat) : List (Nat × Nat) := (List.range i).flatMap (fun i => h1_L c i (c - 1))
def v1_L (c i j : Nat) : List (Nat × Nat) := (List.range j).map (fun j => (i * c + j, i * c + j + c))
def v2_L (c i : Nat) : List (Nat × Nat) := (List.range i).flatMap (fun i => v1_L c i c)
theorem st_L_ok : ∀ n, n < 10 → n ≠ 0 → st_L (n - 1) = cr_cs 0 1 n := by decide +kernel
theorem co_L_ok : ∀ n, n < 10 → ¬ n < 2 → co_L n n = cr_cs 1 1 n := by decide +kernel
theorem ma_L_ok : ∀ r, r < 10 → ∀ c, c < 10 → (!(decide (r ≠ 0) && (decide (c ≠ 0) && decide (r * c ≤ 9))) || decide (h2_L c r ++ v2_L c (r - 1) = cr_cs 2 r c)) = true := by decide +kernel
theorem ma_L_eq {r c : Nat} (hs : cr_shape 2 r c) : h2_L c r ++ v2_L c (r - 1) = cr_cs 2 r c := by
  obtain ⟨h1, h2⟩ := cr_small hs
  obtain ⟨-, a2, a3, a4, -⟩ := hs
  have := ma_L_ok r h1 c h2
  rw [show (decide (r ≠ 0) && (decide (c ≠ 0) && decide (r * c ≤ 9))) = true by simp; omega] at this
  simpa using this
theorem ma_B : ∀ r, r < 10 → ∀ c, c < 10 → (!(decide (r * c ≤ 9)) || decide (r * (c - 1) + (r - 1) * c ≤ 12)) = true := by decide +kernel
theorem h2_len (c : Nat) : ∀ i, (h2_L c i).length = i * (c - 1)
  | 0 => by simp [h2_L]
  | i + 1 => by
    have := h2_len c i
    unfold h2_L at this ⊢
    rw [List.range_succ, List.flatMap_append, List.length_append, this]
    simp [h1_L, Nat.succ_mul]
theorem v2_len (c : Nat) : ∀ i, (v2_L c i).length = i * c
  | 0 => by simp [v2_L]
  | i + 1 => by
    have := v2_len c i
    unfold v2_L at this ⊢
    rw [List.range_succ, List.flatMap_append, List.length_append, this]
    simp [v1_L, Nat.succ_mul]
theorem h2_succ (c i : Nat) : h2_L c i ++ h1_L c i (c - 1) = h2_L c (i + 1) := by
  unfold h2_L
  rw [List.range_succ, List.flatMap_append]
  simp
theorem v2_succ (c i : Nat) : v2_L c i ++ v1_L c i c = v2_L c (i + 1) := by
  unfold v2_L
  rw [List.range_succ, List.flatMap_append]
  simp
section M4
variable {h : pz_H} {m np : Nat} {V : Nat → Int} {A : Nat → Int → Int} {Ps : Nat → cr_P} {Q : Int32 → pz_H → Prop}
theorem m_newS {p k r c : Nat} {A' : Nat → Int → Int} (S : mS V A p Ps) (hp : p < 30) (H : mQ A' p k r c (cr_cs k r c)) (hs : cr_shape k r c) (K : mK p A A') : mS (va_up V 0 ((p : Int) + 1)) A' (p + 1) (va_up Ps p (newP k r c)) := by
  refine ⟨by rw [va_up_self]; simp, by omega, fun q hq => ?_⟩
  by_cases e : q = p
  · subst e
    rw [va_up_self]
    exact H.P hs
  · rw [va_up_ne _ _ e]
    exact K.1 q _ e (S.2.2 q (by omega))
theorem m_strip_loop {p n : Nat} (hp : p < 30) (hn : n ≤ 9) : ∀ (d u i : Nat) (h : pz_H) (A : Nat → Int → Int), i + d + 1 = n → d < u → rM h m V A → mQ A p 0 1 n (st_L i) → (∀ h' A', rM h' m V A' → mQ A' p 0 1 n (st_L (n - 1)) → mK p A A' → Fr m (m + 23) h h' → Q (iI p) h') → L_X5_strip_35 m (iI n) (iI p) Q u (iI i) h := by
  intro d
  induction d with
  | zero =>
    intro u i h A hi hu R H hq
    obtain ⟨u, rfl⟩ : ∃ v, u = v + 1 := ⟨u - 1, by omega⟩
    unfold L_X5_strip_35
    simp only [iI_lit, iI_add]
    refine br_le (by omega) (by omega) (fun c => ?_) (fun c => by omega)
    exact hq h A R (by rw [show n - 1 = i by omega]; exact H) mK.rf Fr.rf
  | succ d ih =>
    intro u i h A hi hu R H hq
    obtain ⟨u, rfl⟩ : ∃ v, u = v + 1 := ⟨u - 1, by omega⟩
    unfold L_X5_strip_35
    simp only [iI_lit, iI_add]
    have e : ((i : Int) + OfNat.ofNat 1) = ((i + 1 : Nat) : Int) := by simp
    rw [e]
    refine br_le (by omega) (by omega) (fun c => by omega) (fun c => ?_)
    refine rg_o R (m_addC R hp H (by simp [st_L]; omega) fun h1 A1 R1 H1 K1 f1 => ?_)
    have e2 : st_L i ++ [(i, i + 1)] = st_L (i + 1) := by
      unfold st_L; rw [List.range_succ, List.map_append]; rfl
    rw [e2] at H1
    exact ih u (i + 1) h1 A1 (by omega) (by omega) R1 H1 fun h' A' R' H' K' f' => hq h' A' R' H' (K1.tr K') (f1.tr f')
theorem m_strip {z : Int} (R : rM h m V A) (S : mS V A np Ps) (hz : iB z) (h1 : ¬ (1 ≤ z ∧ z ≤ 9) → Q (-102) h) (h2 : 1 ≤ z → z ≤ 9 → np = 30 → Q (-104) h) (h3 : ∀ n : Nat, z = n → 1 ≤ n → n ≤ 9 → np < 30 → ∀ h' A', rM h' m (va_up V 0 ((np : Int) + 1)) A' → mS (va_up V 0 ((np : Int) + 1)) A' (np + 1) (va_up Ps np (newP 0 1 n)) → (∀ j, 12 ≤ j → A' j = A j) → Fr m (m + 23) h h' → Q (iI np) h') : F_X5_strip m (iI z) h Q := by
  unfold F_X5_strip B_X5_strip_11
  refine br_lt (b := 1) hz (by omega) (fun c => h1 (by omega)) (fun c => ?_)
  refine br_le (b := 9) hz (by omega) (fun c2 => ?_) (fun c2 => h1 (by omega))
  refine rg_gI R rfl ?_
  rw [S.1]
  have := S.2.1
  refine br_eq (b := 30) (by omega) (by omega) (fun c3 => h2 c c2 (by omega)) (fun c3 => ?_)
  obtain ⟨n, rfl⟩ : ∃ n : Nat, z = n := ⟨z.toNat, by omega⟩
  refine rg_o R (m_add (k := 0) R (by omega) S.1 fun hA A1 R1 H1 K1 f1 => ?_)
  refine ⟨20, m_strip_loop (by omega) (by omega) (n - 1) 20 0 hA A1 (by omega) (by omega) R1 H1 fun h' A' R' H' K' f' => ?_⟩
  rw [st_L_ok n (by omega) (by omega)] at H'
  exact h3 n rfl (by omega) (by omega) (by omega) h' A' R' (m_newS S (by omega) H' ⟨by omega, by omega, by omega, by omega, fun _ => rfl, fun z => by omega⟩ (K1.tr K')) (fun j hj => (K1.tr K').2 j hj) (f1.tr f')
theorem m_rem {a n : Nat} (ha : a < 1000) (hn : 0 < n) (hn2 : n < 1000) : iI (a : Int) - iI (a : Int) / iI (n : Int) * iI (n : Int) = iI ((a % n : Nat) : Int) := by
  rw [iI_nat, iI_nat, iI_nat]
  exact pk_rem (by omega) hn (by omega)
theorem m_corner_loop {p n : Nat} (hp : p < 30) (hn : n ≤ 9) (hn2 : 2 ≤ n) : ∀ (d u i : Nat) (h : pz_H) (A : Nat → Int → Int), i + d = n → d < u → rM h m V A → mQ A p 1 1 n (co_L n i) → (∀ h' A', rM h' m V A' → mQ A' p 1 1 n (co_L n n) → mK p A A' → Fr m (m + 23) h h' → Q (iI p) h') → L_X5_corner_35 m (iI n) (iI p) Q u (iI i) h := by
  intro d
  induction d with
  | zero =>
    intro u i h A hi hu R H hq
    obtain ⟨u, rfl⟩ : ∃ v, u = v + 1 := ⟨u - 1, by omega⟩
    unfold L_X5_corner_35
    refine br_le (by omega) (by omega) (fun c => ?_) (fun c => by omega)
    exact hq h A R (by rw [show i = n by omega] at H; exact H) mK.rf Fr.rf
  | succ d ih =>
    intro u i h A hi hu R H hq
    obtain ⟨u, rfl⟩ : ∃ v, u = v + 1 := ⟨u - 1, by omega⟩
    unfold L_X5_corner_35
    simp only [iI_lit, iI_add]
    have e : ((i : Int) + OfNat.ofNat 1) = ((i + 1 : Nat) : Int) := by simp
    rw [e, m_rem (by omega) (by omega) (by omega)]
    refine br_le (by omega) (by omega) (fun c => by omega) (fun c => ⟨?_, ?_⟩)
    · rw [iI_nat, nu_z (by omega)]; omega
    refine rg_o R (m_addC R hp H (by simp [co_L]; omega) fun h1 A1 R1 H1 K1 f1 => ?_)
    have e2 : co_L n i ++ [(i, (i + 1) % n)] = co_L n (i + 1) := by
      unfold co_L; rw [List.range_succ, List.map_append]; rfl
    rw [e2] at H1
    exact ih u (i + 1) h1 A1 (by omega) (by omega) R1 H1 fun h' A' R' H' K' f' => hq h' A' R' H' (K1.tr K') (f1.tr f')
theorem m_corner {z : Int} (R : rM h m V A) (S : mS V A np Ps) (hz : iB z) (h1 : ¬ (2 ≤ z ∧ z ≤ 9) → Q (-102) h) (h2 : 2 ≤ z → z ≤ 9 → np = 30 → Q (-104) h) (h3 : ∀ n : Nat, z = n → 2 ≤ n → n ≤ 9 → np < 30 → ∀ h' A', rM h' m (va_up V 0 ((np : Int) + 1)) A' → mS (va_up V 0 ((np : Int) + 1)) A' (np + 1) (va_up Ps np (newP 1 1 n)) → (∀ j, 12 ≤ j → A' j = A j) → Fr m (m + 23) h h' → Q (iI np) h') : F_X5_corner m (iI z) h Q := by
  unfold F_X5_corner B_X5_corner_11
  refine br_lt (b := 2) hz (by omega) (fun c => h1 (by omega)) (fun c => ?_)
  refine br_le (b := 9) hz (by omega) (fun c2 => ?_) (fun c2 => h1 (by omega))
  refine rg_gI R rfl ?_
  rw [S.1]
  have := S.2.1
  refine br_eq (b := 30) (by omega) (by omega) (fun c3 => h2 c c2 (by omega)) (fun c3 => ?_)
  obtain ⟨n, rfl⟩ : ∃ n : Nat, z = n := ⟨z.toNat, by omega⟩
  refine rg_o R (m_add (k := 1) R (by omega) S.1 fun hA A1 R1 H1 K1 f1 => ?_)
  refine ⟨20, m_corner_loop (by omega) (by omega) (by omega) n 20 0 hA A1 (by omega) (by omega) R1 H1 fun h' A' R' H' K' f' => ?_⟩
  rw [co_L_ok n (by omega) (by omega)] at H'
  exact h3 n rfl (by omega) (by omega) (by omega) h' A' R' (m_newS S (by omega) H' ⟨by omega, by omega, by omega, by omega, fun _ => rfl, fun z => by omega⟩ (K1.tr K')) (fun j hj => (K1.tr K').2 j hj) (f1.tr f')
/-- a row's creases between its columns -/
theorem m_map_h1 {p r c i : Nat} {kk : Int32 → pz_H → Prop} (hp : p < 30) (hs : cr_shape 2 r c) (hi : i < r) : ∀ (d u j : Nat) (h : pz_H) (A : Nat → Int → Int), j + d + 1 = c → d < u → rM h m V A → mQ A p 2 r c (h2_L c i ++ h1_L c i j) → (∀ h' A', rM h' m V A' → mQ A' p 2 r c (h2_L c (i + 1)) → mK p A A' → Fr m (m + 23) h h' → kk (iI ((i + 1 : Nat) : Int)) h') → L_X5_map_80 m (iI r) (iI c) (iI p) (iI i) kk Q u (iI j) h := by
  intro d
  obtain ⟨b1, b2⟩ := cr_small hs
  have hb := ma_B r b1 c b2
  rw [show decide (r * c ≤ 9) = true from decide_eq_true hs.2.2.2.1] at hb
  have hb : r * (c - 1) + (r - 1) * c ≤ 12 := by simpa using hb
  have hic : i * c + c ≤ 9 := by
    have h1 := Nat.mul_le_mul_right c (show i + 1 ≤ r from hi)
    rw [Nat.succ_mul] at h1
    have := hs.2.2.2.1
    omega
  have hl : i * (c - 1) + (c - 1) ≤ r * (c - 1) := by
    have h1 := Nat.mul_le_mul_right (c - 1) (show i + 1 ≤ r from hi)
    rw [Nat.succ_mul] at h1
    exact h1
  induction d with
  | zero =>
    intro u j h A hj hu R H hq
    obtain ⟨u, rfl⟩ : ∃ v, u = v + 1 := ⟨u - 1, by omega⟩
    unfold L_X5_map_80
    simp only [iI_lit, iI_add]
    refine br_le (by omega) (by omega) (fun c1 => ?_) (fun c1 => by omega)
    have e : ((i : Int) + OfNat.ofNat 1) = ((i + 1 : Nat) : Int) := by simp
    rw [e]
    refine hq h A R ?_ mK.rf Fr.rf
    rw [show j = c - 1 by omega, h2_succ] at H
    exact H
  | succ d ih =>
    intro u j h A hj hu R H hq
    obtain ⟨u, rfl⟩ : ∃ v, u = v + 1 := ⟨u - 1, by omega⟩
    unfold L_X5_map_80
    simp only [iI_lit, iI_add, iI_mul]
    have e : ((j : Int) + OfNat.ofNat 1) = ((j + 1 : Nat) : Int) := by simp
    have e1 : ((i : Int) * c + j) = ((i * c + j : Nat) : Int) := by simp
    have e2 : (((i * c + j : Nat) : Int) + OfNat.ofNat 1) = ((i * c + j + 1 : Nat) : Int) := by simp
    rw [e, e1, e2]
    refine br_le (by omega) (by omega) (fun c1 => by omega) (fun c1 => ?_)
    refine rg_o R (m_addC R hp H ?_ fun h1 A1 R1 H1 K1 f1 => ?_)
    · rw [List.length_append, h2_len]
      simp only [h1_L, List.length_map, List.length_range]
      omega
    have e3 : h2_L c i ++ h1_L c i j ++ [(i * c + j, i * c + j + 1)] = h2_L c i ++ h1_L c i (j + 1) := by
      rw [List.append_assoc]
      congr 1
      unfold h1_L; rw [List.range_succ, List.map_append]; rfl
    rw [e3] at H1
    exact ih u (j + 1) h1 A1 (by omega) (by omega) R1 H1 fun h' A' R' H' K' f' => hq h' A' R' H' (K1.tr K') (f1.tr f')
theorem m_map_v1 {p r c i : Nat} {kk : Int32 → pz_H → Prop} (hp : p < 30) (hs : cr_shape 2 r c) (hi : i + 1 < r) : ∀ (d u j : Nat) (h : pz_H) (A : Nat → Int → Int), j + d = c → d < u → rM h m V A → mQ A p 2 r c (h2_L c r ++ (v2_L c i ++ v1_L c i j)) → (∀ h' A', rM h' m V A' → mQ A' p 2 r c (h2_L c r ++ v2_L c (i + 1)) → mK p A A' → Fr m (m + 23) h h' → kk (iI ((i + 1 : Nat) : Int)) h') → L_X5_map_135 m (iI r) (iI c) (iI p) (iI i) kk Q u (iI j) h := by
  intro d
  obtain ⟨b1, b2⟩ := cr_small hs
  have hb := ma_B r b1 c b2
  rw [show decide (r * c ≤ 9) = true from decide_eq_true hs.2.2.2.1] at hb
  have hb : r * (c - 1) + (r - 1) * c ≤ 12 := by simpa using hb
  have hic : i * c + c + c ≤ 9 := by
    have h1 := Nat.mul_le_mul_right c (show i + 2 ≤ r from hi)
    rw [show i + 2 = i + 1 + 1 from rfl, Nat.succ_mul, Nat.succ_mul] at h1
    have := hs.2.2.2.1
    omega
  have hl : i * c + c ≤ (r - 1) * c := by
    have h1 := Nat.mul_le_mul_right c (show i + 1 ≤ r - 1 by omega)
    rw [Nat.succ_mul] at h1
    exact h1
  induction d with
  | zero =>
    intro u j h A hj hu R H hq
    obtain ⟨u, rfl⟩ : ∃ v, u = v + 1 := ⟨u - 1, by omega⟩
    unfold L_X5_map_135
    simp only [iI_lit, iI_add]
    refine br_le (by omega) (by omega) (fun c1 => ?_) (fun c1 => by omega)
    have e : ((i : Int) + OfNat.ofNat 1) = ((i + 1 : Nat) : Int) := by simp
    rw [e]
    refine hq h A R ?_ mK.rf Fr.rf
    rw [show j = c by omega, v2_succ] at H
    exact H
  | succ d ih =>
    intro u j h A hj hu R H hq
    obtain ⟨u, rfl⟩ : ∃ v, u = v + 1 := ⟨u - 1, by omega⟩
    unfold L_X5_map_135
    simp only [iI_lit, iI_add, iI_mul]
    have e : ((j : Int) + OfNat.ofNat 1) = ((j + 1 : Nat) : Int) := by simp
    have e1 : ((i : Int) * c + j) = ((i * c + j : Nat) : Int) := by simp
    have e2 : (((i * c + j : Nat) : Int) + c) = ((i * c + j + c : Nat) : Int) := by simp
    rw [e, e1, e2]
    refine br_le (by omega) (by omega) (fun c1 => by omega) (fun c1 => ?_)
    refine rg_o R (m_addC R hp H ?_ fun h1 A1 R1 H1 K1 f1 => ?_)
    · rw [List.length_append, List.length_append, h2_len, v2_len]
      simp only [v1_L, List.length_map, List.length_range]
      omega
    have e3 : h2_L c r ++ (v2_L c i ++ v1_L c i j) ++ [(i * c + j, i * c + j + c)] = h2_L c r ++ (v2_L c i ++ v1_L c i (j + 1)) := by
      rw [List.append_assoc, List.append_assoc]
      congr 2
      unfold v1_L; rw [List.range_succ, List.map_append]; rfl
    rw [e3] at H1
    exact ih u (j + 1) h1 A1 (by omega) (by omega) R1 H1 fun h' A' R' H' K' f' => hq h' A' R' H' (K1.tr K') (f1.tr f')
theorem m_map_v2 {p r c : Nat} (hp : p < 30) (hs : cr_shape 2 r c) : ∀ (d u i : Nat) (h : pz_H) (A : Nat → Int → Int), i + d + 1 = r → d < u → rM h m V A → mQ A p 2 r c (h2_L c r ++ v2_L c i) → (∀ h' A', rM h' m V A' → mQ A' p 2 r c (cr_cs 2 r c) → mK p A A' → Fr m (m + 23) h h' → Q (iI p) h') → L_X5_map_124 m (iI r) (iI c) (iI p) Q u (iI i) h := by
  intro d
  obtain ⟨b1, b2⟩ := cr_small hs
  induction d with
  | zero =>
    intro u i h A hi hu R H hq
    obtain ⟨u, rfl⟩ : ∃ v, u = v + 1 := ⟨u - 1, by omega⟩
    unfold L_X5_map_124
    simp only [iI_lit, iI_add]
    refine br_le (by omega) (by omega) (fun c1 => ?_) (fun c1 => by omega)
    rw [show i = r - 1 by omega, ma_L_eq hs] at H
    exact hq h A R H mK.rf Fr.rf
  | succ d ih =>
    intro u i h A hi hu R H hq
    obtain ⟨u, rfl⟩ : ∃ v, u = v + 1 := ⟨u - 1, by omega⟩
    unfold L_X5_map_124
    simp only [iI_lit, iI_add]
    refine br_le (by omega) (by omega) (fun c1 => by omega) (fun c1 => ?_)
    refine ⟨20, m_map_v1 hp hs (by omega) c 20 0 h A (by omega) (by omega) R ?_ fun h1 A1 R1 H1 K1 f1 => ?_⟩
    · simpa [v1_L] using H
    exact ih u (i + 1) h1 A1 (by omega) (by omega) R1 H1 fun h' A' R' H' K' f' => hq h' A' R' H' (K1.tr K') (f1.tr f')
theorem m_map_h2 {p r c : Nat} (hp : p < 30) (hs : cr_shape 2 r c) : ∀ (d u i : Nat) (h : pz_H) (A : Nat → Int → Int), i + d = r → d < u → rM h m V A → mQ A p 2 r c (h2_L c i) → (∀ h' A', rM h' m V A' → mQ A' p 2 r c (cr_cs 2 r c) → mK p A A' → Fr m (m + 23) h h' → Q (iI p) h') → L_X5_map_71 m (iI r) (iI c) (iI p) Q u (iI i) h := by
  intro d
  obtain ⟨b1, b2⟩ := cr_small hs
  have hs2 := hs
  obtain ⟨-, a1, a2, -⟩ := hs2
  induction d with
  | zero =>
    intro u i h A hi hu R H hq
    obtain ⟨u, rfl⟩ : ∃ v, u = v + 1 := ⟨u - 1, by omega⟩
    unfold L_X5_map_71
    refine br_le (by omega) (by omega) (fun c1 => ?_) (fun c1 => by omega)
    rw [show i = r by omega] at H
    exact ⟨20, m_map_v2 hp hs (r - 1) 20 0 h A (by omega) (by omega) R (by simpa [v2_L] using H) hq⟩
  | succ d ih =>
    intro u i h A hi hu R H hq
    obtain ⟨u, rfl⟩ : ∃ v, u = v + 1 := ⟨u - 1, by omega⟩
    unfold L_X5_map_71
    refine br_le (by omega) (by omega) (fun c1 => by omega) (fun c1 => ?_)
    refine ⟨20, m_map_h1 hp hs (by omega) (c - 1) 20 0 h A (by omega) (by omega) R ?_ fun h1 A1 R1 H1 K1 f1 => ?_⟩
    · simpa [h1_L] using H
    exact ih u (i + 1) h1 A1 (by omega) (by omega) R1 H1 fun h' A' R' H' K' f' => hq h' A' R' H' (K1.tr K') (f1.tr f')
theorem m_map {y z : Int} (R : rM h m V A) (S : mS V A np Ps) (hy : iB y) (hz : iB z) (h1 : ¬ (1 ≤ y ∧ 1 ≤ z ∧ y ≤ 9 ∧ z ≤ 9 ∧ y * z ≤ 9) → Q (-102) h) (h2 : 1 ≤ y ∧ 1 ≤ z ∧ y ≤ 9 ∧ z ≤ 9 ∧ y * z ≤ 9 → np = 30 → Q (-104) h) (h3 : ∀ r c : Nat, y = r → z = c → cr_shape 2 r c → np < 30 → ∀ h' A', rM h' m (va_up V 0 ((np : Int) + 1)) A' → mS (va_up V 0 ((np : Int) + 1)) A' (np + 1) (va_up Ps np (newP 2 r c)) → (∀ j, 12 ≤ j → A' j = A j) → Fr m (m + 23) h h' → Q (iI np) h') : F_X5_map m (iI y) (iI z) h Q := by
  unfold F_X5_map B_X5_map_30
  refine br_lt (b := 1) hy (by omega) (fun c => h1 (by omega)) (fun c1 => ?_)
  refine br_lt (b := 1) hz (by omega) (fun c => h1 (by omega)) (fun c2 => ?_)
  refine br_lt (a := 9) (by omega) hy (fun c => h1 (by omega)) (fun c3 => ?_)
  refine br_lt (a := 9) (by omega) hz (fun c => h1 (by omega)) (fun c4 => ?_)
  obtain ⟨r, rfl⟩ : ∃ n : Nat, y = n := ⟨y.toNat, by omega⟩
  obtain ⟨c, rfl⟩ : ∃ n : Nat, z = n := ⟨z.toNat, by omega⟩
  have hrc : r * c ≤ 81 := Nat.mul_le_mul (show r ≤ 9 by omega) (show c ≤ 9 by omega)
  have e : (r : Int) * c = ((r * c : Nat) : Int) := (Int.natCast_mul r c).symm
  rw [iI_mul, e]
  rw [e] at h1 h2
  refine br_le (b := 9) (by omega) (by omega) (fun c5 => ?_) (fun c5 => h1 (by omega))
  refine rg_gI R rfl ?_
  rw [S.1]
  have := S.2.1
  refine br_eq (b := 30) (by omega) (by omega) (fun c6 => h2 (by omega) (by omega)) (fun c6 => ?_)
  have hs : cr_shape 2 r c := ⟨by omega, by omega, by omega, by omega, fun z => absurd rfl z, fun z => by omega⟩
  refine rg_o R (m_add (k := 2) R (by omega) S.1 fun hA A1 R1 H1 K1 f1 => ?_)
  refine rg_gA R1 rfl (rg_sI R1 (by decide) (by decide) rfl (by decide) ⟨by omega, by simp only [lM]; omega⟩ fun hB R2 f2 => ?_)
  refine rg_gA R2 rfl (rg_sI R2 (by decide) (by decide) rfl (by decide) ⟨by omega, by simp only [lM]; omega⟩ fun hC R3 f3 => ?_)
  refine ⟨20, m_map_h2 (by omega) hs r 20 0 hC _ (by omega) (by omega) R3 ?_ fun h' A' R' H' K' f' => ?_⟩
  · obtain ⟨g1, g2, g3, g4, g5, g6, g7, g8, g9⟩ := H1
    refine ⟨?_, ?_, ?_, ?_, ?_, fun f hf => ?_, fun d hd => by simp [h2_L] at hd, ?_, ?_⟩ <;> simp [au_if]
    · exact g1
    · rw [g2]; simp
    · exact g5
    · exact g6 f hf
    · exact g8
    · exact g9
  · have K := K1.tr ((mK.au (by omega)).tr ((mK.au (by omega)).tr K'))
    exact h3 r c rfl rfl hs (by omega) h' A' R' (m_newS S (by omega) H' hs K) (fun j hj => K.2 j hj) (f1.tr (f2.tr (f3.tr f')))
end M4
