/-! THE TABLE of the shortest ways, and the way itself -/
def cr_al (P : cr_P) : Nat := 2 ^ gaps P false * 2 ^ gaps P true - 1
def tbF (P : cr_P) : Nat → Nat → Option (Nat × Int)
  | 0 => fun F => if F = cr_al P then some (0, 0) else none
  | k + 1 => va_up (tbF P k) (cr_al P - 1 - k) (bestS P (fun s r => tbF P k (s + r * 2 ^ gaps P false)) ((cr_al P - 1 - k) % 2 ^ gaps P false) ((cr_al P - 1 - k) / 2 ^ gaps P false))
def TT (P : cr_P) : Nat → Option (Nat × Int) := tbF P (cr_al P)
def TS (P : cr_P) (s r : Nat) : Option (Nat × Int) := TT P (s + r * 2 ^ gaps P false)
theorem tbF_gt (P : cr_P) : ∀ (k j F : Nat), cr_al P ≤ F + k → k + j ≤ cr_al P → tbF P (k + j) F = tbF P k F
  | k, 0, F, _, _ => rfl
  | k, j + 1, F, h1, h2 => by
    rw [show k + (j + 1) = (k + j) + 1 by omega, tbF, va_up_ne _ _ (by omega)]
    exact tbF_gt P k j F h1 (by omega)
/-- F's entry, once it is set -/
theorem TT_at (P : cr_P) {F : Nat} (h : F ≤ cr_al P) : TT P F = tbF P (cr_al P - F) F := by
  have := tbF_gt P (cr_al P - F) F F (by omega) (by omega)
  rw [show cr_al P - F + F = cr_al P by omega] at this
  exact this
theorem foldl_cong {α β : Type} (f g : α → β → α) : ∀ (L : List β) (a : α), (∀ a, ∀ b ∈ L, f a b = g a b) → L.foldl f a = L.foldl g a
  | [], a, _ => rfl
  | b :: L, a, h => by
    rw [List.foldl_cons, List.foldl_cons, h a b (by simp)]
    exact foldl_cong f g L _ (fun a b hb => h a b (by simp [hb]))
theorem nxT_cong {P : cr_P} {T T' : Nat → Nat → Option (Nat × Int)} {s r fs : Nat} {b : Bool} (hs : s < 2 ^ gaps P false) (hr : r < 2 ^ gaps P true) (hf : fs < 2 ^ gaps P b) (hg : fs ≠ 0 → (if b then r else s) < (if b then r else s) ||| fs)
    (h : ∀ s' r', s' < 2 ^ gaps P false → r' < 2 ^ gaps P true → (s < s' ∧ r' = r ∨ s' = s ∧ r < r') → T s' r' = T' s' r') : nxT T s r b fs = nxT T' s r b fs := by
  unfold nxT
  by_cases e : fs = 0
  · rw [if_pos e, if_pos e]
  · rw [if_neg e, if_neg e]
    have g := hg e
    cases b with
    | true => exact h s (r ||| fs) hs (nu_lt_or hr hf) (Or.inr ⟨rfl, g⟩)
    | false => exact h (s ||| fs) r (nu_lt_or hs hf) hr (Or.inl ⟨g, rfl⟩)
theorem done_stp {P : cr_P} (ok : cr_ok P) (s r : Nat) (b : Bool) (g : Nat) (un : Bool) : s_done P s r (stp P (if b then r else s) b g un) < 2 ^ gaps P b ∧ (s_done P s r (stp P (if b then r else s) b g un) ≠ 0 → (if b then r else s) < (if b then r else s) ||| s_done P s r (stp P (if b then r else s) b g un)) := by
  obtain ⟨z1, z2, z3⟩ := stp_b P (if b then r else s) b g un
  have e : s_done P s r (stp P (if b then r else s) b g un) = s_dn P s r b un (if b then r else s) (lA (cr_ln P) (if b then r else s) (g + 1)) := by
    unfold s_done; rw [z1, z2, z3]
  rw [e]
  exact ⟨(s_dn_lt ok _ _ _ _ _ _).1, dn_grow⟩
theorem bestS_cong {P : cr_P} (ok : cr_ok P) {T T' : Nat → Nat → Option (Nat × Int)} {s r : Nat} (hs : s < 2 ^ gaps P false) (hr : r < 2 ^ gaps P true) (h : ∀ s' r', s' < 2 ^ gaps P false → r' < 2 ^ gaps P true → (s < s' ∧ r' = r ∨ s' = s ∧ r < r') → T s' r' = T' s' r') : bestS P T s r = bestS P T' s r := by
  have e : ∀ b acc g, tryG P T s r b acc g = tryG P T' s r b acc g := by
    intro b acc g
    have e1 : ∀ acc un, try1 P T s r b g acc un = try1 P T' s r b g acc un := by
      intro acc un
      unfold try1
      obtain ⟨d1, d2⟩ := done_stp ok s r b g un
      rw [nxT_cong hs hr d1 d2 h]
    unfold tryG
    rw [e1, e1]
  unfold bestS
  rw [foldl_cong _ _ _ _ (fun a g _ => e false a g), foldl_cong _ _ _ _ (fun a g _ => e true a g)]
/-- where a way's first step comes from -/
def prov (P : cr_P) (T : Nat → Nat → Option (Nat × Int)) (s r : Nat) (o : Option (Nat × Int)) : Prop := ∀ q, o = some q → ∃ b g un q', g < gaps P b ∧ (if b then r else s).testBit g = false ∧ q.2 = stp P (if b then r else s) b g un ∧ nxT T s r b (s_done P s r q.2) = some q' ∧ q.1 = q'.1 + 1
theorem bestS_prov (P : cr_P) (T : Nat → Nat → Option (Nat × Int)) (s r : Nat) : prov P T s r (bestS P T s r) := by
  have t1 : ∀ b g acc un, g < gaps P b → (if b then r else s).testBit g = false → prov P T s r acc → prov P T s r (try1 P T s r b g acc un) := by
    intro b g acc un hg ht ha
    unfold try1 upd2
    cases e : nxT T s r b (s_done P s r (stp P (if b then r else s) b g un)) with
    | none => exact ha
    | some q' =>
      have fresh : prov P T s r (some (q'.1 + 1, stp P (if b then r else s) b g un)) := by
        intro q hq
        cases hq
        exact ⟨b, g, un, q', hg, ht, rfl, e, rfl⟩
      simp only
      unfold upd1
      generalize stp P (if b then r else s) b g un = z at fresh ⊢
      cases acc with
      | none => exact fresh
      | some a =>
        simp only
        split
        · exact fresh
        · exact ha
  have tG : ∀ b acc g, g < gaps P b → prov P T s r acc → prov P T s r (tryG P T s r b acc g) := by
    intro b acc g hg ha
    unfold tryG
    cases ht : (if b then r else s).testBit g with
    | true => exact ha
    | false => exact t1 b g _ true hg ht (t1 b g _ false hg ht ha)
  have fl : ∀ (b : Bool) (L : List Nat) (acc : Option (Nat × Int)), (∀ g ∈ L, g < gaps P b) → prov P T s r acc → prov P T s r (L.foldl (tryG P T s r b) acc) := by
    intro b L
    induction L with
    | nil => intro acc _ h; exact h
    | cons g L ih =>
      intro acc hL h
      rw [List.foldl_cons]
      exact ih _ (fun g hg => hL g (by simp [hg])) (tG b acc g (hL g (by simp)) h)
  unfold bestS
  exact fl true _ _ (fun g hg => List.mem_range.mp hg) (fl false _ _ (fun g hg => List.mem_range.mp hg) (fun q hq => by cases hq))
theorem al_pos (P : cr_P) : 0 < 2 ^ gaps P false * 2 ^ gaps P true := Nat.mul_pos (Nat.two_pow_pos _) (Nat.two_pow_pos _)
theorem ix_lt {P : cr_P} {s r : Nat} (hs : s < 2 ^ gaps P false) (hr : r < 2 ^ gaps P true) : s + r * 2 ^ gaps P false ≤ cr_al P := by
  have h1 : (r + 1) * 2 ^ gaps P false ≤ 2 ^ gaps P true * 2 ^ gaps P false := Nat.mul_le_mul_right _ hr
  rw [Nat.succ_mul, Nat.mul_comm (2 ^ gaps P true)] at h1
  have := al_pos P
  unfold cr_al
  omega
theorem ix_eq {P : cr_P} {s r : Nat} (hs : s < 2 ^ gaps P false) : (s + r * 2 ^ gaps P false) % 2 ^ gaps P false = s ∧ (s + r * 2 ^ gaps P false) / 2 ^ gaps P false = r := by
  have h0 : 0 < 2 ^ gaps P false := Nat.two_pow_pos _
  refine ⟨by rw [Nat.add_mul_mod_self_right, Nat.mod_eq_of_lt hs], by rw [Nat.add_mul_div_right _ _ h0, Nat.div_eq_of_lt hs, Nat.zero_add]⟩
theorem ix_mono {P : cr_P} {s r s' r' : Nat} (h : s < s' ∧ r' = r ∨ s' = s ∧ r < r') : s + r * 2 ^ gaps P false < s' + r' * 2 ^ gaps P false := by
  have h0 : 0 < 2 ^ gaps P false := Nat.two_pow_pos _
  rcases h with ⟨h1, h2⟩ | ⟨h1, h2⟩
  · subst h2; omega
  · subst h1
    have := Nat.mul_lt_mul_of_pos_right h2 h0
    omega
/-- the table's entry at F, when it is F's turn -/
theorem tbF_set {P : cr_P} {s r : Nat} (hs : s < 2 ^ gaps P false) {k : Nat} (hk : cr_al P = s + r * 2 ^ gaps P false + k + 1) : tbF P (k + 1) (s + r * 2 ^ gaps P false) = bestS P (fun s r => tbF P k (s + r * 2 ^ gaps P false)) s r := by
  have e : cr_al P - 1 - k = s + r * 2 ^ gaps P false := by omega
  rw [tbF, e, va_up_self, (ix_eq hs).1, (ix_eq hs).2]
theorem TS_fix {P : cr_P} (ok : cr_ok P) {s r : Nat} (hs : s < 2 ^ gaps P false) (hr : r < 2 ^ gaps P true) (hne : s + r * 2 ^ gaps P false ≠ cr_al P) : TS P s r = bestS P (TS P) s r := by
  have hle := ix_lt hs hr
  unfold TS
  rw [TT_at P hle]
  obtain ⟨k, hk⟩ : ∃ k, cr_al P - (s + r * 2 ^ gaps P false) = k + 1 := ⟨cr_al P - (s + r * 2 ^ gaps P false) - 1, by omega⟩
  rw [hk, tbF_set hs (by omega)]
  refine bestS_cong ok hs hr (fun s' r' hs' hr' h => ?_)
  have h1 := ix_mono (P := P) h
  have h2 := ix_lt hs' hr'
  have h3 := tbF_gt P k (cr_al P - k) (s' + r' * 2 ^ gaps P false) (by omega) (by omega)
  rw [show k + (cr_al P - k) = cr_al P by omega] at h3
  exact h3.symm
theorem TS_al (P : cr_P) {s r : Nat} (e : s + r * 2 ^ gaps P false = cr_al P) : TS P s r = some (0, 0) := by
  unfold TS
  rw [e, TT_at P (Nat.le_refl _), Nat.sub_self, tbF]
  simp
/-- how many of the first k bits are not set -/
def zb (k s : Nat) : Nat := ((List.range k).filter (fun i => !s.testBit i)).length
theorem zb_le (k s : Nat) : zb k s ≤ k := by
  have := List.length_filter_le (fun i => !s.testBit i) (List.range k)
  rw [List.length_range] at this
  exact this
theorem zb_grow {k s f : Nat} (hs : s < 2 ^ k) (hf : f < 2 ^ k) (h : s < s ||| f) : zb k (s ||| f) < zb k s := by
  have h1 : zb k (s ||| f) ≤ zb k s := by
    refine filter_le _ _ _ (fun i _ hi => ?_)
    rw [Nat.testBit_or] at hi
    cases q : s.testBit i
    · rfl
    · rw [q] at hi; simp at hi
  rcases Nat.lt_or_ge (zb k (s ||| f)) (zb k s) with g | g
  · exact g
  · exfalso
    have e := filter_eq (fun i => !(s ||| f).testBit i) (fun i => !s.testBit i) (List.range k) (fun i _ hi => by
      rw [Nat.testBit_or] at hi
      cases q : s.testBit i
      · rfl
      · rw [q] at hi; simp at hi) (by unfold zb at h1 g; omega)
    have : s ||| f = s := by
      refine nu_ext (k := k) (nu_lt_or hs hf) hs (fun i hi => ?_)
      cases q1 : s.testBit i with
      | true => rw [Nat.testBit_or, q1]; rfl
      | false =>
        have m1 : i ∈ (List.range k).filter (fun i => !s.testBit i) := List.mem_filter.mpr ⟨List.mem_range.mpr hi, by rw [q1]; rfl⟩
        rw [← e] at m1
        have := (List.mem_filter.mp m1).2
        simpa using this
    omega
theorem tb_zb {P : cr_P} (ok : cr_ok P) : ∀ (d s r : Nat) (q : Nat × Int), cr_al P = s + r * 2 ^ gaps P false + d → s < 2 ^ gaps P false → r < 2 ^ gaps P true → TS P s r = some q → q.1 ≤ zb (gaps P false) s + zb (gaps P true) r := by
  intro d
  induction d using Nat.strongRecOn with
  | _ d ih =>
    intro s r q hd hs hr hq
    by_cases e : s + r * 2 ^ gaps P false = cr_al P
    · rw [TS_al P e] at hq; cases hq; simp
    · rw [TS_fix ok hs hr e] at hq
      obtain ⟨b, g, un, q', hg, ht, e1, e2, e3⟩ := bestS_prov P (TS P) s r q hq
      obtain ⟨d1, d2⟩ := done_stp ok s r b g un
      rw [← e1] at d1 d2
      unfold nxT at e2
      by_cases f0 : s_done P s r q.2 = 0
      · rw [if_pos f0] at e2; cases e2
      · rw [if_neg f0] at e2
        have gr := d2 f0
        cases b with
        | true =>
          have hr' := nu_lt_or hr d1
          have h1 := ix_lt hs hr'
          have h2 := ix_mono (P := P) (s := s) (r := r) (s' := s) (r' := r ||| s_done P s r q.2) (Or.inr ⟨rfl, gr⟩)
          have := ih (cr_al P - (s + (r ||| s_done P s r q.2) * 2 ^ gaps P false)) (by omega) s _ q' (by omega) hs hr' e2
          have := zb_grow hr d1 gr
          omega
        | false =>
          have hs' := nu_lt_or hs d1
          have h1 := ix_lt hs' hr
          have h2 := ix_mono (P := P) (s := s) (r := r) (s' := s ||| s_done P s r q.2) (r' := r) (Or.inl ⟨gr, rfl⟩)
          have := ih (cr_al P - ((s ||| s_done P s r q.2) + r * 2 ^ gaps P false)) (by omega) _ r q' (by omega) hs' hr e2
          have := zb_grow hs d1 gr
          omega
theorem g8_all : ∀ r, r < 10 → ∀ c, c < 10 → 1 ≤ r → 1 ≤ c → r * c ≤ 9 → (c - 1) + (r - 1) ≤ 8 := by decide
theorem cr_ok.gg {P : cr_P} (h : cr_ok P) : gaps P false + gaps P true ≤ 8 := by
  obtain ⟨h1, h2⟩ := cr_small h.1
  obtain ⟨-, a1, a2, a3, -⟩ := h.1
  exact g8_all _ h1 _ h2 a1 a2 a3
theorem TS_8 {P : cr_P} (ok : cr_ok P) {s r : Nat} {q : Nat × Int} (hs : s < 2 ^ gaps P false) (hr : r < 2 ^ gaps P true) (hq : TS P s r = some q) : q.1 ≤ 8 := by
  have h1 := tb_zb ok (cr_al P - (s + r * 2 ^ gaps P false)) s r q (by have := ix_lt hs hr; omega) hs hr hq
  have h2 := zb_le (gaps P false) s
  have h3 := zb_le (gaps P true) r
  have h4 := ok.gg
  omega
/-- the same of the entries before the table is whole -/
theorem tbF_8 {P : cr_P} (ok : cr_ok P) {k s r : Nat} {q : Nat × Int} (hs : s < 2 ^ gaps P false) (hr : r < 2 ^ gaps P true) (hk : k ≤ cr_al P) (h : cr_al P ≤ s + r * 2 ^ gaps P false + k) (hq : tbF P k (s + r * 2 ^ gaps P false) = some q) : q.1 ≤ 8 := by
  have := tbF_gt P k (cr_al P - k) (s + r * 2 ^ gaps P false) (by omega) (by omega)
  rw [show k + (cr_al P - k) = cr_al P by omega] at this
  exact TS_8 ok hs hr (this.trans hq)
/-- the way from s, r on: n steps -/
def nx1 (P : cr_P) (s r : Nat) (z : Int) : Nat := if isRow z then s else s ||| s_done P s r z
def nx2 (P : cr_P) (s r : Nat) (z : Int) : Nat := if isRow z then r ||| s_done P s r z else r
def trc (P : cr_P) : Nat → Nat → Nat → List Int
  | 0, _, _ => []
  | n + 1, s, r => eS (TS P s r) :: trc P n (nx1 P s r (eS (TS P s r))) (nx2 P s r (eS (TS P s r)))
theorem trc_len (P : cr_P) : ∀ n s r, (trc P n s r).length = n
  | 0, _, _ => rfl
  | n + 1, s, r => by rw [trc, List.length_cons, trc_len P n]
/-- one step of the way -/
theorem way_step {P : cr_P} (ok : cr_ok P) {s r n : Nat} {z : Int} (hs : s < 2 ^ gaps P false) (hr : r < 2 ^ gaps P true) (h : TS P s r = some (n + 1, z)) : s_done P s r z < 2 ^ gaps P (isRow z) ∧ nx1 P s r z < 2 ^ gaps P false ∧ nx2 P s r z < 2 ^ gaps P true ∧ (∃ w, TS P (nx1 P s r z) (nx2 P s r z) = some (n, w)) ∧ s + r * 2 ^ gaps P false < nx1 P s r z + nx2 P s r z * 2 ^ gaps P false ∧ (-90000 ≤ z ∧ z ≤ 90000) := by
  have e : s + r * 2 ^ gaps P false ≠ cr_al P := fun e => by rw [TS_al P e] at h; cases h
  rw [TS_fix ok hs hr e] at h
  obtain ⟨b, g, un, q', hg, ht, e1, e2, e3⟩ := bestS_prov P (TS P) s r _ h
  simp only at e1 e2 e3
  have zr : isRow z = b := by rw [e1]; exact (stp_b P _ b g un).1
  have zB := stp_B ok (if b then r else s) b (g := g) (by have := (ok.g8 b).1; omega) un
  obtain ⟨d1, d2⟩ := done_stp ok s r b g un
  rw [← e1] at d1 d2 zB
  unfold nxT at e2
  by_cases f0 : s_done P s r z = 0
  · rw [if_pos f0] at e2; cases e2
  · rw [if_neg f0] at e2
    have gr := d2 f0
    have en : q' = (n, q'.2) := by
      have : q'.1 = n := by omega
      rw [← this]
    unfold nx1 nx2
    rw [zr]
    refine ⟨d1, ?_⟩
    cases b with
    | true =>
      simp only [if_true] at e2 gr ⊢
      exact ⟨hs, nu_lt_or hr d1, ⟨q'.2, by rw [e2, ← en]⟩, ix_mono (Or.inr ⟨rfl, gr⟩), zB⟩
    | false =>
      simp only [Bool.false_eq_true, if_false] at e2 gr ⊢
      exact ⟨nu_lt_or hs d1, hr, ⟨q'.2, by rw [e2, ← en]⟩, ix_mono (Or.inl ⟨gr, rfl⟩), zB⟩
theorem way_0 {P : cr_P} (ok : cr_ok P) {s r : Nat} {z : Int} (hs : s < 2 ^ gaps P false) (hr : r < 2 ^ gaps P true) (h : TS P s r = some (0, z)) : s + r * 2 ^ gaps P false = cr_al P := by
  by_cases e : s + r * 2 ^ gaps P false = cr_al P
  · exact e
  · rw [TS_fix ok hs hr e] at h
    obtain ⟨b, g, un, q', -, -, -, -, e3⟩ := bestS_prov P (TS P) s r _ h
    simp only at e3
    omega
def s_simple (np : Nat) (Ps : Nat → cr_P) (z : Int) : Int := if vN np z then (if cr_kd (Ps z.toNat) = 1 then -103 else eC (TS (Ps z.toNat) 0 0)) else -101
def way (P : cr_P) (st : List Int) : List Int := match TS P 0 0 with
  | none => st
  | some q => trc P q.1 0 0
def s_simpleT (np : Nat) (Ps : Nat → cr_P) (st : List Int) (z : Int) : List Int := if vN np z then (if cr_kd (Ps z.toNat) = 1 then st else way (Ps z.toNat) st) else st
