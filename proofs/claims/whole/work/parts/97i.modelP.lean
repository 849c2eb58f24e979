/-! THE REFERENCE: simple -/
section MP
variable {h : pz_H} {m np p : Nat} {V : Nat → Int} {A : Nat → Int → Int} {Ps : Nat → cr_P} {P : cr_P} {td : Option (Nat × List Nat)} {cl : List Nat} {st : List Int} {Q : Int32 → pz_H → Prop}
/-- the reference's array holds the table from F on -/
def tbA (P : cr_P) (A : Nat → Int → Int) (F : Nat) : Prop := ∀ s r, s < 2 ^ gaps P false → r < 2 ^ gaps P true → F ≤ s + r * 2 ^ gaps P false → A 21 ((s : Int) + 256 * (r : Int)) = eC (tbF P (cr_al P - F) (s + r * 2 ^ gaps P false))
theorem tbA_ok (ok : cr_ok P) {s r : Nat} (hs : s < 2 ^ gaps P false) (hr : r < 2 ^ gaps P true) {k : Nat} (hk : cr_al P = s + r * 2 ^ gaps P false + k + 1) (J : tbA P A (s + r * 2 ^ gaps P false + 1)) : tbOk P A (fun s r => tbF P k (s + r * 2 ^ gaps P false)) s r := by
  intro s' r' hs' hr' h
  have h1 := ix_mono (P := P) h
  refine ⟨?_, fun q hq => ?_⟩
  · have := J s' r' hs' hr' (by omega)
    rw [show cr_al P - (s + r * 2 ^ gaps P false + 1) = k by omega] at this
    exact this
  · have := tbF_8 ok hs' hr' (by omega) (by omega) hq
    omega
theorem tbA_up (ok : cr_ok P) {s r : Nat} (hs : s < 2 ^ gaps P false) (hr : r < 2 ^ gaps P true) (J : tbA P A (s + r * 2 ^ gaps P false + 1)) {x : Int} (hx : x = eC (tbF P (cr_al P - (s + r * 2 ^ gaps P false)) (s + r * 2 ^ gaps P false))) : tbA P (au A 21 ((s : Int) + 256 * (r : Int)) x) (s + r * 2 ^ gaps P false) := by
  have gf : 2 ^ gaps P false ≤ 2 ^ 8 := Nat.pow_le_pow_right (by decide) (ok.g8 false).1
  intro s' r' hs' hr' h
  by_cases e : s' = s ∧ r' = r
  · obtain ⟨e1, e2⟩ := e
    subst e1; subst e2
    rw [au_at, hx]
  · have ne : s' + r' * 2 ^ gaps P false ≠ s + r * 2 ^ gaps P false := fun z => e (by
      have i1 := ix_eq (P := P) (r := r') hs'
      have i2 := ix_eq (P := P) (r := r) hs
      rw [z] at i1
      exact ⟨i1.1.symm.trans i2.1, i1.2.symm.trans i2.2⟩)
    have hle := ix_lt hs' hr'
    rw [au_ne (by omega), J s' r' hs' hr' (by omega)]
    obtain ⟨k, hk⟩ : ∃ k, cr_al P - (s + r * 2 ^ gaps P false) = k + 1 := ⟨cr_al P - (s + r * 2 ^ gaps P false) - 1, by omega⟩
    rw [hk, show cr_al P - (s + r * 2 ^ gaps P false + 1) = k by omega, tbF, va_up_ne _ _ (by omega)]
theorem m_simple57 {r : Nat} {kk : Int32 → pz_H → Prop} (hp : p < 30) (hr : r < 2 ^ gaps P true)
    (hq : ∀ h' A', rM h' m V A' → (∀ j, j ≠ 21 → A' j = A j) → tbA P A' (r * 2 ^ gaps P false) → Fr m (m + 23) h h' → kk (iI ((r : Int) - 1)) h') : ∀ (s u : Nat) (h0 : pz_H) (A0 : Nat → Int → Int), s ≤ 2 ^ gaps P false → s < u → rM h0 m V A0 → mP A0 p P → (∀ j, j ≠ 21 → A0 j = A j) → tbA P A0 (s + r * 2 ^ gaps P false) → Fr m (m + 23) h h0 → L_X5_simple_57 m (iI p) (iI ((2 ^ gaps P false - 1 : Nat) : Int)) (iI ((2 ^ gaps P true - 1 : Nat) : Int)) (iI r) kk Q u (iI ((s : Int) - 1)) h0 := by
  intro s
  induction s with
  | zero =>
    intro u h0 A0 hs hu R H e0 J fr
    obtain ⟨u, rfl⟩ : ∃ v, u = v + 1 := ⟨u - 1, by omega⟩
    unfold L_X5_simple_57
    refine br_tt (by decide) ?_
    have er : iI (r : Int) + (-1 : Int32) = iI ((r : Int) - 1) := by rw [iI_m1, iI_add]; rfl
    rw [er]
    exact hq h0 A0 R e0 (by simpa using J) fr
  | succ s ih =>
    intro u h0 A0 hs hu R H e0 J fr
    obtain ⟨u, rfl⟩ : ∃ v, u = v + 1 := ⟨u - 1, by omega⟩
    have ok := H.1
    have gf : 2 ^ gaps P false ≤ 2 ^ 8 := Nat.pow_le_pow_right (by decide) (ok.g8 false).1
    have gt : 2 ^ gaps P true ≤ 2 ^ 8 := Nat.pow_le_pow_right (by decide) (ok.g8 true).1
    have hs' : s < 2 ^ gaps P false := by omega
    have es : ((s + 1 : Nat) : Int) - 1 = s := by omega
    have J' : tbA P A0 (s + r * 2 ^ gaps P false + 1) := by
      have e : s + 1 + r * 2 ^ gaps P false = s + r * 2 ^ gaps P false + 1 := by omega
      rw [e] at J; exact J
    have hle := ix_lt hs' hr
    have es2 : iI (s : Int) + (-1 : Int32) = iI ((s : Int) - 1) := by rw [iI_m1, iI_add]; rfl
    rw [es]
    -- what is stored
    have store : ∀ x : Int, x = eC (tbF P (cr_al P - (s + r * 2 ^ gaps P false)) (s + r * 2 ^ gaps P false)) → B_X5_simple_102 m (iI p) (iI ((2 ^ gaps P false - 1 : Nat) : Int)) (iI ((2 ^ gaps P true - 1 : Nat) : Int)) (iI r) (iI s) (m + 21) (iI ((s : Int) + 256 * (r : Int))) (iI x) kk (fun z0 hz => L_X5_simple_57 m (iI p) (iI ((2 ^ gaps P false - 1 : Nat) : Int)) (iI ((2 ^ gaps P true - 1 : Nat) : Int)) (iI r) kk Q u z0 hz) Q h0 := fun x hx => by
      unfold B_X5_simple_102
      rw [es2]
      refine rg_sI R (by decide) (by decide) rfl (by decide) ⟨by omega, by simp only [lM]; omega⟩ fun h1 R1 f1 => ?_
      have x1 : xE V A0 V (au A0 21 ((s : Int) + 256 * (r : Int)) x) := xE.au (by decide)
      exact ih u h1 _ (by omega) (by omega) R1 (H.xe x1) (fun j hj => (au_nk hj).trans (e0 j hj)) (tbA_up ok hs' hr J' hx) (fr.tr f1)
    have other : s + r * 2 ^ gaps P false ≠ cr_al P → B_X5_simple_90 m (iI p) (iI ((2 ^ gaps P false - 1 : Nat) : Int)) (iI ((2 ^ gaps P true - 1 : Nat) : Int)) (iI r) (iI s) (m + 21) (iI ((s : Int) + 256 * (r : Int))) kk (fun z0 hz => L_X5_simple_57 m (iI p) (iI ((2 ^ gaps P false - 1 : Nat) : Int)) (iI ((2 ^ gaps P true - 1 : Nat) : Int)) (iI r) kk Q u z0 hz) Q h0 := fun ne => by
      unfold B_X5_simple_90
      obtain ⟨k, hk⟩ : ∃ k, cr_al P = s + r * 2 ^ gaps P false + k + 1 := ⟨cr_al P - (s + r * 2 ^ gaps P false) - 1, by omega⟩
      refine rg_o R (m_best (wh := false) R H hp hs' hr (tbA_ok ok hs' hr hk J') (fun _ => store _ ?_))
      rw [show cr_al P - (s + r * 2 ^ gaps P false) = k + 1 by omega, tbF_set hs' hk]
      rfl
    have two : 0 < 2 ^ gaps P true := Nat.two_pow_pos _
    have alE : (2 ^ gaps P false - 1) + (2 ^ gaps P true - 1) * 2 ^ gaps P false = cr_al P := by
      have h1 := al_pos P
      have h0 : 0 < 2 ^ gaps P false := Nat.two_pow_pos _
      unfold cr_al
      rw [Nat.sub_mul, Nat.one_mul, Nat.mul_comm]
      have : 2 ^ gaps P false ≤ 2 ^ gaps P false * 2 ^ gaps P true := Nat.le_mul_of_pos_right _ two
      omega
    unfold L_X5_simple_57
    refine br_lt (b := 0) (by omega) (by omega) (fun c => by omega) (fun _ => ?_)
    refine rg_gA R rfl (rg_o R (m_stateOf (by omega) (by omega) ?_))
    refine br_eq (by omega) (by omega) (fun c1 => ?_) (fun c1 => ?_)
    · have c1 : s = 2 ^ gaps P false - 1 := by omega
      refine br_eq (by omega) (by omega) (fun c2 => ?_) (fun c2 => ?_)
      · have c2 : r = 2 ^ gaps P true - 1 := by omega
        refine store 0 ?_
        have e : s + r * 2 ^ gaps P false = cr_al P := by rw [← alE, c1, c2]
        rw [e, Nat.sub_self, tbF]
        simp [eC]
      · refine other (fun z => c2 ?_)
        have i1 := ix_eq (P := P) (r := r) hs'
        have i2 := ix_eq (P := P) (r := 2 ^ gaps P true - 1) (s := 2 ^ gaps P false - 1) (by omega)
        rw [z, ← alE] at i1
        have := i1.2.symm.trans i2.2
        omega
    · refine other (fun z => c1 ?_)
      have i1 := ix_eq (P := P) (r := r) hs'
      have i2 := ix_eq (P := P) (r := 2 ^ gaps P true - 1) (s := 2 ^ gaps P false - 1) (by omega)
      rw [z, ← alE] at i1
      have := i1.1.symm.trans i2.1
      omega
theorem m_simple49 (hp : p < 30) (hH : ∀ A', (∀ j, j ≠ 21 → A' j = A j) → mP A' p P)
    (hq : ∀ h' A', rM h' m V A' → (∀ j, j ≠ 21 → A' j = A j) → tbA P A' 0 → Fr m (m + 23) h h' → pq_br (iI (eC (TS P 0 0)) = (-1 : Int32)) (Q (-1 : Int32) h') (pq_p h' m 5 28 (.int (0 : Int32)) (fun h3 => (pq_ex (fun m142 => L_X5_simple_142 m (iI p) (iI ((2 ^ gaps P false - 1 : Nat) : Int)) (iI ((2 ^ gaps P true - 1 : Nat) : Int)) (iI (eC (TS P 0 0))) Q m142 (0 : Int32) (0 : Int32) h3))))) : ∀ (r u : Nat) (h0 : pz_H) (A0 : Nat → Int → Int), r ≤ 2 ^ gaps P true → r < u → rM h0 m V A0 → (∀ j, j ≠ 21 → A0 j = A j) → tbA P A0 (r * 2 ^ gaps P false) → Fr m (m + 23) h h0 → L_X5_simple_49 m (iI p) (iI ((2 ^ gaps P false - 1 : Nat) : Int)) (iI ((2 ^ gaps P true - 1 : Nat) : Int)) Q u (iI ((r : Int) - 1)) h0 := by
  intro r
  induction r with
  | zero =>
    intro u h0 A0 hr hu R e0 J fr
    obtain ⟨u, rfl⟩ : ∃ v, u = v + 1 := ⟨u - 1, by omega⟩
    unfold L_X5_simple_49
    refine br_tt (by decide) ?_
    have h1 := J 0 0 (Nat.two_pow_pos _) (Nat.two_pow_pos _) (by simp)
    have e : A0 21 (0 : Int) = eC (TS P 0 0) := by
      have e0 : ((0 : Nat) : Int) + 256 * ((0 : Nat) : Int) = 0 := by decide
      rw [e0] at h1
      rw [h1]
      unfold TS TT
      simp
    refine rg_gA R rfl (rg_aI (z := 0) R (by decide) (by decide) rfl (by decide) ⟨by omega, by simp only [lM]; omega⟩ ?_)
    rw [e]
    exact hq h0 A0 R e0 (by simpa using J) fr
  | succ r ih =>
    intro u h0 A0 hr hu R e0 J fr
    obtain ⟨u, rfl⟩ : ∃ v, u = v + 1 := ⟨u - 1, by omega⟩
    have ok := (hH A0 e0).1
    have gf : 2 ^ gaps P false ≤ 2 ^ 8 := Nat.pow_le_pow_right (by decide) (ok.g8 false).1
    have gt : 2 ^ gaps P true ≤ 2 ^ 8 := Nat.pow_le_pow_right (by decide) (ok.g8 true).1
    have h0' : 0 < 2 ^ gaps P false := Nat.two_pow_pos _
    unfold L_X5_simple_49
    have er : ((r + 1 : Nat) : Int) - 1 = r := by omega
    rw [er]
    refine br_lt (b := 0) (by omega) (by omega) (fun c => by omega) (fun _ => ?_)
    refine ⟨2 ^ gaps P false + 1, ?_⟩
    have es : ((2 ^ gaps P false - 1 : Nat) : Int) = ((2 ^ gaps P false : Nat) : Int) - 1 := by omega
    have := m_simple57 (Q := Q) (h := h) (A := A) (V := V) (P := P) (m := m) (kk := fun z0 hz => L_X5_simple_49 m (iI p) (iI ((2 ^ gaps P false - 1 : Nat) : Int)) (iI ((2 ^ gaps P true - 1 : Nat) : Int)) Q u z0 hz) hp (r := r) (by omega) (fun h1 A1 R1 e1 J1 f1 => ih u h1 A1 (by omega) (by omega) R1 e1 J1 f1) (2 ^ gaps P false) (2 ^ gaps P false + 1) h0 A0 (Nat.le_refl _) (by omega) R (hH A0 e0) e0 (by
      have e : (r + 1) * 2 ^ gaps P false = 2 ^ gaps P false + r * 2 ^ gaps P false := by rw [Nat.succ_mul, Nat.add_comm]
      rw [e] at J; exact J) fr
    rw [← es] at this
    exact this
/-- the way, step by step -/
theorem m_simple142 {n0 : Nat} (hp : p < 30) (hH : ∀ A', (∀ j, j ≠ 22 → A' j = A j) → mP A' p P) (hn0 : n0 ≤ 8) (J : tbA P A 0) {sl : List Int} (hsl : sl.length = n0)
    (hq : ∀ h' V' A', rM h' m V' A' → (∀ k, k ≠ 28 → V' k = V k) → (∀ j, j ≠ 22 → A' j = A j) → mL V' A' sl → Fr m (m + 23) h h' → Q (iI n0) h') : ∀ (n u s r : Nat) (ac : List Int) (h0 : pz_H) (V0 : Nat → Int) (A0 : Nat → Int → Int), n < u → s < 2 ^ gaps P false → r < 2 ^ gaps P true → ac ++ trc P n s r = sl → (∃ w, TS P s r = some (n, w)) → rM h0 m V0 A0 → (∀ k, k ≠ 28 → V0 k = V k) → (∀ j, j ≠ 22 → A0 j = A j) → mL V0 A0 ac → Fr m (m + 23) h h0 → L_X5_simple_142 m (iI p) (iI ((2 ^ gaps P false - 1 : Nat) : Int)) (iI ((2 ^ gaps P true - 1 : Nat) : Int)) (iI n0) Q u (iI s) (iI r) h0 := by
  intro n
  have ok := (hH A (fun _ _ => rfl)).1
  have gf : 2 ^ gaps P false ≤ 2 ^ 8 := Nat.pow_le_pow_right (by decide) (ok.g8 false).1
  have gt : 2 ^ gaps P true ≤ 2 ^ 8 := Nat.pow_le_pow_right (by decide) (ok.g8 true).1
  have z1 : 0 < 2 ^ gaps P false := Nat.two_pow_pos _
  have z2 : 0 < 2 ^ gaps P true := Nat.two_pow_pos _
  have alE : (2 ^ gaps P false - 1) + (2 ^ gaps P true - 1) * 2 ^ gaps P false = cr_al P := by
    have h1 := al_pos P
    unfold cr_al
    rw [Nat.sub_mul, Nat.one_mul, Nat.mul_comm]
    have : 2 ^ gaps P false ≤ 2 ^ gaps P false * 2 ^ gaps P true := Nat.le_mul_of_pos_right _ z2
    omega
  induction n with
  | zero =>
    intro u s r ac h0 V0 A0 hu hs hr hac hw R eV eA hL fr
    obtain ⟨w, hw⟩ := hw
    obtain ⟨u, rfl⟩ : ∃ v, u = v + 1 := ⟨u - 1, by omega⟩
    have e := way_0 ok hs hr hw
    have i1 := ix_eq (P := P) (r := r) hs
    have i2 := ix_eq (P := P) (r := 2 ^ gaps P true - 1) (s := 2 ^ gaps P false - 1) (by omega)
    rw [e, ← alE] at i1
    have e1 := i1.1.symm.trans i2.1
    have e2 := i1.2.symm.trans i2.2
    unfold L_X5_simple_142
    refine br_tt (by rw [e1]) (br_tt (by rw [e2]) ?_)
    rw [trc, List.append_nil] at hac
    subst hac
    exact hq h0 V0 A0 R eV eA hL fr
  | succ n ih =>
    intro u s r ac h0 V0 A0 hu hs hr hac hw R eV eA hL fr
    obtain ⟨w, hw⟩ := hw
    obtain ⟨u, rfl⟩ : ∃ v, u = v + 1 := ⟨u - 1, by omega⟩
    obtain ⟨w1, w2, w3, w4, w5, w6⟩ := way_step ok hs hr hw
    have H0 := hH A0 eA
    have ne : s + r * 2 ^ gaps P false ≠ cr_al P := fun e => by rw [TS_al P e] at hw; cases hw
    have alen : ac.length + (n + 1) = n0 := by rw [← hsl, ← hac, List.length_append, trc_len]
    have eSw : eS (TS P s r) = w := by rw [hw]; rfl
    rw [trc, eSw] at hac
    have J0 : tbA P A0 0 := fun s r a b c => by rw [eA 21 (by decide)]; exact J s r a b c
    have tb : tbOk P A0 (TS P) s r := by
      intro s' r' hs' hr' hh
      refine ⟨?_, fun q hq => by have := TS_8 ok hs' hr' hq; omega⟩
      have := J0 s' r' hs' hr' (by omega)
      rw [Nat.sub_zero] at this
      exact this
    have body : B_X5_simple_154 m (iI p) (iI ((2 ^ gaps P false - 1 : Nat) : Int)) (iI ((2 ^ gaps P true - 1 : Nat) : Int)) (iI n0) (iI s) (iI r) (fun z0 z1 hz => L_X5_simple_142 m (iI p) (iI ((2 ^ gaps P false - 1 : Nat) : Int)) (iI ((2 ^ gaps P true - 1 : Nat) : Int)) (iI n0) Q u z0 z1 hz) Q h0 := by
      unfold B_X5_simple_154
      refine rg_o R (m_best (wh := true) R H0 hp hs hr tb (fun _ => ?_))
      rw [← TS_fix ok hs hr ne]
      rw [if_pos rfl, eSw]
      refine rg_o R (m_done R H0 hp (by omega) (by omega) (by omega) ?_)
      have dlt := (s_done_lt ok s r w).2
      -- the step is written down
      have put : B_X5_simple_214 m (iI p) (iI ((2 ^ gaps P false - 1 : Nat) : Int)) (iI ((2 ^ gaps P true - 1 : Nat) : Int)) (iI n0) (iI (nx1 P s r w)) (iI w) (iI (nx2 P s r w)) (iI 0) (fun z0 z1 hz => L_X5_simple_142 m (iI p) (iI ((2 ^ gaps P false - 1 : Nat) : Int)) (iI ((2 ^ gaps P true - 1 : Nat) : Int)) (iI n0) Q u z0 z1 hz) Q h0 := by
        unfold B_X5_simple_214
        rw [iI_or0]
        refine rg_gA R rfl (rg_gI R rfl ?_)
        rw [hL.1]
        refine rg_sI R (by decide) (by decide) rfl (by decide) ⟨by omega, by simp only [lM]; omega⟩ fun h1 R1 f1 => ?_
        refine rg_gI R1 rfl ?_
        rw [hL.1, iI_1, iI_add]
        refine rg_p (V' := va_up V0 28 ((ac.length : Int) + 1)) R1 rfl (Nat.le_of_ble_eq_true rfl) fun h2 R2 f2 => ?_
        refine ih u (nx1 P s r w) (nx2 P s r w) (ac ++ [w]) h2 _ _ (by omega) w2 w3 (by rw [List.append_assoc]; exact hac) w4 R2 (fun k hk => ?_) (fun j hj => (au_nk hj).trans (eA j hj)) ⟨?_, fun i hi => ?_⟩ (fr.tr (f1.tr f2))
        · rw [va_up_ne _ _ hk]; exact eV k hk
        · rw [va_up_self]; simp
        · by_cases e : i = ac.length
          · rw [e, au_at, List.getD_eq_getElem?_getD, List.getElem?_append_right (by omega)]
            simp
          · have hi' : i < ac.length := by rw [List.length_append, List.length_singleton] at hi; omega
            rw [au_ne (by omega), hL.2 i hi', List.getD_eq_getElem?_getD, List.getD_eq_getElem?_getD, List.getElem?_append_left hi']
      unfold B_X5_simple_196
      refine br_by (fun q => br_by (fun _ => ?_) (fun c => absurd q c)) (fun q => br_by (fun c => absurd c q) (fun _ => ?_))
      · have er : isRow w = false := decide_eq_false (not_not_intro ((iI_b1 w).mp q))
        have e1 : nx1 P s r w = s ||| s_done P s r w := by unfold nx1; rw [er]; rfl
        have e2 : nx2 P s r w = r := by unfold nx2; rw [er]; rfl
        rw [e1, e2] at put
        rw [iI_or]
        exact put
      · have er : isRow w = true := decide_eq_true (mt (iI_b1 w).mpr q)
        have e1 : nx1 P s r w = s := by unfold nx1; rw [er]; rfl
        have e2 : nx2 P s r w = r ||| s_done P s r w := by unfold nx2; rw [er]; rfl
        rw [e1, e2] at put
        have e0 : iI (s : Int) ||| (0 : Int32) = iI (s : Int) := iI_or0 s
        unfold B_X5_simple_214 at put ⊢
        rw [e0, iI_or]
        rw [iI_or0] at put
        exact put
    unfold L_X5_simple_142
    refine br_eq (by omega) (by omega) (fun c1 => br_eq (by omega) (by omega) (fun c2 => ?_) (fun _ => body)) (fun _ => body)
    exfalso
    apply ne
    rw [← alE, show s = 2 ^ gaps P false - 1 by omega, show r = 2 ^ gaps P true - 1 by omega]
theorem m_simple {z : Int} (M : MR h m np Ps td cl st) (hz : iB z) (hq : ∀ h', MR h' m np Ps td cl (s_simpleT np Ps st z) → Fr m (m + 23) h h' → Q (iI (s_simple np Ps z)) h') : F_X5_simple m (iI z) h Q := by
  obtain ⟨O, V, A, R, W⟩ := id M
  have S := W.1
  unfold F_X5_simple
  unfold s_simple s_simpleT at hq
  refine rg_o R (m_has R S.1 S.2.1 hz ?_)
  change pq_br (iI (bI (vN np z)) = 0) _ _
  cases c : vN np z with
  | false => exact br_tt rfl (by rw [c] at hq; exact hq h M Fr.rf)
  | true =>
    obtain ⟨p, hp, rfl⟩ := vN_t c
    rw [c] at hq
    simp only [if_true, Int.toNat_natCast] at hq
    have h30 := S.2.1
    have H := S.2.2 p hp
    have hkd := H.1.1.1
    have gf : 2 ^ gaps (Ps p) false ≤ 2 ^ 8 := Nat.pow_le_pow_right (by decide) (H.1.g8 false).1
    have gt : 2 ^ gaps (Ps p) true ≤ 2 ^ 8 := Nat.pow_le_pow_right (by decide) (H.1.g8 true).1
    have z1 : 0 < 2 ^ gaps (Ps p) false := Nat.two_pow_pos _
    have z2 : 0 < 2 ^ gaps (Ps p) true := Nat.two_pow_pos _
    have g1 := (H.1.g8 false).1
    have g2 := (H.1.g8 true).1
    refine br_ff (by decide) (rg_gA R rfl (rg_aI R (by decide) (by decide) rfl (by decide) ⟨by omega, by simp only [lM]; omega⟩ ?_))
    rw [H.2.1]
    refine br_eq (b := 1) (by omega) (by omega) (fun k1 => ?_) (fun k1 => ?_)
    · rw [if_pos (show cr_kd (Ps p) = 1 by omega), if_pos (show cr_kd (Ps p) = 1 by omega)] at hq
      exact hq h M Fr.rf
    · rw [if_neg (show ¬ cr_kd (Ps p) = 1 by omega), if_neg (show ¬ cr_kd (Ps p) = 1 by omega)] at hq
      refine rg_o R (m_gapsOf (b := false) R H (by omega) ?_)
      refine rg_o R (m_gapsOf (b := true) R H (by omega) ?_)
      show pq_ex (fun m49 => L_X5_simple_49 m (iI p) (((1 : Int32) <<< (iI (gaps (Ps p) false : Int) &&& 31)) - (1 : Int32)) (((1 : Int32) <<< (iI (gaps (Ps p) true : Int) &&& 31)) - (1 : Int32)) Q m49 (((1 : Int32) <<< (iI (gaps (Ps p) true : Int) &&& 31)) - (1 : Int32)) h)
      rw [iI_shl (by omega), iI_shl (by omega)]
      have e1 : iI ((2 ^ gaps (Ps p) false : Nat) : Int) - (1 : Int32) = iI ((2 ^ gaps (Ps p) false - 1 : Nat) : Int) := by rw [iI_1, iI_sub]; congr 1; omega
      have e2 : iI ((2 ^ gaps (Ps p) true : Nat) : Int) - (1 : Int32) = iI ((2 ^ gaps (Ps p) true - 1 : Nat) : Int) := by rw [iI_1, iI_sub]; congr 1; omega
      rw [e1, e2]
      have mp : ∀ (A' : Nat → Int → Int), (∀ j, j ≠ 21 → A' j = A j) → mP A' p (Ps p) := fun A' e => by
        have := H
        unfold mP at this ⊢
        simp (disch := omega) only [e]
        exact this
      have st0 : tbA (Ps p) A (2 ^ gaps (Ps p) true * 2 ^ gaps (Ps p) false) := fun s r hs hr hh => by
        have h1 := ix_lt hs hr
        have h2 := al_pos (Ps p)
        unfold cr_al at h1
        rw [Nat.mul_comm] at hh
        omega
      have es : ((2 ^ gaps (Ps p) true - 1 : Nat) : Int) = ((2 ^ gaps (Ps p) true : Nat) : Int) - 1 := by omega
      refine ⟨2 ^ gaps (Ps p) true + 1, ?_⟩
      have run := m_simple49 (Q := Q) (h := h) (A := A) (V := V) (P := Ps p) (m := m) (p := p) (by omega) mp ?_ (2 ^ gaps (Ps p) true) (2 ^ gaps (Ps p) true + 1) h A (Nat.le_refl _) (by omega) R (fun _ _ => rfl) st0 Fr.rf
      · rw [← es] at run
        exact run
      intro h1 A1 R1 e1 J1 f1
      have x1 : xE V A V A1 := ⟨fun _ _ _ _ => rfl, fun j hj => e1 j (by omega)⟩
      unfold way at hq
      cases et : TS (Ps p) 0 0 with
      | none =>
        rw [et] at hq
        exact br_tt rfl (hq h1 (MR.of O W R1 x1) f1)
      | some q =>
        rw [et] at hq
        simp only at hq
        have q8 := TS_8 H.1 z1 z2 et
        refine br_eq (a := (q.1 : Int)) (b := -1) (by omega) (by omega) (fun c => absurd c (by omega)) (fun _ => ?_)
        refine rg_p (V' := va_up V 28 0) R1 rfl (Nat.le_of_ble_eq_true rfl) fun h2 R2 f2 => ?_
        refine ⟨q.1 + 1, m_simple142 (V := va_up V 28 0) (A := A1) (h := h2) (n0 := q.1) (p := p) (P := Ps p) (sl := trc (Ps p) q.1 0 0) (by omega) (fun A' e => ?_) q8 J1 (trc_len _ _ _ _) (fun h3 V3 A3 R3 eV3 eA3 L3 f3 => ?_) q.1 _ 0 0 [] h2 _ A1 (by omega) z1 z2 (List.nil_append _) ⟨q.2, et⟩ R2 (fun _ _ => rfl) (fun _ _ => rfl) ⟨va_up_self _ _ _, fun i hi => by simp at hi⟩ Fr.rf⟩
        · have := mp A1 e1
          unfold mP at this ⊢
          simp (disch := omega) only [e]
          exact this
        · have W1 := W.xe x1
          refine hq h3 ⟨⟨O.1, O.2.1, by rw [trc_len]; exact q8⟩, V3, A3, R3, ⟨?_, S.2.1, fun q hq => ?_⟩, ?_, ?_, L3⟩ (f1.tr (f2.tr f3))
          · rw [eV3 0 (by decide), va_up_ne _ _ (by decide)]; exact S.1
          · have := W1.1.2.2 q hq
            unfold mP at this ⊢
            simp (disch := omega) only [eA3]
            exact this
          · have := W1.2.1
            unfold mT at this ⊢
            rw [eV3 18 (by decide), va_up_ne _ _ (by decide), eA3 15 (by decide)]; exact this
          · have := W1.2.2.1
            unfold mC at this ⊢
            rw [eV3 24 (by decide), va_up_ne _ _ (by decide), eA3 19 (by decide)]; exact this
end MP
