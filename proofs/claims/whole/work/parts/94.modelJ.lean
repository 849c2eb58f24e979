/-! THE REFERENCE: clash -/
theorem va_up2 {α : Type} (f : Nat → α) (p : Nat) (x y : α) : va_up (va_up f p x) p y = va_up f p y := by
  funext q
  by_cases e : q = p
  · subst e; rw [va_up_self, va_up_self]
  · rw [va_up_ne _ _ e, va_up_ne _ _ e, va_up_ne _ _ e]
theorem va_upS {α : Type} (f : Nat → α) (p : Nat) : va_up f p (f p) = f := by
  funext q
  by_cases e : q = p
  · subst e; rw [va_up_self]
  · rw [va_up_ne _ _ e]
theorem mS_mk {V : Nat → Int} {A : Nat → Int → Int} {np p c w : Nat} {Ps : Nat → cr_P} {P : cr_P} {f : Nat → Nat} (S : mS V A np (va_up Ps p (withMk P f))) (hp : p < np) (hc : c < cr_m P) (hw : w ≤ 2) : mS V (au A 9 (12 * (p : Int) + (c : Int)) (w : Int)) np (va_up Ps p (withMk P (va_up f c w))) := by
  have H := S.2.2 p hp
  rw [va_up_self] at H
  have hm : cr_m P ≤ 12 := H.1.m12
  have hK : mK p A (au A 9 (12 * (p : Int) + (c : Int)) (w : Int)) := mK.au (by omega)
  have := m_setS (P' := withMk P (va_up f c w)) S hp (A' := au A 9 (12 * (p : Int) + (c : Int)) (w : Int)) ?_ hK
  · rw [va_up2] at this; exact this
  obtain ⟨g0, g1, g2, g3, g4, g5, g6, g7, g8, g9, g10, g11⟩ := H
  have ok : cr_ok (setMk (withMk P f) c w) := setMk_ok g0 (by omega)
  refine ⟨ok, ?_, ?_, ?_, ?_, ?_, fun k hk => ?_, fun k hk => ?_, fun k hk => ?_, fun k hk => ?_, ?_, ?_⟩
  · rw [au_nk (by decide)]; exact g1
  · rw [au_nk (by decide)]; exact g2
  · rw [au_nk (by decide)]; exact g3
  · rw [au_nk (by decide)]; exact g4
  · rw [au_nk (by decide)]; exact g5
  · rw [au_nk (by decide)]; exact g6 k hk
  · rw [au_nk (by decide)]; exact g7 k hk
  · rw [au_nk (by decide)]; exact g8 k hk
  · show _ = ((va_up f c w k : Nat) : Int)
    by_cases e : k = c
    · subst e; rw [va_up_self]; exact au_at
    · rw [va_up_ne _ _ e]
      have := g9 k hk
      rw [au_ne (by omega)]
      exact this
  · rw [au_nk (by decide)]; exact g10
  · rw [au_nk (by decide)]; exact g11
theorem clF_ge (P : cr_P) : ∀ (k : Nat) (f : Nat → Nat) (c : Nat), k ≤ c → clF P k f c = f c
  | 0, f, c, _ => rfl
  | k + 1, f, c, h => by
    rw [clF, clF_ge P k _ c (by omega)]
    split
    · rfl
    · split
      · rw [va_up_ne _ _ (by omega)]
      · rfl
theorem clF_le (P : cr_P) : ∀ (k : Nat) (f : Nat → Nat) (c : Nat), clF P k f c = f c ∨ clF P k f c = 0
  | 0, f, c => Or.inl rfl
  | k + 1, f, c => by
    rw [clF]
    by_cases h1 : f k = 0
    · rw [if_pos h1]; exact clF_le P k f c
    · rw [if_neg h1]
      split
      · rcases clF_le P k (va_up f k 0) c with e | e
        · rw [e]
          by_cases h2 : c = k
          · subst h2; rw [va_up_self]; exact Or.inr rfl
          · rw [va_up_ne _ _ h2]; exact Or.inl rfl
        · exact Or.inr e
      · exact clF_le P k f c
section MJ
variable {h : pz_H} {m np p : Nat} {V : Nat → Int} {A : Nat → Int → Int} {Ps : Nat → cr_P} {P : cr_P} {td : Option (Nat × List Nat)} {cl : List Nat} {st : List Int} {Q : Int32 → pz_H → Prop}
/-- the scratch of clash may differ -/
def yE (V : Nat → Int) (A : Nat → Int → Int) (V' : Nat → Int) (A' : Nat → Int → Int) : Prop := (∀ k, k ≠ 12 → k ≠ 13 → k ≠ 15 → k ≠ 24 → V' k = V k) ∧ A' 15 = A 15 ∧ A' 20 = A 20 ∧ A' 22 = A 22
theorem yE.tr {V V1 V2 : Nat → Int} {A A1 A2 : Nat → Int → Int} (a : yE V A V1 A1) (b : yE V1 A1 V2 A2) : yE V A V2 A2 := ⟨fun k h1 h2 h3 h4 => (b.1 k h1 h2 h3 h4).trans (a.1 k h1 h2 h3 h4), b.2.1.trans a.2.1, b.2.2.1.trans a.2.2.1, b.2.2.2.trans a.2.2.2⟩
theorem yE.rf {V : Nat → Int} {A : Nat → Int → Int} : yE V A V A := ⟨fun _ _ _ _ _ => rfl, rfl, rfl, rfl⟩
theorem bE.ye {V V' : Nat → Int} {A A' : Nat → Int → Int} (e : bE V A V' A') : yE V A V' A' := ⟨fun k h1 h2 h3 _ => e.1 k h1 h2 h3, e.2 15 (by decide) (by decide) (by decide), e.2 20 (by decide) (by decide) (by decide), e.2 22 (by decide) (by decide) (by decide)⟩
theorem yE.au {V : Nat → Int} {A : Nat → Int → Int} {j : Nat} {i x : Int} (h : j = 9 ∨ j = 19) : yE V A V (au A j i x) := ⟨fun _ _ _ _ _ => rfl, au_nk (by omega), au_nk (by omega), au_nk (by omega)⟩
theorem yE.vu {V : Nat → Int} {A : Nat → Int → Int} {x : Int} : yE V A (va_up V 24 x) A := ⟨fun k _ _ _ h => va_up_ne _ _ h, rfl, rfl, rfl⟩
theorem m_clash135 {f : Nat → Nat} (hp : p < np) (hkp : ∀ c : Nat, c < cr_m P → A 20 c = cr_mk P c) (hf : ∀ c, f c ≤ 2) (hmk : ∀ c, cr_mk P c ≤ 2)
    (hq : ∀ h' V' A', rM h' m V' A' → mS V' A' np (va_up Ps p (withMk P (fun d => if d < cr_m P then cr_mk P d else f d))) → mC V' A' ((List.range (cr_m P)).filter (fun c => decide (f c ≠ 0))) → yE V A V' A' → Fr m (m + 23) h h' → Q (iI ((List.range (cr_m P)).filter (fun c => decide (f c ≠ 0))).length) h') :
    ∀ (k u c : Nat) (h0 : pz_H) (V0 : Nat → Int) (A0 : Nat → Int → Int), c + k = cr_m P → k < u → rM h0 m V0 A0 → mS V0 A0 np (va_up Ps p (withMk P (fun d => if d < c then cr_mk P d else f d))) → mC V0 A0 ((List.range c).filter (fun c => decide (f c ≠ 0))) → yE V A V0 A0 → Fr m (m + 23) h h0 → L_X5_clash_135 m (iI p) (m + 20) Q u (iI c) h0 := by
  intro k
  induction k with
  | zero =>
    intro u c h0 V0 A0 hc hu R S C y fr
    have H := S.2.2 p hp
    rw [va_up_self] at H
    have hm : cr_m P ≤ 12 := H.1.m12
    have h30 := S.2.1
    have e5 : A0 5 p = cr_m P := H.2.2.2.2.2.1
    obtain ⟨u, rfl⟩ : ∃ v, u = v + 1 := ⟨u - 1, by omega⟩
    have ec : c = cr_m P := by omega
    subst ec
    unfold L_X5_clash_135
    simp (disch := omega) only [mE R, e5, ebr_le, C.1, lits, iI_add, iI_sub, iI_mul, iI_neg]
    rw [if_pos (by omega)]
    exact hq h0 V0 A0 R S C y fr
  | succ k ih =>
    intro u c h0 V0 A0 hc hu R S C y fr
    have H := S.2.2 p hp
    rw [va_up_self] at H
    have hm : cr_m P ≤ 12 := H.1.m12
    have h30 := S.2.1
    have hcm : c < cr_m P := by omega
    have e5 : A0 5 p = cr_m P := H.2.2.2.2.2.1
    have e9 : A0 9 (12 * (p : Int) + (c : Int)) = f c := by
      have := H.2.2.2.2.2.2.2.2.2.1 c hcm
      rw [this]
      show ((if c < c then cr_mk P c else f c : Nat) : Int) = f c
      rw [if_neg (by omega)]
    have b9 := hf c
    have bm := hmk c
    have e20 : A0 20 (c : Int) = cr_mk P c := by rw [y.2.2.1]; exact hkp c hcm
    have hlen : ((List.range c).filter (fun c => decide (f c ≠ 0))).length ≤ c := by
      have := List.length_filter_le (fun c => decide (f c ≠ 0)) (List.range c)
      simpa using this
    -- what comes behind, once the clash list is right
    have last : ∀ (h1 : pz_H) (V1 : Nat → Int) (A1 : Nat → Int → Int), rM h1 m V1 A1 → mS V1 A1 np (va_up Ps p (withMk P (fun d => if d < c then cr_mk P d else f d))) → mC V1 A1 ((List.range (c + 1)).filter (fun c => decide (f c ≠ 0))) → A1 20 (c : Int) = cr_mk P c → yE V A V1 A1 → Fr m (m + 23) h h1 → B_X5_clash_179 m (iI p) (m + 20) (iI c) (fun z0 hz => L_X5_clash_135 m (iI p) (m + 20) Q (u - 1) z0 hz) Q h1 := fun h1 V1 A1 R1 S1 C1 e1 y1 f1 => by
      unfold B_X5_clash_179
      simp (disch := omega) only [mE R1, e1, iI_s, lits, iI_add, iI_sub, iI_mul, iI_neg]
      refine rg_sI R1 (by decide) (by decide) rfl (by decide) ⟨by omega, by simp only [lM]; omega⟩ fun h2 R2 f2 => ?_
      refine ih (u - 1) (c + 1) h2 V1 _ (by omega) (by omega) R2 ?_ ⟨C1.1, fun i hi => by rw [au_nk (by decide)]; exact C1.2 i hi⟩ (y1.tr (yE.au (Or.inl rfl))) (f1.tr f2)
      have := mS_mk (c := c) (w := cr_mk P c) S1 hp hcm bm
      have ef : va_up (fun d => if d < c then cr_mk P d else f d) c (cr_mk P c) = (fun d => if d < c + 1 then cr_mk P d else f d) := by
        funext d
        by_cases e : d = c
        · subst e; rw [va_up_self, if_pos (by omega)]
        · rw [va_up_ne _ _ e]
          by_cases e2 : d < c
          · rw [if_pos e2, if_pos (by omega)]
          · rw [if_neg e2, if_neg (by omega)]
      rw [ef] at this
      exact this
    obtain ⟨u, rfl⟩ : ∃ v, u = v + 1 := ⟨u - 1, by omega⟩
    unfold L_X5_clash_135
    simp (disch := omega) only [mE R, e5, e9, ebr_le, ebr_eq, C.1, lits, iI_add, iI_sub, iI_mul, iI_neg]
    rw [if_neg (by omega)]
    by_cases q : f c = 0
    · rw [if_pos (by omega)]
      have C1 : mC V0 A0 ((List.range (c + 1)).filter (fun c => decide (f c ≠ 0))) := by
        rw [List.range_succ, List.filter_append]
        simp only [List.filter_cons, q]
        simpa using C
      exact last h0 V0 A0 R S C1 e20 y fr
    · rw [if_neg (by omega)]
      refine rg_sI R (by decide) (by decide) rfl (by decide) ⟨by omega, by simp only [lM]; omega⟩ fun h1 R1 f1 => ?_
      simp (disch := omega) only [mE R1, C.1, lits, iI_add, iI_sub, iI_mul, iI_neg]
      refine rg_p (V' := va_up V0 24 (((List.range c).filter (fun c => decide (f c ≠ 0))).length + 1)) R1 rfl (Nat.le_of_ble_eq_true rfl) fun h2 R2 f2 => ?_
      refine last h2 _ _ R2 ?_ ?_ (by rw [au_nk (by decide)]; exact e20) (y.tr ((yE.au (Or.inr rfl)).tr yE.vu)) (fr.tr (f1.tr f2))
      · have x1 : ∀ j, j ≤ 11 → (au A0 19 (((List.range c).filter (fun c => decide (f c ≠ 0))).length : Int) (c : Int)) j = A0 j := fun j hj => au_nk (by omega)
        refine ⟨by rw [va_up_ne _ _ (by decide)]; exact S.1, S.2.1, fun q hq => ?_⟩
        have := S.2.2 q hq
        unfold mP at this ⊢
        simp (disch := omega) only [x1]
        exact this
      · rw [List.range_succ, List.filter_append]
        have ef : [c].filter (fun c => decide (f c ≠ 0)) = [c] := by simp [q]
        rw [ef]
        refine ⟨by rw [va_up_self]; simp, fun i hi => ?_⟩
        by_cases e : i = ((List.range c).filter (fun c => decide (f c ≠ 0))).length
        · rw [e, au_at, List.getD_eq_getElem?_getD, List.getElem?_append_right (by omega)]
          simp
        · have hi' : i < ((List.range c).filter (fun c => decide (f c ≠ 0))).length := by rw [List.length_append, List.length_singleton] at hi; omega
          rw [au_ne (by omega), C.2 i hi', List.getD_eq_getElem?_getD, List.getD_eq_getElem?_getD, List.getElem?_append_left hi']
theorem m_clash72 (hp : p < np) (hkp : ∀ c : Nat, c < cr_m P → A 20 c = cr_mk P c) (hmk : ∀ c, cr_mk P c ≤ 2) {F : Nat → Nat} (hF : ∀ c, F c ≤ 2)
    (hq : ∀ h' V' A', rM h' m V' A' → mS V' A' np (va_up Ps p (withMk P (fun d => if d < cr_m P then cr_mk P d else F d))) → mC V' A' ((List.range (cr_m P)).filter (fun c => decide (F c ≠ 0))) → yE V A V' A' → Fr m (m + 23) h h' → Q (iI ((List.range (cr_m P)).filter (fun c => decide (F c ≠ 0))).length) h') :
    ∀ (k u : Nat) (f : Nat → Nat) (h0 : pz_H) (V0 : Nat → Int) (A0 : Nat → Int → Int), k ≤ cr_m P → k < u → (∀ c, f c ≤ 2) → clF P k f = F → rM h0 m V0 A0 → mS V0 A0 np (va_up Ps p (withMk P f)) → V0 24 = 0 → yE V A V0 A0 → Fr m (m + 23) h h0 → L_X5_clash_72 m (iI p) (m + 20) Q u (iI ((k : Int) - 1)) h0 := by
  intro k
  induction k with
  | zero =>
    intro u f h0 V0 A0 hk hu hf eF R S h24 y fr
    obtain ⟨u, rfl⟩ : ∃ v, u = v + 1 := ⟨u - 1, by omega⟩
    unfold L_X5_clash_72
    refine br_tt (by decide) ?_
    have hm : cr_m P ≤ 12 := by
      have H := S.2.2 p hp
      rw [va_up_self] at H
      exact H.1.m12
    have eF : f = F := eF
    subst eF
    refine ⟨20, m_clash135 (f := f) hp hkp hf hmk hq (cr_m P) 20 0 h0 V0 A0 (by omega) (by omega) R ?_ ⟨h24, fun i hi => by simp at hi⟩ y fr⟩
    have e : (fun d => if d < 0 then cr_mk P d else f d) = f := by funext d; rw [if_neg (by omega)]
    rw [e]
    exact S
  | succ k ih =>
    intro u f h0 V0 A0 hk hu hf eF R S h24 y fr
    have H := S.2.2 p hp
    rw [va_up_self] at H
    have hm : cr_m P ≤ 12 := H.1.m12
    have h30 := S.2.1
    have e9 : A0 9 (12 * (p : Int) + (k : Int)) = f k := H.2.2.2.2.2.2.2.2.2.1 k (show k < cr_m P by omega)
    have b9 := hf k
    have ek : ((k + 1 : Nat) : Int) - 1 = (k : Int) := by omega
    have ek2 : (k : Int) + -1 = (k : Int) - 1 := by omega
    rw [clF] at eF
    obtain ⟨u, rfl⟩ : ∃ v, u = v + 1 := ⟨u - 1, by omega⟩
    unfold L_X5_clash_72 B_X5_clash_127
    rw [ek]
    simp (disch := omega) only [mE R, e9, ebr_lt, ebr_eq, ek2, lits, iI_add, iI_sub, iI_mul, iI_neg]
    rw [if_neg (by omega)]
    by_cases q : f k = 0
    · rw [if_pos (by omega)]
      rw [if_pos q] at eF
      exact ih u f h0 V0 A0 (by omega) (by omega) hf eF R S h24 y fr
    · rw [if_neg (by omega)]
      rw [if_neg q] at eF
      refine rg_sI R (by decide) (by decide) rfl (by decide) ⟨by omega, by simp only [lM]; omega⟩ fun h1 R1 f1 => ?_
      have S1 := mS_mk (c := k) (w := 0) S hp (by omega) (by omega)
      rw [(mE R1).1]
      refine m_isAllowed R1 S1 hp (fun h2 V2 A2 R2 b2 f2 => ?_)
      rw [va_up_self]
      have y1 : yE V0 A0 V0 (au A0 9 (12 * (p : Int) + (k : Int)) ((0 : Nat) : Int)) := yE.au (Or.inl rfl)
      have e24 : V2 24 = 0 := (b2.1 24 (by decide) (by decide) (by decide)).trans h24
      by_cases q2 : mOrd (withMk P (va_up f k 0)) = []
      · rw [if_pos q2]
        rw [if_pos q2] at eF
        refine br_tt rfl ?_
        refine ih u (va_up f k 0) h2 V2 A2 (by omega) (by omega) (fun c => ?_) eF R2 (S1.be b2) e24 (y.tr (y1.tr b2.ye)) (fr.tr (f1.tr f2))
        by_cases e : c = k
        · subst e; rw [va_up_self]; omega
        · rw [va_up_ne _ _ e]; exact hf c
      · rw [if_neg q2]
        rw [if_neg q2] at eF
        refine br_ff (by decide) ?_
        simp (disch := omega) only [mE R2, lits, iI_add, iI_sub, iI_mul, iI_neg]
        refine rg_sI R2 (by decide) (by decide) rfl (by decide) ⟨by omega, by simp only [lM]; omega⟩ fun h3 R3 f3 => ?_
        have S3 := mS_mk (c := k) (w := f k) (S1.be b2) hp (by omega) (by omega)
        rw [va_up2, va_upS] at S3
        exact ih u f h3 V2 _ (by omega) (by omega) hf eF R3 S3 e24 (y.tr (y1.tr (b2.ye.tr (yE.au (Or.inl rfl))))) (fr.tr (f1.tr (f2.tr f3)))
theorem m_clash33 (R : rM h m V A) (hp : p < np) (H : ∀ A', (∀ j, j ≠ 20 → A' j = A j) → mP A' p P) (h30 : np ≤ 30) (hq : ∀ h' A', rM h' m V A' → (∀ j, j ≠ 20 → A' j = A j) → (∀ c : Nat, c < cr_m P → A' 20 c = cr_mk P c) → Fr m (m + 23) h h' → pq_ex (fun m72 => L_X5_clash_72 m (iI p) (m + 20) Q m72 (iI ((cr_m P : Int) - 1)) h')) : ∀ (k u c : Nat) (h0 : pz_H) (A0 : Nat → Int → Int), c + k = cr_m P → k < u → rM h0 m V A0 → (∀ j, j ≠ 20 → A0 j = A j) → (∀ d : Nat, d < c → A0 20 d = cr_mk P d) → Fr m (m + 23) h h0 → L_X5_clash_33 m (iI p) (m + 20) Q u (iI c) h0 := by
  intro k
  have hm : cr_m P ≤ 12 := (H A (fun _ _ => rfl)).1.m12
  induction k with
  | zero =>
    intro u c h0 A0 hc hu R0 e0 g fr
    have H0 := H A0 e0
    obtain ⟨u, rfl⟩ : ∃ v, u = v + 1 := ⟨u - 1, by omega⟩
    unfold L_X5_clash_33
    simp (disch := omega) only [mE R0, H0.2.2.2.2.2.1, ebr_le, lits, iI_add, iI_sub, iI_mul, iI_neg]
    rw [if_pos (by omega)]
    exact hq h0 A0 R0 e0 (fun d hd => g d (by omega)) fr
  | succ k ih =>
    intro u c h0 A0 hc hu R0 e0 g fr
    have H0 := H A0 e0
    have e9 : A0 9 (12 * (p : Int) + (c : Int)) = cr_mk P c := H0.2.2.2.2.2.2.2.2.2.1 c (by omega)
    obtain ⟨u, rfl⟩ : ∃ v, u = v + 1 := ⟨u - 1, by omega⟩
    unfold L_X5_clash_33
    simp (disch := omega) only [mE R0, H0.2.2.2.2.2.1, ebr_le, e9, iI_s, lits, iI_add, iI_sub, iI_mul, iI_neg]
    rw [if_neg (by omega)]
    refine rg_sI R0 (by decide) (by decide) rfl (by decide) ⟨by omega, by simp only [lM]; omega⟩ fun h1 R1 f1 => ?_
    refine ih u (c + 1) h1 _ (by omega) (by omega) R1 (fun j hj => (au_nk hj).trans (e0 j hj)) (fun d hd => ?_) (fr.tr f1)
    by_cases e : d = c
    · subst e; exact au_at
    · rw [au_ne (by omega)]; exact g d (by omega)
theorem m_clash {z : Int} (M : MR h m np Ps td cl st) (hz : iB z) (hq : ∀ h', MR h' m np Ps td (s_clashC np Ps cl z) st → Fr m (m + 23) h h' → Q (iI (s_clash np Ps z)) h') : F_X5_clash m (iI z) h Q := by
  obtain ⟨O, V, A, R, W⟩ := id M
  have S := W.1
  unfold F_X5_clash
  unfold s_clash s_clashC at hq
  refine rg_o R (m_has R S.1 S.2.1 hz ?_)
  change pq_br (iI (bI (vN np z)) = 0) _ _
  cases c : vN np z with
  | false => exact br_tt rfl (by rw [c] at hq; exact hq h M Fr.rf)
  | true =>
    obtain ⟨p, hp, rfl⟩ := vN_t c
    rw [c] at hq
    simp only [if_true, Int.toNat_natCast] at hq
    have h30 := S.2.1
    have hmk := (S.2.2 p hp).1.2.2.1
    have hm := (S.2.2 p hp).1.m12
    refine br_ff (by decide) (rg_p (V' := va_up V 24 0) R rfl (Nat.le_of_ble_eq_true rfl) fun h1 R1 f1 => ?_)
    have S1 : mS (va_up V 24 0) A np Ps := ⟨by rw [va_up_ne _ _ (by decide)]; exact S.1, S.2⟩
    rw [(mE R1).1]
    refine m_isAllowed R1 S1 hp (fun h2 V2 A2 R2 b2 f2 => ?_)
    have y2 : yE V A V2 A2 := yE.vu.tr b2.ye
    have S2 := S1.be b2
    have e24 : V2 24 = 0 := (b2.1 24 (by decide) (by decide) (by decide)).trans (va_up_self _ _ _)
    -- the whole state, once its papers and its clash are right
    have fin : ∀ (h' : pz_H) (V' : Nat → Int) (A' : Nat → Int → Int) (cl' : List Nat), rM h' m V' A' → mS V' A' np Ps → mC V' A' cl' → cl'.length ≤ 12 → A' 15 = A 15 → A' 22 = A 22 → (∀ k, k ≠ 12 → k ≠ 13 → k ≠ 15 → k ≠ 24 → V' k = V k) → MR h' m np Ps td cl' st := fun h' V' A' cl' a1 a2 a3 a4 a5 a6 a7 => by
      refine ⟨⟨O.1, a4, O.2.2⟩, V', A', a1, a2, ?_, a3, ?_⟩
      · have := W.2.1
        unfold mT at this ⊢
        rw [a7 18 (by decide) (by decide) (by decide) (by decide), a5]; exact this
      · have := W.2.2.2
        unfold mL at this ⊢
        rw [a7 28 (by decide) (by decide) (by decide) (by decide), a6]; exact this
    unfold s_clashL at hq
    by_cases q : mOrd (Ps p) = []
    · rw [if_pos q] at hq ⊢
      refine br_tt rfl ?_
      simp (disch := omega) only [mE R2, lits, iI_add, iI_sub, iI_mul, iI_neg]
      refine ⟨20, m_clash33 (P := Ps p) R2 hp (fun A' e => ?_) h30 (fun h3 A3 R3 e3 g3 f3 => ?_) (cr_m (Ps p)) 20 0 h2 A2 (by omega) (by omega) R2 (fun _ _ => rfl) (fun d hd => by omega) Fr.rf⟩
      · have := S2.2.2 p hp
        unfold mP at this ⊢
        simp (disch := omega) only [e]
        exact this
      · have S3 : mS V2 A3 np Ps := by
          refine ⟨S2.1, S2.2.1, fun q hq => ?_⟩
          have := S2.2.2 q hq
          unfold mP at this ⊢
          simp (disch := omega) only [e3]
          exact this
        have ew : withMk (Ps p) (cr_mk (Ps p)) = Ps p := rfl
        refine ⟨20, m_clash72 (P := Ps p) (Ps := Ps) (A := A3) (V := V2) (h := h3) (F := clF (Ps p) (cr_m (Ps p)) (cr_mk (Ps p))) hp g3 hmk (fun c => ?_) (fun h4 V4 A4 R4 S4 C4 y4 f4 => ?_) (cr_m (Ps p)) 20 (cr_mk (Ps p)) h3 V2 A3 (by omega) (by omega) hmk rfl R3 (by rw [ew, va_upS]; exact S3) e24 yE.rf Fr.rf⟩
        · rcases clF_le (Ps p) (cr_m (Ps p)) (cr_mk (Ps p)) c with e | e
          · rw [e]; exact hmk c
          · rw [e]; omega
        · have ef : (fun d => if d < cr_m (Ps p) then cr_mk (Ps p) d else clF (Ps p) (cr_m (Ps p)) (cr_mk (Ps p)) d) = cr_mk (Ps p) := by
            funext d
            by_cases e : d < cr_m (Ps p)
            · rw [if_pos e]
            · rw [if_neg e, clF_ge _ _ _ _ (by omega)]
          rw [ef, ew, va_upS] at S4
          refine hq h4 (fin h4 V4 A4 _ R4 S4 C4 ?_ ?_ ?_ ?_) (f1.tr (f2.tr (f3.tr f4)))
          · have := List.length_filter_le (fun c => decide (clF (Ps p) (cr_m (Ps p)) (cr_mk (Ps p)) c ≠ 0)) (List.range (cr_m (Ps p)))
            rw [List.length_range] at this
            omega
          · rw [y4.2.1, e3 15 (by decide)]; exact y2.2.1
          · rw [y4.2.2.2, e3 22 (by decide)]; exact y2.2.2.2
          · exact fun k h1 h2 h3 h4 => (y4.1 k h1 h2 h3 h4).trans (y2.1 k h1 h2 h3 h4)
    · rw [if_neg q] at hq ⊢
      refine br_ff (by decide) ?_
      exact hq h2 (fin h2 V2 A2 [] R2 S2 ⟨e24, fun i hi => by simp at hi⟩ (by simp) y2.2.1 y2.2.2.2 y2.1) (f1.tr f2)
end MJ
