/-! THE CLASS: explore and trace of Ways -/
def wT (P : cr_P) (A : Nat → Int → Int) (k : Nat) : Prop := ∀ F : Nat, cr_al P ≤ F + k → F ≤ cr_al P → A 1 (F : Int) = eN (tbF P k F) ∧ ∀ q, F ≠ cr_al P → tbF P k F = some q → A 2 (F : Int) = q.2 ∧ A 3 (F : Int) = nxF P F q.2
theorem ar_len {h : pz_H} {b n : Nat} {f : Int → Int} {K : Int32 → Prop} (R : ar h b n f) (k : K (iI n)) : pq_len h b K := ⟨0, _, _, R, rfl, by
  have e : Int32.ofNat n = iI (n : Int) := (Int32.ofInt_eq_ofNat).symm
  show K (Int32.ofNat n)
  rw [e]; exact k⟩
theorem ar.fr {h h' : pz_H} {b n : Nat} {f : Int → Int} {lo hi : Nat} (R : ar h b n f) (F : Fr lo hi h h') (hd : b < lo ∨ hi ≤ b) : ar h' b n f := by
  unfold ar at R ⊢
  rw [F.2 b hd]; exact R
section Z1
variable {h : pz_H} {a y : Nat} {V VP : Nat → Int} {A AP AY : Nat → Int → Int} {P : cr_P} {Q : Int32 → pz_H → Prop} {K : pz_H → Prop}
theorem c_explore_loop (hk : cr_kd P ≠ 1) (C : cP VP AP P) (d2 : y + 11 ≤ a ∨ a + 13 ≤ y)
    (hq : ∀ h' A' F' AY', rW h' (y + 7) V A' → wT P A' (cr_al P) → rY h' y F' AY' → (∀ b, AY' (eA b) 0 = 0) → Fr y (y + 11) h h' → K h') : ∀ (n u : Nat) (h0 : pz_H) (A : Nat → Int → Int) (F0 : Int) (AY : Nat → Int → Int), n ≤ cr_al P → n < u → rW h0 (y + 7) V A → wT P A (cr_al P - n) → rY h0 y F0 AY → (∀ b, AY (eA b) 0 = 0) → rP h0 a VP AP → Fr y (y + 11) h h0 → L_X3_explore_27 (y + 7) a y K u (iI ((n : Int) - 1)) h0 := by
  intro n
  have ok := C.1.1
  have a255 := al_255 ok
  induction n with
  | zero =>
    intro u h0 A F0 AY hn hu R T RY z0 RP fr
    obtain ⟨u, rfl⟩ : ∃ v, u = v + 1 := ⟨u - 1, by omega⟩
    unfold L_X3_explore_27
    exact br_tt (by decide) (hq h0 A F0 AY R T RY z0 fr)
  | succ F ih =>
    intro u h0 A F0 AY hn hu R T RY z0 RP fr
    obtain ⟨u, rfl⟩ : ∃ v, u = v + 1 := ⟨u - 1, by omega⟩
    have h0' : 0 < 2 ^ gaps P false := Nat.two_pow_pos _
    obtain ⟨s, r, hs, hr, eF⟩ : ∃ s r, s < 2 ^ gaps P false ∧ r < 2 ^ gaps P true ∧ F = s + r * 2 ^ gaps P false := by
      refine ⟨F % 2 ^ gaps P false, F / 2 ^ gaps P false, Nat.mod_lt _ h0', ?_, ?_⟩
      · refine Nat.div_lt_of_lt_mul ?_
        unfold cr_al at hn
        omega
      · have := Nat.div_add_mod F (2 ^ gaps P false)
        rw [Nat.mul_comm]; omega
    obtain ⟨k, hk1⟩ : ∃ k, cr_al P = F + k + 1 := ⟨cr_al P - F - 1, by omega⟩
    have ek : cr_al P - (F + 1) = k := by omega
    rw [ek] at T
    unfold L_X3_explore_27
    have e1 : ((F + 1 : Nat) : Int) - 1 = F := by omega
    have e2 : iI (F : Int) + (-1 : Int32) = iI ((F : Int) - 1) := by rw [iI_m1, iI_add]; rfl
    rw [e1, e2]
    refine br_lt (b := 0) (by omega) (by omega) (fun c => by omega) (fun _ => ?_)
    rw [(wE R).2.1]
    refine rg_sI (j := 1) (z := 1000) R (by decide) (by decide) rfl (by decide) ⟨by omega, by simp only [lW]; omega⟩ fun h1 R1 f1 => ?_
    have RY1 := RY.fr f1 (by omega)
    have RP1 := RP.fr f1 (by omega)
    rw [(ylE RY1).1]
    refine c_layPut RY1 RP1 C.1 (by omega) (by omega) z0 (fun h2 AY2 RY2 L2 z2 f2 => ?_)
    have R2 := R1.fr f2 (by omega)
    have RP2 := RP1.fr f2 (by omega)
    rw [(wE R2).1]
    obtain ⟨T', hT⟩ : ∃ T' : Nat → Nat → Option (Nat × Int), T' = fun s r => tbF P k (s + r * 2 ^ gaps P false) := ⟨_, rfl⟩
    have A1e : ∀ j i, i ≠ (F : Int) → au A 1 (F : Int) 1000 j i = A j i := fun j i hi => by rw [au_if, if_neg (fun z => hi z.2)]
    have B2 : wB P (au A 1 (F : Int) 1000) T' s r := by
      intro s' r' hs' hr' hh
      have h1 := ix_mono (P := P) hh
      have h2 := ix_lt hs' hr'
      rw [A1e _ _ (by omega), hT]
      refine ⟨(T _ (by omega) h2).1, fun q hq => ?_⟩
      have := tbF_8 ok hs' hr' (by omega) (by omega) hq
      omega
    have g0 := (ok.g8 false).1
    have g1 := (ok.g8 true).1
    have ze : (0 : Int32) = iI ((0 : Nat) : Int) := rfl
    have lowR : ∀ n, List.range' 0 n = List.range n := fun n => (List.range_eq_range').symm
    subst eF
    unfold F_X3_tryLines
    refine ⟨10, ?_⟩
    refine c_tryLines (b := false) (T := T') hk C L2 hs hr (by omega) (by omega) (gaps P false) 10 0 h2 _ none (by omega) (by omega) R2 RY2 RP2 B2 (fun q hq => by cases hq) ⟨au_at, fun q hq => by cases hq⟩ (fun h3 A3 R3 m3 o3 w3 f3 => ?_)
    rw [(wE R3).1]
    have RY3 := RY2.fr f3 (by omega)
    have RP3 := RP2.fr f3 (by omega)
    refine ⟨10, ?_⟩
    refine c_tryLines (b := true) (T := T') hk C L2 hs hr (by omega) (by omega) (gaps P true) 10 0 h3 A3 _ (by omega) (by omega) R3 RY3 RP3 (B2.up m3) o3 w3 (fun h4 A4 R4 m4 o4 w4 f4 => ?_)
    have F1 : Fr y (y + 11) h0 h4 := (f1.wide (by omega) (by omega)).tr ((f2.wide (by omega) (by omega)).tr ((f3.wide (by omega) (by omega)).tr (f4.wide (by omega) (by omega))))
    rw [lowR, lowR] at w4
    have best : tbF P (k + 1) (s + r * 2 ^ gaps P false) = (List.range (gaps P true)).foldl (tryG P T' s r true) ((List.range (gaps P false)).foldl (tryG P T' s r false) none) := by
      rw [tbF_set hs hk1, ← hT]; rfl
    rw [← best] at w4
    refine ih u h4 A4 _ AY2 (by omega) (by omega) R4 ?_ (RY3.fr f4 (by omega)) z2 (RP3.fr f4 (by omega)) (fr.tr F1)
    rw [show cr_al P - (s + r * 2 ^ gaps P false) = k + 1 by omega]
    intro G hG1 hG2
    by_cases c : G = s + r * 2 ^ gaps P false
    · subst c
      exact ⟨w4.1, fun q _ hq => w4.2 q hq⟩
    · have eA : ∀ j, A4 j (G : Int) = A j (G : Int) := fun j => by rw [m4 j _ (by omega), m3 j _ (by omega), A1e j _ (by omega)]
      have et : tbF P (k + 1) G = tbF P k G := by rw [tbF, va_up_ne _ _ (by omega)]
      rw [eA, eA, eA, et]
      exact T G (by omega) hG2
theorem c_explore {F0 : Int} (hk : cr_kd P ≠ 1) (C : cP VP AP P) (d2 : y + 11 ≤ a ∨ a + 13 ≤ y) (R : rW h (y + 7) V A) (RY : rY h y F0 AY) (z0 : ∀ b, AY (eA b) 0 = 0) (RP : rP h a VP AP)
    (hq : ∀ h' A' F' AY', rW h' (y + 7) V A' → wT P A' (cr_al P) → rY h' y F' AY' → (∀ b, AY' (eA b) 0 = 0) → Fr y (y + 11) h h' → K h') : F_X3_explore (y + 7) a y h K := by
  have ok := C.1.1
  have a255 := al_255 ok
  unfold F_X3_explore
  rw [(pE RP).1]
  refine c_allLines RP C.1 ?_
  rw [(wE R).2.1]
  refine ar_len (rg_ar R (by decide) (by decide) rfl) ?_
  rw [(wE R).2.1]
  have e1 : iI ((lW 1 : Nat) : Int) - (1 : Int32) = iI 255 := by decide
  rw [e1]
  have e2 : (if iI 255 < iI (cr_al P : Int) then iI 255 else iI (cr_al P : Int)) = iI (cr_al P : Int) := by
    rw [if_neg]
    intro c
    have := (iI_lt (by omega) (by omega) (by omega) (by omega)).mp c
    omega
  rw [e2]
  have e3 : iI (cr_al P : Int) - (1 : Int32) = iI ((cr_al P : Int) - 1) := by rw [iI_1, iI_sub]
  rw [e3]
  refine rg_sI (j := 1) (z := 0) R (by decide) (by decide) rfl (by decide) ⟨by omega, by simp only [lW]; omega⟩ fun h1 R1 f1 => ?_
  have f1' : Fr y (y + 11) h h1 := f1.wide (by omega) (by omega)
  refine ⟨cr_al P + 1, c_explore_loop hk C d2 hq (cr_al P) _ h1 _ F0 AY (Nat.le_refl _) (by omega) R1 ?_ (RY.fr f1 (by omega)) z0 (RP.fr f1 (by omega)) f1'⟩
  rw [Nat.sub_self]
  intro F g1 g2
  have : F = cr_al P := by omega
  subst this
  refine ⟨?_, fun q hne => absurd rfl hne⟩
  rw [au_at, tbF]
  simp [eN]
theorem nxF_ix (ok : cr_ok P) {s r n : Nat} {z : Int} (hs : s < 2 ^ gaps P false) (hr : r < 2 ^ gaps P true) (h : TS P s r = some (n + 1, z)) : nxF P (s + r * 2 ^ gaps P false) z = nx1 P s r z + nx2 P s r z * 2 ^ gaps P false := by
  obtain ⟨w1, -⟩ := way_step ok hs hr h
  obtain ⟨f0, f1⟩ := fsO_ix (P := P) (r := r) hs
  unfold nxF
  rw [f0, f1, ix_or hs w1]
  rfl
theorem c_trace_loop {w b : Nat} (ok : cr_ok P) (hT : wT P A (cr_al P)) (hb : b < w ∨ w + 4 ≤ b) : ∀ (n u s r : Nat) (ac : List Int) (h : pz_H) (f : Int → Int), n < u → s < 2 ^ gaps P false → r < 2 ^ gaps P true → ac.length + n ≤ 8 → (∃ x, TS P s r = some (n, x)) → rW h w V A → ar h b 8 f → (∀ i : Nat, i < ac.length → f i = ac.getD i 0) →
    (∀ h' f', ar h' b 8 f' → (∀ i : Nat, i < (ac ++ trc P n s r).length → f' i = (ac ++ trc P n s r).getD i 0) → Fr b (b + 1) h h' → Q (iI ((ac.length + n : Nat) : Int)) h') → L_X3_trace_5 w (iI (cr_al P)) b Q u (iI ac.length) (iI ((s + r * 2 ^ gaps P false : Nat) : Int)) h := by
  intro n
  have a255 := al_255 ok
  induction n with
  | zero =>
    intro u s r ac h f hu hs hr hl hx R RA hf hq
    obtain ⟨u, rfl⟩ : ∃ v, u = v + 1 := ⟨u - 1, by omega⟩
    obtain ⟨x, hx⟩ := hx
    have e := way_0 ok hs hr hx
    unfold L_X3_trace_5
    refine br_tt (by rw [e]) ?_
    unfold B_X3_trace_42
    refine hq h f RA (fun i hi => ?_) Fr.rf
    rw [trc, List.append_nil] at hi ⊢
    exact hf i hi
  | succ n ih =>
    intro u s r ac h f hu hs hr hl hx R RA hf hq
    obtain ⟨u, rfl⟩ : ∃ v, u = v + 1 := ⟨u - 1, by omega⟩
    obtain ⟨x, hx⟩ := hx
    have hle := ix_lt hs hr
    have ne : s + r * 2 ^ gaps P false ≠ cr_al P := fun e => by rw [TS_al P e] at hx; cases hx
    obtain ⟨w1, w2, w3, w4, w5, w6⟩ := way_step ok hs hr hx
    obtain ⟨t2, t3⟩ := (hT _ (by omega) hle).2 _ ne hx
    simp only at t2 t3
    rw [nxF_ix ok hs hr hx] at t3
    unfold L_X3_trace_5
    refine br_eq (by omega) (by omega) (fun c => absurd c (by omega)) (fun _ => ?_)
    refine ar_len RA ?_
    refine br_le (by omega) (by omega) (fun c => absurd c (by omega)) (fun _ => ?_)
    rw [(wE R).2.2.1, (wE R).2.2.2.2.2.1 _ _ (by omega) (by omega), t2]
    refine ar_s RA (by decide) ⟨by omega, by omega⟩ fun h1 e1 f1 => ?_
    have R1 := R.fr f1 (by omega)
    have RA1 : ar h1 b 8 (zu f ac.length x) := by unfold ar; rw [e1, pz_up_at]
    rw [(wE R1).2.2.2.1, (wE R1).2.2.2.2.2.2 _ _ (by omega) (by omega), t3]
    have el : iI (ac.length : Int) + (1 : Int32) = iI ((ac ++ [x]).length : Int) := by rw [iI_1, iI_add, List.length_append]; rfl
    rw [el]
    have et : ac ++ trc P (n + 1) s r = (ac ++ [x]) ++ trc P n (nx1 P s r x) (nx2 P s r x) := by
      rw [trc, hx]; simp [eS]
    rw [et] at hq
    refine ih u _ _ (ac ++ [x]) h1 _ (by omega) w2 w3 (by simp; omega) w4 R1 RA1 (fun i hi => ?_) (fun h2 f2 RA2 e2 fr2 => ?_)
    · rw [List.length_append] at hi
      by_cases c : i = ac.length
      · subst c; rw [zu_at]; simp
      · have hi' : i < ac.length := by simp at hi; omega
        rw [zu_ne (by omega), hf i hi']
        simp [List.getD, List.getElem?_append_left hi']
    · have := hq h2 f2 RA2 e2 (f1.tr fr2)
      rw [show (ac ++ [x]).length + n = ac.length + (n + 1) by simp; omega]
      exact this
end Z1
