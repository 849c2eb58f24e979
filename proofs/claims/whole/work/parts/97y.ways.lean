/-! THE CLASS: Ways -/
def eN (o : Option (Nat × Int)) : Int := match o with
  | none => 1000
  | some q => q.1
def nxF (P : cr_P) (F : Nat) (z : Int) : Nat := F ||| lnB P (isRow z) (s_done P (fsO P false F) (fsO P true F) z)
/-- what is known of F's way while F is tried -/
def wA (P : cr_P) (A : Nat → Int → Int) (F : Nat) (o : Option (Nat × Int)) : Prop := A 1 F = eN o ∧ ∀ q, o = some q → A 2 F = q.2 ∧ A 3 F = nxF P F q.2
theorem ix_or {P : cr_P} {s r fs : Nat} {b : Bool} (hs : s < 2 ^ gaps P false) (hf : fs < 2 ^ gaps P b) : (s + r * 2 ^ gaps P false) ||| lnB P b fs = (if b then s else s ||| fs) + (if b then r ||| fs else r) * 2 ^ gaps P false := by
  have e : ∀ s r : Nat, s < 2 ^ gaps P false → s + r * 2 ^ gaps P false = r <<< gaps P false ||| s := fun s r h => by
    rw [← Nat.shiftLeft_add_eq_or_of_lt h, Nat.shiftLeft_eq]; omega
  unfold lnB
  cases b with
  | true =>
    simp only [if_true]
    rw [e s r hs, e s (r ||| fs) hs, ← Nat.shiftLeft_eq, Nat.shiftLeft_or_distrib]
    rw [Nat.or_assoc, Nat.or_comm s, ← Nat.or_assoc]
  | false =>
    simp only [Bool.false_eq_true, if_false]
    rw [e s r hs, e (s ||| fs) r (nu_lt_or hs hf), Nat.or_assoc]
theorem fsO_ix {P : cr_P} {s r : Nat} (hs : s < 2 ^ gaps P false) : fsO P false (s + r * 2 ^ gaps P false) = s ∧ fsO P true (s + r * 2 ^ gaps P false) = r := ix_eq hs
theorem al_255 {P : cr_P} (ok : cr_ok P) : cr_al P ≤ 255 := by
  have g := ok.gg
  have h8 : 2 ^ (gaps P false + gaps P true) ≤ 2 ^ 8 := Nat.pow_le_pow_right (by decide) g
  unfold cr_al
  rw [← Nat.pow_add]
  omega
section W1
variable {h : pz_H} {a y w : Nat} {V VP : Nat → Int} {A AP AY : Nat → Int → Int} {P : cr_P} {s r : Nat} {Q : Int32 → pz_H → Prop} {K : pz_H → Prop} {T : Nat → Nat → Option (Nat × Int)} {acc : Option (Nat × Int)}
/-- the entries beyond F -/
def wB (P : cr_P) (A : Nat → Int → Int) (T : Nat → Nat → Option (Nat × Int)) (s r : Nat) : Prop := ∀ s' r', s' < 2 ^ gaps P false → r' < 2 ^ gaps P true → (s < s' ∧ r' = r ∨ s' = s ∧ r < r') → A 1 ((s' + r' * 2 ^ gaps P false : Nat) : Int) = eN (T s' r') ∧ ∀ q, T s' r' = some q → q.1 ≤ 300
theorem c_tryStep {b : Bool} {g : Nat} {un : Bool} (hk : cr_kd P ≠ 1) (R : rW h w V A) (RY : rY h y ((s + r * 2 ^ gaps P false : Nat) : Int) AY) (L : lyS AY P (s + r * 2 ^ gaps P false)) (RP : rP h a VP AP) (C : cP VP AP P) (hs : s < 2 ^ gaps P false) (hr : r < 2 ^ gaps P true) (hB : wB P A T s r) (hg : g < gaps P b) (ho : okO acc) (hA : wA P A (s + r * 2 ^ gaps P false) acc)
    (hq : ∀ h' A', rW h' w V A' → (∀ j i, i ≠ ((s + r * 2 ^ gaps P false : Nat) : Int) → A' j i = A j i) → okO (try1 P T s r b g acc un) → wA P A' (s + r * 2 ^ gaps P false) (try1 P T s r b g acc un) → Fr w (w + 4) h h' → K h') : F_X3_tryStep w a (iI (stp P (if b then r else s) b g un)) (iI ((s + r * 2 ^ gaps P false : Nat) : Int)) y h K := by
  have ok := C.1.1
  have zB := stp_B ok (if b then r else s) b (g := g) (by have := (ok.g8 b).1; omega) un
  obtain ⟨z1, z2, z3⟩ := stp_b P (if b then r else s) b g un
  obtain ⟨d1, d2⟩ := done_stp ok s r b g un
  unfold try1 at hq
  generalize stp P (if b then r else s) b g un = z at *
  have hle := ix_lt hs hr
  have a255 := al_255 ok
  obtain ⟨f0, f1⟩ := fsO_ix (P := P) (r := r) hs
  unfold F_X3_tryStep B_X3_tryStep_33 B_X3_tryStep_100
  rw [(ylE RY).1]
  refine c_lines (by omega) (by omega) hk RY L RP C ?_
  have zr : isRow z = b := z1
  have enx : nxF P (s + r * 2 ^ gaps P false) z = (s + r * 2 ^ gaps P false) ||| lnB P b (s_done P s r z) := by unfold nxF; rw [f0, f1, zr]
  rw [f0, f1, zr]
  generalize hfs : s_done P s r z = fs at *
  have lb := lnB_lt ok d1
  refine br_eq (b := 0) (by omega) (by omega) (fun c0 => ?_) (fun c0 => ?_)
  · have e0 : fs = 0 := (lnB_0 P b fs).mp (by omega)
    have en : nxT T s r b fs = none := by unfold nxT; rw [if_pos e0]
    rw [en] at hq
    exact hq h A R (fun _ _ _ => rfl) ho hA Fr.rf
  · have ne : fs ≠ 0 := fun e => c0 (by rw [(lnB_0 P b fs).mpr e]; rfl)
    have gr := d2 ne
    have io := ix_or (r := r) hs d1
    rw [iI_or]
    -- the next one's entry
    obtain ⟨o, ho1, nl, hN⟩ : ∃ o, nxT T s r b fs = o ∧ ((s + r * 2 ^ gaps P false) ||| lnB P b fs) ≤ cr_al P ∧ (A 1 (((s + r * 2 ^ gaps P false) ||| lnB P b fs : Nat) : Int) = eN o ∧ ∀ q, o = some q → q.1 ≤ 300) := by
      rw [io]
      cases b with
      | true =>
        simp only [if_true] at gr ⊢
        have hlt := nu_lt_or hr d1
        refine ⟨T s (r ||| fs), by unfold nxT; rw [if_neg ne, if_pos rfl], ix_lt hs hlt, hB s (r ||| fs) hs hlt (Or.inr ⟨rfl, gr⟩)⟩
      | false =>
        simp only [Bool.false_eq_true, if_false] at gr ⊢
        have hlt := nu_lt_or hs d1
        refine ⟨T (s ||| fs) r, by unfold nxT; rw [if_neg ne, if_neg (by decide)], ix_lt hlt hr, hB (s ||| fs) r hlt hr (Or.inl ⟨gr, rfl⟩)⟩
    obtain ⟨n1, n2⟩ := hN
    rw [ho1] at hq
    rw [← enx] at n1 nl ⊢
    simp (disch := omega) only [wE R, n1, lits, iI_add, iI_sub, iI_mul, iI_neg]
    cases o with
    | none =>
      refine br_tt rfl ?_
      exact hq h A R (fun _ _ _ => rfl) ho hA Fr.rf
    | some q =>
      have q300 := n2 q rfl
      have eq : eN (some q) = (q.1 : Int) := rfl
      simp only [upd2] at hq
      rw [eq]
      refine br_eq (b := 1000) (by omega) (by omega) (fun c => absurd c (by omega)) (fun _ => ?_)
      have upd : okO (some (q.1 + 1, z)) → wA P A (s + r * 2 ^ gaps P false) acc → upd1 acc (q.1 + 1) z = some (q.1 + 1, z) → B_X3_tryStep_77 w (iI z) (iI ((s + r * 2 ^ gaps P false : Nat) : Int)) (iI (nxF P (s + r * 2 ^ gaps P false) z : Int)) (iI ((q.1 : Int) + 1)) K h := fun h1 h2 h3 => by
        rw [h3] at hq
        unfold B_X3_tryStep_77 B_X3_tryStep_100
        refine rg_gA R rfl ?_
        refine rg_sI R (by decide) (by decide) rfl (by decide) ⟨by omega, by simp only [lW]; omega⟩ fun h1' R1 f1' => ?_
        refine rg_gA R1 rfl ?_
        refine rg_sI R1 (by decide) (by decide) rfl (by decide) ⟨by omega, by simp only [lW]; omega⟩ fun h2' R2 f2' => ?_
        refine rg_gA R2 rfl ?_
        refine rg_sI R2 (by decide) (by decide) rfl (by decide) ⟨by omega, by simp only [lW]; omega⟩ fun h3' R3 f3' => ?_
        refine hq h3' _ R3 (fun j i hi => ?_) h1 ⟨?_, fun q' hq' => ?_⟩ (f1'.tr (f2'.tr f3'))
        · rw [au_if, if_neg (fun z => hi z.2), au_if, if_neg (fun z => hi z.2), au_if, if_neg (fun z => hi z.2)]
        · rw [au_nk (by decide), au_nk (by decide), au_at]; rfl
        · cases hq'
          refine ⟨?_, ?_⟩
          · rw [au_nk (by decide), au_at]
          · rw [au_at]
      have okn : okO (some (q.1 + 1, z)) := fun q' hq' => by cases hq'; simp only; omega
      have hA1 := hA.1
      simp (disch := omega) only [wE R, hA1, lits, iI_add, iI_sub, iI_mul, iI_neg]
      cases acc with
      | none =>
        refine br_lt (b := 1000) (by omega) (by omega) (fun _ => upd okn hA rfl) (fun c => absurd c (by omega))
      | some ac =>
        have bo := ho ac rfl
        obtain ⟨g2, g3⟩ := hA.2 ac rfl
        have ea : eN (some ac) = (ac.1 : Int) := rfl
        rw [ea]
        refine br_lt (by omega) (by omega) (fun c1 => upd okn hA ?_) (fun c1 => ?_)
        · simp only [upd1]; rw [if_pos (Or.inl (by omega))]
        · refine br_eq (by omega) (by omega) (fun c2 => ?_) (fun c2 => ?_)
          · simp (disch := omega) only [wE R, g2, lits, iI_add, iI_sub, iI_mul, iI_neg]
            refine br_le (by omega) (by omega) (fun c3 => ?_) (fun c3 => upd okn hA ?_)
            · have e : upd1 (some ac) (q.1 + 1) z = some ac := by simp only [upd1]; rw [if_neg (by omega)]
              rw [e] at hq
              exact hq h A R (fun _ _ _ => rfl) ho hA Fr.rf
            · simp only [upd1]; rw [if_pos (Or.inr (by omega))]
          · have e : upd1 (some ac) (q.1 + 1) z = some ac := by simp only [upd1]; rw [if_neg (by omega)]
            rw [e] at hq
            exact hq h A R (fun _ _ _ => rfl) ho hA Fr.rf
theorem wB.up {A' : Nat → Int → Int} (hB : wB P A T s r) (e : ∀ j i, i ≠ ((s + r * 2 ^ gaps P false : Nat) : Int) → A' j i = A j i) : wB P A' T s r := fun s' r' h1 h2 h3 => by
  have := ix_mono (P := P) h3
  rw [e 1 _ (by omega)]
  exact hB s' r' h1 h2 h3
theorem c_tryLines {b : Bool} (hk : cr_kd P ≠ 1) (C : cP VP AP P) (L : lyS AY P (s + r * 2 ^ gaps P false)) (hs : s < 2 ^ gaps P false) (hr : r < 2 ^ gaps P true) (d1 : w + 4 ≤ y ∨ y + 7 ≤ w) (d2 : w + 4 ≤ a ∨ a + 13 ≤ w) : ∀ (k u g : Nat) (h : pz_H) (A : Nat → Int → Int) (acc : Option (Nat × Int)), g + k = gaps P b → k < u → rW h w V A → rY h y ((s + r * 2 ^ gaps P false : Nat) : Int) AY → rP h a VP AP → wB P A T s r → okO acc → wA P A (s + r * 2 ^ gaps P false) acc →
    (∀ h' A', rW h' w V A' → (∀ j i, i ≠ ((s + r * 2 ^ gaps P false : Nat) : Int) → A' j i = A j i) → okO ((List.range' g k).foldl (tryG P T s r b) acc) → wA P A' (s + r * 2 ^ gaps P false) ((List.range' g k).foldl (tryG P T s r b) acc) → Fr w (w + 4) h h' → K h') → L_X3_tryLines_3 w a (iI (bI b)) (iI ((s + r * 2 ^ gaps P false : Nat) : Int)) y K u (iI g) h := by
  intro k
  have ok := C.1.1
  have hb := bnd_g ok b
  have g8 := (ok.g8 b).1
  have hle := ix_lt hs hr
  have a255 := al_255 ok
  have efs : fsO P b (s + r * 2 ^ gaps P false) = if b then r else s := by
    obtain ⟨f0, f1⟩ := fsO_ix (P := P) (r := r) hs
    cases b with
    | true => exact f1
    | false => exact f0
  induction k with
  | zero =>
    intro u g h A acc hg hu R RY RP hB ho hA hq
    obtain ⟨u, rfl⟩ : ∃ v, u = v + 1 := ⟨u - 1, by omega⟩
    unfold L_X3_tryLines_3
    rw [(ylE RY).1]
    refine c_bands RP C.1 ?_
    rw [iI_1, iI_sub]
    refine br_le (by omega) (by omega) (fun _ => ?_) (fun c => by omega)
    exact hq h A R (fun _ _ _ => rfl) ho hA Fr.rf
  | succ k ih =>
    intro u g h A acc hg hu R RY RP hB ho hA hq
    obtain ⟨u, rfl⟩ : ∃ v, u = v + 1 := ⟨u - 1, by omega⟩
    rw [List.range'_succ, List.foldl_cons] at hq
    have eg : iI (g : Int) + iI 1 = iI ((g + 1 : Nat) : Int) := by rw [iI_add]; rfl
    have e1 := (L b).1 (g + 1) (by omega)
    rw [efs] at e1
    unfold L_X3_tryLines_3 B_X3_tryLines_75
    rw [(ylE RY).1]
    refine c_bands RP C.1 ?_
    rw [iI_1, iI_sub]
    refine br_le (by omega) (by omega) (fun c => by omega) (fun _ => ?_)
    rw [(ylE RY).1]
    refine c_lineBehind RP C.1 ?_
    refine c_has (by omega) (lnO_lt ok (by omega)) ?_
    rw [lnO_bit (by omega), efs, eg]
    cases q : (if b then r else s).testBit g with
    | true =>
      have et : tryG P T s r b acc g = acc := by unfold tryG; rw [q]; rfl
      rw [et] at hq
      exact br_ff (by decide) (ih u (g + 1) h A acc (by omega) (by omega) R RY RP hB ho hA hq)
    | false =>
      have et : tryG P T s r b acc g = try1 P T s r b g (try1 P T s r b g acc false) true := by unfold tryG; rw [q]; rfl
      rw [et] at hq
      refine br_tt rfl ?_
      rw [(ylE RY).2.2.1, (ylE RY).2.2.2.2.1, (ylE RY).2.2.2.2.2.2.1 b _ _ (by omega) (by omega), e1]
      have z0 : (4 : Int32) * iI (lA (cr_ln P) (if b then r else s) (g + 1)) + (2 : Int32) * iI (bI b) = iI (stp P (if b then r else s) b g false) := by
        rw [show (4 : Int32) = iI 4 from rfl, show (2 : Int32) = iI 2 from rfl, iI_mul, iI_mul, iI_add]
        unfold stp
        rw [show bI false = 0 from rfl, Int.add_zero]
      have z1 : iI (stp P (if b then r else s) b g false) + iI 1 = iI (stp P (if b then r else s) b g true) := by
        rw [iI_add]
        unfold stp
        rw [show bI false = 0 from rfl, Int.add_zero]
        rfl
      rw [z0, z1, (wE R).1]
      refine c_tryStep hk R RY L RP C hs hr hB (by omega) ho hA (fun h1 A1 R1 m1 o1 a1 f1 => ?_)
      have RY1 := RY.fr f1 (by omega)
      have RP1 := RP.fr f1 (by omega)
      rw [(wE R1).1]
      refine c_tryStep hk R1 RY1 L RP1 C hs hr (hB.up m1) (by omega) o1 a1 (fun h2 A2 R2 m2 o2 a2 f2 => ?_)
      refine ih u (g + 1) h2 A2 _ (by omega) (by omega) R2 (RY1.fr f2 (by omega)) (RP1.fr f2 (by omega)) ((hB.up m1).up m2) o2 a2 (fun h3 A3 R3 m3 o3 a3 f3 => hq h3 A3 R3 (fun j i hi => ?_) o3 a3 (f1.tr (f2.tr f3)))
      rw [m3 j i hi, m2 j i hi, m1 j i hi]
end W1
