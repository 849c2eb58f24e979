/-! SIMPLE FOLDS: what a step folds; the reference's done, fold, flatten, lies -/
theorem iI_wrap (z : Int) : iI z = nI (z % 4294967296).toNat := by
  apply Int32.toBitVec_inj.mp
  apply BitVec.eq_of_toNat_eq
  show (BitVec.ofInt 32 z).toNat = (BitVec.ofNat 32 _).toNat
  rw [BitVec.toNat_ofInt, BitVec.toNat_ofNat]
  omega
theorem iI_b0 (z : Int) : iI z &&& (1 : Int32) = iI (z % 2) := by
  rw [iI_wrap z, show (1 : Int32) = nI 1 from rfl, nu_and, Nat.and_one_is_mod]
  rw [show (z % 2) = ((z % 2).toNat : Int) by omega, iI_nat]
  congr 1
  omega
theorem iI_b1 (z : Int) : iI z &&& (2 : Int32) = 0 ↔ z / 2 % 2 = 0 := by
  rw [iI_wrap z, show (2 : Int32) = nI 2 from rfl, nu_and]
  have h2 : (z % 4294967296).toNat &&& 2 = 2 * ((z % 4294967296).toNat / 2 % 2) := by
    apply Nat.eq_of_testBit_eq
    intro i
    rw [Nat.testBit_and]
    cases i with
    | zero => simp [Nat.testBit_zero]
    | succ i =>
      rw [show (2 : Nat) * ((z % 4294967296).toNat / 2 % 2) = 2 * ((z % 4294967296).toNat / 2 % 2) from rfl]
      rw [Nat.testBit_succ, Nat.testBit_succ, Nat.testBit_succ]
      rw [Nat.mul_div_cancel_left _ (by decide : 0 < 2), show 2 / 2 = 2 ^ 0 from rfl, Nat.testBit_two_pow]
      cases i with
      | zero => simp [Nat.testBit_zero]
      | succ i =>
        have : ((z % 4294967296).toNat / 2 % 2).testBit (i + 1) = false := by
          rw [Nat.testBit_succ]
          have : (z % 4294967296).toNat / 2 % 2 / 2 = 0 := by omega
          rw [this, Nat.zero_testBit]
        rw [this]
        simp
  rw [h2, nu_z (by omega)]
  omega
theorem iI_sh2 {z : Int} (h : iB z) : iI z >>> ((2 : Int32) &&& 31) = iI (z / 4) := by
  apply Int32.toInt_inj.mp
  rw [← Int32.toInt_toBitVec, Int32.toBitVec_shiftRight, BitVec.toInt_sshiftRight', Int32.toInt_toBitVec, iI_toInt h.1 h.2, iI_toInt (by omega) (by omega)]
  have e : (((2 : Int32) &&& 31).toBitVec.smod 32).toNat = 2 := by decide
  rw [e, Int.shiftRight_eq_div_pow]
  rfl
def cr_iR (P : cr_P) (c : Nat) : Bool := decide (cr_kd P = 2) && decide (cr_rw P * (cr_cl P - 1) ≤ c)
def cr_gap (P : cr_P) (c : Nat) : Nat := if cr_iR P c then cr_a P c / cr_cl P else cr_a P c % cr_cl P
def gaps (P : cr_P) (b : Bool) : Nat := (if b then cr_rw P else cr_cl P) - 1
def foldsAt (P : cr_P) (b : Bool) (ly : Nat) (x : Int) : Nat := nu_bm (fun g => !ly.testBit g && decide (lA (cr_ln P) ly (g + 1) = x)) (gaps P b)
def w1 (P : cr_P) (ly : Nat) (x : Int) (f : Nat) : Bool := decide (min (lA (cr_ln P) ly f) (lA (cr_ln P) ly (f + 1)) < x) && decide (x < max (lA (cr_ln P) ly f) (lA (cr_ln P) ly (f + 1)))
def upIn (P : cr_P) (s r f : Nat) : Bool := gU s (f % cr_cl P) == gU r (f / cr_cl P)
def dM (P : cr_P) (s r : Nat) (b un : Bool) (fs : Nat) (c : Nat) : Bool := !(cr_iR P c == b && fs.testBit (cr_gap P c)) || (decide (cr_mk P c = 0) || decide (cr_mk P c = if upIn P s r (cr_a P c) != un then 2 else 1))
def s_dn (P : cr_P) (s r : Nat) (b un : Bool) (ly : Nat) (x : Int) : Nat :=
  if (b && decide (cr_kd P ≠ 2)) = true then 0
  else if (decide (cr_kd P = 0) && (List.range (gaps P b + 1)).any (w1 P ly x)) = true then 0
  else if (List.range (cr_m P)).all (dM P s r b un (foldsAt P b ly x)) = true then foldsAt P b ly x else 0
def s_done (P : cr_P) (s r : Nat) (z : Int) : Nat := s_dn P s r (decide (z / 2 % 2 ≠ 0)) (decide (z % 2 ≠ 0)) (if decide (z / 2 % 2 ≠ 0) = true then r else s) (z / 4)
theorem any_step (p : Nat → Bool) (i k : Nat) : (List.range' i (k + 1)).any p = (p i || (List.range' (i + 1) k).any p) := by
  rw [List.range'_succ, List.any_cons]
theorem cr_ok.g8 {P : cr_P} (h : cr_ok P) (b : Bool) : gaps P b ≤ 8 ∧ cr_cl P ≤ 9 ∧ cr_rw P ≤ 9 := by
  obtain ⟨h1, h2⟩ := cr_small h.1
  unfold gaps
  cases b <;> simp <;> omega
theorem foldsAt_lt {P : cr_P} (h : cr_ok P) (b : Bool) (ly : Nat) (x : Int) : foldsAt P b ly x < 2 ^ gaps P b ∧ foldsAt P b ly x < 256 := by
  have h1 : foldsAt P b ly x < 2 ^ gaps P b := nu_bm_lt _ _
  have h2 : 2 ^ gaps P b ≤ 2 ^ 8 := Nat.pow_le_pow_right (by decide) (h.g8 b).1
  exact ⟨h1, by omega⟩
theorem s_dn_lt {P : cr_P} (h : cr_ok P) (s r : Nat) (b un : Bool) (ly : Nat) (x : Int) : s_dn P s r b un ly x < 2 ^ gaps P b ∧ s_dn P s r b un ly x < 256 := by
  unfold s_dn
  have h1 := foldsAt_lt h b ly x
  have h2 : 0 < 2 ^ gaps P b := Nat.two_pow_pos _
  split
  · exact ⟨h2, by decide⟩
  · split
    · exact ⟨h2, by decide⟩
    · split
      · exact h1
      · exact ⟨h2, by decide⟩
theorem s_done_lt {P : cr_P} (h : cr_ok P) (s r : Nat) (z : Int) : s_done P s r z < 2 ^ gaps P (decide (z / 2 % 2 ≠ 0)) ∧ s_done P s r z < 256 := s_dn_lt h s r _ _ _ _
section MM
variable {h : pz_H} {m np p : Nat} {V : Nat → Int} {A : Nat → Int → Int} {Ps : Nat → cr_P} {P : cr_P} {td : Option (Nat × List Nat)} {cl : List Nat} {st : List Int} {Q : Int32 → pz_H → Prop}
theorem m_done204 {s r fs : Nat} {b un : Bool} (R : rM h m V A) (H : mP A p P) (hp : p < 30) (hs : s < 2 ^ 31) (hr : r < 2 ^ 31) (hfs : fs < 256) : ∀ (k u c : Nat), c + k = cr_m P → k < u → Q (iI (if (List.range' c k).all (dM P s r b un fs) then (fs : Int) else 0)) h → L_X5_done_204 m (iI p) (iI s) (iI r) (iI (bI b)) (iI (bI un)) (iI fs) Q u (iI c) h := by
  intro k
  have hm := H.1.m12
  have hn := H.1.n9
  have hkd := H.1.1.1
  obtain ⟨hr9, hc9⟩ := cr_small H.1.1
  have r1 := H.1.1.2.1
  have c1 := H.1.1.2.2.1
  induction k with
  | zero =>
    intro u c hc hu hq
    obtain ⟨u, rfl⟩ : ∃ v, u = v + 1 := ⟨u - 1, by omega⟩
    unfold L_X5_done_204
    simp (disch := omega) only [mE R, H.2.2.2.2.2.1, ebr_le, lits, iI_add, iI_sub, iI_mul, iI_neg]
    rw [if_pos (by omega)]
    exact hq
  | succ k ih =>
    intro u c hc hu hq
    obtain ⟨u, rfl⟩ : ∃ v, u = v + 1 := ⟨u - 1, by omega⟩
    have hc' : c < cr_m P := by omega
    obtain ⟨a1, a2, -⟩ := H.1.ab hc'
    have e7 : A 7 (12 * (p : Int) + (c : Int)) = cr_a P c := H.2.2.2.2.2.2.2.1 c hc'
    have e9 : A 9 (12 * (p : Int) + (c : Int)) = cr_mk P c := H.2.2.2.2.2.2.2.2.2.1 c hc'
    have b9 := H.1.2.2.1 c
    have ec : iI (c : Int) + (1 : Int32) = iI ((c + 1 : Nat) : Int) := by rw [iI_1, iI_add]; rfl
    rw [all_step] at hq
    have go : dM P s r b un fs c = true → L_X5_done_204 m (iI p) (iI s) (iI r) (iI (bI b)) (iI (bI un)) (iI fs) Q u (iI ((c + 1 : Nat) : Int)) h := fun e => by
      rw [e, Bool.true_and] at hq
      exact ih u (c + 1) (by omega) (by omega) hq
    have bad : dM P s r b un fs c = false → Q (0 : Int32) h := fun e => by
      rw [e, Bool.false_and] at hq
      exact hq
    have hne : ¬ iI (cr_cl P : Int) = 0 := by rw [iI_nat, nu_z (by omega)]; omega
    have hlt : cr_a P c / cr_cl P ≤ cr_a P c := Nat.div_le_self _ _
    have hmo : cr_a P c % cr_cl P ≤ cr_a P c := Nat.mod_le _ _
    have em : iI (cr_a P c : Int) - iI (cr_a P c : Int) / iI (cr_cl P : Int) * iI (cr_cl P : Int) = iI ((cr_a P c % cr_cl P : Nat) : Int) := m_rem (by omega) (by omega) (by omega)
    have ed : iI (cr_a P c : Int) / iI (cr_cl P : Int) = iI ((cr_a P c / cr_cl P : Nat) : Int) := m_div (by omega) (by omega) (by omega)
    -- from the crease's kind on
    have row : ∀ ir : Bool, cr_iR P c = ir → B_X5_done_250 m (iI p) (iI s) (iI r) (iI (bI b)) (iI (bI un)) (iI fs) (iI c) (iI (bI ir)) (fun z0 hz => L_X5_done_204 m (iI p) (iI s) (iI r) (iI (bI b)) (iI (bI un)) (iI fs) Q u z0 hz) Q h := fun ir hir => by
      have fin : B_X5_done_292 m (iI p) (iI s) (iI r) (iI (bI b)) (iI (bI un)) (iI fs) (iI c) (iI (bI ir)) (iI (cr_a P c)) (iI (cr_gap P c)) (fun z0 hz => L_X5_done_204 m (iI p) (iI s) (iI r) (iI (bI b)) (iI (bI un)) (iI fs) Q u z0 hz) Q h := by
        have hg : cr_gap P c < 32 := by unfold cr_gap; split <;> omega
        -- the mark of the crease
        have mk : ∀ up : Bool, upIn P s r (cr_a P c) = up → cr_iR P c = b → fs.testBit (cr_gap P c) = true → B_X5_done_364 m (iI p) (iI s) (iI r) (iI (bI b)) (iI (bI un)) (iI fs) (iI c) (iI (bI up)) (fun z0 hz => L_X5_done_204 m (iI p) (iI s) (iI r) (iI (bI b)) (iI (bI un)) (iI fs) Q u z0 hz) Q h := fun up hup h1 h2 => by
          have ed : dM P s r b un fs c = (decide (cr_mk P c = 0) || decide (cr_mk P c = if up != un then 2 else 1)) := by
            unfold dM; rw [h1, h2, hup]; simp
          have last : ∀ x : Nat, x = (if up != un then 2 else 1) → B_X5_done_378 m (iI p) (iI s) (iI r) (iI (bI b)) (iI (bI un)) (iI fs) (iI c) (iI x) (fun z0 hz => L_X5_done_204 m (iI p) (iI s) (iI r) (iI (bI b)) (iI (bI un)) (iI fs) Q u z0 hz) Q h := fun x hx => by
            have hx2 : x ≤ 2 := by rw [hx]; split <;> omega
            unfold B_X5_done_378 B_X5_done_408
            simp (disch := omega) only [mE R, e9, ebr_eq, iI_s, lits, iI_add, iI_sub, iI_mul, iI_neg]
            rw [← hx] at ed
            by_cases q1 : cr_mk P c = 0
            · rw [if_pos (by omega)]
              exact go (by rw [ed, decide_eq_true q1]; rfl)
            · rw [if_neg (by omega)]
              by_cases q2 : cr_mk P c = x
              · rw [if_pos (by omega)]
                exact go (by rw [ed, decide_eq_true q2, Bool.or_true])
              · rw [if_neg (by omega)]
                exact bad (by rw [ed, decide_eq_false q1, decide_eq_false q2]; rfl)
          unfold B_X5_done_364
          refine br_by (fun q => ?_) (fun q => ?_)
          · have q := (bI_e _ _).mp q
            exact last 1 (by rw [q]; simp)
          · have q := mt (bI_e _ _).mpr q
            exact last 2 (by rw [if_pos (by simpa using q)])
        unfold B_X5_done_292 B_X5_done_408
        rw [iI_bit (by omega) hg, ec]
        refine br_by (fun q => ?_) (fun q => ?_)
        · have q := (bI_e _ _).mp q
          refine br_by (fun q2 => ?_) (fun q2 => ?_)
          · have q2 := (bI_1 _).mp q2
            refine rg_gA R rfl (rg_aI R (by decide) (by decide) rfl (by decide) ⟨by omega, by simp only [lM]; omega⟩ ?_)
            rw [H.2.2.2.2.1]
            refine ⟨hne, ?_⟩
            rw [em]
            refine m_goesUp hs (by omega) ?_
            refine rg_gA R rfl (rg_aI R (by decide) (by decide) rfl (by decide) ⟨by omega, by simp only [lM]; omega⟩ ?_)
            rw [H.2.1]
            refine br_eq (b := 2) (by omega) (by omega) (fun k2 => ?_) (fun k2 => ?_)
            · refine rg_gA R rfl (rg_aI R (by decide) (by decide) rfl (by decide) ⟨by omega, by simp only [lM]; omega⟩ ?_)
              rw [H.2.2.2.2.1]
              refine ⟨hne, ?_⟩
              rw [ed]
              refine m_goesUp hr (by omega) ?_
              unfold B_X5_done_351 B_X5_done_356
              cases g1 : gU r (cr_a P c / cr_cl P) with
              | false =>
                refine br_tt rfl (br_by (fun w => ?_) (fun w => ?_))
                · exact mk true (by unfold upIn; rw [g1, (bI_e _ false).mp w]; rfl) (hir.trans q) q2
                · exact mk false (by
                    have := mt (bI_e _ false).mpr w
                    unfold upIn; rw [g1]; simpa using this) (hir.trans q) q2
              | true =>
                refine br_ff (by decide) (br_by (fun w => ?_) (fun w => ?_))
                · exact mk true (by unfold upIn; rw [g1, (bI_1 _).mp w]; rfl) (hir.trans q) q2
                · exact mk false (by
                    have := mt (bI_1 _).mpr w
                    unfold upIn; rw [g1]; simpa using this) (hir.trans q) q2
            · have hr1 : cr_rw P = 1 := H.1.1.2.2.2.2.1 (by omega)
              have hn1 : cr_n P = cr_cl P := by unfold cr_n; rw [hr1, Nat.one_mul]
              have e0 : cr_a P c / cr_cl P = 0 := Nat.div_eq_of_lt (by omega)
              unfold B_X5_done_351 B_X5_done_356
              refine br_by (fun w => ?_) (fun w => ?_)
              · exact mk true (by unfold upIn; rw [e0, (bI_1 _).mp w]; rfl) (hir.trans q) q2
              · exact mk false (by
                  have := mt (bI_1 _).mpr w
                  unfold upIn; rw [e0, gU]; simpa using this) (hir.trans q) q2
          · have q2 := mt (bI_1 _).mpr q2
            exact go (by unfold dM; rw [show fs.testBit (cr_gap P c) = false by simpa using q2]; simp)
        · have q := mt (bI_e _ _).mpr q
          have q' : (cr_iR P c == b) = false := by rw [hir]; simpa using q
          exact go (by unfold dM; rw [q']; rfl)
      unfold B_X5_done_250
      have eg : cr_gap P c = if ir then cr_a P c / cr_cl P else cr_a P c % cr_cl P := by unfold cr_gap; rw [hir]
      rw [show (12 : Int32) * iI (p : Int) = iI (12 * (p : Int)) from iI_mul 12 p, iI_add]
      refine rg_gA R rfl (rg_aI R (by decide) (by decide) rfl (by decide) ⟨by omega, by simp only [lM]; omega⟩ ?_)
      rw [e7]
      cases ir with
      | false =>
        refine br_tt rfl (rg_gA R rfl (rg_aI R (by decide) (by decide) rfl (by decide) ⟨by omega, by simp only [lM]; omega⟩ ?_))
        rw [H.2.2.2.2.1]
        refine ⟨hne, ?_⟩
        rw [em]
        rw [eg] at fin
        exact fin
      | true =>
        refine br_ff (by decide) (rg_gA R rfl (rg_aI R (by decide) (by decide) rfl (by decide) ⟨by omega, by simp only [lM]; omega⟩ ?_))
        rw [H.2.2.2.2.1]
        refine ⟨hne, ?_⟩
        rw [ed]
        rw [eg] at fin
        exact fin
    unfold L_X5_done_204 B_X5_done_249
    refine rg_gA R rfl (rg_aI R (by decide) (by decide) rfl (by decide) ⟨by omega, by simp only [lM]; omega⟩ ?_)
    rw [H.2.2.2.2.2.1]
    refine br_le (by omega) (by omega) (fun c => by omega) (fun _ => ?_)
    refine rg_gA R rfl (rg_aI R (by decide) (by decide) rfl (by decide) ⟨by omega, by simp only [lM]; omega⟩ ?_)
    rw [H.2.1]
    refine br_eq (b := 2) (by omega) (by omega) (fun k2 => ?_) (fun k2 => ?_)
    · refine rg_gA R rfl (rg_aI R (by decide) (by decide) rfl (by decide) ⟨by omega, by simp only [lM]; omega⟩ ?_)
      rw [H.2.2.2.1]
      refine rg_gA R rfl (rg_aI R (by decide) (by decide) rfl (by decide) ⟨by omega, by simp only [lM]; omega⟩ ?_)
      rw [H.2.2.2.2.1, iI_1, iI_sub, iI_mul]
      have e1 : (cr_rw P : Int) * ((cr_cl P : Int) - 1) = ((cr_rw P * (cr_cl P - 1) : Nat) : Int) := by
        rw [Int.natCast_mul, Int.natCast_sub c1]; rfl
      rw [e1]
      have hb : cr_rw P * (cr_cl P - 1) ≤ 81 := Nat.mul_le_mul (show cr_rw P ≤ 9 by omega) (show cr_cl P - 1 ≤ 9 by omega)
      refine br_lt (by omega) (by omega) (fun w => ?_) (fun w => ?_)
      · exact row false (by unfold cr_iR; rw [decide_eq_false (show ¬ cr_rw P * (cr_cl P - 1) ≤ c by omega), Bool.and_false])
      · exact row true (by unfold cr_iR; rw [decide_eq_true (show cr_rw P * (cr_cl P - 1) ≤ c by omega), decide_eq_true (show cr_kd P = 2 by omega)]; rfl)
    · exact row false (by unfold cr_iR; rw [decide_eq_false (show ¬ cr_kd P = 2 by omega)]; rfl)
theorem m_done201 {s r fs : Nat} {b un : Bool} (R : rM h m V A) (H : mP A p P) (hp : p < 30) (hs : s < 2 ^ 31) (hr : r < 2 ^ 31) (hfs : fs < 256) (hq : Q (iI (if (List.range (cr_m P)).all (dM P s r b un fs) then (fs : Int) else 0)) h) : B_X5_done_201 m (iI p) (iI s) (iI r) (iI (bI b)) (iI (bI un)) (iI fs) Q h :=
  ⟨20, m_done204 R H hp hs hr hfs (cr_m P) 20 0 (by omega) (by have := H.1.m12; omega) (by rw [all_range]; exact hq)⟩
theorem m_done129 {s r fs ly n : Nat} {b un : Bool} {x : Int} (R : rM h m V A) (H : mP A p P) (hp : p < 30) (hs : s < 2 ^ 31) (hr : r < 2 ^ 31) (hly : ly < 2 ^ 31) (hfs : fs < 256) (hn : n ≤ 8) (hx : iB x) : ∀ (k u f : Nat), f + k = n + 1 → k < u → Q (iI (if (decide (cr_kd P = 0) && (List.range' f k).any (w1 P ly x)) = true then 0 else if (List.range (cr_m P)).all (dM P s r b un fs) then (fs : Int) else 0)) h → L_X5_done_129 m (iI p) (iI s) (iI r) (iI (bI b)) (iI (bI un)) (iI x) (iI ly) (iI n) (iI fs) Q u (iI f) h := by
  intro k
  have hkd := H.1.1.1
  induction k with
  | zero =>
    intro u f hf hu hq
    obtain ⟨u, rfl⟩ : ∃ v, u = v + 1 := ⟨u - 1, by omega⟩
    unfold L_X5_done_129
    refine br_lt (by omega) (by omega) (fun _ => ?_) (fun c => by omega)
    refine m_done201 R H hp hs hr hfs ?_
    simpa using hq
  | succ k ih =>
    intro u f hf hu hq
    obtain ⟨u, rfl⟩ : ∃ v, u = v + 1 := ⟨u - 1, by omega⟩
    unfold L_X5_done_129
    refine br_lt (by omega) (by omega) (fun c => by omega) (fun _ => ?_)
    refine rg_gA R rfl (rg_aI R (by decide) (by decide) rfl (by decide) ⟨by omega, by simp only [lM]; omega⟩ ?_)
    rw [H.2.1]
    refine br_eq (b := 0) (by omega) (by omega) (fun k0 => ?_) (fun k0 => ?_)
    · have e0 : decide (cr_kd P = 0) = true := decide_eq_true (by omega)
      rw [e0, Bool.true_and, any_step] at hq
      have ef : iI (f : Int) + (1 : Int32) = iI ((f + 1 : Nat) : Int) := by rw [iI_1, iI_add]; rfl
      have b1 := H.1.lB ly (f := f) (by omega)
      have b2 := H.1.lB ly (f := f + 1) (by omega)
      unfold B_X5_done_195
      rw [ef]
      have go : w1 P ly x f = false → L_X5_done_129 m (iI p) (iI s) (iI r) (iI (bI b)) (iI (bI un)) (iI x) (iI ly) (iI n) (iI fs) Q u (iI ((f + 1 : Nat) : Int)) h := fun e => by
        rw [e, Bool.false_or] at hq
        exact ih u (f + 1) (by omega) (by omega) (by rw [e0, Bool.true_and]; exact hq)
      refine rg_o R (m_liesAt R H hp hly (by omega) ?_)
      refine rg_o R (m_liesAt R H hp hly (by omega) ?_)
      refine m_lesser (by omega) (by omega) ?_
      refine br_le hx (by omega) (fun c1 => go ?_) (fun c1 => ?_)
      · unfold w1; rw [decide_eq_false (by omega)]; rfl
      refine m_greater (by omega) (by omega) ?_
      refine br_le (by omega) hx (fun c2 => go ?_) (fun c2 => ?_)
      · unfold w1; rw [decide_eq_false (show ¬ x < _ by omega), Bool.and_false]
      · have : w1 P ly x f = true := by unfold w1; rw [decide_eq_true c1, decide_eq_true c2]; rfl
        rw [this, Bool.true_or, if_pos rfl] at hq
        exact hq
    · rw [decide_eq_false (show ¬ cr_kd P = 0 by omega), Bool.false_and] at hq
      exact m_done201 R H hp hs hr hfs hq
theorem m_done78 {s r ly : Nat} {b un : Bool} {x : Int} (R : rM h m V A) (H : mP A p P) (hp : p < 30) (hs : s < 2 ^ 31) (hr : r < 2 ^ 31) (hly : ly < 2 ^ 31) (hx : iB x) (hq : Q (iI (if (decide (cr_kd P = 0) && (List.range (gaps P b + 1)).any (w1 P ly x)) = true then 0 else if (List.range (cr_m P)).all (dM P s r b un (foldsAt P b ly x)) then (foldsAt P b ly x : Int) else 0)) h) : ∀ (k u g : Nat), g + k = gaps P b → k < u → L_X5_done_78 m (iI p) (iI s) (iI r) (iI (bI b)) (iI (bI un)) (iI x) (iI ly) (iI (gaps P b)) Q u (iI (nu_bm (fun g => !ly.testBit g && decide (lA (cr_ln P) ly (g + 1) = x)) g)) (iI g) h := by
  intro k
  have hg8 := (H.1.g8 b).1
  induction k with
  | zero =>
    intro u g hg hu
    obtain ⟨u, rfl⟩ : ∃ v, u = v + 1 := ⟨u - 1, by omega⟩
    unfold L_X5_done_78
    refine br_le (by omega) (by omega) (fun _ => ?_) (fun c => by omega)
    have e : g = gaps P b := by omega
    rw [e]
    have hf := foldsAt_lt H.1 b ly x
    exact ⟨gaps P b + 2, m_done129 (fs := foldsAt P b ly x) R H hp hs hr hly hf.2 hg8 hx (gaps P b + 1) _ 0 (by omega) (by omega) (by rw [← List.range_eq_range']; exact hq)⟩
  | succ k ih =>
    intro u g hg hu
    obtain ⟨u, rfl⟩ : ∃ v, u = v + 1 := ⟨u - 1, by omega⟩
    unfold L_X5_done_78 B_X5_done_120
    refine br_le (by omega) (by omega) (fun c => by omega) (fun _ => ?_)
    have eg : iI (g : Int) + (1 : Int32) = iI ((g + 1 : Nat) : Int) := by rw [iI_1, iI_add]; rfl
    have h1 := ih u (g + 1) (by omega) (by omega)
    rw [nu_bm] at h1
    rw [iI_bit hly (by omega), eg, iI_shl (by omega)]
    have bl := H.1.lB ly (f := g + 1) (by omega)
    cases q : ly.testBit g with
    | true =>
      rw [q] at h1
      refine br_ff (by decide) ?_
      simpa using h1
    | false =>
      rw [q] at h1
      refine br_tt rfl (rg_o R (m_liesAt R H hp hly (by omega) ?_))
      refine br_eq (by omega) hx (fun c => ?_) (fun c => ?_)
      · rw [iI_or]
        rw [decide_eq_true c] at h1
        exact h1
      · rw [decide_eq_false c] at h1
        simpa using h1
theorem m_done {s r : Nat} {z : Int} (R : rM h m V A) (H : mP A p P) (hp : p < 30) (hs : s < 2 ^ 31) (hr : r < 2 ^ 31) (hz : iB z) (hq : Q (iI (s_done P s r z)) h) : F_X5_done m (iI p) (iI s) (iI r) (iI z) h Q := by
  have hkd := H.1.1.1
  unfold s_done at hq
  have key : ∀ (b un : Bool), Q (iI (s_dn P s r b un (if b = true then r else s) (z / 4))) h → B_X5_done_26 m (iI p) (iI s) (iI r) (iI z) (iI (bI b)) (iI (bI un)) Q h := fun b un hq => by
    have g := H.1.g8 b
    have run : ∀ ly : Nat, ly < 2 ^ 31 → (b && decide (cr_kd P ≠ 2)) = false → Q (iI (s_dn P s r b un ly (z / 4))) h → B_X5_done_61 m (iI p) (iI s) (iI r) (iI (bI b)) (iI (bI un)) (iI (z / 4)) (iI ly) Q h := fun ly hly e hq => by
      unfold B_X5_done_61
      refine rg_o R (m_gapsOf R H hp ?_)
      refine ⟨gaps P b + 1, m_done78 R H hp hs hr hly (by omega) ?_ (gaps P b) _ 0 (by omega) (by omega)⟩
      unfold s_dn at hq
      rw [e] at hq
      have e2 : ∀ (c : Prop) [Decidable c] (x y : Nat), ((if c then x else y : Nat) : Int) = if c then (x : Int) else (y : Int) := fun c _ x y => by split <;> rfl
      rw [e2, e2, e2] at hq
      exact hq
    unfold B_X5_done_26 B_X5_done_51
    rw [iI_sh2 hz]
    cases b with
    | false => exact br_tt rfl (br_tt rfl (run s hs rfl hq))
    | true =>
      refine br_ff (by decide) (rg_gA R rfl (rg_aI R (by decide) (by decide) rfl (by decide) ⟨by omega, by simp only [lM]; omega⟩ ?_))
      rw [H.2.1]
      refine br_eq (b := 2) (by omega) (by omega) (fun k2 => br_ff (by decide) (run r hr ?_ hq)) (fun k2 => ?_)
      · rw [decide_eq_false (show ¬ cr_kd P ≠ 2 by omega)]; rfl
      · unfold s_dn at hq
        rw [decide_eq_true (show cr_kd P ≠ 2 by omega)] at hq
        exact hq
  unfold F_X5_done B_X5_done_12
  have k1 : ∀ b : Bool, b = decide (z / 2 % 2 ≠ 0) → pq_br (iI z &&& (1 : Int32) = 0) (B_X5_done_26 m (iI p) (iI s) (iI r) (iI z) (iI (bI b)) (0 : Int32) Q h) (B_X5_done_26 m (iI p) (iI s) (iI r) (iI z) (iI (bI b)) (1 : Int32) Q h) := fun b hb => by
    rw [iI_b0]
    rw [← hb] at hq
    refine br_eq (b := 0) (by omega) (by omega) (fun c => ?_) (fun c => ?_)
    · rw [decide_eq_false (show ¬ z % 2 ≠ 0 by omega)] at hq
      exact key b false hq
    · rw [decide_eq_true c] at hq
      exact key b true hq
  refine br_by (fun c => ?_) (fun c => ?_)
  · exact k1 false (decide_eq_false (not_not_intro ((iI_b1 z).mp c))).symm
  · exact k1 true (decide_eq_true (mt (iI_b1 z).mpr c)).symm
end MM
