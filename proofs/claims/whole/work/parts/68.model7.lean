/-! THE REFERENCE: may a face lie here -/
def cr_in (P : cr_P) (H : Nat → Int) (c : Nat) (x : Int) : Bool := decide (x ≠ -1) && (decide (min (H (cr_a P c)) (H (cr_b P c)) < x) && decide (x < max (H (cr_a P c)) (H (cr_b P c))))
def cr_c1 (P : cr_P) (H : Nat → Int) (c d : Nat) : Bool := decide (d = c) || (!cr_os P c d || (!cr_fo P c d || (cr_in P H c (H (cr_a P d)) == cr_in P H c (H (cr_b P d)))))
def cr_mok (P : cr_P) (H : Nat → Int) (c : Nat) : Bool := decide (cr_mk P c = 0) || decide (cr_mk P c = cr_mi P H c)
def cr_clo (P : cr_P) (H : Nat → Int) (c : Nat) : Bool := cr_mok P H c && (List.range (cr_m P)).all (cr_c1 P H c)
def cr_f1 (P : cr_P) (H : Nat → Int) (f c : Nat) : Bool := if cr_a P c = f ∨ cr_b P c = f then (decide (H (cr_a P c) = -1) || (decide (H (cr_b P c) = -1) || cr_clo P H c)) else (decide (H (cr_a P c) = -1) == decide (H (cr_b P c) = -1) || !cr_wi P f (cr_pl P c))
def cr_fi (P : cr_P) (H : Nat → Int) (f : Nat) : Bool := (List.range (cr_m P)).all (cr_f1 P H f)
theorem all_step (p : Nat → Bool) (i k : Nat) : (List.range' i (k + 1)).all p = (p i && (List.range' (i + 1) k).all p) := by
  rw [List.range'_succ, List.all_cons]
theorem all_range (p : Nat → Bool) (n : Nat) : (List.range' 0 n).all p = (List.range n).all p := by rw [List.range_eq_range']
section M7
variable {h : pz_H} {m np p : Nat} {V : Nat → Int} {A : Nat → Int → Int} {Ps : Nat → cr_P} {P : cr_P} {Q : Int32 → pz_H → Prop} {HH : Nat → Int}
theorem m_isClosed_loop {c : Nat} (R : rM h m V A) (H : mP A p P) (hp : p < 30) (hv : V 12 = p) (hpl : mPl A P) (hh : ∀ f : Nat, f < cr_n P → A 13 (f : Int) = HH f ∧ iB (HH f)) (hc : c < cr_m P) : ∀ (k u i : Nat), i + k = cr_m P → k < u → Q (iI (bI ((List.range' i k).all (cr_c1 P HH c)))) h → L_X5_isClosed_70 m (iI c) (iI (min (HH (cr_a P c)) (HH (cr_b P c)))) (iI (max (HH (cr_a P c)) (HH (cr_b P c)))) Q u (iI i) h := by
  intro k
  have hm := H.1.m12
  have hn := H.1.n9
  have a1 := H.1.ab hc
  have b1 := (hh _ a1.1).2
  have b2 := (hh _ a1.2.1).2
  have l1 : iB (min (HH (cr_a P c)) (HH (cr_b P c))) := by omega
  have l2 : iB (max (HH (cr_a P c)) (HH (cr_b P c))) := by omega
  induction k with
  | zero =>
    intro u i hi hu hq
    obtain ⟨u, rfl⟩ : ∃ v, u = v + 1 := ⟨u - 1, by omega⟩
    unfold L_X5_isClosed_70
    refine rg_gA R rfl (rg_gI R rfl ?_)
    rw [hv]
    refine rg_aI R (by decide) (by decide) rfl (by decide) ⟨by omega, by simp only [lM]; omega⟩ ?_
    rw [H.2.2.2.2.2.1]
    exact br_le (by omega) (by omega) (fun _ => hq) (fun c => by omega)
  | succ k ih =>
    intro u i hi hu hq
    obtain ⟨u, rfl⟩ : ∃ v, u = v + 1 := ⟨u - 1, by omega⟩
    rw [all_step] at hq
    unfold L_X5_isClosed_70
    refine rg_gA R rfl (rg_gI R rfl ?_)
    rw [hv]
    refine rg_aI R (by decide) (by decide) rfl (by decide) ⟨by omega, by simp only [lM]; omega⟩ ?_
    rw [H.2.2.2.2.2.1]
    refine br_le (by omega) (by omega) (fun c => by omega) (fun _ => ?_)
    have hi' : i < cr_m P := by omega
    have a2 := H.1.ab hi'
    obtain ⟨hx, bx⟩ := hh _ a2.1
    obtain ⟨hy, by_⟩ := hh _ a2.2.1
    have e7 : A 7 (12 * (p : Int) + (i : Int)) = cr_a P i := H.2.2.2.2.2.2.2.1 i hi'
    have e8 : A 8 (12 * (p : Int) + (i : Int)) = cr_b P i := H.2.2.2.2.2.2.2.2.1 i hi'
    have go : cr_c1 P HH c i = true → L_X5_isClosed_70 m (iI c) (iI (min (HH (cr_a P c)) (HH (cr_b P c)))) (iI (max (HH (cr_a P c)) (HH (cr_b P c)))) Q u (iI (i : Int) + (1 : Int32)) h := fun ht => by
      rw [ht, Bool.true_and] at hq
      have e1 : iI (i : Int) + (1 : Int32) = iI ((i + 1 : Nat) : Int) := by rw [iI_1, iI_add]; simp
      rw [e1]
      exact ih u (i + 1) (by omega) (by omega) hq
    unfold B_X5_isClosed_178 B_X5_isClosed_179 B_X5_isClosed_205 B_X5_isClosed_206 B_X5_isClosed_217
    refine br_eq (by omega) (by omega) (fun c1 => go ?_) (fun c1 => ?_)
    · unfold cr_c1; rw [decide_eq_true (show i = c by omega)]; rfl
    refine rg_o R (m_isOneSide R H hp hv hpl hc hi' ?_)
    cases ho : cr_os P c i with
    | false => exact br_tt rfl (go (by unfold cr_c1; rw [ho]; simp))
    | true =>
      refine br_ff (by decide) (rg_o R (m_isFour R H hp hv hc hi' ?_))
      cases h4 : cr_fo P c i with
      | false => exact br_tt rfl (go (by unfold cr_c1; rw [h4]; simp))
      | true =>
        refine br_ff (by decide) ?_
        have hd : cr_c1 P HH c i = (cr_in P HH c (HH (cr_a P i)) == cr_in P HH c (HH (cr_b P i))) := by
          unfold cr_c1; rw [ho, h4, decide_eq_false (show ¬ i = c by omega)]; simp
        have e12 : (12 : Int32) * iI (p : Int) = iI (12 * (p : Int)) := iI_mul 12 p
        refine rg_gA R rfl (rg_gA R rfl (rg_gI R rfl ?_))
        rw [hv, e12, iI_add]
        refine rg_aI R (by decide) (by decide) rfl (by decide) ⟨by omega, by simp only [lM]; omega⟩ ?_
        rw [e7]
        refine rg_aI R (by decide) (by decide) rfl (by decide) ⟨by omega, by simp only [lM]; omega⟩ ?_
        rw [hx]
        refine rg_gA R rfl (rg_gA R rfl (rg_gI R rfl ?_))
        rw [hv, e12, iI_add]
        refine rg_aI R (by decide) (by decide) rfl (by decide) ⟨by omega, by simp only [lM]; omega⟩ ?_
        rw [e8]
        refine rg_aI R (by decide) (by decide) rfl (by decide) ⟨by omega, by simp only [lM]; omega⟩ ?_
        rw [hy]
        -- behind it: the second face, once it is known whether the first lies within
        have snd : ∀ b : Bool, cr_in P HH c (HH (cr_a P i)) = b → pq_br (iI (HH (cr_b P i)) = (-1 : Int32)) (pq_br (iI (bI b) = (0 : Int32)) (L_X5_isClosed_70 m (iI c) (iI (min (HH (cr_a P c)) (HH (cr_b P c)))) (iI (max (HH (cr_a P c)) (HH (cr_b P c)))) Q u (iI (i : Int) + (1 : Int32)) h) (Q (0 : Int32) h)) (pq_br (iI (HH (cr_b P i)) ≤ iI (min (HH (cr_a P c)) (HH (cr_b P c)))) (pq_br (iI (bI b) = (0 : Int32)) (L_X5_isClosed_70 m (iI c) (iI (min (HH (cr_a P c)) (HH (cr_b P c)))) (iI (max (HH (cr_a P c)) (HH (cr_b P c)))) Q u (iI (i : Int) + (1 : Int32)) h) (Q (0 : Int32) h)) (pq_br (iI (max (HH (cr_a P c)) (HH (cr_b P c))) ≤ iI (HH (cr_b P i))) (pq_br (iI (bI b) = (0 : Int32)) (L_X5_isClosed_70 m (iI c) (iI (min (HH (cr_a P c)) (HH (cr_b P c)))) (iI (max (HH (cr_a P c)) (HH (cr_b P c)))) Q u (iI (i : Int) + (1 : Int32)) h) (Q (0 : Int32) h)) (pq_br (iI (bI b) = (1 : Int32)) (L_X5_isClosed_70 m (iI c) (iI (min (HH (cr_a P c)) (HH (cr_b P c)))) (iI (max (HH (cr_a P c)) (HH (cr_b P c)))) Q u (iI (i : Int) + (1 : Int32)) h) (Q (0 : Int32) h)))) := fun b hb => by
          have out : cr_in P HH c (HH (cr_b P i)) = false → pq_br (iI (bI b) = (0 : Int32)) (L_X5_isClosed_70 m (iI c) (iI (min (HH (cr_a P c)) (HH (cr_b P c)))) (iI (max (HH (cr_a P c)) (HH (cr_b P c)))) Q u (iI (i : Int) + (1 : Int32)) h) (Q (0 : Int32) h) := fun hf => by
            cases b with
            | false => exact br_tt rfl (go (by rw [hd, hb, hf]; rfl))
            | true =>
              refine br_ff (by decide) ?_
              have : cr_c1 P HH c i = false := by rw [hd, hb, hf]; rfl
              rw [this] at hq
              exact hq
          refine br_eq (b := -1) by_ (by omega) (fun c2 => out ?_) (fun c2 => ?_)
          · unfold cr_in; rw [decide_eq_false (show ¬ HH (cr_b P i) ≠ -1 by omega)]; rfl
          refine br_le by_ l1 (fun c3 => out ?_) (fun c3 => ?_)
          · unfold cr_in; rw [decide_eq_false (show ¬ _ < HH (cr_b P i) by omega)]; simp
          refine br_le l2 by_ (fun c4 => out ?_) (fun c4 => ?_)
          · unfold cr_in; rw [decide_eq_false (show ¬ HH (cr_b P i) < _ by omega)]; simp
          have hin : cr_in P HH c (HH (cr_b P i)) = true := by
            unfold cr_in; rw [decide_eq_true (show HH (cr_b P i) ≠ -1 by omega), decide_eq_true c3, decide_eq_true c4]; rfl
          cases b with
          | true => exact br_tt rfl (go (by rw [hd, hb, hin]; rfl))
          | false =>
            refine br_ff (by decide) ?_
            have : cr_c1 P HH c i = false := by rw [hd, hb, hin]; rfl
            rw [this] at hq
            exact hq
        refine br_eq (b := -1) bx (by omega) (fun c2 => snd false ?_) (fun c2 => ?_)
        · unfold cr_in; rw [decide_eq_false (show ¬ HH (cr_a P i) ≠ -1 by omega)]; rfl
        refine br_le bx l1 (fun c3 => snd false ?_) (fun c3 => ?_)
        · unfold cr_in; rw [decide_eq_false (show ¬ _ < HH (cr_a P i) by omega)]; simp
        refine br_le l2 bx (fun c4 => snd false ?_) (fun c4 => snd true ?_)
        · unfold cr_in; rw [decide_eq_false (show ¬ HH (cr_a P i) < _ by omega)]; simp
        · unfold cr_in; rw [decide_eq_true (show HH (cr_a P i) ≠ -1 by omega), decide_eq_true c3, decide_eq_true c4]; rfl
theorem m_isClosed {c : Nat} (R : rM h m V A) (H : mP A p P) (hp : p < 30) (hv : V 12 = p) (hpl : mPl A P) (hh : ∀ f : Nat, f < cr_n P → A 13 (f : Int) = HH f ∧ iB (HH f)) (hc : c < cr_m P) (hq : Q (iI (bI (cr_clo P HH c))) h) : F_X5_isClosed m (iI c) (iI (cr_a P c)) (iI (cr_b P c)) h Q := by
  unfold F_X5_isClosed B_X5_isClosed_33
  have hm := H.1.m12
  have hn := H.1.n9
  have a1 := H.1.ab hc
  obtain ⟨hx, bx⟩ := hh _ a1.1
  obtain ⟨hy, by_⟩ := hh _ a1.2.1
  have e9 : A 9 (12 * (p : Int) + (c : Int)) = cr_mk P c := H.2.2.2.2.2.2.2.2.2.1 c hc
  have hmk := H.1.2.2.1 c
  unfold cr_clo at hq
  have tail : cr_mok P HH c = true → pq_gA h m 5 16 (fun b1 => pq_aI h b1 (iI (cr_a P c)) (fun v2 => pq_gA h m 5 16 (fun b3 => pq_aI h b3 (iI (cr_b P c)) (fun v4 => F_X5_lesser v2 v4 h (fun v6 h5 => pq_gA h5 m 5 16 (fun b7 => pq_aI h5 b7 (iI (cr_a P c)) (fun v8 => pq_gA h5 m 5 16 (fun b9 => pq_aI h5 b9 (iI (cr_b P c)) (fun v10 => F_X5_greater v8 v10 h5 (fun v12 h11 => pq_ex (fun m70 => L_X5_isClosed_70 m (iI c) v6 v12 Q m70 (0 : Int32) h11))))))))))) := fun ht => by
    rw [ht, Bool.true_and] at hq
    refine rg_gA R rfl (rg_aI R (by decide) (by decide) rfl (by decide) ⟨by omega, by simp only [lM]; omega⟩ ?_)
    rw [hx]
    refine rg_gA R rfl (rg_aI R (by decide) (by decide) rfl (by decide) ⟨by omega, by simp only [lM]; omega⟩ ?_)
    rw [hy]
    refine m_lesser bx by_ ?_
    refine rg_gA R rfl (rg_aI R (by decide) (by decide) rfl (by decide) ⟨by omega, by simp only [lM]; omega⟩ ?_)
    rw [hx]
    refine rg_gA R rfl (rg_aI R (by decide) (by decide) rfl (by decide) ⟨by omega, by simp only [lM]; omega⟩ ?_)
    rw [hy]
    refine m_greater bx by_ ?_
    exact ⟨20, m_isClosed_loop R H hp hv hpl hh hc (cr_m P) 20 0 (by omega) (by omega) (by rw [all_range]; exact hq)⟩
  simp only [show (12 : Int32) = iI 12 from rfl]
  refine rg_gA R rfl (rg_gI R rfl ?_)
  rw [hv, iI_mul, iI_add]
  refine rg_aI R (by decide) (by decide) rfl (by decide) ⟨by omega, by simp only [lM]; omega⟩ ?_
  rw [e9]
  refine br_eq (b := 0) (by omega) (by omega) (fun c1 => tail ?_) (fun c1 => ?_)
  · unfold cr_mok; rw [decide_eq_true (show cr_mk P c = 0 by omega)]; rfl
  refine rg_o R (m_markIn R H hp hv hh hc ?_)
  have hmi : cr_mi P HH c ≤ 2 := by unfold cr_mi; split <;> omega
  refine br_eq (by omega) (by omega) (fun c2 => tail ?_) (fun c2 => ?_)
  · unfold cr_mok; rw [decide_eq_true (show cr_mk P c = cr_mi P HH c by omega)]; simp
  · have : cr_mok P HH c = false := by
      unfold cr_mok; rw [decide_eq_false (show ¬ cr_mk P c = 0 by omega), decide_eq_false (show ¬ cr_mk P c = cr_mi P HH c by omega)]; rfl
    rw [this] at hq
    exact hq
end M7
