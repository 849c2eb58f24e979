/-! WHAT IS ALLOWED of a row of all faces, and that the reference's chain of tests asks just that -/
def alM (P : cr_P) (H : Nat → Int) : Prop := ∀ c, c < cr_m P → cr_mok P H c = true
def alT (P : cr_P) (H : Nat → Int) : Prop := ∀ c, c < cr_m P → ∀ f, f < cr_n P → cr_t3 P c f = true → cr_bt P H c f = false
def alA (P : cr_P) (H : Nat → Int) : Prop := ∀ c, c < cr_m P → ∀ d, d < cr_m P → cr_os P c d = true → cr_fo P c d = true → cr_bt P H c (cr_a P d) = cr_bt P H c (cr_b P d)
/-- heights: each face its own -/
def hts (n : Nat) (H : Nat → Int) : Prop := (∀ f, f < n → 0 ≤ H f) ∧ ∀ f g, f < n → g < n → H f = H g → f = g
def pre (H : Nat → Int) (i : Int) (g : Nat) : Int := if H g ≤ i then H g else -1
theorem bt_iff {P : cr_P} {H : Nat → Int} {c f : Nat} : cr_bt P H c f = true ↔ min (H (cr_a P c)) (H (cr_b P c)) < H f ∧ H f < max (H (cr_a P c)) (H (cr_b P c)) := by
  unfold cr_bt; rw [Bool.and_eq_true, decide_eq_true_eq, decide_eq_true_eq]
theorem bt_f {P : cr_P} {H : Nat → Int} {c f : Nat} : cr_bt P H c f = false ↔ ¬ (min (H (cr_a P c)) (H (cr_b P c)) < H f ∧ H f < max (H (cr_a P c)) (H (cr_b P c))) := by
  rw [← Bool.not_eq_true, bt_iff]
theorem pre_in {P : cr_P} {H : Nat → Int} (hH : hts (cr_n P) H) {c g : Nat} {i : Int} (hc : cr_a P c < cr_n P ∧ cr_b P c < cr_n P) (hg : g < cr_n P) (hi : i = max (H (cr_a P c)) (H (cr_b P c))) : cr_in P (pre H i) c (pre H i g) = cr_bt P H c g := by
  have h1 : pre H i (cr_a P c) = H (cr_a P c) := if_pos (by omega)
  have h2 : pre H i (cr_b P c) = H (cr_b P c) := if_pos (by omega)
  have h3 := hH.1 g hg
  unfold cr_in cr_bt
  rw [h1, h2]
  unfold pre
  split
  · rw [decide_eq_true (show H g ≠ -1 by omega), Bool.true_and]
  · rw [decide_eq_false (show ¬ H g < max (H (cr_a P c)) (H (cr_b P c)) by omega), Bool.and_false]
    simp
theorem pre_mok {P : cr_P} {H : Nat → Int} {c : Nat} {i : Int} (hi : i = max (H (cr_a P c)) (H (cr_b P c))) : cr_mok P (pre H i) c = cr_mok P H c := by
  have h1 : pre H i (cr_a P c) = H (cr_a P c) := if_pos (by omega)
  have h2 : pre H i (cr_b P c) = H (cr_b P c) := if_pos (by omega)
  unfold cr_mok cr_mi
  rw [h1, h2]
theorem fo_ne {P : cr_P} {c d : Nat} (h : cr_fo P c d = true) : d ≠ c := by
  intro e
  subst e
  unfold cr_fo at h
  simp at h
/-- closing crease c -/
theorem clo_iff {P : cr_P} {H : Nat → Int} (ok : cr_ok P) (hH : hts (cr_n P) H) {c : Nat} {i : Int} (hc : c < cr_m P) (hi : i = max (H (cr_a P c)) (H (cr_b P c))) : cr_clo P (pre H i) c = true ↔ cr_mok P H c = true ∧ ∀ d, d < cr_m P → cr_os P c d = true → cr_fo P c d = true → cr_bt P H c (cr_a P d) = cr_bt P H c (cr_b P d) := by
  obtain ⟨a1, a2, -⟩ := ok.ab hc
  unfold cr_clo
  rw [Bool.and_eq_true, pre_mok hi, List.all_eq_true]
  refine and_congr Iff.rfl ⟨fun h d hd ho hf => ?_, fun h d hd => ?_⟩
  · have := h d (List.mem_range.mpr hd)
    obtain ⟨b1, b2, -⟩ := ok.ab hd
    unfold cr_c1 at this
    rw [ho, hf, decide_eq_false (fo_ne hf), pre_in hH ⟨a1, a2⟩ b1 hi, pre_in hH ⟨a1, a2⟩ b2 hi] at this
    simpa using this
  · have hd := List.mem_range.mp hd
    obtain ⟨b1, b2, -⟩ := ok.ab hd
    unfold cr_c1
    rw [pre_in hH ⟨a1, a2⟩ b1 hi, pre_in hH ⟨a1, a2⟩ b2 hi]
    cases ho : cr_os P c d with
    | false => simp
    | true =>
      cases hf : cr_fo P c d with
      | false => simp
      | true => rw [h d hd ho hf]; simp
theorem chain_iff {P : cr_P} {H : Nat → Int} (ok : cr_ok P) (hH : hts (cr_n P) H) : (∀ f, f < cr_n P → ∀ c, c < cr_m P → cr_f1 P (pre H (H f)) f c = true) ↔ alM P H ∧ alT P H ∧ alA P H := by
  have cl : ∀ f c, f < cr_n P → c < cr_m P → H f = max (H (cr_a P c)) (H (cr_b P c)) → (cr_a P c = f ∨ cr_b P c = f) → cr_f1 P (pre H (H f)) f c = cr_clo P (pre H (H f)) c := by
    intro f c hf hc hi hab
    obtain ⟨a1, a2, -⟩ := ok.ab hc
    have h1 := hH.1 _ a1
    have h2 := hH.1 _ a2
    unfold cr_f1
    rw [if_pos hab]
    have e1 : pre H (H f) (cr_a P c) = H (cr_a P c) := if_pos (by omega)
    have e2 : pre H (H f) (cr_b P c) = H (cr_b P c) := if_pos (by omega)
    rw [e1, e2, decide_eq_false (by omega), decide_eq_false (by omega)]
    rfl
  have late : ∀ c, c < cr_m P → ∃ f, f < cr_n P ∧ H f = max (H (cr_a P c)) (H (cr_b P c)) ∧ (cr_a P c = f ∨ cr_b P c = f) := by
    intro c hc
    obtain ⟨a1, a2, -⟩ := ok.ab hc
    by_cases q : H (cr_a P c) ≤ H (cr_b P c)
    · exact ⟨_, a2, by omega, Or.inr rfl⟩
    · exact ⟨_, a1, by omega, Or.inl rfl⟩
  constructor
  · intro h
    refine ⟨fun c hc => ?_, fun c hc f hf ht => ?_, fun c hc => ?_⟩
    · obtain ⟨f, hf, e, hab⟩ := late c hc
      have := h f hf c hc
      rw [cl f c hf hc e hab] at this
      exact ((clo_iff ok hH hc e).mp this).1
    · have := h f hf c hc
      unfold cr_t3 at ht
      simp only [Bool.and_eq_true, decide_eq_true_eq] at ht
      obtain ⟨n1, n2, hw⟩ := ht
      unfold cr_f1 at this
      rw [if_neg (by omega), hw, Bool.not_true, Bool.or_false, beq_iff_eq] at this
      obtain ⟨a1, a2, -⟩ := ok.ab hc
      have h1 := hH.1 _ a1
      have h2 := hH.1 _ a2
      rw [bt_f]
      rintro ⟨q1, q2⟩
      unfold pre at this
      by_cases s1 : H (cr_a P c) ≤ H f <;> by_cases s2 : H (cr_b P c) ≤ H f
      · omega
      · rw [if_pos s1, if_neg s2, decide_eq_false (by omega), decide_eq_true rfl] at this
        cases this
      · rw [if_neg s1, if_pos s2, decide_eq_true rfl, decide_eq_false (by omega)] at this
        cases this
      · omega
    · obtain ⟨f, hf, e, hab⟩ := late c hc
      have := h f hf c hc
      rw [cl f c hf hc e hab] at this
      exact ((clo_iff ok hH hc e).mp this).2
  · rintro ⟨hM, hT, hA⟩ f hf c hc
    obtain ⟨a1, a2, -⟩ := ok.ab hc
    have h1 := hH.1 _ a1
    have h2 := hH.1 _ a2
    by_cases hab : cr_a P c = f ∨ cr_b P c = f
    · by_cases e : H f = max (H (cr_a P c)) (H (cr_b P c))
      · rw [cl f c hf hc e hab]
        exact (clo_iff ok hH hc e).mpr ⟨hM c hc, hA c hc⟩
      · unfold cr_f1
        rw [if_pos hab]
        rcases hab with q | q
        · have : pre H (H f) (cr_b P c) = -1 := if_neg (by rw [← q] at e ⊢; omega)
          rw [this]; simp
        · have : pre H (H f) (cr_a P c) = -1 := if_neg (by rw [← q] at e ⊢; omega)
          rw [this]; simp
    · unfold cr_f1
      rw [if_neg hab]
      cases hw : cr_wi P f (cr_pl P c) with
      | false => simp
      | true =>
        have ht : cr_t3 P c f = true := by
          unfold cr_t3
          rw [hw, decide_eq_true (show f ≠ cr_a P c by omega), decide_eq_true (show f ≠ cr_b P c by omega)]
          rfl
        have hb := hT c hc f hf ht
        rw [bt_f] at hb
        have n1 : H f ≠ H (cr_a P c) := fun z => hab (Or.inl (hH.2 _ _ hf a1 z).symm)
        have n2 : H f ≠ H (cr_b P c) := fun z => hab (Or.inr (hH.2 _ _ hf a2 z).symm)
        rw [Bool.not_true, Bool.or_false, beq_iff_eq]
        unfold pre
        by_cases s1 : H (cr_a P c) ≤ H f <;> by_cases s2 : H (cr_b P c) ≤ H f
        · rw [if_pos s1, if_pos s2, decide_eq_false (by omega), decide_eq_false (by omega)]
        · omega
        · omega
        · rw [if_neg s1, if_neg s2]
theorem R_hts {n : Nat} {l : List Nat} (h : isR n l) : hts n (ps l) := by
  have hm := mem_of_full h.2.1 h.2.2 h.1
  refine ⟨fun f hf => ?_, fun f g hf hg e => ?_⟩
  · rw [ps_in (hm f hf)]; omega
  · rw [ps_in (hm f hf), ps_in (hm g hg)] at e
    have e : l.idxOf f = l.idxOf g := by omega
    have h1 : l.idxOf f < l.length := List.idxOf_lt_length_of_mem (hm f hf)
    have h2 : l.idxOf g < l.length := List.idxOf_lt_length_of_mem (hm g hg)
    rw [← List.getElem_idxOf h1, ← List.getElem_idxOf h2]
    simp only [e]
theorem ps_take {l : List Nat} {f i : Nat} (hf : f ∈ l) : ps (l.take (i + 1)) f = pre (ps l) i f := by
  have e : l.idxOf f = (l.take (i + 1) ++ l.drop (i + 1)).idxOf f := by rw [List.take_append_drop]
  rw [List.idxOf_append] at e
  unfold pre
  by_cases hm : f ∈ l.take (i + 1)
  · rw [if_pos hm] at e
    have h1 := List.idxOf_lt_length_of_mem hm
    rw [List.length_take] at h1
    rw [ps_in hm, ps_in hf, if_pos (by omega)]
    omega
  · rw [if_neg hm] at e
    rw [ps_not hm, ps_in hf]
    by_cases hl : i + 1 ≤ l.length
    · rw [List.length_take] at e
      rw [if_neg (by omega)]
    · rw [List.take_of_length_le (by omega)] at hm
      exact absurd hf hm
theorem pre_cong {P : cr_P} (ok : cr_ok P) {K H : Nat → Int} {f c : Nat} (hf : f < cr_n P) (hc : c < cr_m P) (e : ∀ g, g < cr_n P → K g = H g) : cr_f1 P K f c = cr_f1 P H f c := by
  obtain ⟨a1, a2, -⟩ := ok.ab hc
  have e1 : cr_mok P K c = cr_mok P H c := by unfold cr_mok cr_mi; rw [e _ a1, e _ a2]
  have e2 : ∀ d, d < cr_m P → cr_c1 P K c d = cr_c1 P H c d := fun d hd => by
    obtain ⟨b1, b2, -⟩ := ok.ab hd
    unfold cr_c1 cr_in
    rw [e _ a1, e _ a2, e _ b1, e _ b2]
  have e3 : cr_clo P K c = cr_clo P H c := by
    unfold cr_clo
    rw [e1]
    congr 1
    rw [Bool.eq_iff_iff, List.all_eq_true, List.all_eq_true]
    exact ⟨fun h d hd => by rw [← e2 d (List.mem_range.mp hd)]; exact h d hd, fun h d hd => by rw [e2 d (List.mem_range.mp hd)]; exact h d hd⟩
  unfold cr_f1
  rw [e _ a1, e _ a2, e3]
theorem gd_chain {P : cr_P} (ok : cr_ok P) {l : List Nat} (hR : isR (cr_n P) l) : ch (gd P) [] l = true ↔ alM P (ps l) ∧ alT P (ps l) ∧ alA P (ps l) := by
  rw [← chain_iff ok (R_hts hR), ch_iff]
  have hm := mem_of_full hR.2.1 hR.2.2 hR.1
  constructor
  · intro h f hf c hc
    have hx : l.idxOf f < l.length := List.idxOf_lt_length_of_mem (hm f hf)
    have := h (l.idxOf f) hx
    rw [List.nil_append, List.getElem_idxOf] at this
    unfold gd at this
    rw [Bool.and_eq_true] at this
    have h2 := this.2
    have e1 : l.take (l.idxOf f) ++ [f] = l.take (l.idxOf f + 1) := by
      rw [List.take_succ, List.getElem?_eq_getElem hx, List.getElem_idxOf]; rfl
    rw [e1] at h2
    unfold cr_fi at h2
    rw [List.all_eq_true] at h2
    have h3 := h2 c (List.mem_range.mpr hc)
    rw [← h3]
    refine pre_cong ok hf hc (fun g hg => ?_)
    rw [ps_take (hm g hg), ps_in (hm f hf)]
  · intro h i hi
    rw [List.nil_append]
    have hf : l[i] < cr_n P := hR.2.2 _ (List.getElem_mem hi)
    have hx : l.idxOf l[i] = i := List.Nodup.idxOf_getElem hR.2.1 i hi
    unfold gd
    rw [Bool.and_eq_true]
    refine ⟨decide_eq_true (fun hz => ?_), ?_⟩
    · obtain ⟨j, hj, e⟩ := List.mem_iff_getElem.mp hz
      rw [List.length_take] at hj
      rw [List.getElem_take] at e
      have := (List.getElem_inj hR.2.1).mp e
      omega
    · have e1 : l.take i ++ [l[i]] = l.take (i + 1) := by
        rw [List.take_succ, List.getElem?_eq_getElem hi]; rfl
      rw [e1]
      unfold cr_fi
      rw [List.all_eq_true]
      intro c hc
      have hc := List.mem_range.mp hc
      rw [← h _ hf c hc]
      refine pre_cong ok hf hc (fun g hg => ?_)
      rw [ps_take (hm g hg), ps_in (hm _ hf), hx]
