/-! THE CLASS's chain of candidates lets pass just the rows that its rules and its demands allow -/
def demH (n : Nat) (Bw : Nat → Nat) (H : Nat → Int) : Prop := ∀ f, f < n → ∀ g, g < 9 → (Bw f).testBit g = true → g < n ∧ H g < H f
/-- crease c has just one face below height t -/
def oH (P : cr_P) (H : Nat → Int) (t : Int) (c : Nat) : Prop := (H (cr_a P c) < t ∧ ¬ H (cr_b P c) < t) ∨ (¬ H (cr_a P c) < t ∧ H (cr_b P c) < t)
theorem brd_bit (P : cr_P) (l : List Nat) (f : Nat) : ∀ k, (brd P l k).testBit f = true ↔ (stL l).testBit f = true ∨ ∃ c, c < k ∧ isO P l c = true ∧ (bar1 P l c).testBit f = true
  | 0 => by
    rw [brd]
    exact ⟨fun h => Or.inl h, fun h => h.elim id (fun ⟨c, hc, _⟩ => by omega)⟩
  | k + 1 => by
    rw [brd]
    have ih := brd_bit P l f k
    cases ho : isO P l k with
    | false =>
      simp only [Bool.false_eq_true, if_false]
      rw [ih]
      refine or_congr Iff.rfl ⟨fun ⟨c, h1, h2, h3⟩ => ⟨c, by omega, h2, h3⟩, fun ⟨c, h1, h2, h3⟩ => ⟨c, ?_, h2, h3⟩⟩
      rcases Nat.lt_or_ge c k with q | q
      · exact q
      · have : c = k := by omega
        rw [this, ho] at h2; cases h2
    | true =>
      simp only [if_true]
      rw [Nat.testBit_or, Bool.or_eq_true, ih]
      constructor
      · rintro ((h1 | ⟨c, h1, h2, h3⟩) | h1)
        · exact Or.inl h1
        · exact Or.inr ⟨c, by omega, h2, h3⟩
        · exact Or.inr ⟨k, by omega, ho, h1⟩
      · rintro (h1 | ⟨c, h1, h2, h3⟩)
        · exact Or.inl (Or.inl h1)
        · rcases Nat.lt_or_ge c k with q | q
          · exact Or.inl (Or.inr ⟨c, q, h2, h3⟩)
          · have : c = k := by omega
            rw [this] at h3
            exact Or.inr h3
theorem ne0_bit {x k : Nat} (hx : x < 2 ^ k) : x ≠ 0 ↔ ∃ i, i < k ∧ x.testBit i = true := by
  constructor
  · intro h
    by_cases q : ∃ i, i < k ∧ x.testBit i = true
    · exact q
    · exfalso
      apply h
      refine nu_ext hx (Nat.two_pow_pos k) (fun i hi => ?_)
      rw [Nat.zero_testBit]
      cases e : x.testBit i with
      | false => rfl
      | true => exact absurd ⟨i, hi, e⟩ q
  · rintro ⟨i, _, h⟩ e
    rw [e, Nat.zero_testBit] at h
    cases h
theorem acr_bit {P : cr_P} {c d : Nat} (hd : d < cr_m P) : (cr_acr P c).testBit d = true ↔ (d ≠ c ∧ cr_os P d c = true ∧ cr_fo P d c = true) := by
  unfold cr_acr
  rw [nu_bm_bit, decide_eq_true hd, Bool.true_and, Bool.and_eq_true, Bool.and_eq_true, decide_eq_true_eq]
/-- what bars face f at an open crease c -/
theorem bar1_bit {P : cr_P} (ok : cr_ok P) {l : List Nat} {c f : Nat} (hf : f < cr_n P) : (bar1 P l c).testBit f = true ↔ cr_t3 P c f = true ∨ (msg P l c = f ∧ ∃ d, d < cr_m P ∧ isO P l d = true ∧ isO P (l.take ((ps l (lyg P l c)).toNat + 1)) d = false ∧ d ≠ c ∧ cr_os P d c = true ∧ cr_fo P d c = true) := by
  have ht : (cr_thr P c).testBit f = cr_t3 P c f := by unfold cr_thr; rw [nu_bm_bit, decide_eq_true hf, Bool.true_and]
  have o1 : opn P l < 2 ^ cr_m P := nu_bm_lt _ _
  have key : (nu_dif (opn P l) (opn P (l.take ((ps l (lyg P l c)).toNat + 1))) &&& cr_acr P c ≠ 0) ↔ ∃ d, d < cr_m P ∧ isO P l d = true ∧ isO P (l.take ((ps l (lyg P l c)).toNat + 1)) d = false ∧ d ≠ c ∧ cr_os P d c = true ∧ cr_fo P d c = true := by
    rw [ne0_bit (k := cr_m P) (nu_lt_and (nu_lt_dif o1))]
    refine exists_congr (fun d => ⟨fun ⟨hd, h⟩ => ?_, fun ⟨hd, h1, h2, h3⟩ => ⟨hd, ?_⟩⟩)
    · rw [Nat.testBit_and, nu_dif_bit, opn_bit hd, opn_bit hd, Bool.and_eq_true, Bool.and_eq_true, acr_bit hd] at h
      refine ⟨hd, h.1.1, ?_, h.2⟩
      have := h.1.2
      simpa using this
    · rw [Nat.testBit_and, nu_dif_bit, opn_bit hd, opn_bit hd, Bool.and_eq_true, Bool.and_eq_true, acr_bit hd]
      exact ⟨⟨h1, by rw [h2]; rfl⟩, h3⟩
  have bf : (bfc P l c).testBit f = true ↔ (msg P l c = f ∧ nu_dif (opn P l) (opn P (l.take ((ps l (lyg P l c)).toNat + 1))) &&& cr_acr P c ≠ 0) := by
    unfold bfc
    by_cases q : nu_dif (opn P l) (opn P (l.take ((ps l (lyg P l c)).toNat + 1))) &&& cr_acr P c = 0
    · rw [if_pos q, Nat.zero_testBit]
      exact ⟨fun h => (by cases h), fun h => absurd q h.2⟩
    · rw [if_neg q, Nat.testBit_two_pow, decide_eq_true_eq]
      exact ⟨fun h => ⟨h, q⟩, fun h => h.1⟩
  unfold bar1
  by_cases q : opn P l &&& cr_acr P c = 0
  · rw [if_pos q, ht]
    refine ⟨fun h => Or.inl h, fun h => h.elim id (fun ⟨_, d, hd, h1, _, h3⟩ => ?_)⟩
    exfalso
    have : (opn P l &&& cr_acr P c).testBit d = true := by rw [Nat.testBit_and, opn_bit hd, h1, (acr_bit hd).mpr h3]; rfl
    rw [q, Nat.zero_testBit] at this
    cases this
  · rw [if_neg q, Nat.testBit_or, Bool.or_eq_true, ht, bf, key]
theorem mem_take {l : List Nat} {n i g : Nat} (hR : isR n l) (hg : g < n) : g ∈ l.take i ↔ ps l g < i := by
  have hm := mem_of_full hR.2.1 hR.2.2 hR.1 g hg
  have e : l.idxOf g = (l.take i ++ l.drop i).idxOf g := by rw [List.take_append_drop]
  rw [List.idxOf_append] at e
  rw [ps_in hm]
  by_cases q : g ∈ l.take i
  · rw [if_pos q] at e
    have := List.idxOf_lt_length_of_mem q
    rw [List.length_take] at this
    exact ⟨fun _ => by omega, fun _ => q⟩
  · rw [if_neg q, List.length_take] at e
    refine ⟨fun h => absurd h q, fun h => ?_⟩
    exfalso
    by_cases q2 : i ≤ l.length
    · omega
    · apply q
      rw [List.take_of_length_le (by omega)]; exact hm
theorem isO_iff {P : cr_P} (ok : cr_ok P) {l : List Nat} (hR : isR (cr_n P) l) {i c : Nat} (hc : c < cr_m P) : isO P (l.take i) c = true ↔ oH P (ps l) i c := by
  obtain ⟨a1, a2, -⟩ := ok.ab hc
  have m1 := mem_take (i := i) hR a1
  have m2 := mem_take (i := i) hR a2
  unfold isO oH
  rw [← m1, ← m2]
  by_cases q1 : cr_a P c ∈ l.take i <;> by_cases q2 : cr_b P c ∈ l.take i <;> simp [q1, q2]
/-- what is asked at face f, in heights -/
def askA (P : cr_P) (H : Nat → Int) (f c : Nat) : Prop := oH P H (H f) c → cr_t3 P c f = false ∧ ((cr_a P c = f ∨ cr_b P c = f) → ∀ d, d < cr_m P → d ≠ c → cr_os P d c = true → cr_fo P d c = true → oH P H (H f) d → oH P H (min (H (cr_a P c)) (H (cr_b P c)) + 1) d)
theorem ask_iff {P : cr_P} {H : Nat → Int} (ok : cr_ok P) (hH : hts (cr_n P) H) : (∀ f, f < cr_n P → ∀ c, c < cr_m P → askA P H f c) ↔ alT P H ∧ alA P H := by
  constructor
  · intro h
    refine ⟨fun c hc f hf ht => ?_, fun c hc d hd ho hf => ?_⟩
    · rw [bt_f]
      rintro ⟨q1, q2⟩
      have := (h f hf c hc (by unfold oH; omega)).1
      rw [ht] at this; cases this
    · obtain ⟨a1, a2, a3⟩ := ok.ab hc
      obtain ⟨b1, b2, b3⟩ := ok.ab hd
      have hne := fo_ne hf
      have ho' := os_sym ho
      have hf' := fo_sym hf
      unfold cr_fo at hf
      simp only [Bool.and_eq_true, decide_eq_true_eq] at hf
      obtain ⟨f1, f2, f3, f4⟩ := hf
      have n1 : H (cr_a P c) ≠ H (cr_a P d) := fun z => f1 (hH.2 _ _ a1 b1 z)
      have n2 : H (cr_a P c) ≠ H (cr_b P d) := fun z => f2 (hH.2 _ _ a1 b2 z)
      have n3 : H (cr_b P c) ≠ H (cr_a P d) := fun z => f3 (hH.2 _ _ a2 b1 z)
      have n4 : H (cr_b P c) ≠ H (cr_b P d) := fun z => f4 (hH.2 _ _ a2 b2 z)
      have n5 : H (cr_a P c) ≠ H (cr_b P c) := fun z => a3 (hH.2 _ _ a1 a2 z)
      have n6 : H (cr_a P d) ≠ H (cr_b P d) := fun z => b3 (hH.2 _ _ b1 b2 z)
      -- the later face of c, the later face of d
      have lc : ∃ f, f < cr_n P ∧ (cr_a P c = f ∨ cr_b P c = f) ∧ H f = max (H (cr_a P c)) (H (cr_b P c)) := by
        by_cases q : H (cr_a P c) ≤ H (cr_b P c)
        · exact ⟨_, a2, Or.inr rfl, by omega⟩
        · exact ⟨_, a1, Or.inl rfl, by omega⟩
      have ld : ∃ f, f < cr_n P ∧ (cr_a P d = f ∨ cr_b P d = f) ∧ H f = max (H (cr_a P d)) (H (cr_b P d)) := by
        by_cases q : H (cr_a P d) ≤ H (cr_b P d)
        · exact ⟨_, b2, Or.inr rfl, by omega⟩
        · exact ⟨_, b1, Or.inl rfl, by omega⟩
      obtain ⟨fc, k1, k2, k3⟩ := lc
      obtain ⟨fd, j1, j2, j3⟩ := ld
      have hc1 : oH P H (H fc) c := by unfold oH; omega
      have hd1 : oH P H (H fd) d := by unfold oH; omega
      have c1 := (h fc k1 c hc hc1).2 k2 d hd hne ho' hf'
      have c2 := (h fd j1 d hd hd1).2 j2 c hc (fun z => hne z.symm) ho (fo_sym hf')
      unfold oH at c1 c2
      rw [Bool.eq_iff_iff, bt_iff, bt_iff]
      omega
  · rintro ⟨hT, hA⟩ f hf c hc ho
    obtain ⟨a1, a2, a3⟩ := ok.ab hc
    refine ⟨?_, fun hab d hd hne hos hfo hod => ?_⟩
    · cases ht : cr_t3 P c f with
      | false => rfl
      | true =>
        exfalso
        have hb := hT c hc f hf ht
        rw [bt_f] at hb
        unfold cr_t3 at ht
        simp only [Bool.and_eq_true, decide_eq_true_eq] at ht
        have n1 : H f ≠ H (cr_a P c) := fun z => ht.1 (hH.2 _ _ hf a1 z)
        have n2 : H f ≠ H (cr_b P c) := fun z => ht.2.1 (hH.2 _ _ hf a2 z)
        unfold oH at ho
        omega
    · have hb := hA c hc d hd (os_sym hos) (fo_sym hfo)
      obtain ⟨b1, b2, b3⟩ := ok.ab hd
      unfold cr_fo at hfo
      simp only [Bool.and_eq_true, decide_eq_true_eq] at hfo
      obtain ⟨f1, f2, f3, f4⟩ := hfo
      have n1 : H (cr_a P d) ≠ H (cr_a P c) := fun z => f1 (hH.2 _ _ b1 a1 z)
      have n2 : H (cr_a P d) ≠ H (cr_b P c) := fun z => f2 (hH.2 _ _ b1 a2 z)
      have n3 : H (cr_b P d) ≠ H (cr_a P c) := fun z => f3 (hH.2 _ _ b2 a1 z)
      have n4 : H (cr_b P d) ≠ H (cr_b P c) := fun z => f4 (hH.2 _ _ b2 a2 z)
      rw [Bool.eq_iff_iff, bt_iff, bt_iff] at hb
      have hm : H f = H (cr_a P c) ∨ H f = H (cr_b P c) := by
        rcases hab with e | e
        · left; rw [e]
        · right; rw [e]
      unfold oH at ho hod ⊢
      omega
/-- one step of the chain -/
theorem gq_step {P : cr_P} (ok : cr_ok P) {Bw : Nat → Nat} (hB : ∀ f, Bw f < 2 ^ 9) {l : List Nat} (hR : isR (cr_n P) l) {i f : Nat} (hf : f < cr_n P) (hi : ps l f = i) : gq P Bw (l.take i) f = true ↔ (∀ c, c < cr_m P → askA P (ps l) f c) ∧ ∀ g, g < 9 → (Bw f).testBit g = true → g < cr_n P ∧ ps l g < ps l f := by
  have hn := ok.n9
  have fm : f ∉ l.take i := fun h => by have := (mem_take hR hf).mp h; omega
  have hH := R_hts hR
  unfold gq cdB
  rw [decide_eq_true fm, Bool.true_and, Bool.and_eq_true, decide_eq_true_eq]
  refine and_congr ?_ ?_
  · have e1 : (!(brd P (l.take i) (cr_m P)).testBit f) = true ↔ ¬ ((brd P (l.take i) (cr_m P)).testBit f = true) := by simp
    rw [e1, brd_bit]
    have st : ¬ (stL (l.take i)).testBit f = true := by rw [stL_bit, decide_eq_false fm]; simp
    constructor
    · intro h c hc ho
      have hO := (isO_iff ok hR (i := i) hc).mpr (by rw [← hi]; exact ho)
      have hb : ¬ (bar1 P (l.take i) c).testBit f = true := fun z => h (Or.inr ⟨c, hc, hO, z⟩)
      rw [bar1_bit ok hf] at hb
      refine ⟨?_, fun hab d hd hne hos hfo hod => ?_⟩
      · cases e : cr_t3 P c f with
        | false => rfl
        | true => exact absurd (Or.inl e) hb
      · obtain ⟨a1, a2, a3⟩ := ok.ab hc
        have m1 := mem_take (i := i) hR a1
        have m2 := mem_take (i := i) hR a2
        -- f is the missing face, the other one lies
        have nn : ps l (cr_a P c) ≠ ps l (cr_b P c) := fun z => a3 (hH.2 _ _ a1 a2 z)
        have hms : msg P (l.take i) c = f ∧ ps l (lyg P (l.take i) c) = min (ps l (cr_a P c)) (ps l (cr_b P c)) ∧ lyg P (l.take i) c < cr_n P ∧ lyg P (l.take i) c ∈ l.take i := by
          unfold oH at ho
          unfold msg lyg
          by_cases q : cr_a P c ∈ l.take i
          · rw [if_pos q, if_pos q]
            have := m1.mp q
            rcases hab with e | e
            · rw [e] at this; omega
            · refine ⟨e, ?_, a1, q⟩
              rw [e]; omega
          · rw [if_neg q, if_neg q]
            have : ¬ ps l (cr_a P c) < i := fun z => q (m1.mpr z)
            rcases hab with e | e
            · refine ⟨e, ?_, a2, m2.mpr (by omega)⟩
              rw [e]; omega
            · rw [e] at ho; omega
        obtain ⟨h1, h2, h3, h4⟩ := hms
        have hO2 : isO P (l.take i) d = true := (isO_iff ok hR (i := i) hd).mpr (by rw [← hi]; exact hod)
        have tk : (l.take i).take ((ps (l.take i) (lyg P (l.take i) c)).toNat + 1) = l.take ((ps l (lyg P (l.take i) c)).toNat + 1) := by
          have hlm := mem_of_full hR.2.1 hR.2.2 hR.1 _ h3
          have lt := (mem_take hR h3).mp h4
          have p0 := hH.1 _ h3
          have e : ps (l.take i) (lyg P (l.take i) c) = ps l (lyg P (l.take i) c) := by
            obtain ⟨j, rfl⟩ : ∃ j, i = j + 1 := ⟨i - 1, by omega⟩
            rw [ps_take hlm]
            unfold pre
            rw [if_pos (by omega)]
          rw [e, List.take_take, Nat.min_eq_left (by omega)]
        have hno : ¬ isO P (l.take ((ps l (lyg P (l.take i) c)).toNat + 1)) d = false := fun z => hb (Or.inr ⟨h1, d, hd, hO2, by rw [tk]; exact z, hne, hos, hfo⟩)
        have hy : isO P (l.take ((ps l (lyg P (l.take i) c)).toNat + 1)) d = true := by simpa using hno
        have := (isO_iff ok hR hd).mp hy
        have p0 := hH.1 _ h3
        rw [show (((ps l (lyg P (l.take i) c)).toNat + 1 : Nat) : Int) = ps l (lyg P (l.take i) c) + 1 by omega, h2] at this
        exact this
    · rintro h (h1 | ⟨c, hc, hO, hb⟩)
      · exact st h1
      · have ho : oH P (ps l) (ps l f) c := by rw [hi]; exact (isO_iff ok hR hc).mp hO
        obtain ⟨k1, k2⟩ := h c hc ho
        rcases (bar1_bit ok hf).mp hb with hb | ⟨hms, d, hd, hO2, hO3, hne, hos, hfo⟩
        · rw [k1] at hb; cases hb
        · obtain ⟨a1, a2, a3⟩ := ok.ab hc
          have m1 := mem_take (i := i) hR a1
          have m2 := mem_take (i := i) hR a2
          have nn : ps l (cr_a P c) ≠ ps l (cr_b P c) := fun z => a3 (hH.2 _ _ a1 a2 z)
          have hly : (cr_a P c = f ∨ cr_b P c = f) ∧ ps l (lyg P (l.take i) c) = min (ps l (cr_a P c)) (ps l (cr_b P c)) ∧ lyg P (l.take i) c < cr_n P ∧ lyg P (l.take i) c ∈ l.take i := by
            unfold oH at ho
            unfold msg at hms
            unfold lyg
            by_cases q : cr_a P c ∈ l.take i
            · rw [if_pos q] at hms ⊢
              have := m1.mp q
              refine ⟨Or.inr hms, ?_, a1, q⟩
              rw [hms]; omega
            · rw [if_neg q] at hms ⊢
              have : ¬ ps l (cr_a P c) < i := fun z => q (m1.mpr z)
              refine ⟨Or.inl hms, ?_, a2, m2.mpr (by omega)⟩
              rw [hms]; omega
          obtain ⟨h1, h2, h3, h4⟩ := hly
          have tk : (l.take i).take ((ps (l.take i) (lyg P (l.take i) c)).toNat + 1) = l.take ((ps l (lyg P (l.take i) c)).toNat + 1) := by
            have hlm := mem_of_full hR.2.1 hR.2.2 hR.1 _ h3
            have lt := (mem_take hR h3).mp h4
            have p0 := hH.1 _ h3
            have e : ps (l.take i) (lyg P (l.take i) c) = ps l (lyg P (l.take i) c) := by
              obtain ⟨j, rfl⟩ : ∃ j, i = j + 1 := ⟨i - 1, by omega⟩
              rw [ps_take hlm]
              unfold pre
              rw [if_pos (by omega)]
            rw [e, List.take_take, Nat.min_eq_left (by omega)]
          have hod : oH P (ps l) (ps l f) d := by rw [hi]; exact (isO_iff ok hR hd).mp hO2
          have := k2 h1 d hd hne hos hfo hod
          have p0 := hH.1 _ h3
          rw [← h2, ← show (((ps l (lyg P (l.take i) c)).toNat + 1 : Nat) : Int) = ps l (lyg P (l.take i) c) + 1 by omega] at this
          have := (isO_iff ok hR hd).mpr this
          rw [← tk, hO3] at this
          cases this
  · constructor
    · intro h g hg hb
      have hz : (nu_dif (Bw f) (stL (l.take i))).testBit g = false := by rw [h, Nat.zero_testBit]
      rw [nu_dif_bit, hb, stL_bit, decide_eq_true hg, Bool.true_and, Bool.true_and] at hz
      have hm : g ∈ l.take i := by simpa using hz
      have hg2 : g < cr_n P := hR.2.2 g (List.mem_of_mem_take hm)
      exact ⟨hg2, by rw [hi]; exact (mem_take hR hg2).mp hm⟩
    · intro h
      refine nu_ext (nu_lt_dif (hB f)) (by decide) (fun g hg => ?_)
      rw [nu_dif_bit, Nat.zero_testBit]
      cases hb : (Bw f).testBit g with
      | false => rfl
      | true =>
        obtain ⟨h1, h2⟩ := h g hg hb
        rw [stL_bit, decide_eq_true hg, decide_eq_true ((mem_take hR h1).mpr (by rw [← hi]; exact h2))]; rfl
theorem gq_chain {P : cr_P} (ok : cr_ok P) {Bw : Nat → Nat} (hB : ∀ f, Bw f < 2 ^ 9) {l : List Nat} (hR : isR (cr_n P) l) : ch (gq P Bw) [] l = true ↔ (alT P (ps l) ∧ alA P (ps l)) ∧ demH (cr_n P) Bw (ps l) := by
  rw [← ask_iff ok (R_hts hR), ch_iff]
  have hm := mem_of_full hR.2.1 hR.2.2 hR.1
  constructor
  · intro h
    have key : ∀ f, f < cr_n P → (∀ c, c < cr_m P → askA P (ps l) f c) ∧ ∀ g, g < 9 → (Bw f).testBit g = true → g < cr_n P ∧ ps l g < ps l f := fun f hf => by
      have hx : l.idxOf f < l.length := List.idxOf_lt_length_of_mem (hm f hf)
      have := h (l.idxOf f) hx
      rw [List.nil_append, List.getElem_idxOf] at this
      exact (gq_step ok hB hR hf (ps_in (hm f hf))).mp this
    exact ⟨fun f hf => (key f hf).1, fun f hf => (key f hf).2⟩
  · rintro ⟨h1, h2⟩ i hi
    rw [List.nil_append]
    have hf : l[i] < cr_n P := hR.2.2 _ (List.getElem_mem hi)
    have hx : l.idxOf l[i] = i := List.Nodup.idxOf_getElem hR.2.1 i hi
    exact (gq_step ok hB hR hf (by rw [ps_in (hm _ hf), hx])).mpr ⟨h1 _ hf, h2 _ hf⟩
