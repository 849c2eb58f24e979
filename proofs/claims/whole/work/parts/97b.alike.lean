/-! CHECK says 0 just of what is allowed; alike of the reference -/
theorem fst1_none (a : Nat → Option Int) : ∀ k i, fst1 a i k = none ↔ ∀ j, i ≤ j → j < i + k → a j = none
  | 0, i => by simp [fst1]; omega
  | k + 1, i => by
    rw [fst1]
    cases e : a i with
    | some x => simp; exact ⟨i, Nat.le_refl _, by omega, by rw [e]; simp⟩
    | none =>
      simp only
      rw [fst1_none a k (i + 1)]
      refine ⟨fun h j h1 h2 => ?_, fun h j h1 h2 => h j (by omega) (by omega)⟩
      by_cases q : j = i
      · rw [q]; exact e
      · exact h j (by omega) (by omega)
theorem fst1_some (a : Nat → Option Int) : ∀ k i x, fst1 a i k = some x → ∃ j, i ≤ j ∧ j < i + k ∧ a j = some x
  | 0, i, x, h => by simp [fst1] at h
  | k + 1, i, x, h => by
    rw [fst1] at h
    cases e : a i with
    | some y => rw [e] at h; exact ⟨i, Nat.le_refl _, by omega, by rw [e]; exact h⟩
    | none =>
      rw [e] at h
      obtain ⟨j, h1, h2, h3⟩ := fst1_some a k (i + 1) x h
      exact ⟨j, by omega, by omega, h3⟩
theorem os_sym {P : cr_P} {c d : Nat} (h : cr_os P c d = true) : cr_os P d c = true := by
  unfold cr_os at h ⊢
  simp only [Bool.and_eq_true, Bool.or_eq_true, decide_eq_true_eq] at h ⊢
  exact ⟨h.1.symm, h.2.imp id Eq.symm⟩
theorem fo_sym {P : cr_P} {c d : Nat} (h : cr_fo P c d = true) : cr_fo P d c = true := by
  unfold cr_fo at h ⊢
  simp only [Bool.and_eq_true, decide_eq_true_eq] at h ⊢
  exact ⟨fun z => h.1 z.symm, fun z => h.2.2.1 z.symm, fun z => h.2.1 z.symm, fun z => h.2.2.2 z.symm⟩
theorem bt_sym {P : cr_P} {H : Nat → Int} (ok : cr_ok P) (hH : hts (cr_n P) H) {c d : Nat} (hc : c < cr_m P) (hd : d < cr_m P) (hf : cr_fo P c d = true) (e : cr_bt P H c (cr_a P d) = cr_bt P H c (cr_b P d)) : cr_bt P H d (cr_a P c) = cr_bt P H d (cr_b P c) := by
  obtain ⟨a1, a2, a3⟩ := ok.ab hc
  obtain ⟨b1, b2, b3⟩ := ok.ab hd
  unfold cr_fo at hf
  simp only [Bool.and_eq_true, decide_eq_true_eq] at hf
  obtain ⟨f1, f2, f3, f4⟩ := hf
  have n1 : H (cr_a P c) ≠ H (cr_a P d) := fun z => f1 (hH.2 _ _ a1 b1 z)
  have n2 : H (cr_a P c) ≠ H (cr_b P d) := fun z => f2 (hH.2 _ _ a1 b2 z)
  have n3 : H (cr_b P c) ≠ H (cr_a P d) := fun z => f3 (hH.2 _ _ a2 b1 z)
  have n4 : H (cr_b P c) ≠ H (cr_b P d) := fun z => f4 (hH.2 _ _ a2 b2 z)
  have n5 : H (cr_a P c) ≠ H (cr_b P c) := fun z => a3 (hH.2 _ _ a1 a2 z)
  have n6 : H (cr_a P d) ≠ H (cr_b P d) := fun z => b3 (hH.2 _ _ b1 b2 z)
  rw [Bool.eq_iff_iff, bt_iff, bt_iff] at e ⊢
  omega
theorem chk_iff {P : cr_P} {H : Nat → Int} (ok : cr_ok P) (hH : hts (cr_n P) H) : cr_chk P H = 0 ↔ cr_un P = false ∧ alM P H ∧ alT P H ∧ alA P H := by
  unfold cr_chk
  cases hu : cr_un P with
  | true => simp
  | false =>
    simp only [Bool.false_eq_true, if_false, true_and]
    have iM : fst1 (cr_cM P H) 0 (cr_m P) = none ↔ alM P H := by
      rw [fst1_none]
      refine ⟨fun h c hc => ?_, fun h c _ hc => ?_⟩
      · have := h c (by omega) (by omega)
        unfold cr_cM at this
        by_cases q : cr_mok P H c = true
        · exact q
        · rw [if_neg q] at this; cases this
      · unfold cr_cM; rw [if_pos (h c (by omega))]
    have iT : fst1 (cr_cT P H) 0 (cr_m P) = none ↔ alT P H := by
      rw [fst1_none]
      refine ⟨fun h c hc f hf ht => ?_, fun h c _ hc => ?_⟩
      · have := h c (by omega) (by omega)
        unfold cr_cT at this
        rw [fst1_none] at this
        have := this f (by omega) (by omega)
        unfold cr_cT1 at this
        rw [ht, Bool.true_and] at this
        cases q : cr_bt P H c f with
        | false => rfl
        | true => rw [q] at this; cases this
      · unfold cr_cT
        rw [fst1_none]
        intro f _ hf
        unfold cr_cT1
        cases ht : cr_t3 P c f with
        | false => rfl
        | true => rw [h c (by omega) f (by omega) ht]; rfl
    have iA : fst1 (cr_cA P H) 0 (cr_m P) = none ↔ alA P H := by
      rw [fst1_none]
      constructor
      · intro h
        have key : ∀ c d, c < d → d < cr_m P → cr_os P c d = true → cr_fo P c d = true → cr_bt P H c (cr_a P d) = cr_bt P H c (cr_b P d) := fun c d h1 h2 ho hf => by
          have := h c (by omega) (by omega)
          unfold cr_cA at this
          rw [fst1_none] at this
          have := this d (by omega) (by omega)
          unfold cr_cA1 at this
          rw [ho, hf, Bool.true_and, Bool.true_and] at this
          cases q1 : cr_bt P H c (cr_a P d) <;> cases q2 : cr_bt P H c (cr_b P d) <;> rw [q1, q2] at this <;> first | rfl | cases this
        intro c hc d hd ho hf
        have hne := fo_ne hf
        by_cases q : c < d
        · exact key c d q hd ho hf
        · exact bt_sym ok hH hd hc (fo_sym hf) (key d c (by omega) hc (os_sym ho) (fo_sym hf))
      · intro h c _ hc
        unfold cr_cA
        rw [fst1_none]
        intro d hd1 hd2
        unfold cr_cA1
        cases ho : cr_os P c d with
        | false => rfl
        | true =>
          cases hf : cr_fo P c d with
          | false => rfl
          | true => rw [h c (by omega) d (by omega) ho hf]; simp
    rw [← iM, ← iT, ← iA]
    cases e1 : fst1 (cr_cM P H) 0 (cr_m P) with
    | some x =>
      simp
      obtain ⟨c, -, -, h⟩ := fst1_some _ _ _ _ e1
      unfold cr_cM at h
      split at h
      · cases h
      · cases h; omega
    | none =>
      cases e2 : fst1 (cr_cT P H) 0 (cr_m P) with
      | some x =>
        simp
        obtain ⟨c, -, -, h⟩ := fst1_some _ _ _ _ e2
        unfold cr_cT at h
        obtain ⟨f, -, -, h⟩ := fst1_some _ _ _ _ h
        unfold cr_cT1 at h
        split at h
        · cases h; omega
        · cases h
      | none =>
        cases e3 : fst1 (cr_cA P H) 0 (cr_m P) with
        | some x =>
          simp
          obtain ⟨c, -, -, h⟩ := fst1_some _ _ _ _ e3
          unfold cr_cA at h
          obtain ⟨f, -, -, h⟩ := fst1_some _ _ _ _ h
          unfold cr_cA1 at h
          split at h
          · cases h; omega
          · cases h
        | none => simp
theorem gd_g0 (P : cr_P) (l : List Nat) (f : Nat) (h : gd P l f = true) : g0 l f = true := by
  unfold gd at h; rw [Bool.and_eq_true] at h; exact h.1
def alB (P : cr_P) (l : List Nat) : Bool := !cr_un P && ch (gd P) [] l
theorem mOrd_eq (P : cr_P) : mOrd P = (pms (cr_n P)).filter (alB P) := by
  unfold mOrd alB
  cases cr_un P with
  | true => simp
  | false => rw [tr_pms (gd_g0 P)]; simp
theorem alB_iff {P : cr_P} (ok : cr_ok P) {l : List Nat} (hR : isR (cr_n P) l) : alB P l = true ↔ cr_un P = false ∧ alM P (ps l) ∧ alT P (ps l) ∧ alA P (ps l) := by
  unfold alB; rw [Bool.and_eq_true, gd_chain ok hR]; simp
theorem chk_al {P : cr_P} (ok : cr_ok P) {l : List Nat} (hR : isR (cr_n P) l) : cr_chk P (ps l) = 0 ↔ alB P l = true := by
  rw [alB_iff ok hR, chk_iff ok (R_hts hR)]
theorem mOrd_R {P : cr_P} {l : List Nat} (h : l ∈ mOrd P) : isR (cr_n P) l := by
  rw [mOrd_eq, List.mem_filter] at h; exact pms_R h.1
theorem mOrd_len {P : cr_P} (ok : cr_ok P) : (mOrd P).length ≤ 362880 := by
  rw [mOrd_eq]; exact Nat.le_trans (List.length_filter_le _ _) (pms_len ok.n9.2)
theorem rd_num (n : Nat) (hn : n ≤ 10) : ∀ (s l : List Nat), (l ++ s).Nodup → (∀ f ∈ s, f < n) → rd n s.length (num s) l = some (l ++ s)
  | [], l, _, _ => by simp [rd, num]
  | f :: s, l, hd, hf => by
    have h1 := hf f (by simp)
    have e1 : num (f :: s) % 10 = f := by rw [num_cons]; omega
    have e2 : num (f :: s) / 10 = num s := by rw [num_cons]; omega
    rw [List.length_cons, rd, e1, e2, if_pos ⟨h1, fun hm => (List.nodup_append.mp hd).2.2 f hm f (by simp) rfl⟩]
    have := rd_num n hn s (l ++ [f]) (by simpa using hd) (fun q hq => hf q (by simp [hq]))
    simpa using this
theorem num_lt : ∀ (s : List Nat), (∀ f ∈ s, f < 10) → num s < 10 ^ s.length
  | [], _ => by simp [num]
  | f :: s, h => by
    have h1 := h f (by simp)
    have h2 := num_lt s (fun q hq => h q (by simp [hq]))
    rw [num_cons, List.length_cons, Nat.pow_succ]
    omega
theorem num_jB {n : Nat} (hn : n ≤ 9) {l : List Nat} (h : isR n l) : jB (num l) := by
  have h1 := num_lt l (fun f hf => by have := h.2.2 f hf; omega)
  have h2 : 10 ^ l.length ≤ 10 ^ 9 := Nat.pow_le_pow_right (by decide) (by have := h.1; omega)
  omega
theorem s_read_num {n : Nat} (hn : n ≤ 9) {l : List Nat} (h : isR n l) : s_read n (num l) = some l := by
  unfold s_read
  rw [if_neg (by omega), Int.toNat_natCast]
  have := rd_num n (by omega) l [] (by simpa using h.2.1) h.2.2
  rw [h.1] at this
  simpa using this
