/-! EQUALITIES, for rewriting: what a pure picture says where a region lies -/
theorem lits : (0 : Int32) = iI 0 ∧ (1 : Int32) = iI 1 ∧ (2 : Int32) = iI 2 ∧ (3 : Int32) = iI 3 ∧ (4 : Int32) = iI 4 ∧ (5 : Int32) = iI 5 ∧ (6 : Int32) = iI 6 ∧ (7 : Int32) = iI 7 ∧ (8 : Int32) = iI 8 ∧ (9 : Int32) = iI 9 ∧ (10 : Int32) = iI 10 ∧ (11 : Int32) = iI 11 ∧ (12 : Int32) = iI 12 ∧ (31 : Int32) = iI 31 ∧ (100 : Int32) = iI 100 ∧ (101 : Int32) = iI 101 ∧ (102 : Int32) = iI 102 ∧ (103 : Int32) = iI 103 ∧ (104 : Int32) = iI 104 ∧ (1000 : Int32) = iI 1000 ∧ (4096 : Int32) = iI 4096 ∧ (10000 : Int32) = iI 10000 ∧ (20000 : Int32) = iI 20000 ∧ (30000 : Int32) = iI 30000 ∧ (40000 : Int32) = iI 40000 ∧ (362880 : Int32) = iI 362880 ∧ (2000000 : Int32) = iI 2000000 := by
  refine ⟨rfl, rfl, rfl, rfl, rfl, rfl, rfl, rfl, rfl, rfl, rfl, rfl, rfl, rfl, rfl, rfl, rfl, rfl, rfl, rfl, rfl, rfl, rfl, rfl, rfl, rfl, rfl⟩
theorem ebr_le {a b : Int} {X Y : Prop} (ha : iB a) (hb : iB b) : pq_br (iI a ≤ iI b) X Y = if a ≤ b then X else Y := by
  refine propext ⟨fun z => ?_, fun z => ?_⟩
  · split <;> rename_i c
    · exact z.1 ((iI_le ha.1 ha.2 hb.1 hb.2).mpr c)
    · exact z.2 (mt (iI_le ha.1 ha.2 hb.1 hb.2).mp c)
  · refine br_le ha hb (fun c => ?_) (fun c => ?_)
    · rw [if_pos c] at z; exact z
    · rw [if_neg (by omega)] at z; exact z
theorem ebr_lt {a b : Int} {X Y : Prop} (ha : iB a) (hb : iB b) : pq_br (iI a < iI b) X Y = if a < b then X else Y := by
  refine propext ⟨fun z => ?_, fun z => ?_⟩
  · split <;> rename_i c
    · exact z.1 ((iI_lt ha.1 ha.2 hb.1 hb.2).mpr c)
    · exact z.2 (mt (iI_lt ha.1 ha.2 hb.1 hb.2).mp c)
  · refine br_lt ha hb (fun c => ?_) (fun c => ?_)
    · rw [if_pos c] at z; exact z
    · rw [if_neg (by omega)] at z; exact z
theorem ebr_eq {a b : Int} {X Y : Prop} (ha : iB a) (hb : iB b) : pq_br (iI a = iI b) X Y = if a = b then X else Y := by
  refine propext ⟨fun z => ?_, fun z => ?_⟩
  · split <;> rename_i c
    · exact z.1 ((iI_eq ha.1 ha.2 hb.1 hb.2).mpr c)
    · exact z.2 (mt (iI_eq ha.1 ha.2 hb.1 hb.2).mp c)
  · refine br_eq ha hb (fun c => ?_) (fun c => ?_)
    · rw [if_pos c] at z; exact z
    · rw [if_neg c] at z; exact z
section RGE
variable {ci n : Nat} {F : Nat → (Nat → Int) → List Value} {tg ln : Nat → Nat} {h : pz_H} {a : Nat} {V : Nat → Int} {A : Nat → Int → Int}
theorem eg_o (R : rg ci F n tg ln h a V A) (K : Prop) : pq_o h a ci K = K := propext ⟨fun ⟨_, _, k⟩ => k, fun k => rg_o R k⟩
theorem eg_gI {k : Nat} {x : Int32} (R : rg ci F n tg ln h a V A) (hx : (F a V)[k]? = some (.int x)) (K : Int32 → Prop) : pq_gI h a ci k K = K x := by
  refine propext ⟨fun ⟨fs, v, e1, e2, k⟩ => ?_, fun k => rg_gI R hx k⟩
  rw [R.1] at e1
  cases e1
  rw [hx] at e2
  cases e2
  exact k
theorem eg_gA {k b : Nat} (R : rg ci F n tg ln h a V A) (hx : (F a V)[k]? = some (.ref b)) (K : Nat → Prop) : pq_gA h a ci k K = K b := by
  refine propext ⟨fun ⟨fs, v, e1, e2, k⟩ => ?_, fun k => rg_gA R hx k⟩
  rw [R.1] at e1
  cases e1
  rw [hx] at e2
  cases e2
  exact k
theorem eg_gN {k : Nat} {r : Option Nat} (R : rg ci F n tg ln h a V A) (hx : (F a V)[k]? = some (va_rf r)) (K : Option Nat → Prop) : pq_gN h a ci k K = K r := by
  refine propext ⟨fun ⟨fs, v, e1, e2, k⟩ => ?_, fun k => rg_gN R hx k⟩
  rw [R.1] at e1
  cases e1
  rw [hx] at e2
  have : v = r := by
    cases v <;> cases r <;> simp [va_rf] at e2
    · rfl
    · rw [e2]
  rw [← this]
  exact k
theorem eg_aI {j : Nat} {N : Int} (R : rg ci F n tg ln h a V A) (h1 : 1 ≤ j) (h2 : j ≤ n) (ht : tg j = 0) (hn : ln j ≤ 65536) (hN : N = (ln j : Nat)) (z : Int) (K : Int32 → Prop) (z1 : 0 ≤ z) (z2 : z < N) : pq_aI h (a + j) (iI z) K = K (iI (A j z)) := by
  refine propext ⟨fun ⟨l, f, e1, e2, k⟩ => ?_, fun k => rg_aI R h1 h2 ht hn ⟨z1, by omega⟩ k⟩
  obtain ⟨i, rfl⟩ : ∃ i : Nat, z = i := ⟨z.toNat, by omega⟩
  rw [R.2 j h1 h2, rg_c, ht] at e1
  cases e1
  rw [iI_clamp (by omega)] at k
  exact k
end RGE
theorem mE {h : pz_H} {m : Nat} {V : Nat → Int} {A : Nat → Int → Int} (R : rM h m V A) : (∀ K, pq_o h m 5 K = K) ∧ (∀ K, pq_gI h m 5 0 K = K (iI (V 0))) ∧ (∀ K, pq_gI h m 5 12 K = K (iI (V 12))) ∧ (∀ K, pq_gI h m 5 13 K = K (iI (V 13))) ∧ (∀ K, pq_gI h m 5 15 K = K (iI (V 15))) ∧ (∀ K, pq_gI h m 5 18 K = K (iI (V 18))) ∧ (∀ K, pq_gI h m 5 24 K = K (iI (V 24))) ∧ (∀ K, pq_gI h m 5 28 K = K (iI (V 28))) ∧ (∀ K, pq_gA h m 5 1 K = K (m + 1)) ∧ (∀ K, pq_gA h m 5 2 K = K (m + 2)) ∧ (∀ K, pq_gA h m 5 3 K = K (m + 3)) ∧ (∀ K, pq_gA h m 5 4 K = K (m + 4)) ∧ (∀ K, pq_gA h m 5 5 K = K (m + 5)) ∧ (∀ K, pq_gA h m 5 6 K = K (m + 6)) ∧ (∀ K, pq_gA h m 5 7 K = K (m + 7)) ∧ (∀ K, pq_gA h m 5 8 K = K (m + 8)) ∧ (∀ K, pq_gA h m 5 9 K = K (m + 9)) ∧ (∀ K, pq_gA h m 5 10 K = K (m + 10)) ∧ (∀ K, pq_gA h m 5 11 K = K (m + 11)) ∧ (∀ K, pq_gA h m 5 14 K = K (m + 12)) ∧ (∀ K, pq_gA h m 5 16 K = K (m + 13)) ∧ (∀ K, pq_gA h m 5 17 K = K (m + 14)) ∧ (∀ K, pq_gA h m 5 19 K = K (m + 15)) ∧ (∀ K, pq_gA h m 5 20 K = K (m + 16)) ∧ (∀ K, pq_gA h m 5 21 K = K (m + 17)) ∧ (∀ K, pq_gA h m 5 22 K = K (m + 18)) ∧ (∀ K, pq_gA h m 5 23 K = K (m + 19)) ∧ (∀ K, pq_gA h m 5 25 K = K (m + 20)) ∧ (∀ K, pq_gA h m 5 26 K = K (m + 21)) ∧ (∀ K, pq_gA h m 5 27 K = K (m + 22)) ∧ (∀ z K, 0 ≤ z → z < 30 → pq_aI h (m + 1) (iI z) K = K (iI (A 1 z))) ∧ (∀ z K, 0 ≤ z → z < 30 → pq_aI h (m + 2) (iI z) K = K (iI (A 2 z))) ∧ (∀ z K, 0 ≤ z → z < 30 → pq_aI h (m + 3) (iI z) K = K (iI (A 3 z))) ∧ (∀ z K, 0 ≤ z → z < 30 → pq_aI h (m + 4) (iI z) K = K (iI (A 4 z))) ∧ (∀ z K, 0 ≤ z → z < 30 → pq_aI h (m + 5) (iI z) K = K (iI (A 5 z))) ∧ (∀ z K, 0 ≤ z → z < 270 → pq_aI h (m + 6) (iI z) K = K (iI (A 6 z))) ∧ (∀ z K, 0 ≤ z → z < 360 → pq_aI h (m + 7) (iI z) K = K (iI (A 7 z))) ∧ (∀ z K, 0 ≤ z → z < 360 → pq_aI h (m + 8) (iI z) K = K (iI (A 8 z))) ∧ (∀ z K, 0 ≤ z → z < 360 → pq_aI h (m + 9) (iI z) K = K (iI (A 9 z))) ∧ (∀ z K, 0 ≤ z → z < 30 → pq_aI h (m + 10) (iI z) K = K (iI (A 10 z))) ∧ (∀ z K, 0 ≤ z → z < 30 → pq_aI h (m + 11) (iI z) K = K (iI (A 11 z))) ∧ (∀ z K, 0 ≤ z → z < 9 → pq_aI h (m + 12) (iI z) K = K (iI (A 12 z))) ∧ (∀ z K, 0 ≤ z → z < 9 → pq_aI h (m + 13) (iI z) K = K (iI (A 13 z))) ∧ (∀ z K, 0 ≤ z → z < 12 → pq_aI h (m + 14) (iI z) K = K (iI (A 14 z))) ∧ (∀ z K, 0 ≤ z → z < 9 → pq_aI h (m + 15) (iI z) K = K (iI (A 15 z))) ∧ (∀ z K, 0 ≤ z → z < 9 → pq_aI h (m + 16) (iI z) K = K (iI (A 16 z))) ∧ (∀ z K, 0 ≤ z → z < 9 → pq_aI h (m + 17) (iI z) K = K (iI (A 17 z))) ∧ (∀ z K, 0 ≤ z → z < 12 → pq_aI h (m + 19) (iI z) K = K (iI (A 19 z))) ∧ (∀ z K, 0 ≤ z → z < 12 → pq_aI h (m + 20) (iI z) K = K (iI (A 20 z))) ∧ (∀ z K, 0 ≤ z → z < 65536 → pq_aI h (m + 21) (iI z) K = K (iI (A 21 z))) ∧ (∀ z K, 0 ≤ z → z < 16 → pq_aI h (m + 22) (iI z) K = K (iI (A 22 z))) := by
  exact ⟨eg_o R, eg_gI R rfl, eg_gI R rfl, eg_gI R rfl, eg_gI R rfl, eg_gI R rfl, eg_gI R rfl, eg_gI R rfl, eg_gA R rfl, eg_gA R rfl, eg_gA R rfl, eg_gA R rfl, eg_gA R rfl, eg_gA R rfl, eg_gA R rfl, eg_gA R rfl, eg_gA R rfl, eg_gA R rfl, eg_gA R rfl, eg_gA R rfl, eg_gA R rfl, eg_gA R rfl, eg_gA R rfl, eg_gA R rfl, eg_gA R rfl, eg_gA R rfl, eg_gA R rfl, eg_gA R rfl, eg_gA R rfl, eg_gA R rfl, eg_aI R (by decide) (by decide) rfl (by decide) rfl, eg_aI R (by decide) (by decide) rfl (by decide) rfl, eg_aI R (by decide) (by decide) rfl (by decide) rfl, eg_aI R (by decide) (by decide) rfl (by decide) rfl, eg_aI R (by decide) (by decide) rfl (by decide) rfl, eg_aI R (by decide) (by decide) rfl (by decide) rfl, eg_aI R (by decide) (by decide) rfl (by decide) rfl, eg_aI R (by decide) (by decide) rfl (by decide) rfl, eg_aI R (by decide) (by decide) rfl (by decide) rfl, eg_aI R (by decide) (by decide) rfl (by decide) rfl, eg_aI R (by decide) (by decide) rfl (by decide) rfl, eg_aI R (by decide) (by decide) rfl (by decide) rfl, eg_aI R (by decide) (by decide) rfl (by decide) rfl, eg_aI R (by decide) (by decide) rfl (by decide) rfl, eg_aI R (by decide) (by decide) rfl (by decide) rfl, eg_aI R (by decide) (by decide) rfl (by decide) rfl, eg_aI R (by decide) (by decide) rfl (by decide) rfl, eg_aI R (by decide) (by decide) rfl (by decide) rfl, eg_aI R (by decide) (by decide) rfl (by decide) rfl, eg_aI R (by decide) (by decide) rfl (by decide) rfl, eg_aI R (by decide) (by decide) rfl (by decide) rfl⟩
theorem ebr_T {X Y : Prop} : pq_br True X Y = X := propext ⟨fun z => z.1 trivial, fun z => ⟨fun _ => z, fun c => absurd trivial c⟩⟩
theorem ebr_F {X Y : Prop} : pq_br False X Y = Y := propext ⟨fun z => z.2 id, fun z => ⟨fun c => c.elim, fun _ => z⟩⟩
