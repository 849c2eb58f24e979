/-! REGIONS of the heap: an object at a, and its own arrays at a + 1, a + 2 .. ; what they hold, as whole numbers -/
theorem iI_mul (a b : Int) : iI a * iI b = iI (a * b) := (Int32.ofInt_mul a b).symm
theorem iI_lit (n : Nat) : (OfNat.ofNat n : Int32) = iI (OfNat.ofNat n) := by
  show Int32.ofNat n = Int32.ofInt (n : Int)
  exact (Int32.ofInt_eq_ofNat).symm
theorem iI_m1 : (-1 : Int32) = iI (-1) := by decide
theorem iI_1 : (1 : Int32) = iI 1 := rfl
theorem iI_2 : (2 : Int32) = iI 2 := rfl
theorem iI_nat (n : Nat) : iI (n : Int) = nI n := (iI_nI n).symm
abbrev iB (z : Int) : Prop := -2147483648 ≤ z ∧ z < 2147483648
theorem iI_clamp {i : Nat} (h : i < 2147483648) : (iI (i : Int)).toNatClampNeg = i := by
  rw [iI_nat]; exact nI_clamp (by omega)
theorem iI_in {i n : Nat} (h : i < n) (hn : n ≤ 2147483647) : vp_in (iI (i : Int)) n := by
  rw [iI_nat]; exact vp_in_nI h (by omega)
theorem br_le {a b : Int} {A B : Prop} (ha : iB a) (hb : iB b) (f : a ≤ b → A) (g : b < a → B) : pq_br (iI a ≤ iI b) A B := ⟨fun c => f ((iI_le ha.1 ha.2 hb.1 hb.2).mp c), fun c => g (by have := mt (iI_le ha.1 ha.2 hb.1 hb.2).mpr c; omega)⟩
theorem br_lt {a b : Int} {A B : Prop} (ha : iB a) (hb : iB b) (f : a < b → A) (g : b ≤ a → B) : pq_br (iI a < iI b) A B := ⟨fun c => f ((iI_lt ha.1 ha.2 hb.1 hb.2).mp c), fun c => g (by have := mt (iI_lt ha.1 ha.2 hb.1 hb.2).mpr c; omega)⟩
theorem br_eq {a b : Int} {A B : Prop} (ha : iB a) (hb : iB b) (f : a = b → A) (g : a ≠ b → B) : pq_br (iI a = iI b) A B := ⟨fun c => f ((iI_eq ha.1 ha.2 hb.1 hb.2).mp c), fun c => g (mt (iI_eq ha.1 ha.2 hb.1 hb.2).mpr c)⟩
theorem br_tt {c A B : Prop} (h : c) (a : A) : pq_br c A B := ⟨fun _ => a, fun z => absurd h z⟩
theorem br_ff {c A B : Prop} (h : ¬ c) (b : B) : pq_br c A B := ⟨fun z => absurd z h, fun _ => b⟩
theorem br_by {c A B : Prop} (f : c → A) (g : ¬ c → B) : pq_br c A B := ⟨f, g⟩
def Fr (lo hi : Nat) (h h' : pz_H) : Prop := h'.2 = h.2 ∧ ∀ q : Nat, (q < lo ∨ hi ≤ q) → h'.1 q = h.1 q
theorem Fr.rf {lo hi : Nat} {h : pz_H} : Fr lo hi h h := ⟨rfl, fun _ _ => rfl⟩
theorem Fr.tr {lo hi : Nat} {h h1 h2 : pz_H} (a : Fr lo hi h h1) (b : Fr lo hi h1 h2) : Fr lo hi h h2 := ⟨b.1.trans a.1, fun q hq => (b.2 q hq).trans (a.2 q hq)⟩
theorem Fr.up {lo hi : Nat} {h : pz_H} {a : Nat} {c : pz_E} (h1 : lo ≤ a) (h2 : a < hi) : Fr lo hi h (pz_up h a c) := ⟨rfl, fun q hq => pz_up_ne (by omega)⟩
theorem Fr.wide {lo hi lo' hi' : Nat} {h h' : pz_H} (a : Fr lo hi h h') (h1 : lo' ≤ lo) (h2 : hi ≤ hi') : Fr lo' hi' h h' := ⟨a.1, fun q hq => a.2 q (by omega)⟩
def rg_c (t n : Nat) (f : Int → Int) : pz_E := .inl (t, n, .inl (fun i => iI (f (i : Int))))
def rg (ci : Nat) (F : Nat → (Nat → Int) → List Value) (n : Nat) (tg ln : Nat → Nat) (h : pz_H) (a : Nat) (V : Nat → Int) (A : Nat → Int → Int) : Prop := h.1 a = some (.inr (ci, F a V)) ∧ ∀ j, 1 ≤ j → j ≤ n → h.1 (a + j) = some (rg_c (tg j) (ln j) (A j))
def zu (f : Int → Int) (i x : Int) : Int → Int := fun k => if k = i then x else f k
theorem zu_at {f : Int → Int} {i x : Int} : zu f i x i = x := if_pos rfl
theorem zu_ne {f : Int → Int} {i x k : Int} (h : k ≠ i) : zu f i x k = f k := if_neg h
def au (A : Nat → Int → Int) (j : Nat) (i x : Int) : Nat → Int → Int := va_up A j (zu (A j) i x)
theorem au_at {A : Nat → Int → Int} {j : Nat} {i x : Int} : au A j i x j i = x := by unfold au; rw [va_up_self]; exact zu_at
theorem au_ne {A : Nat → Int → Int} {j : Nat} {i x l : Int} (h : l ≠ i) : au A j i x j l = A j l := by unfold au; rw [va_up_self]; exact zu_ne h
theorem au_nk {A : Nat → Int → Int} {j k : Nat} {i x : Int} (h : k ≠ j) : au A j i x k = A k := by unfold au; exact va_up_ne _ _ h
theorem au_if {A : Nat → Int → Int} {j k : Nat} {i x l : Int} : au A j i x k l = if k = j ∧ l = i then x else A k l := by
  by_cases hk : k = j
  · subst hk
    by_cases hl : l = i
    · subst hl; rw [au_at, if_pos ⟨rfl, rfl⟩]
    · rw [au_ne hl, if_neg (fun z => hl z.2)]
  · rw [au_nk hk, if_neg (fun z => hk z.1)]
theorem va_up_at {α : Type} {f : Nat → α} {k : Nat} {v : α} : va_up f k v k = v := va_up_self _ _ _
section RG
variable {ci n : Nat} {F : Nat → (Nat → Int) → List Value} {tg ln : Nat → Nat} {h : pz_H} {a : Nat} {V : Nat → Int} {A : Nat → Int → Int}
theorem rg.fr {h' : pz_H} (R : rg ci F n tg ln h a V A) {lo hi : Nat} (f : Fr lo hi h h') (hd : a + n < lo ∨ hi ≤ a) : rg ci F n tg ln h' a V A := ⟨by rw [f.2 a (by omega)]; exact R.1, fun j h1 h2 => by rw [f.2 (a + j) (by omega)]; exact R.2 j h1 h2⟩
theorem rg_o {K : Prop} (R : rg ci F n tg ln h a V A) (kk : K) : pq_o h a ci K := ⟨_, R.1, kk⟩
theorem rg_z {v : Int32} {K : Prop} (hv : v = 0 ∨ v = 1) (kk : K) : pq_z v K := ⟨by rcases hv with h | h <;> rw [h] <;> rfl, kk⟩
theorem rg_gI {k : Nat} {x : Int32} {K : Int32 → Prop} (R : rg ci F n tg ln h a V A) (hx : (F a V)[k]? = some (.int x)) (kk : K x) : pq_gI h a ci k K := ⟨_, _, R.1, hx, kk⟩
theorem rg_gA {k b : Nat} {K : Nat → Prop} (R : rg ci F n tg ln h a V A) (hx : (F a V)[k]? = some (.ref b)) (kk : K b) : pq_gA h a ci k K := ⟨_, _, R.1, hx, kk⟩
theorem rg_gN {k : Nat} {r : Option Nat} {K : Option Nat → Prop} (R : rg ci F n tg ln h a V A) (hx : (F a V)[k]? = some (va_rf r)) (kk : K r) : pq_gN h a ci k K := ⟨_, _, R.1, hx, kk⟩
theorem rg_p {k : Nat} {v : Value} {V' : Nat → Int} {K : pz_H → Prop} (R : rg ci F n tg ln h a V A) (hF : (F a V).set k v = F a V') (hk : k < (F a V).length) (kk : ∀ h', rg ci F n tg ln h' a V' A → Fr a (a + n + 1) h h' → K h') : pq_p h a ci k v K := by
  refine ⟨_, R.1, hk, kk _ ⟨by rw [pz_up_at, hF], fun j h1 h2 => ?_⟩ (Fr.up (Nat.le_refl _) (by omega))⟩
  rw [pz_up_ne (by omega)]
  exact R.2 j h1 h2
theorem rg_aI {j : Nat} {z : Int} {K : Int32 → Prop} (R : rg ci F n tg ln h a V A) (h1 : 1 ≤ j) (h2 : j ≤ n) (ht : tg j = 0) (hn : ln j ≤ 65536) (hz : 0 ≤ z ∧ z < (ln j : Nat)) (kk : K (iI (A j z))) : pq_aI h (a + j) (iI z) K := by
  obtain ⟨i, rfl⟩ : ∃ i : Nat, z = i := ⟨z.toNat, by omega⟩
  refine ⟨ln j, fun i => iI (A j (i : Int)), ?_, iI_in (by omega) (by omega), ?_⟩
  · rw [R.2 j h1 h2, rg_c, ht]
  · rw [iI_clamp (by omega)]
    exact kk
theorem rg_upd (f : Int → Int) (i : Nat) (z : Int) : upd (fun k : Nat => iI (f (k : Int))) i (iI z) = fun k : Nat => iI (zu f i z (k : Int)) := by
  funext k
  by_cases hk : k = i
  · subst hk; simp [upd, zu]
  · have hk2 : ¬ ((k : Int) = (i : Int)) := by omega
    simp [upd, zu, hk, hk2]
theorem rg_set {j : Nat} (R : rg ci F n tg ln h a V A) (h1 : 1 ≤ j) (h2 : j ≤ n) (f : Int → Int) : rg ci F n tg ln (pz_up h (a + j) (rg_c (tg j) (ln j) f)) a V (va_up A j f) := by
  refine ⟨by rw [pz_up_ne (by omega)]; exact R.1, fun k g1 g2 => ?_⟩
  by_cases hk : k = j
  · subst hk
    rw [pz_up_at, va_up_self]
  · rw [pz_up_ne (by omega), va_up_ne _ _ hk]
    exact R.2 k g1 g2
theorem rg_sI {j : Nat} {x z : Int} {K : pz_H → Prop} (R : rg ci F n tg ln h a V A) (h1 : 1 ≤ j) (h2 : j ≤ n) (ht : tg j = 0) (hn : ln j ≤ 65536) (hx : 0 ≤ x ∧ x < (ln j : Nat)) (kk : ∀ h', rg ci F n tg ln h' a V (au A j x z) → Fr a (a + n + 1) h h' → K h') : pq_sI h (a + j) (iI x) (iI z) K := by
  obtain ⟨i, rfl⟩ : ∃ i : Nat, x = i := ⟨x.toNat, by omega⟩
  refine ⟨ln j, fun i => iI (A j (i : Int)), ?_, iI_in (by omega) (by omega), ?_⟩
  · rw [R.2 j h1 h2, rg_c, ht]
  · have e : (pz_up h (a + j) (.inl (0, ln j, .inl (upd (fun k : Nat => iI (A j (k : Int))) (iI (i : Int)).toNatClampNeg (iI z))))) = pz_up h (a + j) (rg_c (tg j) (ln j) (zu (A j) i z)) := by
      rw [iI_clamp (by omega), rg_upd, rg_c, ht]
    rw [e]
    exact kk _ (rg_set R h1 h2 _) (Fr.up (by omega) (by omega))
end RG
