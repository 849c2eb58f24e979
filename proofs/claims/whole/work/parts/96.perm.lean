/-! ALL ROWS of n faces, and those that a chain of tests lets pass -/
def g0 (l : List Nat) (f : Nat) : Bool := decide (f ∉ l)
def pms (n : Nat) : List (List Nat) := tr n g0 n []
def ch (g : List Nat → Nat → Bool) : List Nat → List Nat → Bool
  | _, [] => true
  | l, f :: s => g l f && ch g (l ++ [f]) s
theorem ch_iff (g : List Nat → Nat → Bool) : ∀ (s l : List Nat), ch g l s = true ↔ ∀ i (hi : i < s.length), g (l ++ s.take i) s[i] = true
  | [], l => by simp [ch]
  | f :: s, l => by
    rw [ch, Bool.and_eq_true, ch_iff g s (l ++ [f])]
    constructor
    · rintro ⟨h1, h2⟩ i hi
      cases i with
      | zero => simpa using h1
      | succ i =>
        have := h2 i (by simpa using hi)
        simpa using this
    · intro h1
      have h0 := h1 0 (by simp)
      rw [List.take_zero, List.append_nil] at h0
      refine ⟨h0, fun i hi => ?_⟩
      have := h1 (i + 1) (by simpa using hi)
      simpa using this
theorem tr_app (n : Nat) (g : List Nat → Nat → Bool) : ∀ (k : Nat) (l x : List Nat), x ∈ tr n g k l → ∃ s, x = l ++ s ∧ s.length = k
  | 0, l, x, h => ⟨[], by simpa [tr] using h, rfl⟩
  | k + 1, l, x, h => by
    rw [tr, List.mem_flatMap] at h
    obtain ⟨f, -, h2⟩ := h
    obtain ⟨s, e, hs⟩ := tr_app n g k (l ++ [f]) x h2
    exact ⟨f :: s, by rw [e]; simp, by simp [hs]⟩
theorem flat_if {α : Type} (p q : Nat → Bool) (hpq : ∀ f, q f = true → p f = true) (X : Nat → List α) : ∀ L : List Nat, (L.filter p).flatMap (fun f => if q f then X f else []) = (L.filter q).flatMap X
  | [] => rfl
  | f :: L => by
    have ih := flat_if p q hpq X L
    cases hq : q f with
    | true => rw [List.filter_cons, hpq f hq, List.filter_cons, hq]; simp [ih, hq]
    | false =>
      rw [List.filter_cons, List.filter_cons, hq]
      cases hp : p f with
      | true => simp [ih, hq]
      | false => simp [ih]
theorem tr_filter (n : Nat) (g : List Nat → Nat → Bool) (hg : ∀ l f, g l f = true → g0 l f = true) : ∀ (k : Nat) (l : List Nat), tr n g k l = (tr n g0 k l).filter (fun x => ch g l (x.drop l.length))
  | 0, l => by simp [tr, ch]
  | k + 1, l => by
    rw [tr, tr, List.filter_flatMap]
    have e : ∀ f, List.filter (fun x => ch g l (x.drop l.length)) (tr n g0 k (l ++ [f])) = if g l f then tr n g k (l ++ [f]) else [] := by
      intro f
      have e2 : List.filter (fun x => ch g l (x.drop l.length)) (tr n g0 k (l ++ [f])) = List.filter (fun x => g l f && ch g (l ++ [f]) (x.drop (l ++ [f]).length)) (tr n g0 k (l ++ [f])) := by
        apply List.filter_congr
        intro x hx
        obtain ⟨s, e, -⟩ := tr_app n g0 k _ _ hx
        rw [e]
        have e3 : (l ++ [f] ++ s).drop l.length = f :: s := by simp
        have e4 : (l ++ [f] ++ s).drop (l ++ [f]).length = s := by rw [List.drop_left]
        rw [e3, e4, ch]
      rw [e2]
      cases hf : g l f with
      | true => rw [if_pos rfl, tr_filter n g hg k (l ++ [f])]; simp
      | false => simp
    simp only [e]
    exact (flat_if (g0 l) (g l) (hg l) (fun f => tr n g k (l ++ [f])) (List.range n)).symm
theorem tr_pms {n : Nat} {g : List Nat → Nat → Bool} (hg : ∀ l f, g l f = true → g0 l f = true) : tr n g n [] = (pms n).filter (fun x => ch g [] x) := by
  rw [tr_filter n g hg n []]; rfl
/-- a row of all n faces -/
def isR (n : Nat) (l : List Nat) : Prop := l.length = n ∧ l.Nodup ∧ ∀ f ∈ l, f < n
theorem g0_mem : ∀ (n k : Nat) (l x : List Nat), x ∈ tr n g0 k l → l.Nodup → (∀ f ∈ l, f < n) → x.Nodup ∧ ∀ f ∈ x, f < n
  | n, 0, l, x, h, h1, h2 => by
    have : x = l := by simpa [tr] using h
    rw [this]; exact ⟨h1, h2⟩
  | n, k + 1, l, x, h, h1, h2 => by
    rw [tr, List.mem_flatMap] at h
    obtain ⟨f, hf, h3⟩ := h
    rw [List.mem_filter] at hf
    have hm : f ∉ l := of_decide_eq_true hf.2
    refine g0_mem n k (l ++ [f]) x h3 ?_ ?_
    · exact List.nodup_append.mpr ⟨h1, by simp, fun a ha b hb => by simp at hb; subst hb; intro e; subst e; exact hm ha⟩
    · intro q hq
      rcases List.mem_append.mp hq with hq | hq
      · exact h2 q hq
      · simp at hq; rw [hq]; exact List.mem_range.mp hf.1
theorem pms_R {n : Nat} {x : List Nat} (h : x ∈ pms n) : isR n x := by
  obtain ⟨s, e, hs⟩ := tr_app n g0 n [] x h
  obtain ⟨h1, h2⟩ := g0_mem n n [] x h (by simp) (by simp)
  exact ⟨by rw [e]; simpa using hs, h1, h2⟩
theorem mem_g0 : ∀ (n k : Nat) (l s : List Nat), s.length = k → (l ++ s).Nodup → (∀ f ∈ s, f < n) → l ++ s ∈ tr n g0 k l
  | n, 0, l, s, hs, _, _ => by
    have : s = [] := List.length_eq_zero_iff.mp hs
    subst this
    simp [tr]
  | n, k + 1, l, s, hs, hd, hl => by
    cases s with
    | nil => simp at hs
    | cons f s =>
      rw [tr, List.mem_flatMap]
      refine ⟨f, ?_, ?_⟩
      · rw [List.mem_filter]
        refine ⟨List.mem_range.mpr (hl f (by simp)), decide_eq_true ?_⟩
        intro hm
        exact (List.nodup_append.mp hd).2.2 f hm f (by simp) rfl
      · have := mem_g0 n k (l ++ [f]) s (by simpa using hs) (by simpa using hd) (fun q hq => hl q (by simp [hq]))
        simpa using this
theorem R_pms {n : Nat} {x : List Nat} (h : isR n x) : x ∈ pms n := by
  have := mem_g0 n n [] x h.1 (by simpa using h.2.1) h.2.2
  simpa [pms] using this
def fac : Nat → Nat
  | 0 => 1
  | k + 1 => (k + 1) * fac k
theorem free_len : ∀ (n : Nat) (l : List Nat), l.Nodup → (∀ f ∈ l, f < n) → ((List.range n).filter (g0 l)).length + l.length ≤ n := by
  intro n l hd hl
  have h1 : ((List.range n).filter (g0 l) ++ l).Nodup := by
    refine List.nodup_append.mpr ⟨List.Pairwise.filter _ List.nodup_range, hd, fun a ha b hb e => ?_⟩
    rw [List.mem_filter] at ha
    subst e
    exact (of_decide_eq_true ha.2) hb
  have := nd_len n _ h1 (fun f hf => by
    rcases List.mem_append.mp hf with h | h
    · exact List.mem_range.mp (List.mem_filter.mp h).1
    · exact hl f h)
  rw [List.length_append] at this
  exact this
theorem flat_len {α : Type} (X : Nat → List α) (b : Nat) : ∀ L : List Nat, (∀ f ∈ L, (X f).length ≤ b) → (L.flatMap X).length ≤ L.length * b
  | [], _ => by simp
  | f :: L, h => by
    have h1 := h f (by simp)
    have h2 := flat_len X b L (fun q hq => h q (by simp [hq]))
    rw [List.flatMap_cons, List.length_append, List.length_cons, Nat.succ_mul]
    omega
theorem g0_len : ∀ (k n : Nat) (l : List Nat), l.Nodup → (∀ f ∈ l, f < n) → l.length + k = n → (tr n g0 k l).length ≤ fac k
  | 0, n, l, _, _, _ => by simp [tr, fac]
  | k + 1, n, l, hd, hl, hk => by
    rw [tr, fac]
    have h1 := flat_len (fun f => tr n g0 k (l ++ [f])) (fac k) ((List.range n).filter (g0 l)) (fun f hf => by
      rw [List.mem_filter] at hf
      have hm : f ∉ l := of_decide_eq_true hf.2
      refine g0_len k n (l ++ [f]) ?_ ?_ (by simp; omega)
      · exact List.nodup_append.mpr ⟨hd, by simp, fun a ha b hb => by simp at hb; subst hb; intro e; subst e; exact hm ha⟩
      · intro q hq
        rcases List.mem_append.mp hq with hq | hq
        · exact hl q hq
        · simp at hq; rw [hq]; exact List.mem_range.mp hf.1)
    have h2 := free_len n l hd hl
    exact Nat.le_trans h1 (Nat.mul_le_mul_right _ (by omega))
theorem fac_9 : ∀ n, n ≤ 9 → fac n ≤ 362880 := by decide
theorem pms_len {n : Nat} (hn : n ≤ 9) : (pms n).length ≤ 362880 := Nat.le_trans (g0_len n n [] (by simp) (by simp) (by simp)) (fac_9 n hn)
/-- two filters of one list, one within the other, and equally long: they are one -/
theorem filter_le {α : Type} (p q : α → Bool) : ∀ L : List α, (∀ x ∈ L, p x = true → q x = true) → (L.filter p).length ≤ (L.filter q).length
  | [], _ => by simp
  | x :: L, h => by
    have ih := filter_le p q L (fun y hy => h y (by simp [hy]))
    rw [List.filter_cons, List.filter_cons]
    cases hp : p x with
    | true => rw [h x (by simp) hp]; simpa using ih
    | false =>
      cases hq : q x with
      | true => simp; omega
      | false => simpa using ih
theorem filter_eq {α : Type} (p q : α → Bool) : ∀ L : List α, (∀ x ∈ L, p x = true → q x = true) → (L.filter p).length = (L.filter q).length → L.filter p = L.filter q
  | [], _, _ => rfl
  | x :: L, h, e => by
    have hl := filter_le p q L (fun y hy => h y (by simp [hy]))
    rw [List.filter_cons, List.filter_cons] at e ⊢
    cases hp : p x with
    | true =>
      have hq := h x (by simp) hp
      rw [hp, hq] at e
      rw [hq]
      simp only [if_true, List.length_cons] at e ⊢
      rw [filter_eq p q L (fun y hy => h y (by simp [hy])) (by omega)]
    | false =>
      rw [hp] at e
      cases hq : q x with
      | true => rw [hq] at e; simp at e; omega
      | false =>
        rw [hq] at e
        simp only [Bool.false_eq_true, if_false] at e ⊢
        exact filter_eq p q L (fun y hy => h y (by simp [hy])) e
