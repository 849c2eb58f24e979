/-! SEARCH TREES: the rows of n faces, least first, that g lets pass face by face -/
def tr (n : Nat) (g : List Nat → Nat → Bool) : Nat → List Nat → List (List Nat)
  | 0, l => [l]
  | k + 1, l => ((List.range n).filter (g l)).flatMap (fun f => tr n g k (l ++ [f]))
/-- what is left at l, from face fr on; k more faces come above the next one -/
def pt (n : Nat) (g : List Nat → Nat → Bool) (k : Nat) (l : List Nat) (fr : Nat) : List (List Nat) := ((List.range n).filter (fun f => decide (fr ≤ f) && g l f)).flatMap (fun f => tr n g k (l ++ [f]))
/-- what is left behind a pile (its faces from the highest down) -/
def rs (n : Nat) (g : List Nat → Nat → Bool) : List Nat → List (List Nat)
  | [] => []
  | t :: s => pt n g (n - s.length - 1) s.reverse (t + 1) ++ rs n g s
def Rm (n : Nat) (g : List Nat → Nat → Bool) (s : List Nat) (fr : Nat) : List (List Nat) := pt n g (n - s.length - 1) s.reverse fr ++ rs n g s
theorem pt_0 (n : Nat) (g : List Nat → Nat → Bool) (k : Nat) (l : List Nat) : pt n g k l 0 = tr n g (k + 1) l := by
  unfold pt
  rw [tr]
  have e : (fun f => decide (0 ≤ f) && g l f) = g l := by funext f; simp
  rw [e]
theorem range_split {n f : Nat} (h : f < n) : List.range n = List.range f ++ f :: List.range' (f + 1) (n - f - 1) := by
  rw [List.range_eq_range', List.range_eq_range']
  have e : n = f + (n - f - 1 + 1) := by omega
  conv => lhs; rw [e]
  rw [← List.range'_append (step := 1)]
  simp [List.range'_succ]
theorem pt_found {n k fr f : Nat} {g : List Nat → Nat → Bool} {l : List Nat} (h1 : fr ≤ f) (h2 : f < n) (h3 : g l f = true) (h4 : ∀ q, fr ≤ q → q < f → g l q = false) : pt n g k l fr = tr n g k (l ++ [f]) ++ pt n g k l (f + 1) := by
  have a1 : (List.range f).filter (fun q => decide (fr ≤ q) && g l q) = [] := by
    rw [List.filter_eq_nil_iff]
    intro q hq
    have hq := List.mem_range.mp hq
    by_cases c : fr ≤ q
    · rw [h4 q c hq]; simp
    · simp [c]
  have a2 : (List.range f).filter (fun q => decide (f + 1 ≤ q) && g l q) = [] := by
    rw [List.filter_eq_nil_iff]
    intro q hq
    have hq := List.mem_range.mp hq
    simp [show ¬ f + 1 ≤ q by omega]
  have a3 : (List.range' (f + 1) (n - f - 1)).filter (fun q => decide (fr ≤ q) && g l q) = (List.range' (f + 1) (n - f - 1)).filter (fun q => decide (f + 1 ≤ q) && g l q) := by
    apply List.filter_congr
    intro q hq
    have hq := List.mem_range'_1.mp hq
    simp [show fr ≤ q by omega, show f + 1 ≤ q by omega]
  unfold pt
  rw [range_split h2, List.filter_append, List.filter_append, a1, a2, List.filter_cons, List.filter_cons, a3]
  simp [h1, h3]
  rw [if_neg (by omega)]
theorem pt_none {n k fr : Nat} {g : List Nat → Nat → Bool} {l : List Nat} (h : ∀ q, fr ≤ q → q < n → g l q = false) : pt n g k l fr = [] := by
  unfold pt
  have a1 : (List.range n).filter (fun q => decide (fr ≤ q) && g l q) = [] := by
    rw [List.filter_eq_nil_iff]
    intro q hq
    have hq := List.mem_range.mp hq
    by_cases c : fr ≤ q
    · rw [h q c hq]; simp
    · simp [c]
  rw [a1]
  rfl
theorem Rm_full {n fr f : Nat} {g : List Nat → Nat → Bool} {s : List Nat} (h1 : fr ≤ f) (h2 : f < n) (h3 : g s.reverse f = true) (h4 : ∀ q, fr ≤ q → q < f → g s.reverse q = false) (hs : s.length + 1 = n) : Rm n g s fr = (s.reverse ++ [f]) :: rs n g (f :: s) := by
  unfold Rm
  rw [pt_found h1 h2 h3 h4]
  have e : n - s.length - 1 = 0 := by omega
  rw [rs, e, tr]
  rfl
theorem Rm_push {n fr f : Nat} {g : List Nat → Nat → Bool} {s : List Nat} (h1 : fr ≤ f) (h2 : f < n) (h3 : g s.reverse f = true) (h4 : ∀ q, fr ≤ q → q < f → g s.reverse q = false) (hs : s.length + 1 < n) : Rm n g s fr = Rm n g (f :: s) 0 := by
  unfold Rm
  rw [pt_found h1 h2 h3 h4, rs, pt_0]
  have e : n - (f :: s).length - 1 + 1 = n - s.length - 1 := by simp; omega
  rw [e, List.reverse_cons, List.append_assoc]
theorem Rm_pop {n fr t : Nat} {g : List Nat → Nat → Bool} {s : List Nat} (h : ∀ q, fr ≤ q → q < n → g (t :: s).reverse q = false) : Rm n g (t :: s) fr = Rm n g s (t + 1) := by
  unfold Rm
  rw [pt_none h, rs]
  rfl
theorem Rm_end {n fr : Nat} {g : List Nat → Nat → Bool} (h : ∀ q, fr ≤ q → q < n → g [] q = false) : Rm n g [] fr = [] := by
  unfold Rm
  rw [List.reverse_nil, pt_none h, rs]
  rfl
theorem rs_Rm (n : Nat) (g : List Nat → Nat → Bool) (t : Nat) (s : List Nat) : rs n g (t :: s) = Rm n g s (t + 1) := rfl
theorem Rm_0 {n : Nat} (g : List Nat → Nat → Bool) (hn : 1 ≤ n) : Rm n g [] 0 = tr n g n [] := by
  unfold Rm
  rw [rs, List.append_nil, List.reverse_nil, pt_0]
  congr 1
  simp
  omega
/-- steps that a search may need -/
def tc (n : Nat) : Nat → Nat
  | 0 => 1
  | k + 1 => n * (tc n k + 1) + 1
def tm (n : Nat) : List Nat → Nat → Nat
  | [], fr => (n - fr) * (tc n (n - 1) + 1) + 1
  | t :: s, fr => (n - fr) * (tc n (n - s.length - 2) + 1) + 1 + tm n s (t + 1)
theorem tm_eq (n : Nat) (s : List Nat) (fr : Nat) : tm n s fr = (n - fr) * (tc n (n - s.length - 1) + 1) + 1 + (match s with | [] => 0 | t :: s => tm n s (t + 1)) := by
  cases s with
  | nil => simp [tm]
  | cons t s =>
    rw [tm]
    have e : n - s.length - 2 = n - (t :: s).length - 1 := by simp; omega
    rw [e]
theorem tm_push {n fr f : Nat} {s : List Nat} (h1 : fr ≤ f) (h2 : f < n) (hs : s.length + 1 < n) : tm n (f :: s) 0 < tm n s fr := by
  rw [tm, tm_eq n s (f + 1), tm_eq n s fr]
  have e : n - s.length - 1 = (n - s.length - 2) + 1 := by omega
  rw [e, tc]
  generalize tc n (n - s.length - 2) + 1 = X
  have h3 : (n - (f + 1)) * (n * X + 1 + 1) + (n * X + 1 + 1) ≤ (n - fr) * (n * X + 1 + 1) := by
    rw [← Nat.succ_mul]
    exact Nat.mul_le_mul_right _ (by omega)
  rw [Nat.sub_zero]
  omega
theorem tm_pop {n fr t : Nat} {s : List Nat} : tm n s (t + 1) < tm n (t :: s) fr := by
  rw [tm]
  omega
