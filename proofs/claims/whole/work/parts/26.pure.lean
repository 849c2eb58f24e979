/-! MORE ROWS, and the words of the pure picture of a method (pq_..): what a heap must hold for an instruction, and what comes next -/
section PZN
variable {Ψ : State → Prop} {X : pz_X} {M : pz_M} {d pc rc rs : Nat} {lv lv' : List (Nat × Value)} {st : List Value} {h : pz_H} {Q : Option Value → pz_H → Prop}
theorem pz_aload_nN {k : Fin 4} (hdg : decode M.2.1 pc = .ok (.aload_n k, 1)) (hl : pz_lk lv (k : Nat) = some .null) (kk : pz_W Ψ X M d (pc + 1) lv (.null :: st) h rc rs Q) : pz_W Ψ X M d pc lv st h rc rs Q := by
  intro p l e R s m args below meth c Z H locs cells slots ls hΨ I hL
  exact lv_aload_nN I.1.1 I.1.2.1 hdg rfl (hL.2.2 _ (pz_lk_mem hl)) (kk p l e R s m args below meth c Z H locs cells slots ls hΨ I hL)
theorem pz_aloadN {i : Nat} (hdg : decode M.2.1 pc = .ok (.aload i, 2)) (hl : pz_lk lv i = some .null) (kk : pz_W Ψ X M d (pc + 2) lv (.null :: st) h rc rs Q) : pz_W Ψ X M d pc lv st h rc rs Q := by
  intro p l e R s m args below meth c Z H locs cells slots ls hΨ I hL
  exact lv_aloadN I.1.1 I.1.2.1 hdg (hL.2.2 _ (pz_lk_mem hl)) (kk p l e R s m args below meth c Z H locs cells slots ls hΨ I hL)
theorem pz_astore_nN {k : Fin 4} {i : Nat} (hdg : decode M.2.1 pc = .ok (.astore_n k, 1)) (hi : (k : Nat) = i) (hn : i < M.2.2.1) (hl : pz_set1 i .null lv = lv') (kk : pz_W Ψ X M d (pc + 1) lv' st h rc rs Q) : pz_W Ψ X M d pc lv (.null :: st) h rc rs Q := by
  intro p l e R s m args below meth c Z H locs cells slots ls hΨ I hL
  exact lv_astore_nN I.1.1 I.1.2.1 hdg hi hL hn rfl (fun ls' hL' => kk p l e R s m args below meth c Z H locs cells slots ls' hΨ I (hL'.sub (fun q hq => pz_ins_mem (by rw [← hl] at hq; exact hq))))
theorem pz_astoreN {i : Nat} (hdg : decode M.2.1 pc = .ok (.astore i, 2)) (hn : i < M.2.2.1) (hl : pz_set1 i .null lv = lv') (kk : pz_W Ψ X M d (pc + 2) lv' st h rc rs Q) : pz_W Ψ X M d pc lv (.null :: st) h rc rs Q := by
  intro p l e R s m args below meth c Z H locs cells slots ls hΨ I hL
  exact lv_astoreN I.1.1 I.1.2.1 hdg hL hn rfl (fun ls' hL' => kk p l e R s m args below meth c Z H locs cells slots ls' hΨ I (hL'.sub (fun q hq => pz_ins_mem (by rw [← hl] at hq; exact hq))))
theorem pz_areturnQ {C : String} {r : Option Nat} (hdg : decode M.2.1 pc = .ok (.areturn, 1)) (ht : M.2.2.2 = some (.object C)) (hq : Q (some (va_rf r)) h) : pz_W Ψ X M d pc lv [va_rf r] h rc rs Q := by
  cases r with
  | none => exact pz_areturnN hdg ht hq
  | some a => exact pz_areturn hdg ht hq
end PZN
def pq_qI (Q : Int32 → pz_H → Prop) : Option Value → pz_H → Prop := fun r h => ∃ v, r = some (.int v) ∧ Q v h
def pq_qJ (Q : Int64 → pz_H → Prop) : Option Value → pz_H → Prop := fun r h => ∃ v, r = some (.long v) ∧ Q v h
def pq_qN (Q : Option Nat → pz_H → Prop) : Option Value → pz_H → Prop := fun r h => ∃ v, r = some (va_rf v) ∧ Q v h
def pq_qV (Q : pz_H → Prop) : Option Value → pz_H → Prop := fun r h => r = none ∧ Q h
def pq_br (c A B : Prop) : Prop := (c → A) ∧ (¬ c → B)
def pq_gI (h : pz_H) (a ci k : Nat) (K : Int32 → Prop) : Prop := ∃ (fs : List Value) (v : Int32), h.1 a = some (.inr (ci, fs)) ∧ fs[k]? = some (.int v) ∧ K v
def pq_gA (h : pz_H) (a ci k : Nat) (K : Nat → Prop) : Prop := ∃ (fs : List Value) (v : Nat), h.1 a = some (.inr (ci, fs)) ∧ fs[k]? = some (.ref v) ∧ K v
def pq_gN (h : pz_H) (a ci k : Nat) (K : Option Nat → Prop) : Prop := ∃ (fs : List Value) (v : Option Nat), h.1 a = some (.inr (ci, fs)) ∧ fs[k]? = some (va_rf v) ∧ K v
def pq_p (h : pz_H) (a ci k : Nat) (v : Value) (K : pz_H → Prop) : Prop := ∃ (fs : List Value), h.1 a = some (.inr (ci, fs)) ∧ k < fs.length ∧ K (pz_up h a (.inr (ci, fs.set k v)))
def pq_aI (h : pz_H) (a : Nat) (i : Int32) (K : Int32 → Prop) : Prop := ∃ (n : Nat) (f : Nat → Int32), h.1 a = some (.inl (0, n, .inl f)) ∧ vp_in i n ∧ K (f i.toNatClampNeg)
def pq_aZ (h : pz_H) (a : Nat) (i : Int32) (K : Int32 → Prop) : Prop := ∃ (n : Nat) (f : Nat → Int32), h.1 a = some (.inl (4, n, .inl f)) ∧ vp_in i n ∧ K (f i.toNatClampNeg)
def pq_aJ (h : pz_H) (a : Nat) (i : Int32) (K : Int64 → Prop) : Prop := ∃ (n : Nat) (f : Nat → Int64), h.1 a = some (.inl (1, n, .inr (.inl f))) ∧ vp_in i n ∧ K (f i.toNatClampNeg)
def pq_aN (h : pz_H) (a : Nat) (i : Int32) (K : Option Nat → Prop) : Prop := ∃ (n : Nat) (f : Nat → Option Nat), h.1 a = some (.inl (2, n, .inr (.inr (.inr (.inr f))))) ∧ vp_in i n ∧ K (f i.toNatClampNeg)
def pq_aA (h : pz_H) (a : Nat) (i : Int32) (K : Nat → Prop) : Prop := ∃ (n : Nat) (f : Nat → Option Nat) (b : Nat), h.1 a = some (.inl (3, n, .inr (.inr (.inr (.inr f))))) ∧ vp_in i n ∧ f i.toNatClampNeg = some b ∧ K b
def pq_sI (h : pz_H) (a : Nat) (i x : Int32) (K : pz_H → Prop) : Prop := ∃ (n : Nat) (f : Nat → Int32), h.1 a = some (.inl (0, n, .inl f)) ∧ vp_in i n ∧ K (pz_up h a (.inl (0, n, .inl (upd f i.toNatClampNeg x))))
def pq_sZ (h : pz_H) (a : Nat) (i x : Int32) (K : pz_H → Prop) : Prop := ∃ (n : Nat) (f : Nat → Int32), h.1 a = some (.inl (4, n, .inl f)) ∧ vp_in i n ∧ K (pz_up h a (.inl (4, n, .inl (upd f i.toNatClampNeg (vp_nar .boolean x)))))
def pq_sJ (h : pz_H) (a : Nat) (i : Int32) (x : Int64) (K : pz_H → Prop) : Prop := ∃ (n : Nat) (f : Nat → Int64), h.1 a = some (.inl (1, n, .inr (.inl f))) ∧ vp_in i n ∧ K (pz_up h a (.inl (1, n, .inr (.inl (vp_updL f i.toNatClampNeg x)))))
def pq_sA (h : pz_H) (a : Nat) (i : Int32) (v : Nat) (K : pz_H → Prop) : Prop := ∃ (n : Nat) (f : Nat → Option Nat) (vs : List Value), h.1 a = some (.inl (2, n, .inr (.inr (.inr (.inr f))))) ∧ h.1 v = some (.inr (1, vs)) ∧ vp_in i n ∧ K (pz_up h a (.inl (2, n, .inr (.inr (.inr (.inr (va_up f i.toNatClampNeg (some v))))))))
def pq_len (h : pz_H) (a : Nat) (K : Int32 → Prop) : Prop := ∃ (t : Nat) (x : vp_A) (ty : FieldType), h.1 a = some (.inl (t, x)) ∧ pz_ty[t]? = some ty ∧ K (Int32.ofNat x.1)
def pq_n (h : pz_H) (c : pz_E) (K : Nat → pz_H → Prop) : Prop := (∀ (q : Nat) (c : pz_E), h.1 q = some c → q < h.2) → K h.2 (pz_nw h c)
def pq_ne (y : Int32) (K : Prop) : Prop := ¬ y = 0 ∧ K
def pq_neJ (y : Int64) (K : Prop) : Prop := ¬ y = 0 ∧ K
def pq_z (v : Int32) (K : Prop) : Prop := narrow .boolean (.int v) = .int v ∧ K
def pq_o (h : pz_H) (a ci : Nat) (K : Prop) : Prop := ∃ (fs : List Value), h.1 a = some (.inr (ci, fs)) ∧ K
def pq_ex (P : Nat → Prop) : Prop := ∃ n, P n
def pq_sw (r : Option Nat) (A : Prop) (B : Nat → Prop) : Prop := match r with
  | none => A
  | some a => B a
