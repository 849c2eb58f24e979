/-! CALLS in the program logic -/
theorem pz_goodW {M : pz_M} (h : Cond.code M.1 M.2.1 M.2.2.1 M.2.2.2 ∈ pz_U) : GoodIn pz_U (pz_ws M) := fun w hw => by
  rcases List.mem_cons.mp hw with e | hw
  · rw [e]; exact ⟨h, pz_good _ h⟩
  · exact ⟨hw, pz_good _ hw⟩
theorem pz_blind {X : pz_X} {as : List Value} {h : pz_H} : FrameBlind (pz_Pc X as h) := fun a U g mk q => by
  obtain ⟨q0, qR, qK⟩ := q
  exact ⟨q0, qR, qK.same (U := U.calling g mk a) rfl⟩
theorem pz_go {X : pz_X} {p : Program} {l : Launch} {e : Env} {R : Room} {s : State} {m : MethodId} {args : Array Value} {below : List Frame} {meth : Method} {c : Code} {H : Heap} {locs : List Loc} {cells slots mc ms pc : Nat} {ls : Array Slot} {st0 rest : List Value} {Q' : Option Value → pz_H → Prop} {a : Array Value} {Z : State → Prop}
    (hr : va_Run p l e R s m args below meth c H locs cells slots mc ms (F0 m pc ls st0) rest (pz_Qc X Q' a) (pz_A X)) (hS : va_S (pz_A X) s.heap H locs)
    (kk : ∀ (r : Option Value) (h' : pz_H) (H1 : Heap) (locs1 : List Loc), Q' r h' → pz_R X h' H1 → va_S (pz_A X) s.heap H1 locs1 → W p l e R s m args below meth c H1 locs1 (cells + mc) (slots + ms) Z (F0 m (pc + 3) ls (r.toList ++ rest))) : W p l e R s m args below meth c H locs cells slots Z (F0 m pc ls st0) := by
  intro T hT X0
  obtain ⟨v, st₀, t, T', L, h0, X', hL, e1, e2, ⟨⟨r, h', hv, hq, hR⟩, hz, hk⟩, st⟩ := hr T hT X0
  cases hv
  rw [h0] at hz hk
  obtain ⟨t2, a1, b1⟩ := kk v h' T'.heap (locs ++ L) hq (by rw [e1]; exact hR)
    ⟨Nat.le_trans hS.1 (by rw [e1]; exact hz), fun q h1 h2 => by rw [e1, hk q (Nat.lt_of_lt_of_le h1 hS.1) h2]; exact hS.2.1 q h1 h2, fun q hq => by
      rcases List.mem_append.mp hq with h | h
      · exact hS.2.2 q h
      · exact hL q h⟩ T' rfl X'
  exact ⟨t2, st t2 a1, b1⟩
section PZC
variable {Ψ : State → Prop} {X : pz_X} {M M' : pz_M} {d pc rc rs mc ms idx n : Nat} {lv : List (Nat × Value)} {st rest As : List Value} {h : pz_H} {Q Q' : Option Value → pz_H → Prop}
theorem pz_pre {as : List Value} {s : State} {H : Heap} (hR : pz_R X h H) (hK : pz_K X s) : ∀ U : State, U.heap = H → s.WarmedH U.vm → pz_Pc X as h as.toArray U := fun U hU hW => ⟨rfl, by rw [hU]; exact hR, hK.warm hW⟩
theorem pz_callV {b ci N : Nat} {fs : List Value} {T : u_T} (hdg : decode M.2.1 pc = .ok (.invokevirtual idx, 3)) (hCall : pz_Call X M' d mc ms (.ref b :: As) h Q') (hst : st = As.reverse ++ .ref b :: rest) (hrest : (rest.map fun v => v.category).sum ≤ 8) (hMF : pz_MF M' As.length) (hl : Cond.methodLink M.1.cls idx M'.1 ∈ pz_U) (hG : h.1 b = some (.inr (ci, fs))) (hc : vwCl[ci]? = some (M'.1.cls, T, N)) (hin : Cond.instanceMethod M'.1 ∈ pz_U) (hse : Cond.selects M'.1.cls M'.1 M'.1 ∈ pz_U)
    (kk : ∀ (r : Option Value) (h' : pz_H), Q' r h' → pz_W Ψ X M (d + 1) (pc + 3) lv (r.toList ++ rest) h' rc rs Q) : pz_W Ψ X M (d + 1) pc lv st h (rc + mc) (rs + ms) Q := by
  intro p l e R s m args below meth c Z H locs cells slots ls hΨ I hL
  have hf := I.1.2.2.2.2.2.2.2.1
  have hlo := I.1.2.2.2.2.2.2.2.2
  have hts := I.1.2.2.2.2.1
  have hcc := I.2.2.2.2.2.1
  have hss := I.2.2.2.2.2.2
  have hK := I.1.2.2.2.2.2.1
  have hR := I.2.2.2.1
  obtain ⟨hcd, hini, hd, hL19⟩ := hMF
  have hroom : (pz_rm d mc ms).frames + 1 ≤ R.frames ∧ 8 + (M'.2.2.1 + 11) + (pz_rm d mc ms).locals ≤ R.locals := ⟨hf, by show 8 + (M'.2.2.1 + 11) + 38 * d ≤ _; omega⟩
  have cw := callB_of (R := R) (rm := pz_rm d mc ms) (mc := mc) (ms := ms) As.length hts (pz_goodW hcd) rfl rfl rfl (hts _ hini) (hts _ hl) hd hroom
  refine pz_go (va_runV (C := M'.1.cls) (As := As) (rest := rest) ⟨I.1.1, I.1.2.1, I.1.2.2.1, I.1.2.2.2.1, hts⟩ (hCall l) ⟨cw, hts _ hin, hts _ hse⟩ ⟨pz_blind, va_recv hK.1 (pz_one (hR.2.2 _ _ hG).2) hc (q0 := 0) rfl, pz_pre hR hK⟩ rfl rfl hL.1 hst (by show 2 * 0 + _ ≤ 8; omega) hdg ⟨by omega, by omega⟩) I.2.2.2.2.1 fun r h' H1 locs1 hq hR1 hS1 => ?_
  exact kk r h' hq p l e R s m args below meth c Z H1 locs1 _ _ ls hΨ (I.to hR1 hS1 (by omega) (by omega)) hL
theorem pz_callS  (hdg : decode M.2.1 pc = .ok (.invokestatic idx, 3)) (hCall : pz_Call X M' d mc ms As h Q') (hst : st = As.reverse ++ rest) (hrest : (rest.map fun v => v.category).sum ≤ 8) (hMF : pz_MF M' As.length) (hl : Cond.methodLink M.1.cls idx M'.1 ∈ pz_U) (hstt : Cond.static M'.1 ∈ pz_U)
    (kk : ∀ (r : Option Value) (h' : pz_H), Q' r h' → pz_W Ψ X M (d + 1) (pc + 3) lv (r.toList ++ rest) h' rc rs Q) : pz_W Ψ X M (d + 1) pc lv st h (rc + mc) (rs + ms) Q := by
  intro p l e R s m args below meth c Z H locs cells slots ls hΨ I hL
  have hf := I.1.2.2.2.2.2.2.2.1
  have hlo := I.1.2.2.2.2.2.2.2.2
  have hts := I.1.2.2.2.2.1
  have hcc := I.2.2.2.2.2.1
  have hss := I.2.2.2.2.2.2
  have hK := I.1.2.2.2.2.2.1
  have hR := I.2.2.2.1
  obtain ⟨hcd, hini, hd, hL19⟩ := hMF
  have hroom : (pz_rm d mc ms).frames + 1 ≤ R.frames ∧ 8 + (M'.2.2.1 + 11) + (pz_rm d mc ms).locals ≤ R.locals := ⟨hf, by show 8 + (M'.2.2.1 + 11) + 38 * d ≤ _; omega⟩
  have cw := callB_of (R := R) (rm := pz_rm d mc ms) (mc := mc) (ms := ms) As.length hts (pz_goodW hcd) rfl rfl rfl (hts _ hini) (hts _ hl) hd hroom
  refine pz_go (va_runS (As := As) (rest := rest) ⟨I.1.1, I.1.2.1, I.1.2.2.1, I.1.2.2.2.1, hts⟩ (hCall l) ⟨cw, hts _ hstt⟩ ⟨pz_blind, pz_pre hR hK⟩ rfl rfl hL.1 hst (by show 2 * 0 + _ ≤ 8; omega) hdg ⟨by omega, by omega⟩) I.2.2.2.2.1 fun r h' H1 locs1 hq hR1 hS1 => ?_
  exact kk r h' hq p l e R s m args below meth c Z H1 locs1 _ _ ls hΨ (I.to hR1 hS1 (by omega) (by omega)) hL
theorem pz_callSN  {host : String} (hdg : decode M.2.1 pc = .ok (.invokestatic idx, 3)) (hCall : pz_Call X M' d mc ms As h Q') (hst : st = As.reverse ++ rest) (hrest : (rest.map fun v => v.category).sum ≤ 8) (hMF : pz_MF M' As.length) (hl : (M.1.cls, idx, M'.1, host) ∈ pz_NM) (hstt : Cond.static M'.1 ∈ pz_U)
    (kk : ∀ (r : Option Value) (h' : pz_H), Q' r h' → pz_W Ψ X M (d + 1) (pc + 3) lv (r.toList ++ rest) h' rc rs Q) : pz_W Ψ X M (d + 1) pc lv st h (rc + mc) (rs + ms) Q := by
  intro p l e R s m args below meth c Z H locs cells slots ls hΨ I hL
  have hf := I.1.2.2.2.2.2.2.2.1
  have hlo := I.1.2.2.2.2.2.2.2.2
  have hts := I.1.2.2.2.2.1
  have hcc := I.2.2.2.2.2.1
  have hss := I.2.2.2.2.2.2
  have hK := I.1.2.2.2.2.2.1
  have hR := I.2.2.2.1
  obtain ⟨hcd, hini, hd, hL19⟩ := hMF
  have hroom : (pz_rm d mc ms).frames + 1 ≤ R.frames ∧ 8 + (M'.2.2.1 + 11) + (pz_rm d mc ms).locals ≤ R.locals := ⟨hf, by show 8 + (M'.2.2.1 + 11) + 38 * d ≤ _; omega⟩
  have cw := va_cnB (R := R) (rm := pz_rm d mc ms) (mc := mc) (ms := ms) As.length hts (pz_goodW hcd) rfl rfl rfl (hK.2.2.1 _ hl) (hts _ hini) hd hroom
  refine pz_go (va_runSN (As := As) (rest := rest) ⟨I.1.1, I.1.2.1, I.1.2.2.1, I.1.2.2.2.1, hts⟩ (hCall l) ⟨cw, hts _ hstt, trivial⟩ ⟨pz_blind, pz_pre hR hK⟩ rfl rfl hL.1 hst (by show 2 * 0 + _ ≤ 8; omega) hdg ⟨by omega, by omega⟩) I.2.2.2.2.1 fun r h' H1 locs1 hq hR1 hS1 => ?_
  exact kk r h' hq p l e R s m args below meth c Z H1 locs1 _ _ ls hΨ (I.to hR1 hS1 (by omega) (by omega)) hL
theorem pz_callI {b : Nat} (hdg : decode M.2.1 pc = .ok (.invokespecial idx, 3)) (hCall : pz_Call X M' d mc ms (.ref b :: As) h Q') (hst : st = As.reverse ++ .ref b :: rest) (hrest : (rest.map fun v => v.category).sum ≤ 8) (hMF : pz_MF M' As.length) (hl : Cond.methodLink M.1.cls idx M'.1 ∈ pz_U) (hret : M'.2.2.2 = none) (hname : M'.1.name = "<init>") (hin : Cond.instanceMethod M'.1 ∈ pz_U)
    (kk : ∀ (r : Option Value) (h' : pz_H), Q' r h' → pz_W Ψ X M (d + 1) (pc + 3) lv (r.toList ++ rest) h' rc rs Q) : pz_W Ψ X M (d + 1) pc lv st h (rc + mc) (rs + ms) Q := by
  intro p l e R s m args below meth c Z H locs cells slots ls hΨ I hL
  have hf := I.1.2.2.2.2.2.2.2.1
  have hlo := I.1.2.2.2.2.2.2.2.2
  have hts := I.1.2.2.2.2.1
  have hcc := I.2.2.2.2.2.1
  have hss := I.2.2.2.2.2.2
  have hK := I.1.2.2.2.2.2.1
  have hR := I.2.2.2.1
  obtain ⟨hcd, hini, hd, hL19⟩ := hMF
  have hroom : (pz_rm d mc ms).frames + 1 ≤ R.frames ∧ 8 + (M'.2.2.1 + 11) + (pz_rm d mc ms).locals ≤ R.locals := ⟨hf, by show 8 + (M'.2.2.1 + 11) + 38 * d ≤ _; omega⟩
  have cw := callB_of (R := R) (rm := pz_rm d mc ms) (mc := mc) (ms := ms) As.length hts (pz_goodW hcd) rfl rfl rfl (hts _ hini) (hts _ hl) hd hroom
  rw [hret] at cw
  refine pz_go (va_runI (As := As) (rest := rest) ⟨I.1.1, I.1.2.1, I.1.2.2.1, I.1.2.2.2.1, hts⟩ (hCall l) ⟨cw, hname, hts _ hin⟩ ⟨pz_blind, pz_pre hR hK⟩ rfl rfl hL.1 hst (by show 2 * 0 + _ ≤ 8; omega) hdg ⟨by omega, by omega⟩) I.2.2.2.2.1 fun r h' H1 locs1 hq hR1 hS1 => ?_
  exact kk r h' hq p l e R s m args below meth c Z H1 locs1 _ _ ls hΨ (I.to hR1 hS1 (by omega) (by omega)) hL
theorem pz_callIN {b : Nat} {host : String} (hdg : decode M.2.1 pc = .ok (.invokespecial idx, 3)) (hCall : pz_Call X M' d mc ms (.ref b :: As) h Q') (hst : st = As.reverse ++ .ref b :: rest) (hrest : (rest.map fun v => v.category).sum ≤ 8) (hMF : pz_MF M' As.length) (hl : (M.1.cls, idx, M'.1, host) ∈ pz_NM) (hret : M'.2.2.2 = none) (hname : M'.1.name = "<init>") (hin : Cond.instanceMethod M'.1 ∈ pz_U)
    (kk : ∀ (r : Option Value) (h' : pz_H), Q' r h' → pz_W Ψ X M (d + 1) (pc + 3) lv (r.toList ++ rest) h' rc rs Q) : pz_W Ψ X M (d + 1) pc lv st h (rc + mc) (rs + ms) Q := by
  intro p l e R s m args below meth c Z H locs cells slots ls hΨ I hL
  have hf := I.1.2.2.2.2.2.2.2.1
  have hlo := I.1.2.2.2.2.2.2.2.2
  have hts := I.1.2.2.2.2.1
  have hcc := I.2.2.2.2.2.1
  have hss := I.2.2.2.2.2.2
  have hK := I.1.2.2.2.2.2.1
  have hR := I.2.2.2.1
  obtain ⟨hcd, hini, hd, hL19⟩ := hMF
  have hroom : (pz_rm d mc ms).frames + 1 ≤ R.frames ∧ 8 + (M'.2.2.1 + 11) + (pz_rm d mc ms).locals ≤ R.locals := ⟨hf, by show 8 + (M'.2.2.1 + 11) + 38 * d ≤ _; omega⟩
  have cw := va_cnB (R := R) (rm := pz_rm d mc ms) (mc := mc) (ms := ms) As.length hts (pz_goodW hcd) rfl rfl rfl (hK.2.2.1 _ hl) (hts _ hini) hd hroom
  rw [hret] at cw
  refine pz_go (va_runIN (As := As) (rest := rest) ⟨I.1.1, I.1.2.1, I.1.2.2.1, I.1.2.2.2.1, hts⟩ (hCall l) ⟨cw, hname, hts _ hin⟩ ⟨pz_blind, pz_pre hR hK⟩ rfl rfl hL.1 hst (by show 2 * 0 + _ ≤ 8; omega) hdg ⟨by omega, by omega⟩) I.2.2.2.2.1 fun r h' H1 locs1 hq hR1 hS1 => ?_
  exact kk r h' hq p l e R s m args below meth c Z H1 locs1 _ _ ls hΨ (I.to hR1 hS1 (by omega) (by omega)) hL
/-- a method's contract, out of the walk of its body -/
theorem pz_call_of {as : List Value} (hy : plainName M.1.cls = true) (hlen : (lg_sl as).length ≤ M.2.2.1) (kk : pz_W (fun _ => True) X M d 0 (lv_args 0 as) [] h mc ms Q) : pz_Call X M d mc ms as h Q := by
  intro l
  refine Met.ofW (cc := M.2.1) (maxL := M.2.2.1) (ret := M.2.2.2) hy rfl ?_
  intro p e s m args below meth c s₁ B hml hv
  obtain ⟨rfl, hR, hK⟩ := hv
  have hx := B.exec
  have hb := B.bytes
  have hr := B.returns
  have hlocks := B.notSynchronized
  have hnm : meth.name = M.1.name := (name_of_methodNamed B.named B.method).1
  have hts := atoms_spec (ws := pz_ws M) B.pre
  have hl := lv_entry as (n := M.2.2.1) hlen
  rw [lg_entry_eq]
  refine kk p l e _ s m _ below meth c _ s.heap [] 0 0 _ trivial ⟨⟨hx, hb, hml, findClass_of_methodNamed B.named, fun w hw => hts w (List.mem_cons_of_mem _ hw), hK, (fun h9 => hnm.trans h9), Nat.le_refl _, Nat.le_refl _⟩, by rw [hR.1]; exact hR.2.1, ?_, hR, va_S.rf, Nat.le_of_eq (Nat.zero_add _), Nat.le_of_eq (Nat.zero_add _)⟩ hl
  intro r h' H' locs' pc' ls' hq hR' hS' hrt
  match r, hrt with
  | none, hrt => exact W.vret hx hb (hr.trans hrt.1) (fun t ht hW => ⟨⟨none, h', rfl, hq, by rw [ht]; exact hR'⟩, hS'.F ht⟩) hS'.2.2 hrt.2
  | some (.int v), ⟨ty, h1, h2, h3⟩ => exact W.zret hx hb (hr.trans h1) h2 (fun t ht hW => ⟨⟨_, h', rfl, hq, by rw [ht]; exact hR'⟩, hS'.F ht⟩) hS'.2.2 h3
  | some (.long v), ⟨h1, h3⟩ => exact W.lret hx hb (hr.trans h1) (fun t ht hW => ⟨⟨_, h', rfl, hq, by rw [ht]; exact hR'⟩, hS'.F ht⟩) hS'.2.2 h3
  | some (.ref a), ⟨⟨rt, h1, h2⟩, h3⟩ => exact W.aret hx hb (hr.trans h1) h2 (Or.inr ⟨a, rfl⟩) (fun t ht hW => ⟨⟨_, h', rfl, hq, by rw [ht]; exact hR'⟩, hS'.F ht⟩) hS'.2.2 h3
  | some .null, ⟨⟨rt, h1, h2⟩, h3⟩ => exact W.aret hx hb (hr.trans h1) h2 (Or.inl rfl) (fun t ht hW => ⟨⟨_, h', rfl, hq, by rw [ht]; exact hR'⟩, hS'.F ht⟩) hS'.2.2 h3
theorem pz_ldc2 {index : Nat} {v : Int64} (hdg : decode M.2.1 pc = .ok (.ldc2_w index, 3)) (hw : Jvm.Cond.constantLong M.1.cls index v ∈ pz_U) (kk : pz_W Ψ X M d (pc + 3) lv (.long v :: st) h rc rs Q) : pz_W Ψ X M d pc lv st h rc rs Q := by
  intro p l e R s m args below meth c Z H locs cells slots ls hΨ I hL
  exact lv_ldc2 I.1.1 I.1.2.1 I.1.2.2.2.1 (I.1.2.2.2.2.1 _ hw) hdg (kk p l e R s m args below meth c Z H locs cells slots ls hΨ I hL)
theorem pz_ldcw {index : Nat} {v : Int32} (hdg : decode M.2.1 pc = .ok (.ldc_w index, 3)) (hw : Jvm.Cond.constant M.1.cls index v ∈ pz_U) (kk : pz_W Ψ X M d (pc + 3) lv (.int v :: st) h rc rs Q) : pz_W Ψ X M d pc lv st h rc rs Q := by
  intro p l e R s m args below meth c Z H locs cells slots ls hΨ I hL
  exact lv_ldcw I.1.1 I.1.2.1 I.1.2.2.2.1 (I.1.2.2.2.2.1 _ hw) hdg (kk p l e R s m args below meth c Z H locs cells slots ls hΨ I hL)
end PZC
