/-! THE LAW: every call answers alike -/
theorem sl_i {L i : Nat} {xs : Nat → Int32} {K : Int32 → Prop} (hi : i < L) (hL : L ≤ 2048) (k : K (xs i)) : pq_sl L xs (iI i) K := ⟨iI_in hi (by omega), by rw [iI_clamp (by omega)]; exact k⟩
theorem iI_of32 (x : Int32) : ∃ z : Int, iB z ∧ x = iI z := ⟨x.toInt, ⟨Int32.le_toInt x, Int32.toInt_lt x⟩, (Int32.ofInt_toInt x).symm⟩
theorem MR.o {h : pz_H} {m np : Nat} {Ps : Nat → cr_P} {td : Option (Nat × List Nat)} {cl : List Nat} {st : List Int} {K : Prop} (M : MR h m np Ps td cl st) (k : K) : pq_o h m 5 K := by
  obtain ⟨O, V, A, R, W⟩ := M
  exact rg_o R k
theorem lg_rf (x : Int64) : lg_cmp x x = 0 := by
  obtain ⟨z, hz, rfl⟩ := jI_of64 x
  exact (lg_eq hz hz).mpr rfl
def allP : List Prop → Prop
  | [] => True
  | a :: l => a ∧ allP l
theorem allP_get : ∀ (l : List Prop) (k : Nat), allP l → l.getD k True
  | [], k, _ => by simp
  | a :: l, 0, h => h.1
  | a :: l, k + 1, h => allP_get l k h.2
theorem tab_all {x : Int32} {lo hi : Int} {D : Prop} {Cs : List Prop} (hD : D) (hC : allP Cs) : pq_tab x lo hi D Cs := ⟨fun _ => hD, fun k _ _ => allP_get Cs k hC⟩
section LAW
variable {L : Nat} {xs : Nat → Int32} {c : Nat}
/-- class and reference hold the same -/
def both (c : Nat) (h : pz_H) : Prop := ∃ np Ps td cl st, CR h c np Ps td cl st ∧ MR h (c + 31) np Ps td cl st
theorem law_loop (hL : L ≤ 2048) : ∀ (n i : Nat) (h : pz_H), i ≤ L → (L - i) / 4 < n → both c h → L_L_law_18 L xs c (c + 31) (fun v _ => v = 1) n (iI i) h := by
  intro n
  induction n with
  | zero => intro i h hi hn; omega
  | succ n ih =>
    intro i h hi hn hb
    obtain ⟨np, Ps, td, cl, st, M, R⟩ := hb
    unfold L_L_law_18 B_L_law_897
    have eL : Int32.ofNat L - (4 : Int32) = iI ((L : Int) - 4) := by
      have : Int32.ofNat L = iI (L : Int) := (Int32.ofInt_eq_ofNat).symm
      rw [this, show (4 : Int32) = iI 4 from rfl, iI_sub]
    rw [eL]
    refine br_lt (by omega) (by omega) (fun _ => rfl) (fun w => ?_)
    have i4 : iI (i : Int) + (4 : Int32) = iI ((i + 4 : Nat) : Int) := by rw [show (4 : Int32) = iI 4 from rfl, iI_add]; rfl
    have i1 : iI (i : Int) + (1 : Int32) = iI ((i + 1 : Nat) : Int) := by rw [show (1 : Int32) = iI 1 from rfl, iI_add]; rfl
    have i2 : iI (i : Int) + (2 : Int32) = iI ((i + 2 : Nat) : Int) := by rw [show (2 : Int32) = iI 2 from rfl, iI_add]; rfl
    have i3 : iI (i : Int) + (3 : Int32) = iI ((i + 3 : Nat) : Int) := by rw [show (3 : Int32) = iI 3 from rfl, iI_add]; rfl
    have hi4 : i + 4 ≤ L := by omega
    have ihn := fun (h' : pz_H) (b : both c h') => ih (i + 4) h' (by omega) (by omega) b
    rw [i1, i2, i3, i4]
    have s1 : ∀ K : Int32 → Prop, pq_sl L xs (iI ((i + 1 : Nat) : Int)) K = K (xs (i + 1)) := fun K => propext ⟨fun ⟨_, k⟩ => by rw [iI_clamp (by omega)] at k; exact k, fun k => sl_i (by omega) hL k⟩
    have s2 : ∀ K : Int32 → Prop, pq_sl L xs (iI ((i + 2 : Nat) : Int)) K = K (xs (i + 2)) := fun K => propext ⟨fun ⟨_, k⟩ => by rw [iI_clamp (by omega)] at k; exact k, fun k => sl_i (by omega) hL k⟩
    have s3 : ∀ K : Int32 → Prop, pq_sl L xs (iI ((i + 3 : Nat) : Int)) K = K (xs (i + 3)) := fun K => propext ⟨fun ⟨_, k⟩ => by rw [iI_clamp (by omega)] at k; exact k, fun k => sl_i (by omega) hL k⟩
    obtain ⟨x, hx, ex⟩ := iI_of32 (xs (i + 1))
    obtain ⟨y, hy, ey⟩ := iI_of32 (xs (i + 2))
    obtain ⟨z, hz, ez⟩ := iI_of32 (xs (i + 3))
    have eo := (cE M).1
    refine sl_i (by omega) hL ?_
    refine tab_all (ihn h ⟨np, Ps, td, cl, st, M, R⟩) ⟨?_, ?_, ?_, ?_, ?_, ?_, ?_, ?_, ?_, ?_, ?_, ?_, ?_, ?_, ?_, ?_, ?_, ?_, ?_, ?_, ?_, ?_, ?_, ?_, trivial⟩
    · rw [s1]
      rw [eo]
      rw [ex]
      refine C_strip M hx (fun h3 M3 f3 => ?_)
      show pq_sl L xs (iI ((i + 1 : Nat) : Int)) _
      rw [s1]
      have R3 := R.fo f3
      refine R3.o ?_
      rw [ex]
      exact m_Strip R3 hx (fun h6 R6 f6 => br_tt rfl (ihn _ ⟨_, _, _, _, _, M3.fr f6, R6⟩))
    · rw [s1]
      rw [eo]
      rw [ex]
      refine C_corner M hx (fun h3 M3 f3 => ?_)
      show pq_sl L xs (iI ((i + 1 : Nat) : Int)) _
      rw [s1]
      have R3 := R.fo f3
      refine R3.o ?_
      rw [ex]
      exact m_Corner R3 hx (fun h6 R6 f6 => br_tt rfl (ihn _ ⟨_, _, _, _, _, M3.fr f6, R6⟩))
    · rw [s1, s2]
      rw [eo]
      rw [ex, ey]
      refine C_map M hx hy (fun h3 M3 f3 => ?_)
      show pq_sl L xs (iI ((i + 1 : Nat) : Int)) _
      rw [s1, s2]
      have R3 := R.fo f3
      refine R3.o ?_
      rw [ex, ey]
      exact m_Map R3 hx hy (fun h6 R6 f6 => br_tt rfl (ihn _ ⟨_, _, _, _, _, M3.fr f6, R6⟩))
    · rw [s1, s2, s3]
      rw [eo]
      rw [ex, ey, ez]
      refine C_length M hx hy hz (fun h3 M3 f3 => ?_)
      show pq_sl L xs (iI ((i + 1 : Nat) : Int)) _
      rw [s1, s2, s3]
      have R3 := R.fo f3
      refine R3.o ?_
      rw [ex, ey, ez]
      exact m_Length R3 hx hy hz (fun h6 R6 f6 => br_tt rfl (ihn _ ⟨_, _, _, _, _, M3.fr f6, R6⟩))
    · rw [s1, s2, s3]
      rw [eo]
      rw [ex, ey, ez]
      refine C_mark M hx hy hz (fun h3 M3 f3 => ?_)
      show pq_sl L xs (iI ((i + 1 : Nat) : Int)) _
      rw [s1, s2, s3]
      have R3 := R.fo f3
      refine R3.o ?_
      rw [ex, ey, ez]
      exact m_Mark R3 hx hy hz (fun h6 R6 f6 => br_tt rfl (ihn _ ⟨_, _, _, _, _, M3.fr f6, R6⟩))
    · rw [s1, s2]
      rw [eo]
      rw [ex, ey]
      refine C_about M hx hy ?_
      show pq_sl L xs (iI ((i + 1 : Nat) : Int)) _
      rw [s1, s2]
      refine R.o ?_
      rw [ex, ey]
      exact m_About R hx hy (br_tt rfl (ihn _ ⟨_, _, _, _, _, M, R⟩))
    · rw [s1, s2, s3]
      rw [eo]
      rw [ex, ey, ez]
      refine C_crease M hx hy hz ?_
      show pq_sl L xs (iI ((i + 1 : Nat) : Int)) _
      rw [s1, s2, s3]
      refine R.o ?_
      rw [ex, ey, ez]
      exact m_Crease R hx hy hz (br_tt rfl (ihn _ ⟨_, _, _, _, _, M, R⟩))
    · rw [s1]
      rw [eo]
      rw [ex]
      refine C_judge M hx (fun h3 M3 f3 => ?_)
      show pq_sl L xs (iI ((i + 1 : Nat) : Int)) _
      rw [s1]
      have R3 := R.fo f3
      refine R3.o ?_
      rw [ex]
      exact m_judge R3 hx (fun h6 R6 f6 => br_tt rfl (ihn _ ⟨_, _, _, _, _, M3.fr f6, R6⟩))
    · rw [s1]
      rw [eo]
      rw [ex]
      refine C_layer M hx ?_
      show pq_sl L xs (iI ((i + 1 : Nat) : Int)) _
      rw [s1]
      refine R.o ?_
      rw [ex]
      exact m_layer R hx (br_tt rfl (ihn _ ⟨_, _, _, _, _, M, R⟩))
    · rw [s1]
      rw [eo]
      rw [ex]
      refine C_turned M hx ?_
      show pq_sl L xs (iI ((i + 1 : Nat) : Int)) _
      rw [s1]
      refine R.o ?_
      rw [ex]
      exact m_turned R hx (fun h6 R6 f6 => br_tt rfl (ihn _ ⟨_, _, _, _, _, M.fr f6, R6⟩))
    · rw [s1]
      rw [eo]
      rw [ex]
      refine C_orders M hx (fun h3 M3 f3 => ?_)
      show pq_sl L xs (iI ((i + 1 : Nat) : Int)) _
      rw [s1]
      have R3 := R.fo f3
      refine R3.o ?_
      rw [ex]
      exact m_orders R3 hx (fun h6 R6 f6 => br_tt rfl (ihn _ ⟨_, _, _, _, _, M3.fr f6, R6⟩))
    · rw [s1, s2]
      rw [eo]
      rw [ex, ey]
      refine C_order M hx hy (fun h3 M3 f3 => ?_)
      show pq_sl L xs (iI ((i + 1 : Nat) : Int)) _
      rw [s1, s2]
      have R3 := R.fo f3
      refine R3.o ?_
      rw [ex, ey]
      exact m_order R3 hx hy (fun h6 R6 f6 => br_tt (lg_rf _) (ihn _ ⟨_, _, _, _, _, M3.fr f6, R6⟩))
    · rw [s1, s2, s3]
      rw [eo]
      rw [ex]
      obtain ⟨w, hw, ew⟩ := jI_of64 (((Int32.toInt64 (xs (i + 2))) <<< (Int32.toInt64 (32 : Int32) &&& 63)) ||| ((Int32.toInt64 (xs (i + 3))) &&& (4294967295 : Int64)))
      rw [ew]
      refine C_check M hx hw (fun h3 M3 f3 => ?_)
      show pq_sl L xs (iI ((i + 1 : Nat) : Int)) _
      rw [s1, s2, s3]
      have R3 := R.fo f3
      refine R3.o ?_
      rw [ex, ew]
      exact m_check R3 hx hw (fun h6 R6 f6 => br_tt rfl (ihn _ ⟨_, _, _, _, _, M3.fr f6, R6⟩))
    · rw [s1, s2]
      rw [eo]
      rw [ex, ey]
      refine C_forced M hx hy (fun h3 M3 f3 => ?_)
      show pq_sl L xs (iI ((i + 1 : Nat) : Int)) _
      rw [s1, s2]
      have R3 := R.fo f3
      refine R3.o ?_
      rw [ex, ey]
      exact m_forced R3 hx hy (fun h6 R6 f6 => br_tt rfl (ihn _ ⟨_, _, _, _, _, M3.fr f6, R6⟩))
    · rw [s1, s2, s3]
      rw [eo]
      rw [ex, ey, ez]
      refine C_above M hx hy hz (fun h3 M3 f3 => ?_)
      show pq_sl L xs (iI ((i + 1 : Nat) : Int)) _
      rw [s1, s2, s3]
      have R3 := R.fo f3
      refine R3.o ?_
      rw [ex, ey, ez]
      exact m_above R3 hx hy hz (fun h6 R6 f6 => br_tt rfl (ihn _ ⟨_, _, _, _, _, M3.fr f6, R6⟩))
    · rw [s1, s2]
      rw [eo]
      rw [ex, ey]
      refine C_alike M hx hy (fun h3 M3 f3 => ?_)
      show pq_sl L xs (iI ((i + 1 : Nat) : Int)) _
      rw [s1, s2]
      have R3 := R.fo f3
      refine R3.o ?_
      rw [ex, ey]
      exact m_alike R3 hx hy (fun h6 R6 f6 => br_tt rfl (ihn _ ⟨_, _, _, _, _, M3.fr f6, R6⟩))
    · rw [s1]
      rw [eo]
      rw [ex]
      refine C_foldings M hx (fun h3 M3 f3 => ?_)
      show pq_sl L xs (iI ((i + 1 : Nat) : Int)) _
      rw [s1]
      have R3 := R.fo f3
      refine R3.o ?_
      rw [ex]
      exact m_foldings (fun p hp => by have := mOrd_len (M.ok hp); omega) R3 hx (fun h6 R6 f6 => br_tt rfl (ihn _ ⟨_, _, _, _, _, M3.fr f6, R6⟩))
    · rw [s1]
      rw [eo]
      rw [ex]
      refine C_clash M hx (fun h3 M3 f3 => ?_)
      show pq_sl L xs (iI ((i + 1 : Nat) : Int)) _
      rw [s1]
      have R3 := R.fo f3
      refine R3.o ?_
      rw [ex]
      exact m_clash R3 hx (fun h6 R6 f6 => br_tt rfl (ihn _ ⟨_, _, _, _, _, M3.fr f6, R6⟩))
    · rw [s1]
      rw [eo]
      rw [ex]
      refine C_inClash M hx ?_
      show pq_sl L xs (iI ((i + 1 : Nat) : Int)) _
      rw [s1]
      refine R.o ?_
      rw [ex]
      exact m_inClash R hx (br_tt rfl (ihn _ ⟨_, _, _, _, _, M, R⟩))
    · rw [s1]
      rw [eo]
      rw [ex]
      refine C_simple M hx (fun h3 M3 f3 => ?_)
      show pq_sl L xs (iI ((i + 1 : Nat) : Int)) _
      rw [s1]
      have R3 := R.fo f3
      refine R3.o ?_
      rw [ex]
      exact m_simple R3 hx (fun h6 R6 f6 => br_tt rfl (ihn _ ⟨_, _, _, _, _, M3.fr f6, R6⟩))
    · rw [s1]
      rw [eo]
      rw [ex]
      refine C_step M hx ?_
      show pq_sl L xs (iI ((i + 1 : Nat) : Int)) _
      rw [s1]
      refine R.o ?_
      rw [ex]
      exact m_step R hx (br_tt rfl (ihn _ ⟨_, _, _, _, _, M, R⟩))
    · rw [s1, s2]
      rw [eo]
      rw [ex, ey]
      refine C_fold M hx hy (fun h3 M3 f3 => ?_)
      show pq_sl L xs (iI ((i + 1 : Nat) : Int)) _
      rw [s1, s2]
      have R3 := R.fo f3
      refine R3.o ?_
      rw [ex, ey]
      exact m_fold R3 hx hy (fun h6 R6 f6 => br_tt rfl (ihn _ ⟨_, _, _, _, _, M3.fr f6, R6⟩))
    · rw [s1]
      rw [eo]
      rw [ex]
      refine C_flatten M hx (fun h3 M3 f3 => ?_)
      show pq_sl L xs (iI ((i + 1 : Nat) : Int)) _
      rw [s1]
      have R3 := R.fo f3
      refine R3.o ?_
      rw [ex]
      exact m_flatten R3 hx (fun h6 R6 f6 => br_tt rfl (ihn _ ⟨_, _, _, _, _, M3.fr f6, R6⟩))
    · rw [s1, s2, s3]
      rw [eo]
      rw [ex, ey, ez]
      refine C_lies M hx hy hz (fun h3 M3 f3 => ?_)
      show pq_sl L xs (iI ((i + 1 : Nat) : Int)) _
      rw [s1, s2, s3]
      have R3 := R.fo f3
      refine R3.o ?_
      rw [ex, ey, ez]
      exact m_lies R3 hx hy hz (br_tt rfl (ihn _ ⟨_, _, _, _, _, M3, R3⟩))
theorem pure_law (B0 L : Nat) (xs : Nat → Int32) (hL : L ≤ 2048) : F_L_law L xs (fun _ => none, B0) (fun v _ => v = 1) := by
  unfold F_L_law
  intro _
  show F_X4_init B0 _ _
  refine x4_init (c := B0) (h0 := (fun _ => none, B0)) ⟨pz_nw_at, fun j h1 h2 => by omega, rfl, fun q hq => pz_nw_ne (show q ≠ B0 by omega)⟩ (fun h1 B1 => ?_)
  obtain ⟨b1, b2, b3, b4⟩ := B1
  intro _
  have e1 : h1.2 = B0 + 31 := b3
  rw [e1]
  refine x5_init (m := B0 + 31) (h0 := h1) ⟨by rw [← e1]; exact pz_nw_at, fun j q1 q2 => by omega, by show h1.2 + 1 = _; omega, fun q hq => pz_nw_ne (by omega)⟩ (fun h2 R2 sz low => ?_)
  have C2 : CR h2 B0 0 (fun _ => newP 0 1 1) none [] [] := CR_new (fun j q1 q2 => by rw [low _ (by omega)]; exact b2 j q2 q1) (by rw [low _ (by omega)]; exact b1) (by rw [sz])
  exact law_loop hL 513 0 h2 (by omega) (by omega) ⟨0, _, none, [], [], C2, MR_new R2⟩
end LAW
