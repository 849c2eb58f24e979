def F_X0_init (a0 : Nat) (h : pz_H) (Q : pz_H → Prop) : Prop := (pq_p h a0 0 0 (.int (0 : Int32)) (fun h1 => (pq_mul h1 2 10 (fun q2 h3 => (pq_p h3 a0 0 1 (.ref q2) (fun h4 => (pq_mul h4 2 9 (fun q5 h6 => (pq_p h6 a0 0 2 (.ref q5) (fun h7 => (Q h7)))))))))))
set_option maxHeartbeats 4000000 in
set_option maxRecDepth 100000 in
theorem k_X0_init (X : pz_X) (d : Nat) (a0 : Nat) (h : pz_H) (Q : pz_H → Prop) (hf : F_X0_init a0 h Q) : pz_Call X M_X0_init (d + 1) 6 42 [.ref a0] h (pq_qV Q) := by
  refine pz_call_of (by decide +kernel) (Nat.le_of_ble_eq_true rfl) ?_
  unfold F_X0_init at hf
  refine pz_aload_n dX0_init_0 rfl ?_
  refine pz_objInit dX0_init_1 ml_X0_3 mi_obj mc_obj (Nat.le_of_ble_eq_true rfl) ?_
  refine pz_aload_n dX0_init_4 rfl ?_
  refine pz_iconst (v := (0 : Int32)) dX0_init_5 (by decide) ?_
  obtain ⟨_, h1, h2, hf⟩ := hf
  refine pz_put dX0_init_6 fp_X0_9 h1 rfl rfl h2 ?_
  refine pz_aload_n dX0_init_9 rfl ?_
  refine pz_iconst (v := (2 : Int32)) dX0_init_10 (by decide) ?_
  refine pz_bipush (v := (10 : Int32)) dX0_init_11 (by decide) ?_
  refine pz_multi (K := 10) (rc := 3) (rs := 20) dX0_init_13 cl_X0_15 (by decide) (by decide +kernel) (by decide) (fun hfr => ?_)
  have hf := hf hfr
  obtain ⟨_, h1, h2, hf⟩ := hf
  refine pz_putF dX0_init_17 fp_X0_17 rfl h1 rfl rfl h2 ?_
  refine pz_aload_n dX0_init_20 rfl ?_
  refine pz_iconst (v := (2 : Int32)) dX0_init_21 (by decide) ?_
  refine pz_bipush (v := (9 : Int32)) dX0_init_22 (by decide) ?_
  refine pz_multi (K := 9) (rc := 0) (rs := 0) dX0_init_24 cl_X0_15 (by decide) (by decide +kernel) (by decide) (fun hfr => ?_)
  have hf := hf hfr
  obtain ⟨_, h1, h2, hf⟩ := hf
  refine pz_putF dX0_init_28 fp_X0_20 rfl h1 rfl rfl h2 ?_
  exact pz_return dX0_init_31 rfl ⟨rfl, hf⟩
def B_X0_bands_15 (xs0 : Int32)  (Q : Int32 → pz_H → Prop) (h : pz_H) : Prop := (Q xs0 h)
set_option maxHeartbeats 4000000 in
set_option maxRecDepth 100000 in
theorem kB_X0_bands_15 (X : pz_X) (d : Nat) (xs0 : Int32)   (Q : Int32 → pz_H → Prop) (h : pz_H)  (hf : B_X0_bands_15 xs0  Q h) : pz_W (fun _ => True) X M_X0_bands (d + 0) 15 [] [.int xs0] h 0 0 (pq_qI Q) := by
  unfold B_X0_bands_15 at hf
  exact pz_ireturn dX0_bands_15 rfl rfl ⟨_, rfl, hf⟩
def F_X0_bands (a0 : Nat) (a1 : Nat) (x2 : Int32) (h : pz_H) (Q : Int32 → pz_H → Prop) : Prop := (pq_br (x2 = 0) (pq_gI h a1 1 2 (fun v2 => (B_X0_bands_15 v2 Q h))) (pq_gI h a1 1 1 (fun v1 => (B_X0_bands_15 v1 Q h))))
set_option maxHeartbeats 4000000 in
set_option maxRecDepth 100000 in
theorem k_X0_bands (X : pz_X) (d : Nat) (a0 : Nat) (a1 : Nat) (x2 : Int32) (h : pz_H) (Q : Int32 → pz_H → Prop) (hf : F_X0_bands a0 a1 x2 h Q) : pz_Call X M_X0_bands (d + 0) 0 0 [.ref a0, .ref a1, .int x2] h (pq_qI Q) := by
  refine pz_call_of (by decide +kernel) (Nat.le_of_ble_eq_true rfl) ?_
  unfold F_X0_bands at hf
  refine pz_iload_n dX0_bands_0 rfl ?_
  obtain ⟨ha, hb⟩ := hf
  refine pz_if_ne dX0_bands_1 (tgt := 11) (by decide) (fun cc => ?_) (fun cc => ?_)
  · have hf := hb cc
    refine pz_aload_n dX0_bands_11 rfl ?_
    obtain ⟨_, v1, h1, h2, hf⟩ := hf
    refine pz_get dX0_bands_12 fl_X0_44 h1 h2 ?_
    exact pz_drop (pz_part_of [] rfl) (kB_X0_bands_15 X d _ _ _  hf)
  · have hf := ha cc
    refine pz_aload_n dX0_bands_4 rfl ?_
    obtain ⟨_, v2, h1, h2, hf⟩ := hf
    refine pz_get dX0_bands_5 fl_X0_41 h1 h2 ?_
    refine pz_goto dX0_bands_8 (tgt := 15) (by decide) ?_
    exact pz_drop (pz_part_of [] rfl) (kB_X0_bands_15 X d _ _ _  hf)
def B_X0_lineBehind_16 (xs0 : Int32)  (Q : Int32 → pz_H → Prop) (h : pz_H) : Prop := (Q xs0 h)
set_option maxHeartbeats 4000000 in
set_option maxRecDepth 100000 in
theorem kB_X0_lineBehind_16 (X : pz_X) (d : Nat) (xs0 : Int32)   (Q : Int32 → pz_H → Prop) (h : pz_H)  (hf : B_X0_lineBehind_16 xs0  Q h) : pz_W (fun _ => True) X M_X0_lineBehind (d + 0) 16 [] [.int xs0] h 0 0 (pq_qI Q) := by
  unfold B_X0_lineBehind_16 at hf
  exact pz_ireturn dX0_lineBehind_16 rfl rfl ⟨_, rfl, hf⟩
def F_X0_lineBehind (a0 : Nat) (a1 : Nat) (x2 : Int32) (x3 : Int32) (h : pz_H) (Q : Int32 → pz_H → Prop) : Prop := (pq_br (x2 = 0) (B_X0_lineBehind_16 x3 Q h) (pq_gI h a1 1 2 (fun v1 => (B_X0_lineBehind_16 ((v1 - (1 : Int32)) + x3) Q h))))
set_option maxHeartbeats 4000000 in
set_option maxRecDepth 100000 in
theorem k_X0_lineBehind (X : pz_X) (d : Nat) (a0 : Nat) (a1 : Nat) (x2 : Int32) (x3 : Int32) (h : pz_H) (Q : Int32 → pz_H → Prop) (hf : F_X0_lineBehind a0 a1 x2 x3 h Q) : pz_Call X M_X0_lineBehind (d + 0) 0 0 [.ref a0, .ref a1, .int x2, .int x3] h (pq_qI Q) := by
  refine pz_call_of (by decide +kernel) (Nat.le_of_ble_eq_true rfl) ?_
  unfold F_X0_lineBehind at hf
  refine pz_iload_n dX0_lineBehind_0 rfl ?_
  obtain ⟨ha, hb⟩ := hf
  refine pz_if_ne dX0_lineBehind_1 (tgt := 8) (by decide) (fun cc => ?_) (fun cc => ?_)
  · have hf := hb cc
    refine pz_aload_n dX0_lineBehind_8 rfl ?_
    obtain ⟨_, v1, h1, h2, hf⟩ := hf
    refine pz_get dX0_lineBehind_9 fl_X0_41 h1 h2 ?_
    refine pz_iconst (v := (1 : Int32)) dX0_lineBehind_12 (by decide) ?_
    refine pz_isub dX0_lineBehind_13 ?_
    refine pz_iload_n dX0_lineBehind_14 rfl ?_
    refine pz_iadd dX0_lineBehind_15 ?_
    exact pz_drop (pz_part_of [] rfl) (kB_X0_lineBehind_16 X d _ _ _  hf)
  · have hf := ha cc
    refine pz_iload_n dX0_lineBehind_4 rfl ?_
    refine pz_goto dX0_lineBehind_5 (tgt := 16) (by decide) ?_
    exact pz_drop (pz_part_of [] rfl) (kB_X0_lineBehind_16 X d _ _ _  hf)
def B_X0_put_112 (a0 : Nat) (a1 : Nat) (x3 : Int32) (x4 : Int32) (x5 : Int32) (as0 : Nat) (xs1 : Int32) (xs2 : Int32) (xs3 : Int32) (k7 : Int32 → pz_H → Prop) (k18 : Int32 → Int32 → pz_H → Prop) (Q : pz_H → Prop) (h : pz_H) : Prop := (pq_sI h as0 xs1 (xs2 + xs3) (fun h18 => (k18 x4 (x5 + (1 : Int32)) h18)))
set_option maxHeartbeats 4000000 in
set_option maxRecDepth 100000 in
theorem kB_X0_put_112 (X : pz_X) (d : Nat) (a0 : Nat) (a1 : Nat) (x3 : Int32) (x4 : Int32) (x5 : Int32) (as0 : Nat) (xs1 : Int32) (xs2 : Int32) (xs3 : Int32)  (k7 : Int32 → pz_H → Prop) (k18 : Int32 → Int32 → pz_H → Prop) (Q : pz_H → Prop) (h : pz_H) (hk7 : ∀ (x3 : Int32) (h : pz_H), k7 x3 h → pz_W (fun _ => True) X M_X0_put (d + 1) 7 [(0, .ref a0), (1, .ref a1), (3, .int x3)] [] h 0 0 (pq_qV Q)) (hk18 : ∀ (x4 : Int32) (x5 : Int32) (h : pz_H), k18 x4 x5 h → pz_W (fun _ => True) X M_X0_put (d + 1) 18 [(0, .ref a0), (1, .ref a1), (3, .int x3), (4, .int x4), (5, .int x5)] [] h 0 0 (pq_qV Q)) (hf : B_X0_put_112 a0 a1 x3 x4 x5 as0 xs1 xs2 xs3 k7 k18 Q h) : pz_W (fun _ => True) X M_X0_put (d + 1) 112 [(0, .ref a0), (1, .ref a1), (3, .int x3), (4, .int x4), (5, .int x5)] [.int xs3, .int xs2, .int xs1, .ref as0] h 0 0 (pq_qV Q) := by
  unfold B_X0_put_112 at hf
  refine pz_iadd dX0_put_112 ?_
  obtain ⟨_, _, h1, h2, hf⟩ := hf
  refine pz_iast dX0_put_113 h1 h2 ?_
  refine pz_iinc dX0_put_114 rfl (by rfl) (by decide) rfl ?_
  refine pz_goto dX0_put_117 (tgt := 18) (by decide) ?_
  exact pz_drop (pz_part_of [0, 1, 3, 4, 5] rfl) (hk18 _ _ _ hf)
def B_X0_put_60 (a0 : Nat) (a1 : Nat) (x3 : Int32) (x4 : Int32) (x5 : Int32) (k7 : Int32 → pz_H → Prop) (k18 : Int32 → Int32 → pz_H → Prop) (Q : pz_H → Prop) (h : pz_H) : Prop := (pq_gA h a1 1 7 (fun b8 => (pq_aI h b8 x5 (fun v9 => (pq_gA h a0 0 2 (fun b10 => (pq_aA h b10 x3 (fun b11 => (pq_sI h b11 x5 x4 (fun h12 => (pq_gA h12 a0 0 1 (fun b13 => (pq_aA h12 b13 x3 (fun b14 => (pq_gA h12 a0 0 1 (fun b15 => (pq_aA h12 b15 x3 (fun b16 => (pq_aI h12 b16 x5 (fun v17 => (pq_br (x4 = 0) (B_X0_put_112 a0 a1 x3 x4 x5 b14 (x5 + (1 : Int32)) v17 v9 k7 k18 Q h12) (B_X0_put_112 a0 a1 x3 x4 x5 b14 (x5 + (1 : Int32)) v17 (-v9) k7 k18 Q h12))))))))))))))))))))))
set_option maxHeartbeats 4000000 in
set_option maxRecDepth 100000 in
theorem kB_X0_put_60 (X : pz_X) (d : Nat) (a0 : Nat) (a1 : Nat) (x3 : Int32) (x4 : Int32) (x5 : Int32)  (k7 : Int32 → pz_H → Prop) (k18 : Int32 → Int32 → pz_H → Prop) (Q : pz_H → Prop) (h : pz_H) (hk7 : ∀ (x3 : Int32) (h : pz_H), k7 x3 h → pz_W (fun _ => True) X M_X0_put (d + 1) 7 [(0, .ref a0), (1, .ref a1), (3, .int x3)] [] h 0 0 (pq_qV Q)) (hk18 : ∀ (x4 : Int32) (x5 : Int32) (h : pz_H), k18 x4 x5 h → pz_W (fun _ => True) X M_X0_put (d + 1) 18 [(0, .ref a0), (1, .ref a1), (3, .int x3), (4, .int x4), (5, .int x5)] [] h 0 0 (pq_qV Q)) (hf : B_X0_put_60 a0 a1 x3 x4 x5 k7 k18 Q h) : pz_W (fun _ => True) X M_X0_put (d + 1) 60 [(0, .ref a0), (1, .ref a1), (3, .int x3), (4, .int x4), (5, .int x5)] [] h 0 0 (pq_qV Q) := by
  unfold B_X0_put_60 at hf
  refine pz_aload_n dX0_put_60 rfl ?_
  obtain ⟨_, b8, h1, h2, hf⟩ := hf
  refine pz_get dX0_put_61 fl_X0_35 h1 h2 ?_
  refine pz_iload dX0_put_64 rfl ?_
  obtain ⟨_, _, h1, h2, hf⟩ := hf
  refine pz_iald dX0_put_66 h1 h2 ?_
  refine pz_istore dX0_put_67 (by decide) rfl ?_
  refine pz_aload_n dX0_put_69 rfl ?_
  obtain ⟨_, b10, h1, h2, hf⟩ := hf
  refine pz_get dX0_put_70 fl_X0_20 h1 h2 ?_
  refine pz_iload_n dX0_put_73 rfl ?_
  obtain ⟨_, _, b11, h1, h2, h3, hf⟩ := hf
  refine pz_aald2 dX0_put_74 h1 h2 ?_
  rw [h3]
  refine pz_iload dX0_put_75 rfl ?_
  refine pz_iload dX0_put_77 rfl ?_
  obtain ⟨_, _, h1, h2, hf⟩ := hf
  refine pz_iast dX0_put_79 h1 h2 ?_
  refine pz_aload_n dX0_put_80 rfl ?_
  obtain ⟨_, b13, h1, h2, hf⟩ := hf
  refine pz_get dX0_put_81 fl_X0_17 h1 h2 ?_
  refine pz_iload_n dX0_put_84 rfl ?_
  obtain ⟨_, _, b14, h1, h2, h3, hf⟩ := hf
  refine pz_aald2 dX0_put_85 h1 h2 ?_
  rw [h3]
  refine pz_iload dX0_put_86 rfl ?_
  refine pz_iconst (v := (1 : Int32)) dX0_put_88 (by decide) ?_
  refine pz_iadd dX0_put_89 ?_
  refine pz_aload_n dX0_put_90 rfl ?_
  obtain ⟨_, b15, h1, h2, hf⟩ := hf
  refine pz_get dX0_put_91 fl_X0_17 h1 h2 ?_
  refine pz_iload_n dX0_put_94 rfl ?_
  obtain ⟨_, _, b16, h1, h2, h3, hf⟩ := hf
  refine pz_aald2 dX0_put_95 h1 h2 ?_
  rw [h3]
  refine pz_iload dX0_put_96 rfl ?_
  obtain ⟨_, _, h1, h2, hf⟩ := hf
  refine pz_iald dX0_put_98 h1 h2 ?_
  refine pz_iload dX0_put_99 rfl ?_
  obtain ⟨ha, hb⟩ := hf
  refine pz_if_ne dX0_put_101 (tgt := 109) (by decide) (fun cc => ?_) (fun cc => ?_)
  · have hf := hb cc
    refine pz_iload dX0_put_109 rfl ?_
    refine pz_ineg dX0_put_111 ?_
    exact pz_drop (pz_part_of [0, 1, 3, 4, 5] rfl) (kB_X0_put_112 X d _ _ _ _ _ _ _ _ _ _ _ _ _ hk7 hk18 hf)
  · have hf := ha cc
    refine pz_iload dX0_put_104 rfl ?_
    refine pz_goto dX0_put_106 (tgt := 112) (by decide) ?_
    exact pz_drop (pz_part_of [0, 1, 3, 4, 5] rfl) (kB_X0_put_112 X d _ _ _ _ _ _ _ _ _ _ _ _ _ hk7 hk18 hf)
def L_X0_put_18 (a0 : Nat) (a1 : Nat) (x3 : Int32) (k7 : Int32 → pz_H → Prop) (Q : pz_H → Prop) : Nat → Int32 → Int32 → pz_H → Prop
  | 0, _, _, _ => False
  | n + 1, x4, x5, h => (pq_o h a0 0 (F_X0_bands a0 a1 x3 h (fun v2 h1 => (pq_br (v2 ≤ x5) (k7 (x3 + (1 : Int32)) h1) (pq_br (x5 ≤ 0) (B_X0_put_60 a0 a1 x3 x4 x5 k7 (fun z0 z1 hz => L_X0_put_18 a0 a1 x3 k7 Q n z0 z1 hz) Q h1) (pq_gI h1 a0 0 0 (fun v3 => (pq_o h1 a0 0 (F_X0_lineBehind a0 a1 x3 (x5 - (1 : Int32)) h1 (fun v5 h4 => (F_X4_has v3 v5 h4 (fun v7 h6 => (pq_br (v7 = 0) (B_X0_put_60 a0 a1 x3 x4 x5 k7 (fun z0 z1 hz => L_X0_put_18 a0 a1 x3 k7 Q n z0 z1 hz) Q h6) (B_X0_put_60 a0 a1 x3 ((1 : Int32) - x4) x5 k7 (fun z0 z1 hz => L_X0_put_18 a0 a1 x3 k7 Q n z0 z1 hz) Q h6))))))))))))))
set_option maxHeartbeats 4000000 in
set_option maxRecDepth 100000 in
theorem kL_X0_put_18 (X : pz_X) (d : Nat) (a0 : Nat) (a1 : Nat) (x3 : Int32)  (k7 : Int32 → pz_H → Prop) (Q : pz_H → Prop) (hk7 : ∀ (x3 : Int32) (h : pz_H), k7 x3 h → pz_W (fun _ => True) X M_X0_put (d + 1) 7 [(0, .ref a0), (1, .ref a1), (3, .int x3)] [] h 0 0 (pq_qV Q)) : ∀ (n : Nat) (x4 : Int32) (x5 : Int32) (h : pz_H), L_X0_put_18 a0 a1 x3 k7 Q n x4 x5 h → pz_W (fun _ => True) X M_X0_put (d + 1) 18 [(0, .ref a0), (1, .ref a1), (3, .int x3), (4, .int x4), (5, .int x5)] [] h 0 0 (pq_qV Q) := by
  intro n
  induction n with
  | zero =>
    intro _ _ _ hf
    exact False.elim hf
  | succ n ih =>
    intro x4 x5 h hf
    unfold L_X0_put_18 at hf
    refine pz_iload dX0_put_18 rfl ?_
    refine pz_aload_n dX0_put_20 rfl ?_
    refine pz_aload_n dX0_put_21 rfl ?_
    refine pz_iload_n dX0_put_22 rfl ?_
    obtain ⟨_, hO, hf⟩ := hf
    refine pz_callV2 (rc := 0) (rs := 0) (mc := 0) (ms := 0) dX0_put_23 (k_X0_bands X d _ _ _ _ _ hf) (Nat.le_of_ble_eq_true rfl) mf_X0_bands ml_X0_23 hO rfl mi_X0_bands ms_X0_bands (fun _ h9 hq => ?_)
    obtain ⟨_, rfl, hf⟩ := hq
    obtain ⟨ha, hb⟩ := hf
    refine pz_icmp_ge dX0_put_26 (tgt := 120) (by decide) (fun cc => ?_) (fun cc => ?_)
    · have hf := ha cc
      refine pz_iinc dX0_put_120 rfl (by rfl) (by decide) rfl ?_
      refine pz_goto dX0_put_123 (tgt := 7) (by decide) ?_
      exact pz_drop (pz_part_of [0, 1, 3] rfl) (hk7 _ _ hf)
    · have hf := hb cc
      refine pz_iload dX0_put_29 rfl ?_
      obtain ⟨ha, hb⟩ := hf
      refine pz_if_le dX0_put_31 (tgt := 60) (by decide) (fun cc => ?_) (fun cc => ?_)
      · have hf := ha cc
        exact pz_drop (pz_part_of [0, 1, 3, 4, 5] rfl) (kB_X0_put_60 X d _ _ _ _ _ _ _ _ _ hk7 ih hf)
      · have hf := hb cc
        refine pz_aload_n dX0_put_34 rfl ?_
        obtain ⟨_, v3, h1, h2, hf⟩ := hf
        refine pz_get dX0_put_35 fl_X0_9 h1 h2 ?_
        refine pz_aload_n dX0_put_38 rfl ?_
        refine pz_aload_n dX0_put_39 rfl ?_
        refine pz_iload_n dX0_put_40 rfl ?_
        refine pz_iload dX0_put_41 rfl ?_
        refine pz_iconst (v := (1 : Int32)) dX0_put_43 (by decide) ?_
        refine pz_isub dX0_put_44 ?_
        obtain ⟨_, hO, hf⟩ := hf
        refine pz_callV3 (rc := 0) (rs := 0) (mc := 0) (ms := 0) dX0_put_45 (k_X0_lineBehind X d _ _ _ _ _ _ hf) (Nat.le_of_ble_eq_true rfl) mf_X0_lineBehind ml_X0_27 hO rfl mi_X0_lineBehind ms_X0_lineBehind (fun _ h9 hq => ?_)
        obtain ⟨_, rfl, hf⟩ := hq
        refine pz_callSN2 (rc := 0) (rs := 0) (mc := 0) (ms := 0) dX0_put_48 (k_X4_has X d _ _ _ _ hf) (Nat.le_of_ble_eq_true rfl) mf_X4_has ml_X0_31 mt_X4_has (fun _ h9 hq => ?_)
        obtain ⟨_, rfl, hf⟩ := hq
        obtain ⟨ha, hb⟩ := hf
        refine pz_if_eq dX0_put_51 (tgt := 60) (by decide) (fun cc => ?_) (fun cc => ?_)
        · have hf := ha cc
          exact pz_drop (pz_part_of [0, 1, 3, 4, 5] rfl) (kB_X0_put_60 X d _ _ _ _ _ _ _ _ _ hk7 ih hf)
        · have hf := hb cc
          refine pz_iconst (v := (1 : Int32)) dX0_put_54 (by decide) ?_
          refine pz_iload dX0_put_55 rfl ?_
          refine pz_isub dX0_put_57 ?_
          refine pz_istore dX0_put_58 (by decide) rfl ?_
          exact pz_drop (pz_part_of [0, 1, 3, 4, 5] rfl) (kB_X0_put_60 X d _ _ _ _ _ _ _ _ _ hk7 ih hf)
def L_X0_put_7 (a0 : Nat) (a1 : Nat)  (Q : pz_H → Prop) : Nat → Int32 → pz_H → Prop
  | 0, _, _ => False
  | n + 1, x3, h => (pq_br ((1 : Int32) < x3) (Q h) (pq_ex (fun m18 => L_X0_put_18 a0 a1 x3 (fun z0 hz => L_X0_put_7 a0 a1 Q n z0 hz) Q m18 (0 : Int32) (0 : Int32) h)))
set_option maxHeartbeats 4000000 in
set_option maxRecDepth 100000 in
theorem kL_X0_put_7 (X : pz_X) (d : Nat) (a0 : Nat) (a1 : Nat)   (Q : pz_H → Prop)  : ∀ (n : Nat) (x3 : Int32) (h : pz_H), L_X0_put_7 a0 a1  Q n x3 h → pz_W (fun _ => True) X M_X0_put (d + 1) 7 [(0, .ref a0), (1, .ref a1), (3, .int x3)] [] h 0 0 (pq_qV Q) := by
  intro n
  induction n with
  | zero =>
    intro _ _ hf
    exact False.elim hf
  | succ n ih =>
    intro x3 h hf
    unfold L_X0_put_7 at hf
    refine pz_iload_n dX0_put_7 rfl ?_
    refine pz_iconst (v := (1 : Int32)) dX0_put_8 (by decide) ?_
    obtain ⟨ha, hb⟩ := hf
    refine pz_icmp_gt dX0_put_9 (tgt := 126) (by decide) (fun cc => ?_) (fun cc => ?_)
    · have hf := ha cc
      exact pz_return dX0_put_126 rfl ⟨rfl, hf⟩
    · have hf := hb cc
      refine pz_iconst (v := (0 : Int32)) dX0_put_12 (by decide) ?_
      refine pz_istore dX0_put_13 (by decide) rfl ?_
      refine pz_iconst (v := (0 : Int32)) dX0_put_15 (by decide) ?_
      refine pz_istore dX0_put_16 (by decide) rfl ?_
      obtain ⟨n9, hf⟩ := hf
      exact pz_drop (pz_part_of [0, 1, 3, 4, 5] rfl) (kL_X0_put_18 X d _ _ _ _ _ ih n9 _ _ _ hf)
def F_X0_put (a0 : Nat) (a1 : Nat) (x2 : Int32) (h : pz_H) (Q : pz_H → Prop) : Prop := (pq_p h a0 0 0 (.int x2) (fun h19 => (pq_ex (fun m7 => L_X0_put_7 a0 a1 Q m7 (0 : Int32) h19))))
set_option maxHeartbeats 4000000 in
set_option maxRecDepth 100000 in
theorem k_X0_put (X : pz_X) (d : Nat) (a0 : Nat) (a1 : Nat) (x2 : Int32) (h : pz_H) (Q : pz_H → Prop) (hf : F_X0_put a0 a1 x2 h Q) : pz_Call X M_X0_put (d + 1) 0 0 [.ref a0, .ref a1, .int x2] h (pq_qV Q) := by
  refine pz_call_of (by decide +kernel) (Nat.le_of_ble_eq_true rfl) ?_
  unfold F_X0_put at hf
  refine pz_aload_n dX0_put_0 rfl ?_
  refine pz_iload_n dX0_put_1 rfl ?_
  obtain ⟨_, h1, h2, hf⟩ := hf
  refine pz_put dX0_put_2 fp_X0_9 h1 rfl rfl h2 ?_
  refine pz_iconst (v := (0 : Int32)) dX0_put_5 (by decide) ?_
  refine pz_istore_n dX0_put_6 rfl (by decide) rfl ?_
  obtain ⟨n9, hf⟩ := hf
  exact pz_drop (pz_part_of [0, 1, 3] rfl) (kL_X0_put_7 X d _ _ _  n9 _ _ hf)
def B_X0_isFrontUp_34 (xs0 : Int32)  (Q : Int32 → pz_H → Prop) (h : pz_H) : Prop := (pq_z xs0 (Q xs0 h))
set_option maxHeartbeats 4000000 in
set_option maxRecDepth 100000 in
theorem kB_X0_isFrontUp_34 (X : pz_X) (d : Nat) (xs0 : Int32)   (Q : Int32 → pz_H → Prop) (h : pz_H)  (hf : B_X0_isFrontUp_34 xs0  Q h) : pz_W (fun _ => True) X M_X0_isFrontUp (d + 0) 34 [] [.int xs0] h 0 0 (pq_qI Q) := by
  unfold B_X0_isFrontUp_34 at hf
  obtain ⟨hz, hf⟩ := hf
  exact pz_ireturn dX0_isFrontUp_34 rfl hz ⟨_, rfl, hf⟩
def F_X0_isFrontUp (a0 : Nat) (a1 : Nat) (x2 : Int32) (h : pz_H) (Q : Int32 → pz_H → Prop) : Prop := (pq_gA h a0 0 2 (fun b1 => (pq_aA h b1 (0 : Int32) (fun b2 => (pq_gA h a1 1 6 (fun b3 => (pq_aI h b3 x2 (fun v4 => (pq_aI h b2 v4 (fun v5 => (pq_gA h a0 0 2 (fun b6 => (pq_aA h b6 (1 : Int32) (fun b7 => (pq_gA h a1 1 5 (fun b8 => (pq_aI h b8 x2 (fun v9 => (pq_aI h b7 v9 (fun v10 => (pq_br (v5 = v10) (B_X0_isFrontUp_34 (1 : Int32) Q h) (B_X0_isFrontUp_34 (0 : Int32) Q h))))))))))))))))))))))
set_option maxHeartbeats 4000000 in
set_option maxRecDepth 100000 in
theorem k_X0_isFrontUp (X : pz_X) (d : Nat) (a0 : Nat) (a1 : Nat) (x2 : Int32) (h : pz_H) (Q : Int32 → pz_H → Prop) (hf : F_X0_isFrontUp a0 a1 x2 h Q) : pz_Call X M_X0_isFrontUp (d + 0) 0 0 [.ref a0, .ref a1, .int x2] h (pq_qI Q) := by
  refine pz_call_of (by decide +kernel) (Nat.le_of_ble_eq_true rfl) ?_
  unfold F_X0_isFrontUp at hf
  refine pz_aload_n dX0_isFrontUp_0 rfl ?_
  obtain ⟨_, b1, h1, h2, hf⟩ := hf
  refine pz_get dX0_isFrontUp_1 fl_X0_20 h1 h2 ?_
  refine pz_iconst (v := (0 : Int32)) dX0_isFrontUp_4 (by decide) ?_
  obtain ⟨_, _, b2, h1, h2, h3, hf⟩ := hf
  refine pz_aald2 dX0_isFrontUp_5 h1 h2 ?_
  rw [h3]
  refine pz_aload_n dX0_isFrontUp_6 rfl ?_
  obtain ⟨_, b3, h1, h2, hf⟩ := hf
  refine pz_get dX0_isFrontUp_7 fl_X0_47 h1 h2 ?_
  refine pz_iload_n dX0_isFrontUp_10 rfl ?_
  obtain ⟨_, _, h1, h2, hf⟩ := hf
  refine pz_iald dX0_isFrontUp_11 h1 h2 ?_
  obtain ⟨_, _, h1, h2, hf⟩ := hf
  refine pz_iald dX0_isFrontUp_12 h1 h2 ?_
  refine pz_aload_n dX0_isFrontUp_13 rfl ?_
  obtain ⟨_, b6, h1, h2, hf⟩ := hf
  refine pz_get dX0_isFrontUp_14 fl_X0_20 h1 h2 ?_
  refine pz_iconst (v := (1 : Int32)) dX0_isFrontUp_17 (by decide) ?_
  obtain ⟨_, _, b7, h1, h2, h3, hf⟩ := hf
  refine pz_aald2 dX0_isFrontUp_18 h1 h2 ?_
  rw [h3]
  refine pz_aload_n dX0_isFrontUp_19 rfl ?_
  obtain ⟨_, b8, h1, h2, hf⟩ := hf
  refine pz_get dX0_isFrontUp_20 fl_X0_50 h1 h2 ?_
  refine pz_iload_n dX0_isFrontUp_23 rfl ?_
  obtain ⟨_, _, h1, h2, hf⟩ := hf
  refine pz_iald dX0_isFrontUp_24 h1 h2 ?_
  obtain ⟨_, _, h1, h2, hf⟩ := hf
  refine pz_iald dX0_isFrontUp_25 h1 h2 ?_
  obtain ⟨ha, hb⟩ := hf
  refine pz_icmp_ne dX0_isFrontUp_26 (tgt := 33) (by decide) (fun cc => ?_) (fun cc => ?_)
  · have hf := hb cc
    refine pz_iconst (v := (0 : Int32)) dX0_isFrontUp_33 (by decide) ?_
    exact pz_drop (pz_part_of [] rfl) (kB_X0_isFrontUp_34 X d _ _ _  hf)
  · have hf := ha cc
    refine pz_iconst (v := (1 : Int32)) dX0_isFrontUp_29 (by decide) ?_
    refine pz_goto dX0_isFrontUp_30 (tgt := 34) (by decide) ?_
    exact pz_drop (pz_part_of [] rfl) (kB_X0_isFrontUp_34 X d _ _ _  hf)
def B_X0_unfoldedAt_65 (a0 : Nat) (a1 : Nat) (x2 : Int32) (x3 : Int32) (x4 : Int32) (x5 : Int32) (k6 : Int32 → Int32 → pz_H → Prop) (Q : Int32 → pz_H → Prop) (h : pz_H) : Prop := (k6 x4 (x5 + (1 : Int32)) h)
set_option maxHeartbeats 4000000 in
set_option maxRecDepth 100000 in
theorem kB_X0_unfoldedAt_65 (X : pz_X) (d : Nat) (a0 : Nat) (a1 : Nat) (x2 : Int32) (x3 : Int32) (x4 : Int32) (x5 : Int32)  (k6 : Int32 → Int32 → pz_H → Prop) (Q : Int32 → pz_H → Prop) (h : pz_H) (hk6 : ∀ (x4 : Int32) (x5 : Int32) (h : pz_H), k6 x4 x5 h → pz_W (fun _ => True) X M_X0_unfoldedAt (d + 1) 6 [(0, .ref a0), (1, .ref a1), (2, .int x2), (3, .int x3), (4, .int x4), (5, .int x5)] [] h 0 0 (pq_qI Q)) (hf : B_X0_unfoldedAt_65 a0 a1 x2 x3 x4 x5 k6 Q h) : pz_W (fun _ => True) X M_X0_unfoldedAt (d + 1) 65 [(0, .ref a0), (1, .ref a1), (2, .int x2), (3, .int x3), (4, .int x4), (5, .int x5)] [] h 0 0 (pq_qI Q) := by
  unfold B_X0_unfoldedAt_65 at hf
  refine pz_iinc dX0_unfoldedAt_65 rfl (by rfl) (by decide) rfl ?_
  refine pz_goto dX0_unfoldedAt_68 (tgt := 6) (by decide) ?_
  exact pz_drop (pz_part_of [0, 1, 2, 3, 4, 5] rfl) (hk6 _ _ _ hf)
def L_X0_unfoldedAt_6 (a0 : Nat) (a1 : Nat) (x2 : Int32) (x3 : Int32)  (Q : Int32 → pz_H → Prop) : Nat → Int32 → Int32 → pz_H → Prop
  | 0, _, _, _ => False
  | n + 1, x4, x5, h => (pq_o h a0 0 (F_X0_bands a0 a1 x2 h (fun v2 h1 => (pq_br ((v2 - (1 : Int32)) ≤ x5) (Q x4 h1) (pq_o h1 a0 0 (F_X0_lineBehind a0 a1 x2 x5 h1 (fun v4 h3 => (pq_gI h3 a0 0 0 (fun v5 => (F_X4_has v5 v4 h3 (fun v7 h6 => (pq_br (v7 = 0) (pq_gA h6 a0 0 1 (fun b8 => (pq_aA h6 b8 x2 (fun b9 => (pq_aI h6 b9 (x5 + (1 : Int32)) (fun v10 => (pq_br (v10 = x3) (B_X0_unfoldedAt_65 a0 a1 x2 x3 (x4 ||| ((1 : Int32) <<< (v4 &&& 31))) x5 (fun z0 z1 hz => L_X0_unfoldedAt_6 a0 a1 x2 x3 Q n z0 z1 hz) Q h6) (B_X0_unfoldedAt_65 a0 a1 x2 x3 x4 x5 (fun z0 z1 hz => L_X0_unfoldedAt_6 a0 a1 x2 x3 Q n z0 z1 hz) Q h6)))))))) (B_X0_unfoldedAt_65 a0 a1 x2 x3 x4 x5 (fun z0 z1 hz => L_X0_unfoldedAt_6 a0 a1 x2 x3 Q n z0 z1 hz) Q h6)))))))))))))
set_option maxHeartbeats 4000000 in
set_option maxRecDepth 100000 in
theorem kL_X0_unfoldedAt_6 (X : pz_X) (d : Nat) (a0 : Nat) (a1 : Nat) (x2 : Int32) (x3 : Int32)   (Q : Int32 → pz_H → Prop)  : ∀ (n : Nat) (x4 : Int32) (x5 : Int32) (h : pz_H), L_X0_unfoldedAt_6 a0 a1 x2 x3  Q n x4 x5 h → pz_W (fun _ => True) X M_X0_unfoldedAt (d + 1) 6 [(0, .ref a0), (1, .ref a1), (2, .int x2), (3, .int x3), (4, .int x4), (5, .int x5)] [] h 0 0 (pq_qI Q) := by
  intro n
  induction n with
  | zero =>
    intro _ _ _ hf
    exact False.elim hf
  | succ n ih =>
    intro x4 x5 h hf
    unfold L_X0_unfoldedAt_6 at hf
    refine pz_iload dX0_unfoldedAt_6 rfl ?_
    refine pz_aload_n dX0_unfoldedAt_8 rfl ?_
    refine pz_aload_n dX0_unfoldedAt_9 rfl ?_
    refine pz_iload_n dX0_unfoldedAt_10 rfl ?_
    obtain ⟨_, hO, hf⟩ := hf
    refine pz_callV2 (rc := 0) (rs := 0) (mc := 0) (ms := 0) dX0_unfoldedAt_11 (k_X0_bands X d _ _ _ _ _ hf) (Nat.le_of_ble_eq_true rfl) mf_X0_bands ml_X0_23 hO rfl mi_X0_bands ms_X0_bands (fun _ h9 hq => ?_)
    obtain ⟨_, rfl, hf⟩ := hq
    refine pz_iconst (v := (1 : Int32)) dX0_unfoldedAt_14 (by decide) ?_
    refine pz_isub dX0_unfoldedAt_15 ?_
    obtain ⟨ha, hb⟩ := hf
    refine pz_icmp_ge dX0_unfoldedAt_16 (tgt := 71) (by decide) (fun cc => ?_) (fun cc => ?_)
    · have hf := ha cc
      refine pz_iload dX0_unfoldedAt_71 rfl ?_
      exact pz_ireturn dX0_unfoldedAt_73 rfl rfl ⟨_, rfl, hf⟩
    · have hf := hb cc
      refine pz_aload_n dX0_unfoldedAt_19 rfl ?_
      refine pz_aload_n dX0_unfoldedAt_20 rfl ?_
      refine pz_iload_n dX0_unfoldedAt_21 rfl ?_
      refine pz_iload dX0_unfoldedAt_22 rfl ?_
      obtain ⟨_, hO, hf⟩ := hf
      refine pz_callV3 (rc := 0) (rs := 0) (mc := 0) (ms := 0) dX0_unfoldedAt_24 (k_X0_lineBehind X d _ _ _ _ _ _ hf) (Nat.le_of_ble_eq_true rfl) mf_X0_lineBehind ml_X0_27 hO rfl mi_X0_lineBehind ms_X0_lineBehind (fun _ h9 hq => ?_)
      obtain ⟨_, rfl, hf⟩ := hq
      refine pz_istore dX0_unfoldedAt_27 (by decide) rfl ?_
      refine pz_aload_n dX0_unfoldedAt_29 rfl ?_
      obtain ⟨_, v5, h1, h2, hf⟩ := hf
      refine pz_get dX0_unfoldedAt_30 fl_X0_9 h1 h2 ?_
      refine pz_iload dX0_unfoldedAt_33 rfl ?_
      refine pz_callSN2 (rc := 0) (rs := 0) (mc := 0) (ms := 0) dX0_unfoldedAt_35 (k_X4_has X d _ _ _ _ hf) (Nat.le_of_ble_eq_true rfl) mf_X4_has ml_X0_31 mt_X4_has (fun _ h9 hq => ?_)
      obtain ⟨_, rfl, hf⟩ := hq
      obtain ⟨ha, hb⟩ := hf
      refine pz_if_ne dX0_unfoldedAt_38 (tgt := 65) (by decide) (fun cc => ?_) (fun cc => ?_)
      · have hf := hb cc
        exact pz_drop (pz_part_of [0, 1, 2, 3, 4, 5] rfl) (kB_X0_unfoldedAt_65 X d _ _ _ _ _ _ _ _ _ ih hf)
      · have hf := ha cc
        refine pz_aload_n dX0_unfoldedAt_41 rfl ?_
        obtain ⟨_, b8, h1, h2, hf⟩ := hf
        refine pz_get dX0_unfoldedAt_42 fl_X0_17 h1 h2 ?_
        refine pz_iload_n dX0_unfoldedAt_45 rfl ?_
        obtain ⟨_, _, b9, h1, h2, h3, hf⟩ := hf
        refine pz_aald2 dX0_unfoldedAt_46 h1 h2 ?_
        rw [h3]
        refine pz_iload dX0_unfoldedAt_47 rfl ?_
        refine pz_iconst (v := (1 : Int32)) dX0_unfoldedAt_49 (by decide) ?_
        refine pz_iadd dX0_unfoldedAt_50 ?_
        obtain ⟨_, _, h1, h2, hf⟩ := hf
        refine pz_iald dX0_unfoldedAt_51 h1 h2 ?_
        refine pz_iload_n dX0_unfoldedAt_52 rfl ?_
        obtain ⟨ha, hb⟩ := hf
        refine pz_icmp_ne dX0_unfoldedAt_53 (tgt := 65) (by decide) (fun cc => ?_) (fun cc => ?_)
        · have hf := hb cc
          exact pz_drop (pz_part_of [0, 1, 2, 3, 4, 5] rfl) (kB_X0_unfoldedAt_65 X d _ _ _ _ _ _ _ _ _ ih hf)
        · have hf := ha cc
          refine pz_iload dX0_unfoldedAt_56 rfl ?_
          refine pz_iconst (v := (1 : Int32)) dX0_unfoldedAt_58 (by decide) ?_
          refine pz_iload dX0_unfoldedAt_59 rfl ?_
          refine pz_ishl dX0_unfoldedAt_61 ?_
          refine pz_ior dX0_unfoldedAt_62 ?_
          refine pz_istore dX0_unfoldedAt_63 (by decide) rfl ?_
          exact pz_drop (pz_part_of [0, 1, 2, 3, 4, 5] rfl) (kB_X0_unfoldedAt_65 X d _ _ _ _ _ _ _ _ _ ih hf)
def F_X0_unfoldedAt (a0 : Nat) (a1 : Nat) (x2 : Int32) (x3 : Int32) (h : pz_H) (Q : Int32 → pz_H → Prop) : Prop := (pq_ex (fun m6 => L_X0_unfoldedAt_6 a0 a1 x2 x3 Q m6 (0 : Int32) (0 : Int32) h))
set_option maxHeartbeats 4000000 in
set_option maxRecDepth 100000 in
theorem k_X0_unfoldedAt (X : pz_X) (d : Nat) (a0 : Nat) (a1 : Nat) (x2 : Int32) (x3 : Int32) (h : pz_H) (Q : Int32 → pz_H → Prop) (hf : F_X0_unfoldedAt a0 a1 x2 x3 h Q) : pz_Call X M_X0_unfoldedAt (d + 1) 0 0 [.ref a0, .ref a1, .int x2, .int x3] h (pq_qI Q) := by
  refine pz_call_of (by decide +kernel) (Nat.le_of_ble_eq_true rfl) ?_
  unfold F_X0_unfoldedAt at hf
  refine pz_iconst (v := (0 : Int32)) dX0_unfoldedAt_0 (by decide) ?_
  refine pz_istore dX0_unfoldedAt_1 (by decide) rfl ?_
  refine pz_iconst (v := (0 : Int32)) dX0_unfoldedAt_3 (by decide) ?_
  refine pz_istore dX0_unfoldedAt_4 (by decide) rfl ?_
  obtain ⟨n9, hf⟩ := hf
  exact pz_drop (pz_part_of [0, 1, 2, 3, 4, 5] rfl) (kL_X0_unfoldedAt_6 X d _ _ _ _ _  n9 _ _ _ hf)
def L_X0_isWithinOne_3 (a0 : Nat) (a1 : Nat) (x2 : Int32) (x3 : Int32)  (Q : Int32 → pz_H → Prop) : Nat → Int32 → pz_H → Prop
  | 0, _, _ => False
  | n + 1, x4, h => (pq_o h a0 0 (F_X0_bands a0 a1 x2 h (fun v2 h1 => (pq_br (v2 ≤ x4) (Q (0 : Int32) h1) (pq_gA h1 a0 0 1 (fun b3 => (pq_aA h1 b3 x2 (fun b4 => (pq_aI h1 b4 x4 (fun v5 => (pq_gA h1 a0 0 1 (fun b6 => (pq_aA h1 b6 x2 (fun b7 => (pq_aI h1 b7 (x4 + (1 : Int32)) (fun v8 => (F_X1_isBetween x3 v5 v8 h1 (fun v10 h9 => (pq_br (v10 = 0) (L_X0_isWithinOne_3 a0 a1 x2 x3 Q n (x4 + (1 : Int32)) h9) (Q (1 : Int32) h9))))))))))))))))))))
set_option maxHeartbeats 4000000 in
set_option maxRecDepth 100000 in
theorem kL_X0_isWithinOne_3 (X : pz_X) (d : Nat) (a0 : Nat) (a1 : Nat) (x2 : Int32) (x3 : Int32)   (Q : Int32 → pz_H → Prop)  : ∀ (n : Nat) (x4 : Int32) (h : pz_H), L_X0_isWithinOne_3 a0 a1 x2 x3  Q n x4 h → pz_W (fun _ => True) X M_X0_isWithinOne (d + 2) 3 [(0, .ref a0), (1, .ref a1), (2, .int x2), (3, .int x3), (4, .int x4)] [] h 0 0 (pq_qI Q) := by
  intro n
  induction n with
  | zero =>
    intro _ _ hf
    exact False.elim hf
  | succ n ih =>
    intro x4 h hf
    unfold L_X0_isWithinOne_3 at hf
    refine pz_iload dX0_isWithinOne_3 rfl ?_
    refine pz_aload_n dX0_isWithinOne_5 rfl ?_
    refine pz_aload_n dX0_isWithinOne_6 rfl ?_
    refine pz_iload_n dX0_isWithinOne_7 rfl ?_
    obtain ⟨_, hO, hf⟩ := hf
    refine pz_callV2 (rc := 0) (rs := 0) (mc := 0) (ms := 0) dX0_isWithinOne_8 (k_X0_bands X (d + 1) _ _ _ _ _ hf) (Nat.le_of_ble_eq_true rfl) mf_X0_bands ml_X0_23 hO rfl mi_X0_bands ms_X0_bands (fun _ h9 hq => ?_)
    obtain ⟨_, rfl, hf⟩ := hq
    obtain ⟨ha, hb⟩ := hf
    refine pz_icmp_ge dX0_isWithinOne_11 (tgt := 49) (by decide) (fun cc => ?_) (fun cc => ?_)
    · have hf := ha cc
      refine pz_iconst (v := (0 : Int32)) dX0_isWithinOne_49 (by decide) ?_
      exact pz_ireturn dX0_isWithinOne_50 rfl rfl ⟨_, rfl, hf⟩
    · have hf := hb cc
      refine pz_iload_n dX0_isWithinOne_14 rfl ?_
      refine pz_aload_n dX0_isWithinOne_15 rfl ?_
      obtain ⟨_, b3, h1, h2, hf⟩ := hf
      refine pz_get dX0_isWithinOne_16 fl_X0_17 h1 h2 ?_
      refine pz_iload_n dX0_isWithinOne_19 rfl ?_
      obtain ⟨_, _, b4, h1, h2, h3, hf⟩ := hf
      refine pz_aald2 dX0_isWithinOne_20 h1 h2 ?_
      rw [h3]
      refine pz_iload dX0_isWithinOne_21 rfl ?_
      obtain ⟨_, _, h1, h2, hf⟩ := hf
      refine pz_iald dX0_isWithinOne_23 h1 h2 ?_
      refine pz_aload_n dX0_isWithinOne_24 rfl ?_
      obtain ⟨_, b6, h1, h2, hf⟩ := hf
      refine pz_get dX0_isWithinOne_25 fl_X0_17 h1 h2 ?_
      refine pz_iload_n dX0_isWithinOne_28 rfl ?_
      obtain ⟨_, _, b7, h1, h2, h3, hf⟩ := hf
      refine pz_aald2 dX0_isWithinOne_29 h1 h2 ?_
      rw [h3]
      refine pz_iload dX0_isWithinOne_30 rfl ?_
      refine pz_iconst (v := (1 : Int32)) dX0_isWithinOne_32 (by decide) ?_
      refine pz_iadd dX0_isWithinOne_33 ?_
      obtain ⟨_, _, h1, h2, hf⟩ := hf
      refine pz_iald dX0_isWithinOne_34 h1 h2 ?_
      refine pz_callS3 (rc := 0) (rs := 0) (mc := 0) (ms := 0) dX0_isWithinOne_35 (k_X1_isBetween X d _ _ _ _ _ hf) (Nat.le_of_ble_eq_true rfl) mf_X1_isBetween ml_X0_64 mt_X1_isBetween (fun _ h9 hq => ?_)
      obtain ⟨_, rfl, hf⟩ := hq
      obtain ⟨ha, hb⟩ := hf
      refine pz_if_eq dX0_isWithinOne_38 (tgt := 43) (by decide) (fun cc => ?_) (fun cc => ?_)
      · have hf := ha cc
        refine pz_iinc dX0_isWithinOne_43 rfl (by rfl) (by decide) rfl ?_
        refine pz_goto dX0_isWithinOne_46 (tgt := 3) (by decide) ?_
        exact pz_drop (pz_part_of [0, 1, 2, 3, 4] rfl) (ih _ _ hf)
      · have hf := hb cc
        refine pz_iconst (v := (1 : Int32)) dX0_isWithinOne_41 (by decide) ?_
        exact pz_ireturn dX0_isWithinOne_42 rfl rfl ⟨_, rfl, hf⟩
def F_X0_isWithinOne (a0 : Nat) (a1 : Nat) (x2 : Int32) (x3 : Int32) (h : pz_H) (Q : Int32 → pz_H → Prop) : Prop := (pq_ex (fun m3 => L_X0_isWithinOne_3 a0 a1 x2 x3 Q m3 (0 : Int32) h))
set_option maxHeartbeats 4000000 in
set_option maxRecDepth 100000 in
theorem k_X0_isWithinOne (X : pz_X) (d : Nat) (a0 : Nat) (a1 : Nat) (x2 : Int32) (x3 : Int32) (h : pz_H) (Q : Int32 → pz_H → Prop) (hf : F_X0_isWithinOne a0 a1 x2 x3 h Q) : pz_Call X M_X0_isWithinOne (d + 2) 0 0 [.ref a0, .ref a1, .int x2, .int x3] h (pq_qI Q) := by
  refine pz_call_of (by decide +kernel) (Nat.le_of_ble_eq_true rfl) ?_
  unfold F_X0_isWithinOne at hf
  refine pz_iconst (v := (0 : Int32)) dX0_isWithinOne_0 (by decide) ?_
  refine pz_istore dX0_isWithinOne_1 (by decide) rfl ?_
  obtain ⟨n9, hf⟩ := hf
  exact pz_drop (pz_part_of [0, 1, 2, 3, 4] rfl) (kL_X0_isWithinOne_3 X d _ _ _ _ _  n9 _ _ hf)
def B_X0_marksAllow_73 (a0 : Nat) (a1 : Nat) (x2 : Int32) (x3 : Int32) (x4 : Int32) (k3 : Int32 → pz_H → Prop) (Q : Int32 → pz_H → Prop) (h : pz_H) : Prop := (k3 (x4 + (1 : Int32)) h)
set_option maxHeartbeats 4000000 in
set_option maxRecDepth 100000 in
theorem kB_X0_marksAllow_73 (X : pz_X) (d : Nat) (a0 : Nat) (a1 : Nat) (x2 : Int32) (x3 : Int32) (x4 : Int32)  (k3 : Int32 → pz_H → Prop) (Q : Int32 → pz_H → Prop) (h : pz_H) (hk3 : ∀ (x4 : Int32) (h : pz_H), k3 x4 h → pz_W (fun _ => True) X M_X0_marksAllow (d + 1) 3 [(0, .ref a0), (1, .ref a1), (2, .int x2), (3, .int x3), (4, .int x4)] [] h 0 0 (pq_qI Q)) (hf : B_X0_marksAllow_73 a0 a1 x2 x3 x4 k3 Q h) : pz_W (fun _ => True) X M_X0_marksAllow (d + 1) 73 [(0, .ref a0), (1, .ref a1), (2, .int x2), (3, .int x3), (4, .int x4)] [] h 0 0 (pq_qI Q) := by
  unfold B_X0_marksAllow_73 at hf
  refine pz_iinc dX0_marksAllow_73 rfl (by rfl) (by decide) rfl ?_
  refine pz_goto dX0_marksAllow_76 (tgt := 3) (by decide) ?_
  exact pz_drop (pz_part_of [0, 1, 2, 3, 4] rfl) (hk3 _ _ hf)
def B_X0_marksAllow_57 (a0 : Nat) (a1 : Nat) (x2 : Int32) (x3 : Int32) (x4 : Int32) (xs0 : Int32) (k3 : Int32 → pz_H → Prop) (Q : Int32 → pz_H → Prop) (h : pz_H) : Prop := (pq_gA h a1 1 12 (fun b12 => (pq_aI h b12 x4 (fun v13 => (pq_br (v13 = xs0) (B_X0_marksAllow_73 a0 a1 x2 x3 x4 k3 Q h) (Q (0 : Int32) h))))))
set_option maxHeartbeats 4000000 in
set_option maxRecDepth 100000 in
theorem kB_X0_marksAllow_57 (X : pz_X) (d : Nat) (a0 : Nat) (a1 : Nat) (x2 : Int32) (x3 : Int32) (x4 : Int32) (xs0 : Int32)  (k3 : Int32 → pz_H → Prop) (Q : Int32 → pz_H → Prop) (h : pz_H) (hk3 : ∀ (x4 : Int32) (h : pz_H), k3 x4 h → pz_W (fun _ => True) X M_X0_marksAllow (d + 1) 3 [(0, .ref a0), (1, .ref a1), (2, .int x2), (3, .int x3), (4, .int x4)] [] h 0 0 (pq_qI Q)) (hf : B_X0_marksAllow_57 a0 a1 x2 x3 x4 xs0 k3 Q h) : pz_W (fun _ => True) X M_X0_marksAllow (d + 1) 57 [(0, .ref a0), (1, .ref a1), (2, .int x2), (3, .int x3), (4, .int x4)] [.int xs0] h 0 0 (pq_qI Q) := by
  unfold B_X0_marksAllow_57 at hf
  refine pz_istore dX0_marksAllow_57 (by decide) rfl ?_
  refine pz_aload_n dX0_marksAllow_59 rfl ?_
  obtain ⟨_, b12, h1, h2, hf⟩ := hf
  refine pz_get dX0_marksAllow_60 fl_X0_74 h1 h2 ?_
  refine pz_iload dX0_marksAllow_63 rfl ?_
  obtain ⟨_, _, h1, h2, hf⟩ := hf
  refine pz_iald dX0_marksAllow_65 h1 h2 ?_
  refine pz_iload dX0_marksAllow_66 rfl ?_
  obtain ⟨ha, hb⟩ := hf
  refine pz_icmp_eq dX0_marksAllow_68 (tgt := 73) (by decide) (fun cc => ?_) (fun cc => ?_)
  · have hf := ha cc
    exact pz_drop (pz_part_of [0, 1, 2, 3, 4] rfl) (kB_X0_marksAllow_73 X d _ _ _ _ _ _ _ _ hk3 hf)
  · have hf := hb cc
    refine pz_iconst (v := (0 : Int32)) dX0_marksAllow_71 (by decide) ?_
    exact pz_ireturn dX0_marksAllow_72 rfl rfl ⟨_, rfl, hf⟩
def L_X0_marksAllow_3 (a0 : Nat) (a1 : Nat) (x2 : Int32) (x3 : Int32)  (Q : Int32 → pz_H → Prop) : Nat → Int32 → pz_H → Prop
  | 0, _, _ => False
  | n + 1, x4, h => (pq_gI h a1 1 4 (fun v1 => (pq_br (v1 ≤ x4) (Q (1 : Int32) h) (pq_gA h a1 1 11 (fun b2 => (pq_aI h b2 x4 (fun v3 => (F_X4_has x2 v3 h (fun v5 h4 => (pq_br (v5 = 0) (B_X0_marksAllow_73 a0 a1 x2 x3 x4 (fun z0 hz => L_X0_marksAllow_3 a0 a1 x2 x3 Q n z0 hz) Q h4) (pq_gA h4 a1 1 12 (fun b6 => (pq_aI h4 b6 x4 (fun v7 => (pq_br (v7 = 0) (B_X0_marksAllow_73 a0 a1 x2 x3 x4 (fun z0 hz => L_X0_marksAllow_3 a0 a1 x2 x3 Q n z0 hz) Q h4) (pq_gA h4 a1 1 9 (fun b8 => (pq_aI h4 b8 x4 (fun v9 => (pq_o h4 a0 0 (F_X0_isFrontUp a0 a1 v9 h4 (fun v11 h10 => (pq_br (v11 = x3) (B_X0_marksAllow_57 a0 a1 x2 x3 x4 (1 : Int32) (fun z0 hz => L_X0_marksAllow_3 a0 a1 x2 x3 Q n z0 hz) Q h10) (B_X0_marksAllow_57 a0 a1 x2 x3 x4 (2 : Int32) (fun z0 hz => L_X0_marksAllow_3 a0 a1 x2 x3 Q n z0 hz) Q h10))))))))))))))))))))))))
set_option maxHeartbeats 4000000 in
set_option maxRecDepth 100000 in
theorem kL_X0_marksAllow_3 (X : pz_X) (d : Nat) (a0 : Nat) (a1 : Nat) (x2 : Int32) (x3 : Int32)   (Q : Int32 → pz_H → Prop)  : ∀ (n : Nat) (x4 : Int32) (h : pz_H), L_X0_marksAllow_3 a0 a1 x2 x3  Q n x4 h → pz_W (fun _ => True) X M_X0_marksAllow (d + 1) 3 [(0, .ref a0), (1, .ref a1), (2, .int x2), (3, .int x3), (4, .int x4)] [] h 0 0 (pq_qI Q) := by
  intro n
  induction n with
  | zero =>
    intro _ _ hf
    exact False.elim hf
  | succ n ih =>
    intro x4 h hf
    unfold L_X0_marksAllow_3 at hf
    refine pz_iload dX0_marksAllow_3 rfl ?_
    refine pz_aload_n dX0_marksAllow_5 rfl ?_
    obtain ⟨_, v1, h1, h2, hf⟩ := hf
    refine pz_get dX0_marksAllow_6 fl_X0_68 h1 h2 ?_
    obtain ⟨ha, hb⟩ := hf
    refine pz_icmp_ge dX0_marksAllow_9 (tgt := 79) (by decide) (fun cc => ?_) (fun cc => ?_)
    · have hf := ha cc
      refine pz_iconst (v := (1 : Int32)) dX0_marksAllow_79 (by decide) ?_
      exact pz_ireturn dX0_marksAllow_80 rfl rfl ⟨_, rfl, hf⟩
    · have hf := hb cc
      refine pz_iload_n dX0_marksAllow_12 rfl ?_
      refine pz_aload_n dX0_marksAllow_13 rfl ?_
      obtain ⟨_, b2, h1, h2, hf⟩ := hf
      refine pz_get dX0_marksAllow_14 fl_X0_71 h1 h2 ?_
      refine pz_iload dX0_marksAllow_17 rfl ?_
      obtain ⟨_, _, h1, h2, hf⟩ := hf
      refine pz_iald dX0_marksAllow_19 h1 h2 ?_
      refine pz_callSN2 (rc := 0) (rs := 0) (mc := 0) (ms := 0) dX0_marksAllow_20 (k_X4_has X d _ _ _ _ hf) (Nat.le_of_ble_eq_true rfl) mf_X4_has ml_X0_31 mt_X4_has (fun _ h9 hq => ?_)
      obtain ⟨_, rfl, hf⟩ := hq
      obtain ⟨ha, hb⟩ := hf
      refine pz_if_eq dX0_marksAllow_23 (tgt := 73) (by decide) (fun cc => ?_) (fun cc => ?_)
      · have hf := ha cc
        exact pz_drop (pz_part_of [0, 1, 2, 3, 4] rfl) (kB_X0_marksAllow_73 X d _ _ _ _ _ _ _ _ ih hf)
      · have hf := hb cc
        refine pz_aload_n dX0_marksAllow_26 rfl ?_
        obtain ⟨_, b6, h1, h2, hf⟩ := hf
        refine pz_get dX0_marksAllow_27 fl_X0_74 h1 h2 ?_
        refine pz_iload dX0_marksAllow_30 rfl ?_
        obtain ⟨_, _, h1, h2, hf⟩ := hf
        refine pz_iald dX0_marksAllow_32 h1 h2 ?_
        obtain ⟨ha, hb⟩ := hf
        refine pz_if_eq dX0_marksAllow_33 (tgt := 73) (by decide) (fun cc => ?_) (fun cc => ?_)
        · have hf := ha cc
          exact pz_drop (pz_part_of [0, 1, 2, 3, 4] rfl) (kB_X0_marksAllow_73 X d _ _ _ _ _ _ _ _ ih hf)
        · have hf := hb cc
          refine pz_aload_n dX0_marksAllow_36 rfl ?_
          refine pz_aload_n dX0_marksAllow_37 rfl ?_
          refine pz_aload_n dX0_marksAllow_38 rfl ?_
          obtain ⟨_, b8, h1, h2, hf⟩ := hf
          refine pz_get dX0_marksAllow_39 fl_X0_77 h1 h2 ?_
          refine pz_iload dX0_marksAllow_42 rfl ?_
          obtain ⟨_, _, h1, h2, hf⟩ := hf
          refine pz_iald dX0_marksAllow_44 h1 h2 ?_
          obtain ⟨_, hO, hf⟩ := hf
          refine pz_callV2 (rc := 0) (rs := 0) (mc := 0) (ms := 0) dX0_marksAllow_45 (k_X0_isFrontUp X d _ _ _ _ _ hf) (Nat.le_of_ble_eq_true rfl) mf_X0_isFrontUp ml_X0_80 hO rfl mi_X0_isFrontUp ms_X0_isFrontUp (fun _ h9 hq => ?_)
          obtain ⟨_, rfl, hf⟩ := hq
          refine pz_iload_n dX0_marksAllow_48 rfl ?_
          obtain ⟨ha, hb⟩ := hf
          refine pz_icmp_eq dX0_marksAllow_49 (tgt := 56) (by decide) (fun cc => ?_) (fun cc => ?_)
          · have hf := ha cc
            refine pz_iconst (v := (1 : Int32)) dX0_marksAllow_56 (by decide) ?_
            exact pz_drop (pz_part_of [0, 1, 2, 3, 4] rfl) (kB_X0_marksAllow_57 X d _ _ _ _ _ _ _ _ _ ih hf)
          · have hf := hb cc
            refine pz_iconst (v := (2 : Int32)) dX0_marksAllow_52 (by decide) ?_
            refine pz_goto dX0_marksAllow_53 (tgt := 57) (by decide) ?_
            exact pz_drop (pz_part_of [0, 1, 2, 3, 4] rfl) (kB_X0_marksAllow_57 X d _ _ _ _ _ _ _ _ _ ih hf)
def F_X0_marksAllow (a0 : Nat) (a1 : Nat) (x2 : Int32) (x3 : Int32) (h : pz_H) (Q : Int32 → pz_H → Prop) : Prop := (pq_ex (fun m3 => L_X0_marksAllow_3 a0 a1 x2 x3 Q m3 (0 : Int32) h))
set_option maxHeartbeats 4000000 in
set_option maxRecDepth 100000 in
theorem k_X0_marksAllow (X : pz_X) (d : Nat) (a0 : Nat) (a1 : Nat) (x2 : Int32) (x3 : Int32) (h : pz_H) (Q : Int32 → pz_H → Prop) (hf : F_X0_marksAllow a0 a1 x2 x3 h Q) : pz_Call X M_X0_marksAllow (d + 1) 0 0 [.ref a0, .ref a1, .int x2, .int x3] h (pq_qI Q) := by
  refine pz_call_of (by decide +kernel) (Nat.le_of_ble_eq_true rfl) ?_
  unfold F_X0_marksAllow at hf
  refine pz_iconst (v := (0 : Int32)) dX0_marksAllow_0 (by decide) ?_
  refine pz_istore dX0_marksAllow_1 (by decide) rfl ?_
  obtain ⟨n9, hf⟩ := hf
  exact pz_drop (pz_part_of [0, 1, 2, 3, 4] rfl) (kL_X0_marksAllow_3 X d _ _ _ _ _  n9 _ _ hf)
def B_X0_linesFoldedBy_63 (xs0 : Int32)  (Q : Int32 → pz_H → Prop) (h : pz_H) : Prop := (Q xs0 h)
set_option maxHeartbeats 4000000 in
set_option maxRecDepth 100000 in
theorem kB_X0_linesFoldedBy_63 (X : pz_X) (d : Nat) (xs0 : Int32)   (Q : Int32 → pz_H → Prop) (h : pz_H)  (hf : B_X0_linesFoldedBy_63 xs0  Q h) : pz_W (fun _ => True) X M_X0_linesFoldedBy (d + 3) 63 [] [.int xs0] h 0 0 (pq_qI Q) := by
  unfold B_X0_linesFoldedBy_63 at hf
  exact pz_ireturn dX0_linesFoldedBy_63 rfl rfl ⟨_, rfl, hf⟩
def B_X0_linesFoldedBy_57   (Q : Int32 → pz_H → Prop) (h : pz_H) : Prop := (B_X0_linesFoldedBy_63 (0 : Int32) Q h)
set_option maxHeartbeats 4000000 in
set_option maxRecDepth 100000 in
theorem kB_X0_linesFoldedBy_57 (X : pz_X) (d : Nat)    (Q : Int32 → pz_H → Prop) (h : pz_H)  (hf : B_X0_linesFoldedBy_57   Q h) : pz_W (fun _ => True) X M_X0_linesFoldedBy (d + 3) 57 [] [] h 0 0 (pq_qI Q) := by
  unfold B_X0_linesFoldedBy_57 at hf
  refine pz_iconst (v := (0 : Int32)) dX0_linesFoldedBy_57 (by decide) ?_
  refine pz_goto dX0_linesFoldedBy_58 (tgt := 63) (by decide) ?_
  exact pz_drop (pz_part_of [] rfl) (kB_X0_linesFoldedBy_63 X d _ _ _  hf)
def B_X0_linesFoldedBy_22 (a0 : Nat) (a1 : Nat) (x3 : Int32) (x4 : Int32) (xs0 : Int32)  (Q : Int32 → pz_H → Prop) (h : pz_H) : Prop := (pq_o h a0 0 (F_X0_unfoldedAt a0 a1 x3 x4 h (fun v2 h1 => (pq_o h1 a0 0 (F_X0_isWithinOne a0 a1 x3 x4 h1 (fun v4 h3 => (pq_br (v4 = 0) (pq_o h3 a0 0 (F_X0_marksAllow a0 a1 v2 xs0 h3 (fun v6 h5 => (pq_br (v6 = 0) (B_X0_linesFoldedBy_57 Q h5) (B_X0_linesFoldedBy_63 v2 Q h5))))) (B_X0_linesFoldedBy_57 Q h3))))))))
set_option maxHeartbeats 4000000 in
set_option maxRecDepth 100000 in
theorem kB_X0_linesFoldedBy_22 (X : pz_X) (d : Nat) (a0 : Nat) (a1 : Nat) (x3 : Int32) (x4 : Int32) (xs0 : Int32)   (Q : Int32 → pz_H → Prop) (h : pz_H)  (hf : B_X0_linesFoldedBy_22 a0 a1 x3 x4 xs0  Q h) : pz_W (fun _ => True) X M_X0_linesFoldedBy (d + 3) 22 [(0, .ref a0), (1, .ref a1), (3, .int x3), (4, .int x4)] [.int xs0] h 0 0 (pq_qI Q) := by
  unfold B_X0_linesFoldedBy_22 at hf
  refine pz_istore dX0_linesFoldedBy_22 (by decide) rfl ?_
  refine pz_aload_n dX0_linesFoldedBy_24 rfl ?_
  refine pz_aload_n dX0_linesFoldedBy_25 rfl ?_
  refine pz_iload_n dX0_linesFoldedBy_26 rfl ?_
  refine pz_iload dX0_linesFoldedBy_27 rfl ?_
  obtain ⟨_, hO, hf⟩ := hf
  refine pz_callV3 (rc := 0) (rs := 0) (mc := 0) (ms := 0) dX0_linesFoldedBy_29 (k_X0_unfoldedAt X (d + 1) _ _ _ _ _ _ hf) (Nat.le_of_ble_eq_true rfl) mf_X0_unfoldedAt ml_X0_53 hO rfl mi_X0_unfoldedAt ms_X0_unfoldedAt (fun _ h9 hq => ?_)
  obtain ⟨_, rfl, hf⟩ := hq
  refine pz_istore dX0_linesFoldedBy_32 (by decide) rfl ?_
  refine pz_aload_n dX0_linesFoldedBy_34 rfl ?_
  refine pz_aload_n dX0_linesFoldedBy_35 rfl ?_
  refine pz_iload_n dX0_linesFoldedBy_36 rfl ?_
  refine pz_iload dX0_linesFoldedBy_37 rfl ?_
  obtain ⟨_, hO, hf⟩ := hf
  refine pz_callV3 (rc := 0) (rs := 0) (mc := 0) (ms := 0) dX0_linesFoldedBy_39 (k_X0_isWithinOne X d _ _ _ _ _ _ hf) (Nat.le_of_ble_eq_true rfl) mf_X0_isWithinOne ml_X0_56 hO rfl mi_X0_isWithinOne ms_X0_isWithinOne (fun _ h9 hq => ?_)
  obtain ⟨_, rfl, hf⟩ := hq
  obtain ⟨ha, hb⟩ := hf
  refine pz_if_ne dX0_linesFoldedBy_42 (tgt := 57) (by decide) (fun cc => ?_) (fun cc => ?_)
  · have hf := hb cc
    exact pz_drop (pz_part_of [] rfl) (kB_X0_linesFoldedBy_57 X d _ _  hf)
  · have hf := ha cc
    refine pz_aload_n dX0_linesFoldedBy_45 rfl ?_
    refine pz_aload_n dX0_linesFoldedBy_46 rfl ?_
    refine pz_iload dX0_linesFoldedBy_47 rfl ?_
    refine pz_iload dX0_linesFoldedBy_49 rfl ?_
    obtain ⟨_, hO, hf⟩ := hf
    refine pz_callV3 (rc := 0) (rs := 0) (mc := 0) (ms := 0) dX0_linesFoldedBy_51 (k_X0_marksAllow X (d + 1) _ _ _ _ _ _ hf) (Nat.le_of_ble_eq_true rfl) mf_X0_marksAllow ml_X0_60 hO rfl mi_X0_marksAllow ms_X0_marksAllow (fun _ h9 hq => ?_)
    obtain ⟨_, rfl, hf⟩ := hq
    obtain ⟨ha, hb⟩ := hf
    refine pz_if_ne dX0_linesFoldedBy_54 (tgt := 61) (by decide) (fun cc => ?_) (fun cc => ?_)
    · have hf := hb cc
      refine pz_iload dX0_linesFoldedBy_61 rfl ?_
      exact pz_drop (pz_part_of [] rfl) (kB_X0_linesFoldedBy_63 X d _ _ _  hf)
    · have hf := ha cc
      exact pz_drop (pz_part_of [] rfl) (kB_X0_linesFoldedBy_57 X d _ _  hf)
def F_X0_linesFoldedBy (a0 : Nat) (a1 : Nat) (x2 : Int32) (h : pz_H) (Q : Int32 → pz_H → Prop) : Prop := (pq_br ((x2 &&& (1 : Int32)) = 0) (B_X0_linesFoldedBy_22 a0 a1 ((x2 >>> ((1 : Int32) &&& 31)) &&& (1 : Int32)) (x2 >>> ((2 : Int32) &&& 31)) (0 : Int32) Q h) (B_X0_linesFoldedBy_22 a0 a1 ((x2 >>> ((1 : Int32) &&& 31)) &&& (1 : Int32)) (x2 >>> ((2 : Int32) &&& 31)) (1 : Int32) Q h))
set_option maxHeartbeats 4000000 in
set_option maxRecDepth 100000 in
theorem k_X0_linesFoldedBy (X : pz_X) (d : Nat) (a0 : Nat) (a1 : Nat) (x2 : Int32) (h : pz_H) (Q : Int32 → pz_H → Prop) (hf : F_X0_linesFoldedBy a0 a1 x2 h Q) : pz_Call X M_X0_linesFoldedBy (d + 3) 0 0 [.ref a0, .ref a1, .int x2] h (pq_qI Q) := by
  refine pz_call_of (by decide +kernel) (Nat.le_of_ble_eq_true rfl) ?_
  unfold F_X0_linesFoldedBy at hf
  refine pz_iload_n dX0_linesFoldedBy_0 rfl ?_
  refine pz_iconst (v := (1 : Int32)) dX0_linesFoldedBy_1 (by decide) ?_
  refine pz_ishr dX0_linesFoldedBy_2 ?_
  refine pz_iconst (v := (1 : Int32)) dX0_linesFoldedBy_3 (by decide) ?_
  refine pz_iand dX0_linesFoldedBy_4 ?_
  refine pz_istore_n dX0_linesFoldedBy_5 rfl (by decide) rfl ?_
  refine pz_iload_n dX0_linesFoldedBy_6 rfl ?_
  refine pz_iconst (v := (2 : Int32)) dX0_linesFoldedBy_7 (by decide) ?_
  refine pz_ishr dX0_linesFoldedBy_8 ?_
  refine pz_istore dX0_linesFoldedBy_9 (by decide) rfl ?_
  refine pz_iload_n dX0_linesFoldedBy_11 rfl ?_
  refine pz_iconst (v := (1 : Int32)) dX0_linesFoldedBy_12 (by decide) ?_
  refine pz_iand dX0_linesFoldedBy_13 ?_
  obtain ⟨ha, hb⟩ := hf
  refine pz_if_eq dX0_linesFoldedBy_14 (tgt := 21) (by decide) (fun cc => ?_) (fun cc => ?_)
  · have hf := ha cc
    refine pz_iconst (v := (0 : Int32)) dX0_linesFoldedBy_21 (by decide) ?_
    exact pz_drop (pz_part_of [0, 1, 3, 4] rfl) (kB_X0_linesFoldedBy_22 X d _ _ _ _ _ _ _  hf)
  · have hf := hb cc
    refine pz_iconst (v := (1 : Int32)) dX0_linesFoldedBy_17 (by decide) ?_
    refine pz_goto dX0_linesFoldedBy_18 (tgt := 22) (by decide) ?_
    exact pz_drop (pz_part_of [0, 1, 3, 4] rfl) (kB_X0_linesFoldedBy_22 X d _ _ _ _ _ _ _  hf)
