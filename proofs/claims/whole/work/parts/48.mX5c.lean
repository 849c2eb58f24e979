def B_X5_foldings_105 (a0 : Nat) (x1 : Int32) (x3 : Int32) (xs0 : Int32) (xs1 : Int32) (k40 : Int32 → pz_H → Prop) (Q : Int32 → pz_H → Prop) (h : pz_H) : Prop := (pq_gA h a0 5 22 (fun b12 => (pq_sZ h b12 x3 (1 : Int32) (fun h13 => (k40 (xs0 + xs1) h13)))))
set_option maxHeartbeats 4000000 in
set_option maxRecDepth 100000 in
theorem kB_X5_foldings_105 (X : pz_X) (d : Nat) (a0 : Nat) (x1 : Int32) (x3 : Int32) (xs0 : Int32) (xs1 : Int32)  (k40 : Int32 → pz_H → Prop) (Q : Int32 → pz_H → Prop) (h : pz_H) (hk40 : ∀ (x2 : Int32) (h : pz_H), k40 x2 h → pz_W (fun _ => True) X M_X5_foldings (d + 5) 40 [(0, .ref a0), (1, .int x1), (2, .int x2)] [] h 0 0 (pq_qI Q)) (hf : B_X5_foldings_105 a0 x1 x3 xs0 xs1 k40 Q h) : pz_W (fun _ => True) X M_X5_foldings (d + 5) 105 [(0, .ref a0), (1, .int x1), (3, .int x3)] [.int xs1, .int xs0] h 0 0 (pq_qI Q) := by
  unfold B_X5_foldings_105 at hf
  refine pz_iadd dX5_foldings_105 ?_
  refine pz_istore_n dX5_foldings_106 rfl (by decide) rfl ?_
  refine pz_aload_n dX5_foldings_107 rfl ?_
  obtain ⟨_, b12, h1, h2, hf⟩ := hf
  refine pz_get dX5_foldings_108 fl_X5_65 h1 h2 ?_
  refine pz_iload_n dX5_foldings_111 rfl ?_
  refine pz_iconst (v := (1 : Int32)) dX5_foldings_112 (by decide) ?_
  obtain ⟨_, _, h1, h2, hf⟩ := hf
  refine pz_zast dX5_foldings_113 h1 h2 ?_
  refine pz_goto dX5_foldings_114 (tgt := 40) (by decide) ?_
  exact pz_drop (pz_part_of [0, 1, 2] rfl) (hk40 _ _ hf)
def B_X5_foldings_82 (a0 : Nat) (x1 : Int32) (x2 : Int32) (x4 : Int32) (xs0 : Int32) (xs1 : Int32) (k40 : Int32 → pz_H → Prop) (k52 : Int32 → Int32 → pz_H → Prop) (Q : Int32 → pz_H → Prop) (h : pz_H) : Prop := (k52 (xs0 ||| xs1) (x4 + (1 : Int32)) h)
set_option maxHeartbeats 4000000 in
set_option maxRecDepth 100000 in
theorem kB_X5_foldings_82 (X : pz_X) (d : Nat) (a0 : Nat) (x1 : Int32) (x2 : Int32) (x4 : Int32) (xs0 : Int32) (xs1 : Int32)  (k40 : Int32 → pz_H → Prop) (k52 : Int32 → Int32 → pz_H → Prop) (Q : Int32 → pz_H → Prop) (h : pz_H) (hk40 : ∀ (x2 : Int32) (h : pz_H), k40 x2 h → pz_W (fun _ => True) X M_X5_foldings (d + 5) 40 [(0, .ref a0), (1, .int x1), (2, .int x2)] [] h 0 0 (pq_qI Q)) (hk52 : ∀ (x3 : Int32) (x4 : Int32) (h : pz_H), k52 x3 x4 h → pz_W (fun _ => True) X M_X5_foldings (d + 5) 52 [(0, .ref a0), (1, .int x1), (2, .int x2), (3, .int x3), (4, .int x4)] [] h 0 0 (pq_qI Q)) (hf : B_X5_foldings_82 a0 x1 x2 x4 xs0 xs1 k40 k52 Q h) : pz_W (fun _ => True) X M_X5_foldings (d + 5) 82 [(0, .ref a0), (1, .int x1), (2, .int x2), (4, .int x4)] [.int xs1, .int xs0] h 0 0 (pq_qI Q) := by
  unfold B_X5_foldings_82 at hf
  refine pz_ior dX5_foldings_82 ?_
  refine pz_istore_n dX5_foldings_83 rfl (by decide) rfl ?_
  refine pz_iinc dX5_foldings_84 rfl (by rfl) (by decide) rfl ?_
  refine pz_goto dX5_foldings_87 (tgt := 52) (by decide) ?_
  exact pz_drop (pz_part_of [0, 1, 2, 3, 4] rfl) (hk52 _ _ _ hf)
def L_X5_foldings_52 (a0 : Nat) (x1 : Int32) (x2 : Int32) (k40 : Int32 → pz_H → Prop) (Q : Int32 → pz_H → Prop) : Nat → Int32 → Int32 → pz_H → Prop
  | 0, _, _, _ => False
  | n + 1, x3, x4, h => (pq_gA h a0 5 5 (fun b6 => (pq_aI h b6 x1 (fun v7 => (pq_br (v7 ≤ x4) (pq_gA h a0 5 22 (fun b8 => (pq_aZ h b8 x3 (fun v9 => (pq_br (v9 = 0) (B_X5_foldings_105 a0 x1 x3 x2 (1 : Int32) k40 Q h) (B_X5_foldings_105 a0 x1 x3 x2 (0 : Int32) k40 Q h)))))) (pq_o h a0 5 (F_X5_markIn a0 x4 h (fun v11 h10 => (pq_br (v11 = (2 : Int32)) (B_X5_foldings_82 a0 x1 x2 x4 x3 ((1 : Int32) <<< (x4 &&& 31)) k40 (fun z0 z1 hz => L_X5_foldings_52 a0 x1 x2 k40 Q n z0 z1 hz) Q h10) (B_X5_foldings_82 a0 x1 x2 x4 x3 (0 : Int32) k40 (fun z0 z1 hz => L_X5_foldings_52 a0 x1 x2 k40 Q n z0 z1 hz) Q h10))))))))))
set_option maxHeartbeats 4000000 in
set_option maxRecDepth 100000 in
theorem kL_X5_foldings_52 (X : pz_X) (d : Nat) (a0 : Nat) (x1 : Int32) (x2 : Int32)  (k40 : Int32 → pz_H → Prop) (Q : Int32 → pz_H → Prop) (hk40 : ∀ (x2 : Int32) (h : pz_H), k40 x2 h → pz_W (fun _ => True) X M_X5_foldings (d + 5) 40 [(0, .ref a0), (1, .int x1), (2, .int x2)] [] h 0 0 (pq_qI Q)) : ∀ (n : Nat) (x3 : Int32) (x4 : Int32) (h : pz_H), L_X5_foldings_52 a0 x1 x2 k40 Q n x3 x4 h → pz_W (fun _ => True) X M_X5_foldings (d + 5) 52 [(0, .ref a0), (1, .int x1), (2, .int x2), (3, .int x3), (4, .int x4)] [] h 0 0 (pq_qI Q) := by
  intro n
  induction n with
  | zero =>
    intro _ _ _ hf
    exact False.elim hf
  | succ n ih =>
    intro x3 x4 h hf
    unfold L_X5_foldings_52 at hf
    refine pz_iload dX5_foldings_52 rfl ?_
    refine pz_aload_n dX5_foldings_54 rfl ?_
    obtain ⟨_, b6, h1, h2, hf⟩ := hf
    refine pz_get dX5_foldings_55 fl_X5_22 h1 h2 ?_
    refine pz_iload_n dX5_foldings_58 rfl ?_
    obtain ⟨_, _, h1, h2, hf⟩ := hf
    refine pz_iald dX5_foldings_59 h1 h2 ?_
    obtain ⟨ha, hb⟩ := hf
    refine pz_icmp_ge dX5_foldings_60 (tgt := 90) (by decide) (fun cc => ?_) (fun cc => ?_)
    · have hf := ha cc
      refine pz_iload_n dX5_foldings_90 rfl ?_
      refine pz_aload_n dX5_foldings_91 rfl ?_
      obtain ⟨_, b8, h1, h2, hf⟩ := hf
      refine pz_get dX5_foldings_92 fl_X5_65 h1 h2 ?_
      refine pz_iload_n dX5_foldings_95 rfl ?_
      obtain ⟨_, _, h1, h2, hf⟩ := hf
      refine pz_zald dX5_foldings_96 h1 h2 ?_
      obtain ⟨ha, hb⟩ := hf
      refine pz_if_eq dX5_foldings_97 (tgt := 104) (by decide) (fun cc => ?_) (fun cc => ?_)
      · have hf := ha cc
        refine pz_iconst (v := (1 : Int32)) dX5_foldings_104 (by decide) ?_
        exact pz_drop (pz_part_of [0, 1, 3] rfl) (kB_X5_foldings_105 X d _ _ _ _ _ _ _ _ hk40 hf)
      · have hf := hb cc
        refine pz_iconst (v := (0 : Int32)) dX5_foldings_100 (by decide) ?_
        refine pz_goto dX5_foldings_101 (tgt := 105) (by decide) ?_
        exact pz_drop (pz_part_of [0, 1, 3] rfl) (kB_X5_foldings_105 X d _ _ _ _ _ _ _ _ hk40 hf)
    · have hf := hb cc
      refine pz_iload_n dX5_foldings_63 rfl ?_
      refine pz_aload_n dX5_foldings_64 rfl ?_
      refine pz_iload dX5_foldings_65 rfl ?_
      obtain ⟨_, hO, hf⟩ := hf
      refine pz_callV1 (rc := 0) (rs := 0) (mc := 0) (ms := 0) dX5_foldings_67 (k_X5_markIn X (d + 3) _ _ _ _ hf) (Nat.le_of_ble_eq_true rfl) mf_X5_markIn ml_X5_143 hO rfl mi_X5_markIn ms_X5_markIn (fun _ h9 hq => ?_)
      obtain ⟨_, rfl, hf⟩ := hq
      refine pz_iconst (v := (2 : Int32)) dX5_foldings_70 (by decide) ?_
      obtain ⟨ha, hb⟩ := hf
      refine pz_icmp_ne dX5_foldings_71 (tgt := 81) (by decide) (fun cc => ?_) (fun cc => ?_)
      · have hf := hb cc
        refine pz_iconst (v := (0 : Int32)) dX5_foldings_81 (by decide) ?_
        exact pz_drop (pz_part_of [0, 1, 2, 4] rfl) (kB_X5_foldings_82 X d _ _ _ _ _ _ _ _ _ _ hk40 ih hf)
      · have hf := ha cc
        refine pz_iconst (v := (1 : Int32)) dX5_foldings_74 (by decide) ?_
        refine pz_iload dX5_foldings_75 rfl ?_
        refine pz_ishl dX5_foldings_77 ?_
        refine pz_goto dX5_foldings_78 (tgt := 82) (by decide) ?_
        exact pz_drop (pz_part_of [0, 1, 2, 4] rfl) (kB_X5_foldings_82 X d _ _ _ _ _ _ _ _ _ _ hk40 ih hf)
def L_X5_foldings_40 (a0 : Nat) (x1 : Int32)  (Q : Int32 → pz_H → Prop) : Nat → Int32 → pz_H → Prop
  | 0, _, _ => False
  | n + 1, x2, h => (pq_o h a0 5 (F_X5_next a0 h (fun v5 h4 => (pq_br (v5 = 0) (Q x2 h4) (pq_ex (fun m52 => L_X5_foldings_52 a0 x1 x2 (fun z0 hz => L_X5_foldings_40 a0 x1 Q n z0 hz) Q m52 (0 : Int32) (0 : Int32) h4))))))
set_option maxHeartbeats 4000000 in
set_option maxRecDepth 100000 in
theorem kL_X5_foldings_40 (X : pz_X) (d : Nat) (a0 : Nat) (x1 : Int32)   (Q : Int32 → pz_H → Prop)  : ∀ (n : Nat) (x2 : Int32) (h : pz_H), L_X5_foldings_40 a0 x1  Q n x2 h → pz_W (fun _ => True) X M_X5_foldings (d + 5) 40 [(0, .ref a0), (1, .int x1), (2, .int x2)] [] h 0 0 (pq_qI Q) := by
  intro n
  induction n with
  | zero =>
    intro _ _ hf
    exact False.elim hf
  | succ n ih =>
    intro x2 h hf
    unfold L_X5_foldings_40 at hf
    refine pz_aload_n dX5_foldings_40 rfl ?_
    obtain ⟨_, hO, hf⟩ := hf
    refine pz_callV0 (rc := 0) (rs := 0) (mc := 0) (ms := 0) dX5_foldings_41 (k_X5_next X d _ _ _ hf) (Nat.le_of_ble_eq_true rfl) mf_X5_next ml_X5_161 hO rfl mi_X5_next ms_X5_next (fun _ h9 hq => ?_)
    obtain ⟨_, rfl, hf⟩ := hq
    obtain ⟨ha, hb⟩ := hf
    refine pz_if_eq dX5_foldings_44 (tgt := 117) (by decide) (fun cc => ?_) (fun cc => ?_)
    · have hf := ha cc
      refine pz_iload_n dX5_foldings_117 rfl ?_
      exact pz_ireturn dX5_foldings_118 rfl rfl ⟨_, rfl, hf⟩
    · have hf := hb cc
      refine pz_iconst (v := (0 : Int32)) dX5_foldings_47 (by decide) ?_
      refine pz_istore_n dX5_foldings_48 rfl (by decide) rfl ?_
      refine pz_iconst (v := (0 : Int32)) dX5_foldings_49 (by decide) ?_
      refine pz_istore dX5_foldings_50 (by decide) rfl ?_
      obtain ⟨n9, hf⟩ := hf
      exact pz_drop (pz_part_of [0, 1, 2, 3, 4] rfl) (kL_X5_foldings_52 X d _ _ _ _ _ ih n9 _ _ _ hf)
def L_X5_foldings_13 (a0 : Nat) (x1 : Int32)  (Q : Int32 → pz_H → Prop) : Nat → Int32 → pz_H → Prop
  | 0, _, _ => False
  | n + 1, x2, h => (pq_br ((4096 : Int32) ≤ x2) (pq_o h a0 5 (F_X5_begin a0 x1 h (fun h1 => (pq_ex (fun m40 => L_X5_foldings_40 a0 x1 Q m40 (0 : Int32) h1))))) (pq_gA h a0 5 22 (fun b2 => (pq_sZ h b2 x2 (0 : Int32) (fun h3 => (L_X5_foldings_13 a0 x1 Q n (x2 + (1 : Int32)) h3))))))
set_option maxHeartbeats 4000000 in
set_option maxRecDepth 100000 in
theorem kL_X5_foldings_13 (X : pz_X) (d : Nat) (a0 : Nat) (x1 : Int32)   (Q : Int32 → pz_H → Prop)  : ∀ (n : Nat) (x2 : Int32) (h : pz_H), L_X5_foldings_13 a0 x1  Q n x2 h → pz_W (fun _ => True) X M_X5_foldings (d + 5) 13 [(0, .ref a0), (1, .int x1), (2, .int x2)] [] h 0 0 (pq_qI Q) := by
  intro n
  induction n with
  | zero =>
    intro _ _ hf
    exact False.elim hf
  | succ n ih =>
    intro x2 h hf
    unfold L_X5_foldings_13 at hf
    refine pz_iload_n dX5_foldings_13 rfl ?_
    refine pz_sipush (v := (4096 : Int32)) dX5_foldings_14 (by decide) ?_
    obtain ⟨ha, hb⟩ := hf
    refine pz_icmp_ge dX5_foldings_17 (tgt := 33) (by decide) (fun cc => ?_) (fun cc => ?_)
    · have hf := ha cc
      refine pz_aload_n dX5_foldings_33 rfl ?_
      refine pz_iload_n dX5_foldings_34 rfl ?_
      obtain ⟨_, hO, hf⟩ := hf
      refine pz_callV1 (rc := 0) (rs := 0) (mc := 0) (ms := 0) dX5_foldings_35 (k_X5_begin X (d + 2) _ _ _ _ hf) (Nat.le_of_ble_eq_true rfl) mf_X5_begin ml_X5_157 hO rfl mi_X5_begin ms_X5_begin (fun _ h9 hq => ?_)
      obtain ⟨rfl, hf⟩ := hq
      refine pz_iconst (v := (0 : Int32)) dX5_foldings_38 (by decide) ?_
      refine pz_istore_n dX5_foldings_39 rfl (by decide) rfl ?_
      obtain ⟨n9, hf⟩ := hf
      exact pz_drop (pz_part_of [0, 1, 2] rfl) (kL_X5_foldings_40 X d _ _ _  n9 _ _ hf)
    · have hf := hb cc
      refine pz_aload_n dX5_foldings_20 rfl ?_
      obtain ⟨_, b2, h1, h2, hf⟩ := hf
      refine pz_get dX5_foldings_21 fl_X5_65 h1 h2 ?_
      refine pz_iload_n dX5_foldings_24 rfl ?_
      refine pz_iconst (v := (0 : Int32)) dX5_foldings_25 (by decide) ?_
      obtain ⟨_, _, h1, h2, hf⟩ := hf
      refine pz_zast dX5_foldings_26 h1 h2 ?_
      refine pz_iinc dX5_foldings_27 rfl (by rfl) (by decide) rfl ?_
      refine pz_goto dX5_foldings_30 (tgt := 13) (by decide) ?_
      exact pz_drop (pz_part_of [0, 1, 2] rfl) (ih _ _ hf)
def F_X5_foldings (a0 : Nat) (x1 : Int32) (h : pz_H) (Q : Int32 → pz_H → Prop) : Prop := (pq_o h a0 5 (F_X5_has a0 x1 h (fun v15 h14 => (pq_br (v15 = 0) (Q (-101 : Int32) h14) (pq_ex (fun m13 => L_X5_foldings_13 a0 x1 Q m13 (0 : Int32) h14))))))
set_option maxHeartbeats 4000000 in
set_option maxRecDepth 100000 in
theorem k_X5_foldings (X : pz_X) (d : Nat) (a0 : Nat) (x1 : Int32) (h : pz_H) (Q : Int32 → pz_H → Prop) (hf : F_X5_foldings a0 x1 h Q) : pz_Call X M_X5_foldings (d + 5) 0 0 [.ref a0, .int x1] h (pq_qI Q) := by
  refine pz_call_of (by decide +kernel) (Nat.le_of_ble_eq_true rfl) ?_
  unfold F_X5_foldings at hf
  refine pz_aload_n dX5_foldings_0 rfl ?_
  refine pz_iload_n dX5_foldings_1 rfl ?_
  obtain ⟨_, hO, hf⟩ := hf
  refine pz_callV1 (rc := 0) (rs := 0) (mc := 0) (ms := 0) dX5_foldings_2 (k_X5_has X (d + 4) _ _ _ _ hf) (Nat.le_of_ble_eq_true rfl) mf_X5_has ml_X5_85 hO rfl mi_X5_has ms_X5_has (fun _ h9 hq => ?_)
  obtain ⟨_, rfl, hf⟩ := hq
  obtain ⟨ha, hb⟩ := hf
  refine pz_if_ne dX5_foldings_5 (tgt := 11) (by decide) (fun cc => ?_) (fun cc => ?_)
  · have hf := hb cc
    refine pz_iconst (v := (0 : Int32)) dX5_foldings_11 (by decide) ?_
    refine pz_istore_n dX5_foldings_12 rfl (by decide) rfl ?_
    obtain ⟨n9, hf⟩ := hf
    exact pz_drop (pz_part_of [0, 1, 2] rfl) (kL_X5_foldings_13 X d _ _ _  n9 _ _ hf)
  · have hf := ha cc
    refine pz_bipush (v := (-101 : Int32)) dX5_foldings_8 (by decide) ?_
    exact pz_ireturn dX5_foldings_10 rfl rfl ⟨_, rfl, hf⟩
def F_X5_isAllowed (a0 : Nat) (x1 : Int32) (h : pz_H) (Q : Int32 → pz_H → Prop) : Prop := (pq_o h a0 5 (F_X5_begin a0 x1 h (fun h1 => (pq_o h1 a0 5 (F_X5_next a0 h1 (fun v3 h2 => (pq_z v3 (Q v3 h2))))))))
set_option maxHeartbeats 4000000 in
set_option maxRecDepth 100000 in
theorem k_X5_isAllowed (X : pz_X) (d : Nat) (a0 : Nat) (x1 : Int32) (h : pz_H) (Q : Int32 → pz_H → Prop) (hf : F_X5_isAllowed a0 x1 h Q) : pz_Call X M_X5_isAllowed (d + 5) 0 0 [.ref a0, .int x1] h (pq_qI Q) := by
  refine pz_call_of (by decide +kernel) (Nat.le_of_ble_eq_true rfl) ?_
  unfold F_X5_isAllowed at hf
  refine pz_aload_n dX5_isAllowed_0 rfl ?_
  refine pz_iload_n dX5_isAllowed_1 rfl ?_
  obtain ⟨_, hO, hf⟩ := hf
  refine pz_callV1 (rc := 0) (rs := 0) (mc := 0) (ms := 0) dX5_isAllowed_2 (k_X5_begin X (d + 2) _ _ _ _ hf) (Nat.le_of_ble_eq_true rfl) mf_X5_begin ml_X5_157 hO rfl mi_X5_begin ms_X5_begin (fun _ h9 hq => ?_)
  obtain ⟨rfl, hf⟩ := hq
  refine pz_aload_n dX5_isAllowed_5 rfl ?_
  obtain ⟨_, hO, hf⟩ := hf
  refine pz_callV0 (rc := 0) (rs := 0) (mc := 0) (ms := 0) dX5_isAllowed_6 (k_X5_next X d _ _ _ hf) (Nat.le_of_ble_eq_true rfl) mf_X5_next ml_X5_161 hO rfl mi_X5_next ms_X5_next (fun _ h9 hq => ?_)
  obtain ⟨_, rfl, hf⟩ := hq
  obtain ⟨hz, hf⟩ := hf
  exact pz_ireturn dX5_isAllowed_9 rfl hz ⟨_, rfl, hf⟩
def B_X5_clash_179 (a0 : Nat) (x1 : Int32) (a2 : Nat) (x3 : Int32) (k135 : Int32 → pz_H → Prop) (Q : Int32 → pz_H → Prop) (h : pz_H) : Prop := (pq_gA h a0 5 9 (fun b26 => (pq_aI h a2 x3 (fun v27 => (pq_sI h b26 (((12 : Int32) * x1) + x3) v27 (fun h28 => (k135 (x3 + (1 : Int32)) h28)))))))
set_option maxHeartbeats 4000000 in
set_option maxRecDepth 100000 in
theorem kB_X5_clash_179 (X : pz_X) (d : Nat) (a0 : Nat) (x1 : Int32) (a2 : Nat) (x3 : Int32)  (k135 : Int32 → pz_H → Prop) (Q : Int32 → pz_H → Prop) (h : pz_H) (hk135 : ∀ (x3 : Int32) (h : pz_H), k135 x3 h → pz_W (fun _ => True) X M_X5_clash (d + 6) 135 [(0, .ref a0), (1, .int x1), (2, .ref a2), (3, .int x3)] [] h 0 0 (pq_qI Q)) (hf : B_X5_clash_179 a0 x1 a2 x3 k135 Q h) : pz_W (fun _ => True) X M_X5_clash (d + 6) 179 [(0, .ref a0), (1, .int x1), (2, .ref a2), (3, .int x3)] [] h 0 0 (pq_qI Q) := by
  unfold B_X5_clash_179 at hf
  refine pz_aload_n dX5_clash_179 rfl ?_
  obtain ⟨_, b26, h1, h2, hf⟩ := hf
  refine pz_get dX5_clash_180 fl_X5_34 h1 h2 ?_
  refine pz_bipush (v := (12 : Int32)) dX5_clash_183 (by decide) ?_
  refine pz_iload_n dX5_clash_185 rfl ?_
  refine pz_imul dX5_clash_186 ?_
  refine pz_iload_n dX5_clash_187 rfl ?_
  refine pz_iadd dX5_clash_188 ?_
  refine pz_aload_n dX5_clash_189 rfl ?_
  refine pz_iload_n dX5_clash_190 rfl ?_
  obtain ⟨_, _, h1, h2, hf⟩ := hf
  refine pz_iald dX5_clash_191 h1 h2 ?_
  obtain ⟨_, _, h1, h2, hf⟩ := hf
  refine pz_iast dX5_clash_192 h1 h2 ?_
  refine pz_iinc dX5_clash_193 rfl (by rfl) (by decide) rfl ?_
  refine pz_goto dX5_clash_196 (tgt := 135) (by decide) ?_
  exact pz_drop (pz_part_of [0, 1, 2, 3] rfl) (hk135 _ _ hf)
def L_X5_clash_135 (a0 : Nat) (x1 : Int32) (a2 : Nat)  (Q : Int32 → pz_H → Prop) : Nat → Int32 → pz_H → Prop
  | 0, _, _ => False
  | n + 1, x3, h => (pq_gA h a0 5 5 (fun b16 => (pq_aI h b16 x1 (fun v17 => (pq_br (v17 ≤ x3) (pq_gI h a0 5 24 (fun v18 => (Q v18 h))) (pq_gA h a0 5 9 (fun b19 => (pq_aI h b19 (((12 : Int32) * x1) + x3) (fun v20 => (pq_br (v20 = 0) (B_X5_clash_179 a0 x1 a2 x3 (fun z0 hz => L_X5_clash_135 a0 x1 a2 Q n z0 hz) Q h) (pq_gA h a0 5 23 (fun b21 => (pq_gI h a0 5 24 (fun v22 => (pq_sI h b21 v22 x3 (fun h23 => (pq_gI h23 a0 5 24 (fun v24 => (pq_p h23 a0 5 24 (.int (v24 + (1 : Int32))) (fun h25 => (B_X5_clash_179 a0 x1 a2 x3 (fun z0 hz => L_X5_clash_135 a0 x1 a2 Q n z0 hz) Q h25)))))))))))))))))))))
set_option maxHeartbeats 4000000 in
set_option maxRecDepth 100000 in
theorem kL_X5_clash_135 (X : pz_X) (d : Nat) (a0 : Nat) (x1 : Int32) (a2 : Nat)   (Q : Int32 → pz_H → Prop)  : ∀ (n : Nat) (x3 : Int32) (h : pz_H), L_X5_clash_135 a0 x1 a2  Q n x3 h → pz_W (fun _ => True) X M_X5_clash (d + 6) 135 [(0, .ref a0), (1, .int x1), (2, .ref a2), (3, .int x3)] [] h 0 0 (pq_qI Q) := by
  intro n
  induction n with
  | zero =>
    intro _ _ hf
    exact False.elim hf
  | succ n ih =>
    intro x3 h hf
    unfold L_X5_clash_135 at hf
    refine pz_iload_n dX5_clash_135 rfl ?_
    refine pz_aload_n dX5_clash_136 rfl ?_
    obtain ⟨_, b16, h1, h2, hf⟩ := hf
    refine pz_get dX5_clash_137 fl_X5_22 h1 h2 ?_
    refine pz_iload_n dX5_clash_140 rfl ?_
    obtain ⟨_, _, h1, h2, hf⟩ := hf
    refine pz_iald dX5_clash_141 h1 h2 ?_
    obtain ⟨ha, hb⟩ := hf
    refine pz_icmp_ge dX5_clash_142 (tgt := 199) (by decide) (fun cc => ?_) (fun cc => ?_)
    · have hf := ha cc
      refine pz_aload_n dX5_clash_199 rfl ?_
      obtain ⟨_, v18, h1, h2, hf⟩ := hf
      refine pz_get dX5_clash_200 fl_X5_184 h1 h2 ?_
      exact pz_ireturn dX5_clash_203 rfl rfl ⟨_, rfl, hf⟩
    · have hf := hb cc
      refine pz_aload_n dX5_clash_145 rfl ?_
      obtain ⟨_, b19, h1, h2, hf⟩ := hf
      refine pz_get dX5_clash_146 fl_X5_34 h1 h2 ?_
      refine pz_bipush (v := (12 : Int32)) dX5_clash_149 (by decide) ?_
      refine pz_iload_n dX5_clash_151 rfl ?_
      refine pz_imul dX5_clash_152 ?_
      refine pz_iload_n dX5_clash_153 rfl ?_
      refine pz_iadd dX5_clash_154 ?_
      obtain ⟨_, _, h1, h2, hf⟩ := hf
      refine pz_iald dX5_clash_155 h1 h2 ?_
      obtain ⟨ha, hb⟩ := hf
      refine pz_if_eq dX5_clash_156 (tgt := 179) (by decide) (fun cc => ?_) (fun cc => ?_)
      · have hf := ha cc
        exact pz_drop (pz_part_of [0, 1, 2, 3] rfl) (kB_X5_clash_179 X d _ _ _ _ _ _ _ ih hf)
      · have hf := hb cc
        refine pz_aload_n dX5_clash_159 rfl ?_
        obtain ⟨_, b21, h1, h2, hf⟩ := hf
        refine pz_get dX5_clash_160 fl_X5_69 h1 h2 ?_
        refine pz_aload_n dX5_clash_163 rfl ?_
        obtain ⟨_, v22, h1, h2, hf⟩ := hf
        refine pz_get dX5_clash_164 fl_X5_184 h1 h2 ?_
        refine pz_iload_n dX5_clash_167 rfl ?_
        obtain ⟨_, _, h1, h2, hf⟩ := hf
        refine pz_iast dX5_clash_168 h1 h2 ?_
        refine pz_aload_n dX5_clash_169 rfl ?_
        refine pz_dup dX5_clash_170 rfl ?_
        obtain ⟨_, v24, h1, h2, hf⟩ := hf
        refine pz_get dX5_clash_171 fl_X5_184 h1 h2 ?_
        refine pz_iconst (v := (1 : Int32)) dX5_clash_174 (by decide) ?_
        refine pz_iadd dX5_clash_175 ?_
        obtain ⟨_, h1, h2, hf⟩ := hf
        refine pz_put dX5_clash_176 fp_X5_184 h1 rfl rfl h2 ?_
        exact pz_drop (pz_part_of [0, 1, 2, 3] rfl) (kB_X5_clash_179 X d _ _ _ _ _ _ _ ih hf)
def B_X5_clash_127 (a0 : Nat) (x1 : Int32) (a2 : Nat) (x3 : Int32) (k72 : Int32 → pz_H → Prop) (Q : Int32 → pz_H → Prop) (h : pz_H) : Prop := (k72 (x3 + (-1 : Int32)) h)
set_option maxHeartbeats 4000000 in
set_option maxRecDepth 100000 in
theorem kB_X5_clash_127 (X : pz_X) (d : Nat) (a0 : Nat) (x1 : Int32) (a2 : Nat) (x3 : Int32)  (k72 : Int32 → pz_H → Prop) (Q : Int32 → pz_H → Prop) (h : pz_H) (hk72 : ∀ (x3 : Int32) (h : pz_H), k72 x3 h → pz_W (fun _ => True) X M_X5_clash (d + 6) 72 [(0, .ref a0), (1, .int x1), (2, .ref a2), (3, .int x3)] [] h 0 0 (pq_qI Q)) (hf : B_X5_clash_127 a0 x1 a2 x3 k72 Q h) : pz_W (fun _ => True) X M_X5_clash (d + 6) 127 [(0, .ref a0), (1, .int x1), (2, .ref a2), (3, .int x3)] [] h 0 0 (pq_qI Q) := by
  unfold B_X5_clash_127 at hf
  refine pz_iinc dX5_clash_127 rfl (by rfl) (by decide) rfl ?_
  refine pz_goto dX5_clash_130 (tgt := 72) (by decide) ?_
  exact pz_drop (pz_part_of [0, 1, 2, 3] rfl) (hk72 _ _ hf)
def L_X5_clash_72 (a0 : Nat) (x1 : Int32) (a2 : Nat)  (Q : Int32 → pz_H → Prop) : Nat → Int32 → pz_H → Prop
  | 0, _, _ => False
  | n + 1, x3, h => (pq_br (x3 < 0) (pq_ex (fun m135 => L_X5_clash_135 a0 x1 a2 Q m135 (0 : Int32) h)) (pq_gA h a0 5 9 (fun b8 => (pq_aI h b8 (((12 : Int32) * x1) + x3) (fun v9 => (pq_br (v9 = 0) (B_X5_clash_127 a0 x1 a2 x3 (fun z0 hz => L_X5_clash_72 a0 x1 a2 Q n z0 hz) Q h) (pq_gA h a0 5 9 (fun b10 => (pq_sI h b10 (((12 : Int32) * x1) + x3) (0 : Int32) (fun h11 => (pq_o h11 a0 5 (F_X5_isAllowed a0 x1 h11 (fun v13 h12 => (pq_br (v13 = 0) (B_X5_clash_127 a0 x1 a2 x3 (fun z0 hz => L_X5_clash_72 a0 x1 a2 Q n z0 hz) Q h12) (pq_gA h12 a0 5 9 (fun b14 => (pq_sI h12 b14 (((12 : Int32) * x1) + x3) v9 (fun h15 => (B_X5_clash_127 a0 x1 a2 x3 (fun z0 hz => L_X5_clash_72 a0 x1 a2 Q n z0 hz) Q h15)))))))))))))))))))
set_option maxHeartbeats 4000000 in
set_option maxRecDepth 100000 in
theorem kL_X5_clash_72 (X : pz_X) (d : Nat) (a0 : Nat) (x1 : Int32) (a2 : Nat)   (Q : Int32 → pz_H → Prop)  : ∀ (n : Nat) (x3 : Int32) (h : pz_H), L_X5_clash_72 a0 x1 a2  Q n x3 h → pz_W (fun _ => True) X M_X5_clash (d + 6) 72 [(0, .ref a0), (1, .int x1), (2, .ref a2), (3, .int x3)] [] h 0 0 (pq_qI Q) := by
  intro n
  induction n with
  | zero =>
    intro _ _ hf
    exact False.elim hf
  | succ n ih =>
    intro x3 h hf
    unfold L_X5_clash_72 at hf
    refine pz_iload_n dX5_clash_72 rfl ?_
    obtain ⟨ha, hb⟩ := hf
    refine pz_if_lt dX5_clash_73 (tgt := 133) (by decide) (fun cc => ?_) (fun cc => ?_)
    · have hf := ha cc
      refine pz_iconst (v := (0 : Int32)) dX5_clash_133 (by decide) ?_
      refine pz_istore_n dX5_clash_134 rfl (by decide) rfl ?_
      obtain ⟨n9, hf⟩ := hf
      exact pz_drop (pz_part_of [0, 1, 2, 3] rfl) (kL_X5_clash_135 X d _ _ _ _  n9 _ _ hf)
    · have hf := hb cc
      refine pz_aload_n dX5_clash_76 rfl ?_
      obtain ⟨_, b8, h1, h2, hf⟩ := hf
      refine pz_get dX5_clash_77 fl_X5_34 h1 h2 ?_
      refine pz_bipush (v := (12 : Int32)) dX5_clash_80 (by decide) ?_
      refine pz_iload_n dX5_clash_82 rfl ?_
      refine pz_imul dX5_clash_83 ?_
      refine pz_iload_n dX5_clash_84 rfl ?_
      refine pz_iadd dX5_clash_85 ?_
      obtain ⟨_, _, h1, h2, hf⟩ := hf
      refine pz_iald dX5_clash_86 h1 h2 ?_
      refine pz_istore dX5_clash_87 (by decide) rfl ?_
      refine pz_iload dX5_clash_89 rfl ?_
      obtain ⟨ha, hb⟩ := hf
      refine pz_if_eq dX5_clash_91 (tgt := 127) (by decide) (fun cc => ?_) (fun cc => ?_)
      · have hf := ha cc
        exact pz_drop (pz_part_of [0, 1, 2, 3] rfl) (kB_X5_clash_127 X d _ _ _ _ _ _ _ ih hf)
      · have hf := hb cc
        refine pz_aload_n dX5_clash_94 rfl ?_
        obtain ⟨_, b10, h1, h2, hf⟩ := hf
        refine pz_get dX5_clash_95 fl_X5_34 h1 h2 ?_
        refine pz_bipush (v := (12 : Int32)) dX5_clash_98 (by decide) ?_
        refine pz_iload_n dX5_clash_100 rfl ?_
        refine pz_imul dX5_clash_101 ?_
        refine pz_iload_n dX5_clash_102 rfl ?_
        refine pz_iadd dX5_clash_103 ?_
        refine pz_iconst (v := (0 : Int32)) dX5_clash_104 (by decide) ?_
        obtain ⟨_, _, h1, h2, hf⟩ := hf
        refine pz_iast dX5_clash_105 h1 h2 ?_
        refine pz_aload_n dX5_clash_106 rfl ?_
        refine pz_iload_n dX5_clash_107 rfl ?_
        obtain ⟨_, hO, hf⟩ := hf
        refine pz_callV1 (rc := 0) (rs := 0) (mc := 0) (ms := 0) dX5_clash_108 (k_X5_isAllowed X d _ _ _ _ hf) (Nat.le_of_ble_eq_true rfl) mf_X5_isAllowed ml_X5_187 hO rfl mi_X5_isAllowed ms_X5_isAllowed (fun _ h9 hq => ?_)
        obtain ⟨_, rfl, hf⟩ := hq
        obtain ⟨ha, hb⟩ := hf
        refine pz_if_eq dX5_clash_111 (tgt := 127) (by decide) (fun cc => ?_) (fun cc => ?_)
        · have hf := ha cc
          exact pz_drop (pz_part_of [0, 1, 2, 3] rfl) (kB_X5_clash_127 X d _ _ _ _ _ _ _ ih hf)
        · have hf := hb cc
          refine pz_aload_n dX5_clash_114 rfl ?_
          obtain ⟨_, b14, h1, h2, hf⟩ := hf
          refine pz_get dX5_clash_115 fl_X5_34 h1 h2 ?_
          refine pz_bipush (v := (12 : Int32)) dX5_clash_118 (by decide) ?_
          refine pz_iload_n dX5_clash_120 rfl ?_
          refine pz_imul dX5_clash_121 ?_
          refine pz_iload_n dX5_clash_122 rfl ?_
          refine pz_iadd dX5_clash_123 ?_
          refine pz_iload dX5_clash_124 rfl ?_
          obtain ⟨_, _, h1, h2, hf⟩ := hf
          refine pz_iast dX5_clash_126 h1 h2 ?_
          exact pz_drop (pz_part_of [0, 1, 2, 3] rfl) (kB_X5_clash_127 X d _ _ _ _ _ _ _ ih hf)
def L_X5_clash_33 (a0 : Nat) (x1 : Int32) (a2 : Nat)  (Q : Int32 → pz_H → Prop) : Nat → Int32 → pz_H → Prop
  | 0, _, _ => False
  | n + 1, x3, h => (pq_gA h a0 5 5 (fun b1 => (pq_aI h b1 x1 (fun v2 => (pq_br (v2 ≤ x3) (pq_gA h a0 5 5 (fun b3 => (pq_aI h b3 x1 (fun v4 => (pq_ex (fun m72 => L_X5_clash_72 a0 x1 a2 Q m72 (v4 - (1 : Int32)) h)))))) (pq_gA h a0 5 9 (fun b5 => (pq_aI h b5 (((12 : Int32) * x1) + x3) (fun v6 => (pq_sI h a2 x3 v6 (fun h7 => (L_X5_clash_33 a0 x1 a2 Q n (x3 + (1 : Int32)) h7))))))))))))
set_option maxHeartbeats 4000000 in
set_option maxRecDepth 100000 in
theorem kL_X5_clash_33 (X : pz_X) (d : Nat) (a0 : Nat) (x1 : Int32) (a2 : Nat)   (Q : Int32 → pz_H → Prop)  : ∀ (n : Nat) (x3 : Int32) (h : pz_H), L_X5_clash_33 a0 x1 a2  Q n x3 h → pz_W (fun _ => True) X M_X5_clash (d + 6) 33 [(0, .ref a0), (1, .int x1), (2, .ref a2), (3, .int x3)] [] h 0 0 (pq_qI Q) := by
  intro n
  induction n with
  | zero =>
    intro _ _ hf
    exact False.elim hf
  | succ n ih =>
    intro x3 h hf
    unfold L_X5_clash_33 at hf
    refine pz_iload_n dX5_clash_33 rfl ?_
    refine pz_aload_n dX5_clash_34 rfl ?_
    obtain ⟨_, b1, h1, h2, hf⟩ := hf
    refine pz_get dX5_clash_35 fl_X5_22 h1 h2 ?_
    refine pz_iload_n dX5_clash_38 rfl ?_
    obtain ⟨_, _, h1, h2, hf⟩ := hf
    refine pz_iald dX5_clash_39 h1 h2 ?_
    obtain ⟨ha, hb⟩ := hf
    refine pz_icmp_ge dX5_clash_40 (tgt := 63) (by decide) (fun cc => ?_) (fun cc => ?_)
    · have hf := ha cc
      refine pz_aload_n dX5_clash_63 rfl ?_
      obtain ⟨_, b3, h1, h2, hf⟩ := hf
      refine pz_get dX5_clash_64 fl_X5_22 h1 h2 ?_
      refine pz_iload_n dX5_clash_67 rfl ?_
      obtain ⟨_, _, h1, h2, hf⟩ := hf
      refine pz_iald dX5_clash_68 h1 h2 ?_
      refine pz_iconst (v := (1 : Int32)) dX5_clash_69 (by decide) ?_
      refine pz_isub dX5_clash_70 ?_
      refine pz_istore_n dX5_clash_71 rfl (by decide) rfl ?_
      obtain ⟨n9, hf⟩ := hf
      exact pz_drop (pz_part_of [0, 1, 2, 3] rfl) (kL_X5_clash_72 X d _ _ _ _  n9 _ _ hf)
    · have hf := hb cc
      refine pz_aload_n dX5_clash_43 rfl ?_
      refine pz_iload_n dX5_clash_44 rfl ?_
      refine pz_aload_n dX5_clash_45 rfl ?_
      obtain ⟨_, b5, h1, h2, hf⟩ := hf
      refine pz_get dX5_clash_46 fl_X5_34 h1 h2 ?_
      refine pz_bipush (v := (12 : Int32)) dX5_clash_49 (by decide) ?_
      refine pz_iload_n dX5_clash_51 rfl ?_
      refine pz_imul dX5_clash_52 ?_
      refine pz_iload_n dX5_clash_53 rfl ?_
      refine pz_iadd dX5_clash_54 ?_
      obtain ⟨_, _, h1, h2, hf⟩ := hf
      refine pz_iald dX5_clash_55 h1 h2 ?_
      obtain ⟨_, _, h1, h2, hf⟩ := hf
      refine pz_iast dX5_clash_56 h1 h2 ?_
      refine pz_iinc dX5_clash_57 rfl (by rfl) (by decide) rfl ?_
      refine pz_goto dX5_clash_60 (tgt := 33) (by decide) ?_
      exact pz_drop (pz_part_of [0, 1, 2, 3] rfl) (ih _ _ hf)
def F_X5_clash (a0 : Nat) (x1 : Int32) (h : pz_H) (Q : Int32 → pz_H → Prop) : Prop := (pq_o h a0 5 (F_X5_has a0 x1 h (fun v30 h29 => (pq_br (v30 = 0) (Q (-101 : Int32) h29) (pq_p h29 a0 5 24 (.int (0 : Int32)) (fun h31 => (pq_o h31 a0 5 (F_X5_isAllowed a0 x1 h31 (fun v33 h32 => (pq_br (v33 = 0) (pq_gA h32 a0 5 25 (fun b34 => (pq_ex (fun m33 => L_X5_clash_33 a0 x1 b34 Q m33 (0 : Int32) h32)))) (Q (0 : Int32) h32)))))))))))
set_option maxHeartbeats 4000000 in
set_option maxRecDepth 100000 in
theorem k_X5_clash (X : pz_X) (d : Nat) (a0 : Nat) (x1 : Int32) (h : pz_H) (Q : Int32 → pz_H → Prop) (hf : F_X5_clash a0 x1 h Q) : pz_Call X M_X5_clash (d + 6) 0 0 [.ref a0, .int x1] h (pq_qI Q) := by
  refine pz_call_of (by decide +kernel) (Nat.le_of_ble_eq_true rfl) ?_
  unfold F_X5_clash at hf
  refine pz_aload_n dX5_clash_0 rfl ?_
  refine pz_iload_n dX5_clash_1 rfl ?_
  obtain ⟨_, hO, hf⟩ := hf
  refine pz_callV1 (rc := 0) (rs := 0) (mc := 0) (ms := 0) dX5_clash_2 (k_X5_has X (d + 5) _ _ _ _ hf) (Nat.le_of_ble_eq_true rfl) mf_X5_has ml_X5_85 hO rfl mi_X5_has ms_X5_has (fun _ h9 hq => ?_)
  obtain ⟨_, rfl, hf⟩ := hq
  obtain ⟨ha, hb⟩ := hf
  refine pz_if_ne dX5_clash_5 (tgt := 11) (by decide) (fun cc => ?_) (fun cc => ?_)
  · have hf := hb cc
    refine pz_aload_n dX5_clash_11 rfl ?_
    refine pz_iconst (v := (0 : Int32)) dX5_clash_12 (by decide) ?_
    obtain ⟨_, h1, h2, hf⟩ := hf
    refine pz_put dX5_clash_13 fp_X5_184 h1 rfl rfl h2 ?_
    refine pz_aload_n dX5_clash_16 rfl ?_
    refine pz_iload_n dX5_clash_17 rfl ?_
    obtain ⟨_, hO, hf⟩ := hf
    refine pz_callV1 (rc := 0) (rs := 0) (mc := 0) (ms := 0) dX5_clash_18 (k_X5_isAllowed X d _ _ _ _ hf) (Nat.le_of_ble_eq_true rfl) mf_X5_isAllowed ml_X5_187 hO rfl mi_X5_isAllowed ms_X5_isAllowed (fun _ h9 hq => ?_)
    obtain ⟨_, rfl, hf⟩ := hq
    obtain ⟨ha, hb⟩ := hf
    refine pz_if_eq dX5_clash_21 (tgt := 26) (by decide) (fun cc => ?_) (fun cc => ?_)
    · have hf := ha cc
      refine pz_aload_n dX5_clash_26 rfl ?_
      obtain ⟨_, b34, h1, h2, hf⟩ := hf
      refine pz_get dX5_clash_27 fl_X5_72 h1 h2 ?_
      refine pz_astore_n dX5_clash_30 rfl (by decide) rfl ?_
      refine pz_iconst (v := (0 : Int32)) dX5_clash_31 (by decide) ?_
      refine pz_istore_n dX5_clash_32 rfl (by decide) rfl ?_
      obtain ⟨n9, hf⟩ := hf
      exact pz_drop (pz_part_of [0, 1, 2, 3] rfl) (kL_X5_clash_33 X d _ _ _ _  n9 _ _ hf)
    · have hf := hb cc
      refine pz_iconst (v := (0 : Int32)) dX5_clash_24 (by decide) ?_
      exact pz_ireturn dX5_clash_25 rfl rfl ⟨_, rfl, hf⟩
  · have hf := ha cc
    refine pz_bipush (v := (-101 : Int32)) dX5_clash_8 (by decide) ?_
    exact pz_ireturn dX5_clash_10 rfl rfl ⟨_, rfl, hf⟩
def B_X5_inClash_22 (xs0 : Int32)  (Q : Int32 → pz_H → Prop) (h : pz_H) : Prop := (Q xs0 h)
set_option maxHeartbeats 4000000 in
set_option maxRecDepth 100000 in
theorem kB_X5_inClash_22 (X : pz_X) (d : Nat) (xs0 : Int32)   (Q : Int32 → pz_H → Prop) (h : pz_H)  (hf : B_X5_inClash_22 xs0  Q h) : pz_W (fun _ => True) X M_X5_inClash (d + 0) 22 [] [.int xs0] h 0 0 (pq_qI Q) := by
  unfold B_X5_inClash_22 at hf
  exact pz_ireturn dX5_inClash_22 rfl rfl ⟨_, rfl, hf⟩
def B_X5_inClash_21   (Q : Int32 → pz_H → Prop) (h : pz_H) : Prop := (B_X5_inClash_22 (-1 : Int32) Q h)
set_option maxHeartbeats 4000000 in
set_option maxRecDepth 100000 in
theorem kB_X5_inClash_21 (X : pz_X) (d : Nat)    (Q : Int32 → pz_H → Prop) (h : pz_H)  (hf : B_X5_inClash_21   Q h) : pz_W (fun _ => True) X M_X5_inClash (d + 0) 21 [] [] h 0 0 (pq_qI Q) := by
  unfold B_X5_inClash_21 at hf
  refine pz_iconst (v := (-1 : Int32)) dX5_inClash_21 (by decide) ?_
  exact pz_drop (pz_part_of [] rfl) (kB_X5_inClash_22 X d _ _ _  hf)
def F_X5_inClash (a0 : Nat) (x1 : Int32) (h : pz_H) (Q : Int32 → pz_H → Prop) : Prop := (pq_br (x1 < 0) (B_X5_inClash_21 Q h) (pq_gI h a0 5 24 (fun v1 => (pq_br (v1 ≤ x1) (B_X5_inClash_21 Q h) (pq_gA h a0 5 23 (fun b2 => (pq_aI h b2 x1 (fun v3 => (B_X5_inClash_22 v3 Q h)))))))))
set_option maxHeartbeats 4000000 in
set_option maxRecDepth 100000 in
theorem k_X5_inClash (X : pz_X) (d : Nat) (a0 : Nat) (x1 : Int32) (h : pz_H) (Q : Int32 → pz_H → Prop) (hf : F_X5_inClash a0 x1 h Q) : pz_Call X M_X5_inClash (d + 0) 0 0 [.ref a0, .int x1] h (pq_qI Q) := by
  refine pz_call_of (by decide +kernel) (Nat.le_of_ble_eq_true rfl) ?_
  unfold F_X5_inClash at hf
  refine pz_iload_n dX5_inClash_0 rfl ?_
  obtain ⟨ha, hb⟩ := hf
  refine pz_if_lt dX5_inClash_1 (tgt := 21) (by decide) (fun cc => ?_) (fun cc => ?_)
  · have hf := ha cc
    exact pz_drop (pz_part_of [] rfl) (kB_X5_inClash_21 X d _ _  hf)
  · have hf := hb cc
    refine pz_iload_n dX5_inClash_4 rfl ?_
    refine pz_aload_n dX5_inClash_5 rfl ?_
    obtain ⟨_, v1, h1, h2, hf⟩ := hf
    refine pz_get dX5_inClash_6 fl_X5_184 h1 h2 ?_
    obtain ⟨ha, hb⟩ := hf
    refine pz_icmp_ge dX5_inClash_9 (tgt := 21) (by decide) (fun cc => ?_) (fun cc => ?_)
    · have hf := ha cc
      exact pz_drop (pz_part_of [] rfl) (kB_X5_inClash_21 X d _ _  hf)
    · have hf := hb cc
      refine pz_aload_n dX5_inClash_12 rfl ?_
      obtain ⟨_, b2, h1, h2, hf⟩ := hf
      refine pz_get dX5_inClash_13 fl_X5_69 h1 h2 ?_
      refine pz_iload_n dX5_inClash_16 rfl ?_
      obtain ⟨_, _, h1, h2, hf⟩ := hf
      refine pz_iald dX5_inClash_17 h1 h2 ?_
      refine pz_goto dX5_inClash_18 (tgt := 22) (by decide) ?_
      exact pz_drop (pz_part_of [] rfl) (kB_X5_inClash_22 X d _ _ _  hf)
def B_X5_gapsOf_19 (xs0 : Int32)  (Q : Int32 → pz_H → Prop) (h : pz_H) : Prop := (Q (xs0 - (1 : Int32)) h)
set_option maxHeartbeats 4000000 in
set_option maxRecDepth 100000 in
theorem kB_X5_gapsOf_19 (X : pz_X) (d : Nat) (xs0 : Int32)   (Q : Int32 → pz_H → Prop) (h : pz_H)  (hf : B_X5_gapsOf_19 xs0  Q h) : pz_W (fun _ => True) X M_X5_gapsOf (d + 0) 19 [] [.int xs0] h 0 0 (pq_qI Q) := by
  unfold B_X5_gapsOf_19 at hf
  refine pz_iconst (v := (1 : Int32)) dX5_gapsOf_19 (by decide) ?_
  refine pz_isub dX5_gapsOf_20 ?_
  exact pz_ireturn dX5_gapsOf_21 rfl rfl ⟨_, rfl, hf⟩
def F_X5_gapsOf (a0 : Nat) (x1 : Int32) (x2 : Int32) (h : pz_H) (Q : Int32 → pz_H → Prop) : Prop := (pq_br (x2 = 0) (pq_gA h a0 5 4 (fun b1 => (pq_aI h b1 x1 (fun v2 => (B_X5_gapsOf_19 v2 Q h))))) (pq_gA h a0 5 3 (fun b3 => (pq_aI h b3 x1 (fun v4 => (B_X5_gapsOf_19 v4 Q h))))))
set_option maxHeartbeats 4000000 in
set_option maxRecDepth 100000 in
theorem k_X5_gapsOf (X : pz_X) (d : Nat) (a0 : Nat) (x1 : Int32) (x2 : Int32) (h : pz_H) (Q : Int32 → pz_H → Prop) (hf : F_X5_gapsOf a0 x1 x2 h Q) : pz_Call X M_X5_gapsOf (d + 0) 0 0 [.ref a0, .int x1, .int x2] h (pq_qI Q) := by
  refine pz_call_of (by decide +kernel) (Nat.le_of_ble_eq_true rfl) ?_
  unfold F_X5_gapsOf at hf
  refine pz_iload_n dX5_gapsOf_0 rfl ?_
  obtain ⟨ha, hb⟩ := hf
  refine pz_if_eq dX5_gapsOf_1 (tgt := 13) (by decide) (fun cc => ?_) (fun cc => ?_)
  · have hf := ha cc
    refine pz_aload_n dX5_gapsOf_13 rfl ?_
    obtain ⟨_, b1, h1, h2, hf⟩ := hf
    refine pz_get dX5_gapsOf_14 fl_X5_19 h1 h2 ?_
    refine pz_iload_n dX5_gapsOf_17 rfl ?_
    obtain ⟨_, _, h1, h2, hf⟩ := hf
    refine pz_iald dX5_gapsOf_18 h1 h2 ?_
    exact pz_drop (pz_part_of [] rfl) (kB_X5_gapsOf_19 X d _ _ _  hf)
  · have hf := hb cc
    refine pz_aload_n dX5_gapsOf_4 rfl ?_
    obtain ⟨_, b3, h1, h2, hf⟩ := hf
    refine pz_get dX5_gapsOf_5 fl_X5_16 h1 h2 ?_
    refine pz_iload_n dX5_gapsOf_8 rfl ?_
    obtain ⟨_, _, h1, h2, hf⟩ := hf
    refine pz_iald dX5_gapsOf_9 h1 h2 ?_
    refine pz_goto dX5_gapsOf_10 (tgt := 19) (by decide) ?_
    exact pz_drop (pz_part_of [] rfl) (kB_X5_gapsOf_19 X d _ _ _  hf)
def B_X5_lengthOf_25 (xs0 : Int32)  (Q : Int32 → pz_H → Prop) (h : pz_H) : Prop := (Q xs0 h)
set_option maxHeartbeats 4000000 in
set_option maxRecDepth 100000 in
theorem kB_X5_lengthOf_25 (X : pz_X) (d : Nat) (xs0 : Int32)   (Q : Int32 → pz_H → Prop) (h : pz_H)  (hf : B_X5_lengthOf_25 xs0  Q h) : pz_W (fun _ => True) X M_X5_lengthOf (d + 0) 25 [] [.int xs0] h 0 0 (pq_qI Q) := by
  unfold B_X5_lengthOf_25 at hf
  exact pz_ireturn dX5_lengthOf_25 rfl rfl ⟨_, rfl, hf⟩
def F_X5_lengthOf (a0 : Nat) (x1 : Int32) (x2 : Int32) (h : pz_H) (Q : Int32 → pz_H → Prop) : Prop := (pq_gA h a0 5 1 (fun b1 => (pq_aI h b1 x1 (fun v2 => (pq_br (v2 = (2 : Int32)) (B_X5_lengthOf_25 (1 : Int32) Q h) (pq_gA h a0 5 6 (fun b3 => (pq_aI h b3 (((9 : Int32) * x1) + x2) (fun v4 => (B_X5_lengthOf_25 v4 Q h))))))))))
set_option maxHeartbeats 4000000 in
set_option maxRecDepth 100000 in
theorem k_X5_lengthOf (X : pz_X) (d : Nat) (a0 : Nat) (x1 : Int32) (x2 : Int32) (h : pz_H) (Q : Int32 → pz_H → Prop) (hf : F_X5_lengthOf a0 x1 x2 h Q) : pz_Call X M_X5_lengthOf (d + 0) 0 0 [.ref a0, .int x1, .int x2] h (pq_qI Q) := by
  refine pz_call_of (by decide +kernel) (Nat.le_of_ble_eq_true rfl) ?_
  unfold F_X5_lengthOf at hf
  refine pz_aload_n dX5_lengthOf_0 rfl ?_
  obtain ⟨_, b1, h1, h2, hf⟩ := hf
  refine pz_get dX5_lengthOf_1 fl_X5_7 h1 h2 ?_
  refine pz_iload_n dX5_lengthOf_4 rfl ?_
  obtain ⟨_, _, h1, h2, hf⟩ := hf
  refine pz_iald dX5_lengthOf_5 h1 h2 ?_
  refine pz_iconst (v := (2 : Int32)) dX5_lengthOf_6 (by decide) ?_
  obtain ⟨ha, hb⟩ := hf
  refine pz_icmp_ne dX5_lengthOf_7 (tgt := 14) (by decide) (fun cc => ?_) (fun cc => ?_)
  · have hf := hb cc
    refine pz_aload_n dX5_lengthOf_14 rfl ?_
    obtain ⟨_, b3, h1, h2, hf⟩ := hf
    refine pz_get dX5_lengthOf_15 fl_X5_25 h1 h2 ?_
    refine pz_bipush (v := (9 : Int32)) dX5_lengthOf_18 (by decide) ?_
    refine pz_iload_n dX5_lengthOf_20 rfl ?_
    refine pz_imul dX5_lengthOf_21 ?_
    refine pz_iload_n dX5_lengthOf_22 rfl ?_
    refine pz_iadd dX5_lengthOf_23 ?_
    obtain ⟨_, _, h1, h2, hf⟩ := hf
    refine pz_iald dX5_lengthOf_24 h1 h2 ?_
    exact pz_drop (pz_part_of [] rfl) (kB_X5_lengthOf_25 X d _ _ _  hf)
  · have hf := ha cc
    refine pz_iconst (v := (1 : Int32)) dX5_lengthOf_10 (by decide) ?_
    refine pz_goto dX5_lengthOf_11 (tgt := 25) (by decide) ?_
    exact pz_drop (pz_part_of [] rfl) (kB_X5_lengthOf_25 X d _ _ _  hf)
def B_X5_goesUp_24 (x0 : Int32) (x1 : Int32) (x3 : Int32) (xs0 : Int32) (xs1 : Int32) (k4 : Int32 → Int32 → pz_H → Prop) (Q : Int32 → pz_H → Prop) (h : pz_H) : Prop := (k4 (xs0 ^^^ xs1) (x3 + (1 : Int32)) h)
set_option maxHeartbeats 4000000 in
set_option maxRecDepth 100000 in
theorem kB_X5_goesUp_24 (X : pz_X) (d : Nat) (x0 : Int32) (x1 : Int32) (x3 : Int32) (xs0 : Int32) (xs1 : Int32)  (k4 : Int32 → Int32 → pz_H → Prop) (Q : Int32 → pz_H → Prop) (h : pz_H) (hk4 : ∀ (x2 : Int32) (x3 : Int32) (h : pz_H), k4 x2 x3 h → pz_W (fun _ => True) X M_X5_goesUp (d + 0) 4 [(0, .int x0), (1, .int x1), (2, .int x2), (3, .int x3)] [] h 0 0 (pq_qI Q)) (hf : B_X5_goesUp_24 x0 x1 x3 xs0 xs1 k4 Q h) : pz_W (fun _ => True) X M_X5_goesUp (d + 0) 24 [(0, .int x0), (1, .int x1), (3, .int x3)] [.int xs1, .int xs0] h 0 0 (pq_qI Q) := by
  unfold B_X5_goesUp_24 at hf
  refine pz_ixor dX5_goesUp_24 ?_
  refine pz_istore_n dX5_goesUp_25 rfl (by decide) rfl ?_
  refine pz_iinc dX5_goesUp_26 rfl (by rfl) (by decide) rfl ?_
  refine pz_goto dX5_goesUp_29 (tgt := 4) (by decide) ?_
  exact pz_drop (pz_part_of [0, 1, 2, 3] rfl) (hk4 _ _ _ hf)
def L_X5_goesUp_4 (x0 : Int32) (x1 : Int32)  (Q : Int32 → pz_H → Prop) : Nat → Int32 → Int32 → pz_H → Prop
  | 0, _, _, _ => False
  | n + 1, x2, x3, h => (pq_br (x1 ≤ x3) (pq_z x2 (Q x2 h)) (pq_br (((x0 >>> (x3 &&& 31)) &&& (1 : Int32)) = (1 : Int32)) (B_X5_goesUp_24 x0 x1 x3 x2 (1 : Int32) (fun z0 z1 hz => L_X5_goesUp_4 x0 x1 Q n z0 z1 hz) Q h) (B_X5_goesUp_24 x0 x1 x3 x2 (0 : Int32) (fun z0 z1 hz => L_X5_goesUp_4 x0 x1 Q n z0 z1 hz) Q h)))
set_option maxHeartbeats 4000000 in
set_option maxRecDepth 100000 in
theorem kL_X5_goesUp_4 (X : pz_X) (d : Nat) (x0 : Int32) (x1 : Int32)   (Q : Int32 → pz_H → Prop)  : ∀ (n : Nat) (x2 : Int32) (x3 : Int32) (h : pz_H), L_X5_goesUp_4 x0 x1  Q n x2 x3 h → pz_W (fun _ => True) X M_X5_goesUp (d + 0) 4 [(0, .int x0), (1, .int x1), (2, .int x2), (3, .int x3)] [] h 0 0 (pq_qI Q) := by
  intro n
  induction n with
  | zero =>
    intro _ _ _ hf
    exact False.elim hf
  | succ n ih =>
    intro x2 x3 h hf
    unfold L_X5_goesUp_4 at hf
    refine pz_iload_n dX5_goesUp_4 rfl ?_
    refine pz_iload_n dX5_goesUp_5 rfl ?_
    obtain ⟨ha, hb⟩ := hf
    refine pz_icmp_ge dX5_goesUp_6 (tgt := 32) (by decide) (fun cc => ?_) (fun cc => ?_)
    · have hf := ha cc
      refine pz_iload_n dX5_goesUp_32 rfl ?_
      obtain ⟨hz, hf⟩ := hf
      exact pz_ireturn dX5_goesUp_33 rfl hz ⟨_, rfl, hf⟩
    · have hf := hb cc
      refine pz_iload_n dX5_goesUp_9 rfl ?_
      refine pz_iload_n dX5_goesUp_10 rfl ?_
      refine pz_iload_n dX5_goesUp_11 rfl ?_
      refine pz_ishr dX5_goesUp_12 ?_
      refine pz_iconst (v := (1 : Int32)) dX5_goesUp_13 (by decide) ?_
      refine pz_iand dX5_goesUp_14 ?_
      refine pz_iconst (v := (1 : Int32)) dX5_goesUp_15 (by decide) ?_
      obtain ⟨ha, hb⟩ := hf
      refine pz_icmp_ne dX5_goesUp_16 (tgt := 23) (by decide) (fun cc => ?_) (fun cc => ?_)
      · have hf := hb cc
        refine pz_iconst (v := (0 : Int32)) dX5_goesUp_23 (by decide) ?_
        exact pz_drop (pz_part_of [0, 1, 3] rfl) (kB_X5_goesUp_24 X d _ _ _ _ _ _ _ _ ih hf)
      · have hf := ha cc
        refine pz_iconst (v := (1 : Int32)) dX5_goesUp_19 (by decide) ?_
        refine pz_goto dX5_goesUp_20 (tgt := 24) (by decide) ?_
        exact pz_drop (pz_part_of [0, 1, 3] rfl) (kB_X5_goesUp_24 X d _ _ _ _ _ _ _ _ ih hf)
def F_X5_goesUp (x0 : Int32) (x1 : Int32) (h : pz_H) (Q : Int32 → pz_H → Prop) : Prop := (pq_ex (fun m4 => L_X5_goesUp_4 x0 x1 Q m4 (1 : Int32) (0 : Int32) h))
set_option maxHeartbeats 4000000 in
set_option maxRecDepth 100000 in
theorem k_X5_goesUp (X : pz_X) (d : Nat) (x0 : Int32) (x1 : Int32) (h : pz_H) (Q : Int32 → pz_H → Prop) (hf : F_X5_goesUp x0 x1 h Q) : pz_Call X M_X5_goesUp (d + 0) 0 0 [.int x0, .int x1] h (pq_qI Q) := by
  refine pz_call_of (by decide +kernel) (Nat.le_of_ble_eq_true rfl) ?_
  unfold F_X5_goesUp at hf
  refine pz_iconst (v := (1 : Int32)) dX5_goesUp_0 (by decide) ?_
  refine pz_istore_n dX5_goesUp_1 rfl (by decide) rfl ?_
  refine pz_iconst (v := (0 : Int32)) dX5_goesUp_2 (by decide) ?_
  refine pz_istore_n dX5_goesUp_3 rfl (by decide) rfl ?_
  obtain ⟨n9, hf⟩ := hf
  exact pz_drop (pz_part_of [0, 1, 2, 3] rfl) (kL_X5_goesUp_4 X d _ _ _  n9 _ _ _ hf)
def B_X5_liesAt_41 (a0 : Nat) (x1 : Int32) (x2 : Int32) (x3 : Int32) (x5 : Int32) (xs0 : Int32) (xs1 : Int32) (k6 : Int32 → Int32 → pz_H → Prop) (Q : Int32 → pz_H → Prop) (h : pz_H) : Prop := (k6 (xs0 + xs1) (x5 + (1 : Int32)) h)
set_option maxHeartbeats 4000000 in
set_option maxRecDepth 100000 in
theorem kB_X5_liesAt_41 (X : pz_X) (d : Nat) (a0 : Nat) (x1 : Int32) (x2 : Int32) (x3 : Int32) (x5 : Int32) (xs0 : Int32) (xs1 : Int32)  (k6 : Int32 → Int32 → pz_H → Prop) (Q : Int32 → pz_H → Prop) (h : pz_H) (hk6 : ∀ (x4 : Int32) (x5 : Int32) (h : pz_H), k6 x4 x5 h → pz_W (fun _ => True) X M_X5_liesAt (d + 1) 6 [(0, .ref a0), (1, .int x1), (2, .int x2), (3, .int x3), (4, .int x4), (5, .int x5)] [] h 0 0 (pq_qI Q)) (hf : B_X5_liesAt_41 a0 x1 x2 x3 x5 xs0 xs1 k6 Q h) : pz_W (fun _ => True) X M_X5_liesAt (d + 1) 41 [(0, .ref a0), (1, .int x1), (2, .int x2), (3, .int x3), (5, .int x5)] [.int xs1, .int xs0] h 0 0 (pq_qI Q) := by
  unfold B_X5_liesAt_41 at hf
  refine pz_iadd dX5_liesAt_41 ?_
  refine pz_istore dX5_liesAt_42 (by decide) rfl ?_
  refine pz_iinc dX5_liesAt_44 rfl (by rfl) (by decide) rfl ?_
  refine pz_goto dX5_liesAt_47 (tgt := 6) (by decide) ?_
  exact pz_drop (pz_part_of [0, 1, 2, 3, 4, 5] rfl) (hk6 _ _ _ hf)
def L_X5_liesAt_6 (a0 : Nat) (x1 : Int32) (x2 : Int32) (x3 : Int32)  (Q : Int32 → pz_H → Prop) : Nat → Int32 → Int32 → pz_H → Prop
  | 0, _, _, _ => False
  | n + 1, x4, x5, h => (pq_br (x3 ≤ x5) (Q x4 h) (F_X5_goesUp x2 x5 h (fun v2 h1 => (pq_br (v2 = 0) (pq_o h1 a0 5 (F_X5_lengthOf a0 x1 x5 h1 (fun v4 h3 => (B_X5_liesAt_41 a0 x1 x2 x3 x5 x4 (-v4) (fun z0 z1 hz => L_X5_liesAt_6 a0 x1 x2 x3 Q n z0 z1 hz) Q h3)))) (pq_o h1 a0 5 (F_X5_lengthOf a0 x1 x5 h1 (fun v6 h5 => (B_X5_liesAt_41 a0 x1 x2 x3 x5 x4 v6 (fun z0 z1 hz => L_X5_liesAt_6 a0 x1 x2 x3 Q n z0 z1 hz) Q h5))))))))
set_option maxHeartbeats 4000000 in
set_option maxRecDepth 100000 in
theorem kL_X5_liesAt_6 (X : pz_X) (d : Nat) (a0 : Nat) (x1 : Int32) (x2 : Int32) (x3 : Int32)   (Q : Int32 → pz_H → Prop)  : ∀ (n : Nat) (x4 : Int32) (x5 : Int32) (h : pz_H), L_X5_liesAt_6 a0 x1 x2 x3  Q n x4 x5 h → pz_W (fun _ => True) X M_X5_liesAt (d + 1) 6 [(0, .ref a0), (1, .int x1), (2, .int x2), (3, .int x3), (4, .int x4), (5, .int x5)] [] h 0 0 (pq_qI Q) := by
  intro n
  induction n with
  | zero =>
    intro _ _ _ hf
    exact False.elim hf
  | succ n ih =>
    intro x4 x5 h hf
    unfold L_X5_liesAt_6 at hf
    refine pz_iload dX5_liesAt_6 rfl ?_
    refine pz_iload_n dX5_liesAt_8 rfl ?_
    obtain ⟨ha, hb⟩ := hf
    refine pz_icmp_ge dX5_liesAt_9 (tgt := 50) (by decide) (fun cc => ?_) (fun cc => ?_)
    · have hf := ha cc
      refine pz_iload dX5_liesAt_50 rfl ?_
      exact pz_ireturn dX5_liesAt_52 rfl rfl ⟨_, rfl, hf⟩
    · have hf := hb cc
      refine pz_iload dX5_liesAt_12 rfl ?_
      refine pz_iload_n dX5_liesAt_14 rfl ?_
      refine pz_iload dX5_liesAt_15 rfl ?_
      refine pz_callS2 (rc := 0) (rs := 0) (mc := 0) (ms := 0) dX5_liesAt_17 (k_X5_goesUp X d _ _ _ _ hf) (Nat.le_of_ble_eq_true rfl) mf_X5_goesUp ml_X5_190 mt_X5_goesUp (fun _ h9 hq => ?_)
      obtain ⟨_, rfl, hf⟩ := hq
      obtain ⟨ha, hb⟩ := hf
      refine pz_if_eq dX5_liesAt_20 (tgt := 33) (by decide) (fun cc => ?_) (fun cc => ?_)
      · have hf := ha cc
        refine pz_aload_n dX5_liesAt_33 rfl ?_
        refine pz_iload_n dX5_liesAt_34 rfl ?_
        refine pz_iload dX5_liesAt_35 rfl ?_
        obtain ⟨_, hO, hf⟩ := hf
        refine pz_callV2 (rc := 0) (rs := 0) (mc := 0) (ms := 0) dX5_liesAt_37 (k_X5_lengthOf X d _ _ _ _ _ hf) (Nat.le_of_ble_eq_true rfl) mf_X5_lengthOf ml_X5_193 hO rfl mi_X5_lengthOf ms_X5_lengthOf (fun _ h9 hq => ?_)
        obtain ⟨_, rfl, hf⟩ := hq
        refine pz_ineg dX5_liesAt_40 ?_
        exact pz_drop (pz_part_of [0, 1, 2, 3, 5] rfl) (kB_X5_liesAt_41 X d _ _ _ _ _ _ _ _ _ _ ih hf)
      · have hf := hb cc
        refine pz_aload_n dX5_liesAt_23 rfl ?_
        refine pz_iload_n dX5_liesAt_24 rfl ?_
        refine pz_iload dX5_liesAt_25 rfl ?_
        obtain ⟨_, hO, hf⟩ := hf
        refine pz_callV2 (rc := 0) (rs := 0) (mc := 0) (ms := 0) dX5_liesAt_27 (k_X5_lengthOf X d _ _ _ _ _ hf) (Nat.le_of_ble_eq_true rfl) mf_X5_lengthOf ml_X5_193 hO rfl mi_X5_lengthOf ms_X5_lengthOf (fun _ h9 hq => ?_)
        obtain ⟨_, rfl, hf⟩ := hq
        refine pz_goto dX5_liesAt_30 (tgt := 41) (by decide) ?_
        exact pz_drop (pz_part_of [0, 1, 2, 3, 5] rfl) (kB_X5_liesAt_41 X d _ _ _ _ _ _ _ _ _ _ ih hf)
def F_X5_liesAt (a0 : Nat) (x1 : Int32) (x2 : Int32) (x3 : Int32) (h : pz_H) (Q : Int32 → pz_H → Prop) : Prop := (pq_ex (fun m6 => L_X5_liesAt_6 a0 x1 x2 x3 Q m6 (0 : Int32) (0 : Int32) h))
set_option maxHeartbeats 4000000 in
set_option maxRecDepth 100000 in
theorem k_X5_liesAt (X : pz_X) (d : Nat) (a0 : Nat) (x1 : Int32) (x2 : Int32) (x3 : Int32) (h : pz_H) (Q : Int32 → pz_H → Prop) (hf : F_X5_liesAt a0 x1 x2 x3 h Q) : pz_Call X M_X5_liesAt (d + 1) 0 0 [.ref a0, .int x1, .int x2, .int x3] h (pq_qI Q) := by
  refine pz_call_of (by decide +kernel) (Nat.le_of_ble_eq_true rfl) ?_
  unfold F_X5_liesAt at hf
  refine pz_iconst (v := (0 : Int32)) dX5_liesAt_0 (by decide) ?_
  refine pz_istore dX5_liesAt_1 (by decide) rfl ?_
  refine pz_iconst (v := (0 : Int32)) dX5_liesAt_3 (by decide) ?_
  refine pz_istore dX5_liesAt_4 (by decide) rfl ?_
  obtain ⟨n9, hf⟩ := hf
  exact pz_drop (pz_part_of [0, 1, 2, 3, 4, 5] rfl) (kL_X5_liesAt_6 X d _ _ _ _ _  n9 _ _ _ hf)
def B_X5_done_408 (a0 : Nat) (x1 : Int32) (x2 : Int32) (x3 : Int32) (x5 : Int32) (x6 : Int32) (x10 : Int32) (x11 : Int32) (k204 : Int32 → pz_H → Prop) (Q : Int32 → pz_H → Prop) (h : pz_H) : Prop := (k204 (x11 + (1 : Int32)) h)
set_option maxHeartbeats 4000000 in
set_option maxRecDepth 100000 in
theorem kB_X5_done_408 (X : pz_X) (d : Nat) (a0 : Nat) (x1 : Int32) (x2 : Int32) (x3 : Int32) (x5 : Int32) (x6 : Int32) (x10 : Int32) (x11 : Int32)  (k204 : Int32 → pz_H → Prop) (Q : Int32 → pz_H → Prop) (h : pz_H) (hk204 : ∀ (x11 : Int32) (h : pz_H), k204 x11 h → pz_W (fun _ => True) X M_X5_done (d + 2) 204 [(0, .ref a0), (1, .int x1), (2, .int x2), (3, .int x3), (5, .int x5), (6, .int x6), (10, .int x10), (11, .int x11)] [] h 0 0 (pq_qI Q)) (hf : B_X5_done_408 a0 x1 x2 x3 x5 x6 x10 x11 k204 Q h) : pz_W (fun _ => True) X M_X5_done (d + 2) 408 [(0, .ref a0), (1, .int x1), (2, .int x2), (3, .int x3), (5, .int x5), (6, .int x6), (10, .int x10), (11, .int x11)] [] h 0 0 (pq_qI Q) := by
  unfold B_X5_done_408 at hf
  refine pz_iinc dX5_done_408 rfl (by rfl) (by decide) rfl ?_
  refine pz_goto dX5_done_411 (tgt := 204) (by decide) ?_
  exact pz_drop (pz_part_of [0, 1, 2, 3, 5, 6, 10, 11] rfl) (hk204 _ _ hf)
def B_X5_done_378 (a0 : Nat) (x1 : Int32) (x2 : Int32) (x3 : Int32) (x5 : Int32) (x6 : Int32) (x10 : Int32) (x11 : Int32) (xs0 : Int32) (k204 : Int32 → pz_H → Prop) (Q : Int32 → pz_H → Prop) (h : pz_H) : Prop := (pq_gA h a0 5 9 (fun b41 => (pq_aI h b41 (((12 : Int32) * x1) + x11) (fun v42 => (pq_br (v42 = 0) (B_X5_done_408 a0 x1 x2 x3 x5 x6 x10 x11 k204 Q h) (pq_br (v42 = xs0) (B_X5_done_408 a0 x1 x2 x3 x5 x6 x10 x11 k204 Q h) (Q (0 : Int32) h)))))))
set_option maxHeartbeats 4000000 in
set_option maxRecDepth 100000 in
theorem kB_X5_done_378 (X : pz_X) (d : Nat) (a0 : Nat) (x1 : Int32) (x2 : Int32) (x3 : Int32) (x5 : Int32) (x6 : Int32) (x10 : Int32) (x11 : Int32) (xs0 : Int32)  (k204 : Int32 → pz_H → Prop) (Q : Int32 → pz_H → Prop) (h : pz_H) (hk204 : ∀ (x11 : Int32) (h : pz_H), k204 x11 h → pz_W (fun _ => True) X M_X5_done (d + 2) 204 [(0, .ref a0), (1, .int x1), (2, .int x2), (3, .int x3), (5, .int x5), (6, .int x6), (10, .int x10), (11, .int x11)] [] h 0 0 (pq_qI Q)) (hf : B_X5_done_378 a0 x1 x2 x3 x5 x6 x10 x11 xs0 k204 Q h) : pz_W (fun _ => True) X M_X5_done (d + 2) 378 [(0, .ref a0), (1, .int x1), (2, .int x2), (3, .int x3), (5, .int x5), (6, .int x6), (10, .int x10), (11, .int x11)] [.int xs0] h 0 0 (pq_qI Q) := by
  unfold B_X5_done_378 at hf
  refine pz_istore dX5_done_378 (by decide) rfl ?_
  refine pz_aload_n dX5_done_380 rfl ?_
  obtain ⟨_, b41, h1, h2, hf⟩ := hf
  refine pz_get dX5_done_381 fl_X5_34 h1 h2 ?_
  refine pz_bipush (v := (12 : Int32)) dX5_done_384 (by decide) ?_
  refine pz_iload_n dX5_done_386 rfl ?_
  refine pz_imul dX5_done_387 ?_
  refine pz_iload dX5_done_388 rfl ?_
  refine pz_iadd dX5_done_390 ?_
  obtain ⟨_, _, h1, h2, hf⟩ := hf
  refine pz_iald dX5_done_391 h1 h2 ?_
  refine pz_istore dX5_done_392 (by decide) rfl ?_
  refine pz_iload dX5_done_394 rfl ?_
  obtain ⟨ha, hb⟩ := hf
  refine pz_if_eq dX5_done_396 (tgt := 408) (by decide) (fun cc => ?_) (fun cc => ?_)
  · have hf := ha cc
    exact pz_drop (pz_part_of [0, 1, 2, 3, 5, 6, 10, 11] rfl) (kB_X5_done_408 X d _ _ _ _ _ _ _ _ _ _ _ hk204 hf)
  · have hf := hb cc
    refine pz_iload dX5_done_399 rfl ?_
    refine pz_iload dX5_done_401 rfl ?_
    obtain ⟨ha, hb⟩ := hf
    refine pz_icmp_eq dX5_done_403 (tgt := 408) (by decide) (fun cc => ?_) (fun cc => ?_)
    · have hf := ha cc
      exact pz_drop (pz_part_of [0, 1, 2, 3, 5, 6, 10, 11] rfl) (kB_X5_done_408 X d _ _ _ _ _ _ _ _ _ _ _ hk204 hf)
    · have hf := hb cc
      refine pz_iconst (v := (0 : Int32)) dX5_done_406 (by decide) ?_
      exact pz_ireturn dX5_done_407 rfl rfl ⟨_, rfl, hf⟩
def B_X5_done_364 (a0 : Nat) (x1 : Int32) (x2 : Int32) (x3 : Int32) (x5 : Int32) (x6 : Int32) (x10 : Int32) (x11 : Int32) (xs0 : Int32) (k204 : Int32 → pz_H → Prop) (Q : Int32 → pz_H → Prop) (h : pz_H) : Prop := (pq_br (xs0 = x6) (B_X5_done_378 a0 x1 x2 x3 x5 x6 x10 x11 (1 : Int32) k204 Q h) (B_X5_done_378 a0 x1 x2 x3 x5 x6 x10 x11 (2 : Int32) k204 Q h))
set_option maxHeartbeats 4000000 in
set_option maxRecDepth 100000 in
theorem kB_X5_done_364 (X : pz_X) (d : Nat) (a0 : Nat) (x1 : Int32) (x2 : Int32) (x3 : Int32) (x5 : Int32) (x6 : Int32) (x10 : Int32) (x11 : Int32) (xs0 : Int32)  (k204 : Int32 → pz_H → Prop) (Q : Int32 → pz_H → Prop) (h : pz_H) (hk204 : ∀ (x11 : Int32) (h : pz_H), k204 x11 h → pz_W (fun _ => True) X M_X5_done (d + 2) 204 [(0, .ref a0), (1, .int x1), (2, .int x2), (3, .int x3), (5, .int x5), (6, .int x6), (10, .int x10), (11, .int x11)] [] h 0 0 (pq_qI Q)) (hf : B_X5_done_364 a0 x1 x2 x3 x5 x6 x10 x11 xs0 k204 Q h) : pz_W (fun _ => True) X M_X5_done (d + 2) 364 [(0, .ref a0), (1, .int x1), (2, .int x2), (3, .int x3), (5, .int x5), (6, .int x6), (10, .int x10), (11, .int x11)] [.int xs0] h 0 0 (pq_qI Q) := by
  unfold B_X5_done_364 at hf
  refine pz_istore dX5_done_364 (by decide) rfl ?_
  refine pz_iload dX5_done_366 rfl ?_
  refine pz_iload dX5_done_368 rfl ?_
  obtain ⟨ha, hb⟩ := hf
  refine pz_icmp_eq dX5_done_370 (tgt := 377) (by decide) (fun cc => ?_) (fun cc => ?_)
  · have hf := ha cc
    refine pz_iconst (v := (1 : Int32)) dX5_done_377 (by decide) ?_
    exact pz_drop (pz_part_of [0, 1, 2, 3, 5, 6, 10, 11] rfl) (kB_X5_done_378 X d _ _ _ _ _ _ _ _ _ _ _ _ hk204 hf)
  · have hf := hb cc
    refine pz_iconst (v := (2 : Int32)) dX5_done_373 (by decide) ?_
    refine pz_goto dX5_done_374 (tgt := 378) (by decide) ?_
    exact pz_drop (pz_part_of [0, 1, 2, 3, 5, 6, 10, 11] rfl) (kB_X5_done_378 X d _ _ _ _ _ _ _ _ _ _ _ _ hk204 hf)
def B_X5_done_356 (a0 : Nat) (x1 : Int32) (x2 : Int32) (x3 : Int32) (x5 : Int32) (x6 : Int32) (x10 : Int32) (x11 : Int32) (xs0 : Int32) (xs1 : Int32) (k204 : Int32 → pz_H → Prop) (Q : Int32 → pz_H → Prop) (h : pz_H) : Prop := (pq_br (xs0 = xs1) (B_X5_done_364 a0 x1 x2 x3 x5 x6 x10 x11 (1 : Int32) k204 Q h) (B_X5_done_364 a0 x1 x2 x3 x5 x6 x10 x11 (0 : Int32) k204 Q h))
set_option maxHeartbeats 4000000 in
set_option maxRecDepth 100000 in
theorem kB_X5_done_356 (X : pz_X) (d : Nat) (a0 : Nat) (x1 : Int32) (x2 : Int32) (x3 : Int32) (x5 : Int32) (x6 : Int32) (x10 : Int32) (x11 : Int32) (xs0 : Int32) (xs1 : Int32)  (k204 : Int32 → pz_H → Prop) (Q : Int32 → pz_H → Prop) (h : pz_H) (hk204 : ∀ (x11 : Int32) (h : pz_H), k204 x11 h → pz_W (fun _ => True) X M_X5_done (d + 2) 204 [(0, .ref a0), (1, .int x1), (2, .int x2), (3, .int x3), (5, .int x5), (6, .int x6), (10, .int x10), (11, .int x11)] [] h 0 0 (pq_qI Q)) (hf : B_X5_done_356 a0 x1 x2 x3 x5 x6 x10 x11 xs0 xs1 k204 Q h) : pz_W (fun _ => True) X M_X5_done (d + 2) 356 [(0, .ref a0), (1, .int x1), (2, .int x2), (3, .int x3), (5, .int x5), (6, .int x6), (10, .int x10), (11, .int x11)] [.int xs1, .int xs0] h 0 0 (pq_qI Q) := by
  unfold B_X5_done_356 at hf
  obtain ⟨ha, hb⟩ := hf
  refine pz_icmp_ne dX5_done_356 (tgt := 363) (by decide) (fun cc => ?_) (fun cc => ?_)
  · have hf := hb cc
    refine pz_iconst (v := (0 : Int32)) dX5_done_363 (by decide) ?_
    exact pz_drop (pz_part_of [0, 1, 2, 3, 5, 6, 10, 11] rfl) (kB_X5_done_364 X d _ _ _ _ _ _ _ _ _ _ _ _ hk204 hf)
  · have hf := ha cc
    refine pz_iconst (v := (1 : Int32)) dX5_done_359 (by decide) ?_
    refine pz_goto dX5_done_360 (tgt := 364) (by decide) ?_
    exact pz_drop (pz_part_of [0, 1, 2, 3, 5, 6, 10, 11] rfl) (kB_X5_done_364 X d _ _ _ _ _ _ _ _ _ _ _ _ hk204 hf)
def B_X5_done_351 (a0 : Nat) (x1 : Int32) (x2 : Int32) (x3 : Int32) (x5 : Int32) (x6 : Int32) (x10 : Int32) (x11 : Int32) (xs0 : Int32) (k204 : Int32 → pz_H → Prop) (Q : Int32 → pz_H → Prop) (h : pz_H) : Prop := (B_X5_done_356 a0 x1 x2 x3 x5 x6 x10 x11 xs0 (1 : Int32) k204 Q h)
set_option maxHeartbeats 4000000 in
set_option maxRecDepth 100000 in
theorem kB_X5_done_351 (X : pz_X) (d : Nat) (a0 : Nat) (x1 : Int32) (x2 : Int32) (x3 : Int32) (x5 : Int32) (x6 : Int32) (x10 : Int32) (x11 : Int32) (xs0 : Int32)  (k204 : Int32 → pz_H → Prop) (Q : Int32 → pz_H → Prop) (h : pz_H) (hk204 : ∀ (x11 : Int32) (h : pz_H), k204 x11 h → pz_W (fun _ => True) X M_X5_done (d + 2) 204 [(0, .ref a0), (1, .int x1), (2, .int x2), (3, .int x3), (5, .int x5), (6, .int x6), (10, .int x10), (11, .int x11)] [] h 0 0 (pq_qI Q)) (hf : B_X5_done_351 a0 x1 x2 x3 x5 x6 x10 x11 xs0 k204 Q h) : pz_W (fun _ => True) X M_X5_done (d + 2) 351 [(0, .ref a0), (1, .int x1), (2, .int x2), (3, .int x3), (5, .int x5), (6, .int x6), (10, .int x10), (11, .int x11)] [.int xs0] h 0 0 (pq_qI Q) := by
  unfold B_X5_done_351 at hf
  refine pz_iconst (v := (1 : Int32)) dX5_done_351 (by decide) ?_
  refine pz_goto dX5_done_352 (tgt := 356) (by decide) ?_
  exact pz_drop (pz_part_of [0, 1, 2, 3, 5, 6, 10, 11] rfl) (kB_X5_done_356 X d _ _ _ _ _ _ _ _ _ _ _ _ _ hk204 hf)
def B_X5_done_292 (a0 : Nat) (x1 : Int32) (x2 : Int32) (x3 : Int32) (x5 : Int32) (x6 : Int32) (x10 : Int32) (x11 : Int32) (x12 : Int32) (x13 : Int32) (xs0 : Int32) (k204 : Int32 → pz_H → Prop) (Q : Int32 → pz_H → Prop) (h : pz_H) : Prop := (pq_br (x12 = x5) (pq_br (((x10 >>> (xs0 &&& 31)) &&& (1 : Int32)) = (1 : Int32)) (pq_gA h a0 5 4 (fun b31 => (pq_aI h b31 x1 (fun v32 => (pq_ne v32 (F_X5_goesUp x2 (x13 - x13 / v32 * v32) h (fun v34 h33 => (pq_gA h33 a0 5 1 (fun b35 => (pq_aI h33 b35 x1 (fun v36 => (pq_br (v36 = (2 : Int32)) (pq_gA h33 a0 5 4 (fun b37 => (pq_aI h33 b37 x1 (fun v38 => (pq_ne v38 (F_X5_goesUp x3 (x13 / v38) h33 (fun v40 h39 => (pq_br (v40 = 0) (B_X5_done_356 a0 x1 x2 x3 x5 x6 x10 x11 v34 (0 : Int32) k204 Q h39) (B_X5_done_351 a0 x1 x2 x3 x5 x6 x10 x11 v34 k204 Q h39))))))))) (B_X5_done_351 a0 x1 x2 x3 x5 x6 x10 x11 v34 k204 Q h33))))))))))))) (B_X5_done_408 a0 x1 x2 x3 x5 x6 x10 x11 k204 Q h)) (B_X5_done_408 a0 x1 x2 x3 x5 x6 x10 x11 k204 Q h))
set_option maxHeartbeats 4000000 in
set_option maxRecDepth 100000 in
theorem kB_X5_done_292 (X : pz_X) (d : Nat) (a0 : Nat) (x1 : Int32) (x2 : Int32) (x3 : Int32) (x5 : Int32) (x6 : Int32) (x10 : Int32) (x11 : Int32) (x12 : Int32) (x13 : Int32) (xs0 : Int32)  (k204 : Int32 → pz_H → Prop) (Q : Int32 → pz_H → Prop) (h : pz_H) (hk204 : ∀ (x11 : Int32) (h : pz_H), k204 x11 h → pz_W (fun _ => True) X M_X5_done (d + 2) 204 [(0, .ref a0), (1, .int x1), (2, .int x2), (3, .int x3), (5, .int x5), (6, .int x6), (10, .int x10), (11, .int x11)] [] h 0 0 (pq_qI Q)) (hf : B_X5_done_292 a0 x1 x2 x3 x5 x6 x10 x11 x12 x13 xs0 k204 Q h) : pz_W (fun _ => True) X M_X5_done (d + 2) 292 [(0, .ref a0), (1, .int x1), (2, .int x2), (3, .int x3), (5, .int x5), (6, .int x6), (10, .int x10), (11, .int x11), (12, .int x12), (13, .int x13)] [.int xs0] h 0 0 (pq_qI Q) := by
  unfold B_X5_done_292 at hf
  refine pz_istore dX5_done_292 (by decide) rfl ?_
  refine pz_iload dX5_done_294 rfl ?_
  refine pz_iload dX5_done_296 rfl ?_
  obtain ⟨ha, hb⟩ := hf
  refine pz_icmp_ne dX5_done_298 (tgt := 408) (by decide) (fun cc => ?_) (fun cc => ?_)
  · have hf := hb cc
    exact pz_drop (pz_part_of [0, 1, 2, 3, 5, 6, 10, 11] rfl) (kB_X5_done_408 X d _ _ _ _ _ _ _ _ _ _ _ hk204 hf)
  · have hf := ha cc
    refine pz_iload dX5_done_301 rfl ?_
    refine pz_iload dX5_done_303 rfl ?_
    refine pz_ishr dX5_done_305 ?_
    refine pz_iconst (v := (1 : Int32)) dX5_done_306 (by decide) ?_
    refine pz_iand dX5_done_307 ?_
    refine pz_iconst (v := (1 : Int32)) dX5_done_308 (by decide) ?_
    obtain ⟨ha, hb⟩ := hf
    refine pz_icmp_ne dX5_done_309 (tgt := 408) (by decide) (fun cc => ?_) (fun cc => ?_)
    · have hf := hb cc
      exact pz_drop (pz_part_of [0, 1, 2, 3, 5, 6, 10, 11] rfl) (kB_X5_done_408 X d _ _ _ _ _ _ _ _ _ _ _ hk204 hf)
    · have hf := ha cc
      refine pz_iload_n dX5_done_312 rfl ?_
      refine pz_iload dX5_done_313 rfl ?_
      refine pz_aload_n dX5_done_315 rfl ?_
      obtain ⟨_, b31, h1, h2, hf⟩ := hf
      refine pz_get dX5_done_316 fl_X5_19 h1 h2 ?_
      refine pz_iload_n dX5_done_319 rfl ?_
      obtain ⟨_, _, h1, h2, hf⟩ := hf
      refine pz_iald dX5_done_320 h1 h2 ?_
      obtain ⟨hne, hf⟩ := hf
      refine pz_irem dX5_done_321 hne ?_
      refine pz_callS2 (rc := 0) (rs := 0) (mc := 0) (ms := 0) dX5_done_322 (k_X5_goesUp X (d + 1) _ _ _ _ hf) (Nat.le_of_ble_eq_true rfl) mf_X5_goesUp ml_X5_190 mt_X5_goesUp (fun _ h9 hq => ?_)
      obtain ⟨_, rfl, hf⟩ := hq
      refine pz_aload_n dX5_done_325 rfl ?_
      obtain ⟨_, b35, h1, h2, hf⟩ := hf
      refine pz_get dX5_done_326 fl_X5_7 h1 h2 ?_
      refine pz_iload_n dX5_done_329 rfl ?_
      obtain ⟨_, _, h1, h2, hf⟩ := hf
      refine pz_iald dX5_done_330 h1 h2 ?_
      refine pz_iconst (v := (2 : Int32)) dX5_done_331 (by decide) ?_
      obtain ⟨ha, hb⟩ := hf
      refine pz_icmp_ne dX5_done_332 (tgt := 351) (by decide) (fun cc => ?_) (fun cc => ?_)
      · have hf := hb cc
        exact pz_drop (pz_part_of [0, 1, 2, 3, 5, 6, 10, 11] rfl) (kB_X5_done_351 X d _ _ _ _ _ _ _ _ _ _ _ _ hk204 hf)
      · have hf := ha cc
        refine pz_iload_n dX5_done_335 rfl ?_
        refine pz_iload dX5_done_336 rfl ?_
        refine pz_aload_n dX5_done_338 rfl ?_
        obtain ⟨_, b37, h1, h2, hf⟩ := hf
        refine pz_get dX5_done_339 fl_X5_19 h1 h2 ?_
        refine pz_iload_n dX5_done_342 rfl ?_
        obtain ⟨_, _, h1, h2, hf⟩ := hf
        refine pz_iald dX5_done_343 h1 h2 ?_
        obtain ⟨hne, hf⟩ := hf
        refine pz_idiv dX5_done_344 hne ?_
        refine pz_callS2 (rc := 0) (rs := 0) (mc := 0) (ms := 0) dX5_done_345 (k_X5_goesUp X (d + 1) _ _ _ _ hf) (Nat.le_of_ble_eq_true rfl) mf_X5_goesUp ml_X5_190 mt_X5_goesUp (fun _ h9 hq => ?_)
        obtain ⟨_, rfl, hf⟩ := hq
        obtain ⟨ha, hb⟩ := hf
        refine pz_if_eq dX5_done_348 (tgt := 355) (by decide) (fun cc => ?_) (fun cc => ?_)
        · have hf := ha cc
          refine pz_iconst (v := (0 : Int32)) dX5_done_355 (by decide) ?_
          exact pz_drop (pz_part_of [0, 1, 2, 3, 5, 6, 10, 11] rfl) (kB_X5_done_356 X d _ _ _ _ _ _ _ _ _ _ _ _ _ hk204 hf)
        · have hf := hb cc
          exact pz_drop (pz_part_of [0, 1, 2, 3, 5, 6, 10, 11] rfl) (kB_X5_done_351 X d _ _ _ _ _ _ _ _ _ _ _ _ hk204 hf)
def B_X5_done_250 (a0 : Nat) (x1 : Int32) (x2 : Int32) (x3 : Int32) (x5 : Int32) (x6 : Int32) (x10 : Int32) (x11 : Int32) (xs0 : Int32) (k204 : Int32 → pz_H → Prop) (Q : Int32 → pz_H → Prop) (h : pz_H) : Prop := (pq_gA h a0 5 7 (fun b25 => (pq_aI h b25 (((12 : Int32) * x1) + x11) (fun v26 => (pq_br (xs0 = 0) (pq_gA h a0 5 4 (fun b27 => (pq_aI h b27 x1 (fun v28 => (pq_ne v28 (B_X5_done_292 a0 x1 x2 x3 x5 x6 x10 x11 xs0 v26 (v26 - v26 / v28 * v28) k204 Q h)))))) (pq_gA h a0 5 4 (fun b29 => (pq_aI h b29 x1 (fun v30 => (pq_ne v30 (B_X5_done_292 a0 x1 x2 x3 x5 x6 x10 x11 xs0 v26 (v26 / v30) k204 Q h)))))))))))
set_option maxHeartbeats 4000000 in
set_option maxRecDepth 100000 in
theorem kB_X5_done_250 (X : pz_X) (d : Nat) (a0 : Nat) (x1 : Int32) (x2 : Int32) (x3 : Int32) (x5 : Int32) (x6 : Int32) (x10 : Int32) (x11 : Int32) (xs0 : Int32)  (k204 : Int32 → pz_H → Prop) (Q : Int32 → pz_H → Prop) (h : pz_H) (hk204 : ∀ (x11 : Int32) (h : pz_H), k204 x11 h → pz_W (fun _ => True) X M_X5_done (d + 2) 204 [(0, .ref a0), (1, .int x1), (2, .int x2), (3, .int x3), (5, .int x5), (6, .int x6), (10, .int x10), (11, .int x11)] [] h 0 0 (pq_qI Q)) (hf : B_X5_done_250 a0 x1 x2 x3 x5 x6 x10 x11 xs0 k204 Q h) : pz_W (fun _ => True) X M_X5_done (d + 2) 250 [(0, .ref a0), (1, .int x1), (2, .int x2), (3, .int x3), (5, .int x5), (6, .int x6), (10, .int x10), (11, .int x11)] [.int xs0] h 0 0 (pq_qI Q) := by
  unfold B_X5_done_250 at hf
  refine pz_istore dX5_done_250 (by decide) rfl ?_
  refine pz_aload_n dX5_done_252 rfl ?_
  obtain ⟨_, b25, h1, h2, hf⟩ := hf
  refine pz_get dX5_done_253 fl_X5_28 h1 h2 ?_
  refine pz_bipush (v := (12 : Int32)) dX5_done_256 (by decide) ?_
  refine pz_iload_n dX5_done_258 rfl ?_
  refine pz_imul dX5_done_259 ?_
  refine pz_iload dX5_done_260 rfl ?_
  refine pz_iadd dX5_done_262 ?_
  obtain ⟨_, _, h1, h2, hf⟩ := hf
  refine pz_iald dX5_done_263 h1 h2 ?_
  refine pz_istore dX5_done_264 (by decide) rfl ?_
  refine pz_iload dX5_done_266 rfl ?_
  obtain ⟨ha, hb⟩ := hf
  refine pz_if_eq dX5_done_268 (tgt := 283) (by decide) (fun cc => ?_) (fun cc => ?_)
  · have hf := ha cc
    refine pz_iload dX5_done_283 rfl ?_
    refine pz_aload_n dX5_done_285 rfl ?_
    obtain ⟨_, b27, h1, h2, hf⟩ := hf
    refine pz_get dX5_done_286 fl_X5_19 h1 h2 ?_
    refine pz_iload_n dX5_done_289 rfl ?_
    obtain ⟨_, _, h1, h2, hf⟩ := hf
    refine pz_iald dX5_done_290 h1 h2 ?_
    obtain ⟨hne, hf⟩ := hf
    refine pz_irem dX5_done_291 hne ?_
    exact pz_drop (pz_part_of [0, 1, 2, 3, 5, 6, 10, 11, 12, 13] rfl) (kB_X5_done_292 X d _ _ _ _ _ _ _ _ _ _ _ _ _ _ hk204 hf)
  · have hf := hb cc
    refine pz_iload dX5_done_271 rfl ?_
    refine pz_aload_n dX5_done_273 rfl ?_
    obtain ⟨_, b29, h1, h2, hf⟩ := hf
    refine pz_get dX5_done_274 fl_X5_19 h1 h2 ?_
    refine pz_iload_n dX5_done_277 rfl ?_
    obtain ⟨_, _, h1, h2, hf⟩ := hf
    refine pz_iald dX5_done_278 h1 h2 ?_
    obtain ⟨hne, hf⟩ := hf
    refine pz_idiv dX5_done_279 hne ?_
    refine pz_goto dX5_done_280 (tgt := 292) (by decide) ?_
    exact pz_drop (pz_part_of [0, 1, 2, 3, 5, 6, 10, 11, 12, 13] rfl) (kB_X5_done_292 X d _ _ _ _ _ _ _ _ _ _ _ _ _ _ hk204 hf)
def B_X5_done_249 (a0 : Nat) (x1 : Int32) (x2 : Int32) (x3 : Int32) (x5 : Int32) (x6 : Int32) (x10 : Int32) (x11 : Int32) (k204 : Int32 → pz_H → Prop) (Q : Int32 → pz_H → Prop) (h : pz_H) : Prop := (B_X5_done_250 a0 x1 x2 x3 x5 x6 x10 x11 (0 : Int32) k204 Q h)
set_option maxHeartbeats 4000000 in
set_option maxRecDepth 100000 in
theorem kB_X5_done_249 (X : pz_X) (d : Nat) (a0 : Nat) (x1 : Int32) (x2 : Int32) (x3 : Int32) (x5 : Int32) (x6 : Int32) (x10 : Int32) (x11 : Int32)  (k204 : Int32 → pz_H → Prop) (Q : Int32 → pz_H → Prop) (h : pz_H) (hk204 : ∀ (x11 : Int32) (h : pz_H), k204 x11 h → pz_W (fun _ => True) X M_X5_done (d + 2) 204 [(0, .ref a0), (1, .int x1), (2, .int x2), (3, .int x3), (5, .int x5), (6, .int x6), (10, .int x10), (11, .int x11)] [] h 0 0 (pq_qI Q)) (hf : B_X5_done_249 a0 x1 x2 x3 x5 x6 x10 x11 k204 Q h) : pz_W (fun _ => True) X M_X5_done (d + 2) 249 [(0, .ref a0), (1, .int x1), (2, .int x2), (3, .int x3), (5, .int x5), (6, .int x6), (10, .int x10), (11, .int x11)] [] h 0 0 (pq_qI Q) := by
  unfold B_X5_done_249 at hf
  refine pz_iconst (v := (0 : Int32)) dX5_done_249 (by decide) ?_
  exact pz_drop (pz_part_of [0, 1, 2, 3, 5, 6, 10, 11] rfl) (kB_X5_done_250 X d _ _ _ _ _ _ _ _ _ _ _ _ hk204 hf)
def L_X5_done_204 (a0 : Nat) (x1 : Int32) (x2 : Int32) (x3 : Int32) (x5 : Int32) (x6 : Int32) (x10 : Int32)  (Q : Int32 → pz_H → Prop) : Nat → Int32 → pz_H → Prop
  | 0, _, _ => False
  | n + 1, x11, h => (pq_gA h a0 5 5 (fun b17 => (pq_aI h b17 x1 (fun v18 => (pq_br (v18 ≤ x11) (Q x10 h) (pq_gA h a0 5 1 (fun b19 => (pq_aI h b19 x1 (fun v20 => (pq_br (v20 = (2 : Int32)) (pq_gA h a0 5 3 (fun b21 => (pq_aI h b21 x1 (fun v22 => (pq_gA h a0 5 4 (fun b23 => (pq_aI h b23 x1 (fun v24 => (pq_br (x11 < (v22 * (v24 - (1 : Int32)))) (B_X5_done_249 a0 x1 x2 x3 x5 x6 x10 x11 (fun z0 hz => L_X5_done_204 a0 x1 x2 x3 x5 x6 x10 Q n z0 hz) Q h) (B_X5_done_250 a0 x1 x2 x3 x5 x6 x10 x11 (1 : Int32) (fun z0 hz => L_X5_done_204 a0 x1 x2 x3 x5 x6 x10 Q n z0 hz) Q h)))))))))) (B_X5_done_249 a0 x1 x2 x3 x5 x6 x10 x11 (fun z0 hz => L_X5_done_204 a0 x1 x2 x3 x5 x6 x10 Q n z0 hz) Q h)))))))))))
set_option maxHeartbeats 4000000 in
set_option maxRecDepth 100000 in
theorem kL_X5_done_204 (X : pz_X) (d : Nat) (a0 : Nat) (x1 : Int32) (x2 : Int32) (x3 : Int32) (x5 : Int32) (x6 : Int32) (x10 : Int32)   (Q : Int32 → pz_H → Prop)  : ∀ (n : Nat) (x11 : Int32) (h : pz_H), L_X5_done_204 a0 x1 x2 x3 x5 x6 x10  Q n x11 h → pz_W (fun _ => True) X M_X5_done (d + 2) 204 [(0, .ref a0), (1, .int x1), (2, .int x2), (3, .int x3), (5, .int x5), (6, .int x6), (10, .int x10), (11, .int x11)] [] h 0 0 (pq_qI Q) := by
  intro n
  induction n with
  | zero =>
    intro _ _ hf
    exact False.elim hf
  | succ n ih =>
    intro x11 h hf
    unfold L_X5_done_204 at hf
    refine pz_iload dX5_done_204 rfl ?_
    refine pz_aload_n dX5_done_206 rfl ?_
    obtain ⟨_, b17, h1, h2, hf⟩ := hf
    refine pz_get dX5_done_207 fl_X5_22 h1 h2 ?_
    refine pz_iload_n dX5_done_210 rfl ?_
    obtain ⟨_, _, h1, h2, hf⟩ := hf
    refine pz_iald dX5_done_211 h1 h2 ?_
    obtain ⟨ha, hb⟩ := hf
    refine pz_icmp_ge dX5_done_212 (tgt := 414) (by decide) (fun cc => ?_) (fun cc => ?_)
    · have hf := ha cc
      refine pz_iload dX5_done_414 rfl ?_
      exact pz_ireturn dX5_done_416 rfl rfl ⟨_, rfl, hf⟩
    · have hf := hb cc
      refine pz_aload_n dX5_done_215 rfl ?_
      obtain ⟨_, b19, h1, h2, hf⟩ := hf
      refine pz_get dX5_done_216 fl_X5_7 h1 h2 ?_
      refine pz_iload_n dX5_done_219 rfl ?_
      obtain ⟨_, _, h1, h2, hf⟩ := hf
      refine pz_iald dX5_done_220 h1 h2 ?_
      refine pz_iconst (v := (2 : Int32)) dX5_done_221 (by decide) ?_
      obtain ⟨ha, hb⟩ := hf
      refine pz_icmp_ne dX5_done_222 (tgt := 249) (by decide) (fun cc => ?_) (fun cc => ?_)
      · have hf := hb cc
        exact pz_drop (pz_part_of [0, 1, 2, 3, 5, 6, 10, 11] rfl) (kB_X5_done_249 X d _ _ _ _ _ _ _ _ _ _ _ ih hf)
      · have hf := ha cc
        refine pz_iload dX5_done_225 rfl ?_
        refine pz_aload_n dX5_done_227 rfl ?_
        obtain ⟨_, b21, h1, h2, hf⟩ := hf
        refine pz_get dX5_done_228 fl_X5_16 h1 h2 ?_
        refine pz_iload_n dX5_done_231 rfl ?_
        obtain ⟨_, _, h1, h2, hf⟩ := hf
        refine pz_iald dX5_done_232 h1 h2 ?_
        refine pz_aload_n dX5_done_233 rfl ?_
        obtain ⟨_, b23, h1, h2, hf⟩ := hf
        refine pz_get dX5_done_234 fl_X5_19 h1 h2 ?_
        refine pz_iload_n dX5_done_237 rfl ?_
        obtain ⟨_, _, h1, h2, hf⟩ := hf
        refine pz_iald dX5_done_238 h1 h2 ?_
        refine pz_iconst (v := (1 : Int32)) dX5_done_239 (by decide) ?_
        refine pz_isub dX5_done_240 ?_
        refine pz_imul dX5_done_241 ?_
        obtain ⟨ha, hb⟩ := hf
        refine pz_icmp_lt dX5_done_242 (tgt := 249) (by decide) (fun cc => ?_) (fun cc => ?_)
        · have hf := ha cc
          exact pz_drop (pz_part_of [0, 1, 2, 3, 5, 6, 10, 11] rfl) (kB_X5_done_249 X d _ _ _ _ _ _ _ _ _ _ _ ih hf)
        · have hf := hb cc
          refine pz_iconst (v := (1 : Int32)) dX5_done_245 (by decide) ?_
          refine pz_goto dX5_done_246 (tgt := 250) (by decide) ?_
          exact pz_drop (pz_part_of [0, 1, 2, 3, 5, 6, 10, 11] rfl) (kB_X5_done_250 X d _ _ _ _ _ _ _ _ _ _ _ _ ih hf)
def B_X5_done_201 (a0 : Nat) (x1 : Int32) (x2 : Int32) (x3 : Int32) (x5 : Int32) (x6 : Int32) (x10 : Int32)  (Q : Int32 → pz_H → Prop) (h : pz_H) : Prop := (pq_ex (fun m204 => L_X5_done_204 a0 x1 x2 x3 x5 x6 x10 Q m204 (0 : Int32) h))
set_option maxHeartbeats 4000000 in
set_option maxRecDepth 100000 in
theorem kB_X5_done_201 (X : pz_X) (d : Nat) (a0 : Nat) (x1 : Int32) (x2 : Int32) (x3 : Int32) (x5 : Int32) (x6 : Int32) (x10 : Int32)   (Q : Int32 → pz_H → Prop) (h : pz_H)  (hf : B_X5_done_201 a0 x1 x2 x3 x5 x6 x10  Q h) : pz_W (fun _ => True) X M_X5_done (d + 2) 201 [(0, .ref a0), (1, .int x1), (2, .int x2), (3, .int x3), (5, .int x5), (6, .int x6), (10, .int x10)] [] h 0 0 (pq_qI Q) := by
  unfold B_X5_done_201 at hf
  refine pz_iconst (v := (0 : Int32)) dX5_done_201 (by decide) ?_
  refine pz_istore dX5_done_202 (by decide) rfl ?_
  obtain ⟨n9, hf⟩ := hf
  exact pz_drop (pz_part_of [0, 1, 2, 3, 5, 6, 10, 11] rfl) (kL_X5_done_204 X d _ _ _ _ _ _ _ _  n9 _ _ hf)
def B_X5_done_195 (a0 : Nat) (x1 : Int32) (x2 : Int32) (x3 : Int32) (x5 : Int32) (x6 : Int32) (x7 : Int32) (x8 : Int32) (x9 : Int32) (x10 : Int32) (x11 : Int32) (k129 : Int32 → pz_H → Prop) (Q : Int32 → pz_H → Prop) (h : pz_H) : Prop := (k129 (x11 + (1 : Int32)) h)
set_option maxHeartbeats 4000000 in
set_option maxRecDepth 100000 in
theorem kB_X5_done_195 (X : pz_X) (d : Nat) (a0 : Nat) (x1 : Int32) (x2 : Int32) (x3 : Int32) (x5 : Int32) (x6 : Int32) (x7 : Int32) (x8 : Int32) (x9 : Int32) (x10 : Int32) (x11 : Int32)  (k129 : Int32 → pz_H → Prop) (Q : Int32 → pz_H → Prop) (h : pz_H) (hk129 : ∀ (x11 : Int32) (h : pz_H), k129 x11 h → pz_W (fun _ => True) X M_X5_done (d + 2) 129 [(0, .ref a0), (1, .int x1), (2, .int x2), (3, .int x3), (5, .int x5), (6, .int x6), (7, .int x7), (8, .int x8), (9, .int x9), (10, .int x10), (11, .int x11)] [] h 0 0 (pq_qI Q)) (hf : B_X5_done_195 a0 x1 x2 x3 x5 x6 x7 x8 x9 x10 x11 k129 Q h) : pz_W (fun _ => True) X M_X5_done (d + 2) 195 [(0, .ref a0), (1, .int x1), (2, .int x2), (3, .int x3), (5, .int x5), (6, .int x6), (7, .int x7), (8, .int x8), (9, .int x9), (10, .int x10), (11, .int x11)] [] h 0 0 (pq_qI Q) := by
  unfold B_X5_done_195 at hf
  refine pz_iinc dX5_done_195 rfl (by rfl) (by decide) rfl ?_
  refine pz_goto dX5_done_198 (tgt := 129) (by decide) ?_
  exact pz_drop (pz_part_of [0, 1, 2, 3, 5, 6, 7, 8, 9, 10, 11] rfl) (hk129 _ _ hf)
def L_X5_done_129 (a0 : Nat) (x1 : Int32) (x2 : Int32) (x3 : Int32) (x5 : Int32) (x6 : Int32) (x7 : Int32) (x8 : Int32) (x9 : Int32) (x10 : Int32)  (Q : Int32 → pz_H → Prop) : Nat → Int32 → pz_H → Prop
  | 0, _, _ => False
  | n + 1, x11, h => (pq_br (x9 < x11) (B_X5_done_201 a0 x1 x2 x3 x5 x6 x10 Q h) (pq_gA h a0 5 1 (fun b7 => (pq_aI h b7 x1 (fun v8 => (pq_br (v8 = 0) (pq_o h a0 5 (F_X5_liesAt a0 x1 x8 x11 h (fun v10 h9 => (pq_o h9 a0 5 (F_X5_liesAt a0 x1 x8 (x11 + (1 : Int32)) h9 (fun v12 h11 => (F_X5_lesser v10 v12 h11 (fun v14 h13 => (pq_br (x7 ≤ v14) (B_X5_done_195 a0 x1 x2 x3 x5 x6 x7 x8 x9 x10 x11 (fun z0 hz => L_X5_done_129 a0 x1 x2 x3 x5 x6 x7 x8 x9 x10 Q n z0 hz) Q h13) (F_X5_greater v10 v12 h13 (fun v16 h15 => (pq_br (v16 ≤ x7) (B_X5_done_195 a0 x1 x2 x3 x5 x6 x7 x8 x9 x10 x11 (fun z0 hz => L_X5_done_129 a0 x1 x2 x3 x5 x6 x7 x8 x9 x10 Q n z0 hz) Q h15) (Q (0 : Int32) h15))))))))))))) (B_X5_done_201 a0 x1 x2 x3 x5 x6 x10 Q h)))))))
set_option maxHeartbeats 4000000 in
set_option maxRecDepth 100000 in
theorem kL_X5_done_129 (X : pz_X) (d : Nat) (a0 : Nat) (x1 : Int32) (x2 : Int32) (x3 : Int32) (x5 : Int32) (x6 : Int32) (x7 : Int32) (x8 : Int32) (x9 : Int32) (x10 : Int32)   (Q : Int32 → pz_H → Prop)  : ∀ (n : Nat) (x11 : Int32) (h : pz_H), L_X5_done_129 a0 x1 x2 x3 x5 x6 x7 x8 x9 x10  Q n x11 h → pz_W (fun _ => True) X M_X5_done (d + 2) 129 [(0, .ref a0), (1, .int x1), (2, .int x2), (3, .int x3), (5, .int x5), (6, .int x6), (7, .int x7), (8, .int x8), (9, .int x9), (10, .int x10), (11, .int x11)] [] h 0 0 (pq_qI Q) := by
  intro n
  induction n with
  | zero =>
    intro _ _ hf
    exact False.elim hf
  | succ n ih =>
    intro x11 h hf
    unfold L_X5_done_129 at hf
    refine pz_iload dX5_done_129 rfl ?_
    refine pz_iload dX5_done_131 rfl ?_
    obtain ⟨ha, hb⟩ := hf
    refine pz_icmp_gt dX5_done_133 (tgt := 201) (by decide) (fun cc => ?_) (fun cc => ?_)
    · have hf := ha cc
      exact pz_drop (pz_part_of [0, 1, 2, 3, 5, 6, 10] rfl) (kB_X5_done_201 X d _ _ _ _ _ _ _ _ _  hf)
    · have hf := hb cc
      refine pz_aload_n dX5_done_136 rfl ?_
      obtain ⟨_, b7, h1, h2, hf⟩ := hf
      refine pz_get dX5_done_137 fl_X5_7 h1 h2 ?_
      refine pz_iload_n dX5_done_140 rfl ?_
      obtain ⟨_, _, h1, h2, hf⟩ := hf
      refine pz_iald dX5_done_141 h1 h2 ?_
      obtain ⟨ha, hb⟩ := hf
      refine pz_if_ne dX5_done_142 (tgt := 201) (by decide) (fun cc => ?_) (fun cc => ?_)
      · have hf := hb cc
        exact pz_drop (pz_part_of [0, 1, 2, 3, 5, 6, 10] rfl) (kB_X5_done_201 X d _ _ _ _ _ _ _ _ _  hf)
      · have hf := ha cc
        refine pz_aload_n dX5_done_145 rfl ?_
        refine pz_iload_n dX5_done_146 rfl ?_
        refine pz_iload dX5_done_147 rfl ?_
        refine pz_iload dX5_done_149 rfl ?_
        obtain ⟨_, hO, hf⟩ := hf
        refine pz_callV3 (rc := 0) (rs := 0) (mc := 0) (ms := 0) dX5_done_151 (k_X5_liesAt X d _ _ _ _ _ _ hf) (Nat.le_of_ble_eq_true rfl) mf_X5_liesAt ml_X5_200 hO rfl mi_X5_liesAt ms_X5_liesAt (fun _ h9 hq => ?_)
        obtain ⟨_, rfl, hf⟩ := hq
        refine pz_istore dX5_done_154 (by decide) rfl ?_
        refine pz_aload_n dX5_done_156 rfl ?_
        refine pz_iload_n dX5_done_157 rfl ?_
        refine pz_iload dX5_done_158 rfl ?_
        refine pz_iload dX5_done_160 rfl ?_
        refine pz_iconst (v := (1 : Int32)) dX5_done_162 (by decide) ?_
        refine pz_iadd dX5_done_163 ?_
        obtain ⟨_, hO, hf⟩ := hf
        refine pz_callV3 (rc := 0) (rs := 0) (mc := 0) (ms := 0) dX5_done_164 (k_X5_liesAt X d _ _ _ _ _ _ hf) (Nat.le_of_ble_eq_true rfl) mf_X5_liesAt ml_X5_200 hO rfl mi_X5_liesAt ms_X5_liesAt (fun _ h9 hq => ?_)
        obtain ⟨_, rfl, hf⟩ := hq
        refine pz_istore dX5_done_167 (by decide) rfl ?_
        refine pz_iload dX5_done_169 rfl ?_
        refine pz_iload dX5_done_171 rfl ?_
        refine pz_iload dX5_done_173 rfl ?_
        refine pz_callS2 (rc := 0) (rs := 0) (mc := 0) (ms := 0) dX5_done_175 (k_X5_lesser X (d + 1) _ _ _ _ hf) (Nat.le_of_ble_eq_true rfl) mf_X5_lesser ml_X5_127 mt_X5_lesser (fun _ h9 hq => ?_)
        obtain ⟨_, rfl, hf⟩ := hq
        obtain ⟨ha, hb⟩ := hf
        refine pz_icmp_le dX5_done_178 (tgt := 195) (by decide) (fun cc => ?_) (fun cc => ?_)
        · have hf := ha cc
          exact pz_drop (pz_part_of [0, 1, 2, 3, 5, 6, 7, 8, 9, 10, 11] rfl) (kB_X5_done_195 X d _ _ _ _ _ _ _ _ _ _ _ _ _ _ ih hf)
        · have hf := hb cc
          refine pz_iload dX5_done_181 rfl ?_
          refine pz_iload dX5_done_183 rfl ?_
          refine pz_iload dX5_done_185 rfl ?_
          refine pz_callS2 (rc := 0) (rs := 0) (mc := 0) (ms := 0) dX5_done_187 (k_X5_greater X (d + 1) _ _ _ _ hf) (Nat.le_of_ble_eq_true rfl) mf_X5_greater ml_X5_130 mt_X5_greater (fun _ h9 hq => ?_)
          obtain ⟨_, rfl, hf⟩ := hq
          obtain ⟨ha, hb⟩ := hf
          refine pz_icmp_ge dX5_done_190 (tgt := 195) (by decide) (fun cc => ?_) (fun cc => ?_)
          · have hf := ha cc
            exact pz_drop (pz_part_of [0, 1, 2, 3, 5, 6, 7, 8, 9, 10, 11] rfl) (kB_X5_done_195 X d _ _ _ _ _ _ _ _ _ _ _ _ _ _ ih hf)
          · have hf := hb cc
            refine pz_iconst (v := (0 : Int32)) dX5_done_193 (by decide) ?_
            exact pz_ireturn dX5_done_194 rfl rfl ⟨_, rfl, hf⟩
def B_X5_done_120 (a0 : Nat) (x1 : Int32) (x2 : Int32) (x3 : Int32) (x5 : Int32) (x6 : Int32) (x7 : Int32) (x8 : Int32) (x9 : Int32) (x10 : Int32) (x11 : Int32) (k78 : Int32 → Int32 → pz_H → Prop) (Q : Int32 → pz_H → Prop) (h : pz_H) : Prop := (k78 x10 (x11 + (1 : Int32)) h)
set_option maxHeartbeats 4000000 in
set_option maxRecDepth 100000 in
theorem kB_X5_done_120 (X : pz_X) (d : Nat) (a0 : Nat) (x1 : Int32) (x2 : Int32) (x3 : Int32) (x5 : Int32) (x6 : Int32) (x7 : Int32) (x8 : Int32) (x9 : Int32) (x10 : Int32) (x11 : Int32)  (k78 : Int32 → Int32 → pz_H → Prop) (Q : Int32 → pz_H → Prop) (h : pz_H) (hk78 : ∀ (x10 : Int32) (x11 : Int32) (h : pz_H), k78 x10 x11 h → pz_W (fun _ => True) X M_X5_done (d + 2) 78 [(0, .ref a0), (1, .int x1), (2, .int x2), (3, .int x3), (5, .int x5), (6, .int x6), (7, .int x7), (8, .int x8), (9, .int x9), (10, .int x10), (11, .int x11)] [] h 0 0 (pq_qI Q)) (hf : B_X5_done_120 a0 x1 x2 x3 x5 x6 x7 x8 x9 x10 x11 k78 Q h) : pz_W (fun _ => True) X M_X5_done (d + 2) 120 [(0, .ref a0), (1, .int x1), (2, .int x2), (3, .int x3), (5, .int x5), (6, .int x6), (7, .int x7), (8, .int x8), (9, .int x9), (10, .int x10), (11, .int x11)] [] h 0 0 (pq_qI Q) := by
  unfold B_X5_done_120 at hf
  refine pz_iinc dX5_done_120 rfl (by rfl) (by decide) rfl ?_
  refine pz_goto dX5_done_123 (tgt := 78) (by decide) ?_
  exact pz_drop (pz_part_of [0, 1, 2, 3, 5, 6, 7, 8, 9, 10, 11] rfl) (hk78 _ _ _ hf)
def L_X5_done_78 (a0 : Nat) (x1 : Int32) (x2 : Int32) (x3 : Int32) (x5 : Int32) (x6 : Int32) (x7 : Int32) (x8 : Int32) (x9 : Int32)  (Q : Int32 → pz_H → Prop) : Nat → Int32 → Int32 → pz_H → Prop
  | 0, _, _, _ => False
  | n + 1, x10, x11, h => (pq_br (x9 ≤ x11) (pq_ex (fun m129 => L_X5_done_129 a0 x1 x2 x3 x5 x6 x7 x8 x9 x10 Q m129 (0 : Int32) h)) (pq_br (((x8 >>> (x11 &&& 31)) &&& (1 : Int32)) = 0) (pq_o h a0 5 (F_X5_liesAt a0 x1 x8 (x11 + (1 : Int32)) h (fun v6 h5 => (pq_br (v6 = x7) (B_X5_done_120 a0 x1 x2 x3 x5 x6 x7 x8 x9 (x10 ||| ((1 : Int32) <<< (x11 &&& 31))) x11 (fun z0 z1 hz => L_X5_done_78 a0 x1 x2 x3 x5 x6 x7 x8 x9 Q n z0 z1 hz) Q h5) (B_X5_done_120 a0 x1 x2 x3 x5 x6 x7 x8 x9 x10 x11 (fun z0 z1 hz => L_X5_done_78 a0 x1 x2 x3 x5 x6 x7 x8 x9 Q n z0 z1 hz) Q h5))))) (B_X5_done_120 a0 x1 x2 x3 x5 x6 x7 x8 x9 x10 x11 (fun z0 z1 hz => L_X5_done_78 a0 x1 x2 x3 x5 x6 x7 x8 x9 Q n z0 z1 hz) Q h)))
set_option maxHeartbeats 4000000 in
set_option maxRecDepth 100000 in
theorem kL_X5_done_78 (X : pz_X) (d : Nat) (a0 : Nat) (x1 : Int32) (x2 : Int32) (x3 : Int32) (x5 : Int32) (x6 : Int32) (x7 : Int32) (x8 : Int32) (x9 : Int32)   (Q : Int32 → pz_H → Prop)  : ∀ (n : Nat) (x10 : Int32) (x11 : Int32) (h : pz_H), L_X5_done_78 a0 x1 x2 x3 x5 x6 x7 x8 x9  Q n x10 x11 h → pz_W (fun _ => True) X M_X5_done (d + 2) 78 [(0, .ref a0), (1, .int x1), (2, .int x2), (3, .int x3), (5, .int x5), (6, .int x6), (7, .int x7), (8, .int x8), (9, .int x9), (10, .int x10), (11, .int x11)] [] h 0 0 (pq_qI Q) := by
  intro n
  induction n with
  | zero =>
    intro _ _ _ hf
    exact False.elim hf
  | succ n ih =>
    intro x10 x11 h hf
    unfold L_X5_done_78 at hf
    refine pz_iload dX5_done_78 rfl ?_
    refine pz_iload dX5_done_80 rfl ?_
    obtain ⟨ha, hb⟩ := hf
    refine pz_icmp_ge dX5_done_82 (tgt := 126) (by decide) (fun cc => ?_) (fun cc => ?_)
    · have hf := ha cc
      refine pz_iconst (v := (0 : Int32)) dX5_done_126 (by decide) ?_
      refine pz_istore dX5_done_127 (by decide) rfl ?_
      obtain ⟨n9, hf⟩ := hf
      exact pz_drop (pz_part_of [0, 1, 2, 3, 5, 6, 7, 8, 9, 10, 11] rfl) (kL_X5_done_129 X d _ _ _ _ _ _ _ _ _ _ _  n9 _ _ hf)
    · have hf := hb cc
      refine pz_iload dX5_done_85 rfl ?_
      refine pz_iload dX5_done_87 rfl ?_
      refine pz_ishr dX5_done_89 ?_
      refine pz_iconst (v := (1 : Int32)) dX5_done_90 (by decide) ?_
      refine pz_iand dX5_done_91 ?_
      obtain ⟨ha, hb⟩ := hf
      refine pz_if_ne dX5_done_92 (tgt := 120) (by decide) (fun cc => ?_) (fun cc => ?_)
      · have hf := hb cc
        exact pz_drop (pz_part_of [0, 1, 2, 3, 5, 6, 7, 8, 9, 10, 11] rfl) (kB_X5_done_120 X d _ _ _ _ _ _ _ _ _ _ _ _ _ _ ih hf)
      · have hf := ha cc
        refine pz_aload_n dX5_done_95 rfl ?_
        refine pz_iload_n dX5_done_96 rfl ?_
        refine pz_iload dX5_done_97 rfl ?_
        refine pz_iload dX5_done_99 rfl ?_
        refine pz_iconst (v := (1 : Int32)) dX5_done_101 (by decide) ?_
        refine pz_iadd dX5_done_102 ?_
        obtain ⟨_, hO, hf⟩ := hf
        refine pz_callV3 (rc := 0) (rs := 0) (mc := 0) (ms := 0) dX5_done_103 (k_X5_liesAt X d _ _ _ _ _ _ hf) (Nat.le_of_ble_eq_true rfl) mf_X5_liesAt ml_X5_200 hO rfl mi_X5_liesAt ms_X5_liesAt (fun _ h9 hq => ?_)
        obtain ⟨_, rfl, hf⟩ := hq
        refine pz_iload dX5_done_106 rfl ?_
        obtain ⟨ha, hb⟩ := hf
        refine pz_icmp_ne dX5_done_108 (tgt := 120) (by decide) (fun cc => ?_) (fun cc => ?_)
        · have hf := hb cc
          exact pz_drop (pz_part_of [0, 1, 2, 3, 5, 6, 7, 8, 9, 10, 11] rfl) (kB_X5_done_120 X d _ _ _ _ _ _ _ _ _ _ _ _ _ _ ih hf)
        · have hf := ha cc
          refine pz_iload dX5_done_111 rfl ?_
          refine pz_iconst (v := (1 : Int32)) dX5_done_113 (by decide) ?_
          refine pz_iload dX5_done_114 rfl ?_
          refine pz_ishl dX5_done_116 ?_
          refine pz_ior dX5_done_117 ?_
          refine pz_istore dX5_done_118 (by decide) rfl ?_
          exact pz_drop (pz_part_of [0, 1, 2, 3, 5, 6, 7, 8, 9, 10, 11] rfl) (kB_X5_done_120 X d _ _ _ _ _ _ _ _ _ _ _ _ _ _ ih hf)
def B_X5_done_61 (a0 : Nat) (x1 : Int32) (x2 : Int32) (x3 : Int32) (x5 : Int32) (x6 : Int32) (x7 : Int32) (xs0 : Int32)  (Q : Int32 → pz_H → Prop) (h : pz_H) : Prop := (pq_o h a0 5 (F_X5_gapsOf a0 x1 x5 h (fun v4 h3 => (pq_ex (fun m78 => L_X5_done_78 a0 x1 x2 x3 x5 x6 x7 xs0 v4 Q m78 (0 : Int32) (0 : Int32) h3)))))
set_option maxHeartbeats 4000000 in
set_option maxRecDepth 100000 in
theorem kB_X5_done_61 (X : pz_X) (d : Nat) (a0 : Nat) (x1 : Int32) (x2 : Int32) (x3 : Int32) (x5 : Int32) (x6 : Int32) (x7 : Int32) (xs0 : Int32)   (Q : Int32 → pz_H → Prop) (h : pz_H)  (hf : B_X5_done_61 a0 x1 x2 x3 x5 x6 x7 xs0  Q h) : pz_W (fun _ => True) X M_X5_done (d + 2) 61 [(0, .ref a0), (1, .int x1), (2, .int x2), (3, .int x3), (5, .int x5), (6, .int x6), (7, .int x7)] [.int xs0] h 0 0 (pq_qI Q) := by
  unfold B_X5_done_61 at hf
  refine pz_istore dX5_done_61 (by decide) rfl ?_
  refine pz_aload_n dX5_done_63 rfl ?_
  refine pz_iload_n dX5_done_64 rfl ?_
  refine pz_iload dX5_done_65 rfl ?_
  obtain ⟨_, hO, hf⟩ := hf
  refine pz_callV2 (rc := 0) (rs := 0) (mc := 0) (ms := 0) dX5_done_67 (k_X5_gapsOf X (d + 1) _ _ _ _ _ hf) (Nat.le_of_ble_eq_true rfl) mf_X5_gapsOf ml_X5_196 hO rfl mi_X5_gapsOf ms_X5_gapsOf (fun _ h9 hq => ?_)
  obtain ⟨_, rfl, hf⟩ := hq
  refine pz_istore dX5_done_70 (by decide) rfl ?_
  refine pz_iconst (v := (0 : Int32)) dX5_done_72 (by decide) ?_
  refine pz_istore dX5_done_73 (by decide) rfl ?_
  refine pz_iconst (v := (0 : Int32)) dX5_done_75 (by decide) ?_
  refine pz_istore dX5_done_76 (by decide) rfl ?_
  obtain ⟨n9, hf⟩ := hf
  exact pz_drop (pz_part_of [0, 1, 2, 3, 5, 6, 7, 8, 9, 10, 11] rfl) (kL_X5_done_78 X d _ _ _ _ _ _ _ _ _ _  n9 _ _ _ hf)
def B_X5_done_51 (a0 : Nat) (x1 : Int32) (x2 : Int32) (x3 : Int32) (x5 : Int32) (x6 : Int32) (x7 : Int32)  (Q : Int32 → pz_H → Prop) (h : pz_H) : Prop := (pq_br (x5 = 0) (B_X5_done_61 a0 x1 x2 x3 x5 x6 x7 x2 Q h) (B_X5_done_61 a0 x1 x2 x3 x5 x6 x7 x3 Q h))
set_option maxHeartbeats 4000000 in
set_option maxRecDepth 100000 in
theorem kB_X5_done_51 (X : pz_X) (d : Nat) (a0 : Nat) (x1 : Int32) (x2 : Int32) (x3 : Int32) (x5 : Int32) (x6 : Int32) (x7 : Int32)   (Q : Int32 → pz_H → Prop) (h : pz_H)  (hf : B_X5_done_51 a0 x1 x2 x3 x5 x6 x7  Q h) : pz_W (fun _ => True) X M_X5_done (d + 2) 51 [(0, .ref a0), (1, .int x1), (2, .int x2), (3, .int x3), (5, .int x5), (6, .int x6), (7, .int x7)] [] h 0 0 (pq_qI Q) := by
  unfold B_X5_done_51 at hf
  refine pz_iload dX5_done_51 rfl ?_
  obtain ⟨ha, hb⟩ := hf
  refine pz_if_eq dX5_done_53 (tgt := 60) (by decide) (fun cc => ?_) (fun cc => ?_)
  · have hf := ha cc
    refine pz_iload_n dX5_done_60 rfl ?_
    exact pz_drop (pz_part_of [0, 1, 2, 3, 5, 6, 7] rfl) (kB_X5_done_61 X d _ _ _ _ _ _ _ _ _ _  hf)
  · have hf := hb cc
    refine pz_iload_n dX5_done_56 rfl ?_
    refine pz_goto dX5_done_57 (tgt := 61) (by decide) ?_
    exact pz_drop (pz_part_of [0, 1, 2, 3, 5, 6, 7] rfl) (kB_X5_done_61 X d _ _ _ _ _ _ _ _ _ _  hf)
def B_X5_done_26 (a0 : Nat) (x1 : Int32) (x2 : Int32) (x3 : Int32) (x4 : Int32) (x5 : Int32) (xs0 : Int32)  (Q : Int32 → pz_H → Prop) (h : pz_H) : Prop := (pq_br (x5 = 0) (B_X5_done_51 a0 x1 x2 x3 x5 xs0 (x4 >>> ((2 : Int32) &&& 31)) Q h) (pq_gA h a0 5 1 (fun b1 => (pq_aI h b1 x1 (fun v2 => (pq_br (v2 = (2 : Int32)) (B_X5_done_51 a0 x1 x2 x3 x5 xs0 (x4 >>> ((2 : Int32) &&& 31)) Q h) (Q (0 : Int32) h)))))))
set_option maxHeartbeats 4000000 in
set_option maxRecDepth 100000 in
theorem kB_X5_done_26 (X : pz_X) (d : Nat) (a0 : Nat) (x1 : Int32) (x2 : Int32) (x3 : Int32) (x4 : Int32) (x5 : Int32) (xs0 : Int32)   (Q : Int32 → pz_H → Prop) (h : pz_H)  (hf : B_X5_done_26 a0 x1 x2 x3 x4 x5 xs0  Q h) : pz_W (fun _ => True) X M_X5_done (d + 2) 26 [(0, .ref a0), (1, .int x1), (2, .int x2), (3, .int x3), (4, .int x4), (5, .int x5)] [.int xs0] h 0 0 (pq_qI Q) := by
  unfold B_X5_done_26 at hf
  refine pz_istore dX5_done_26 (by decide) rfl ?_
  refine pz_iload dX5_done_28 rfl ?_
  refine pz_iconst (v := (2 : Int32)) dX5_done_30 (by decide) ?_
  refine pz_ishr dX5_done_31 ?_
  refine pz_istore dX5_done_32 (by decide) rfl ?_
  refine pz_iload dX5_done_34 rfl ?_
  obtain ⟨ha, hb⟩ := hf
  refine pz_if_eq dX5_done_36 (tgt := 51) (by decide) (fun cc => ?_) (fun cc => ?_)
  · have hf := ha cc
    exact pz_drop (pz_part_of [0, 1, 2, 3, 5, 6, 7] rfl) (kB_X5_done_51 X d _ _ _ _ _ _ _ _ _  hf)
  · have hf := hb cc
    refine pz_aload_n dX5_done_39 rfl ?_
    obtain ⟨_, b1, h1, h2, hf⟩ := hf
    refine pz_get dX5_done_40 fl_X5_7 h1 h2 ?_
    refine pz_iload_n dX5_done_43 rfl ?_
    obtain ⟨_, _, h1, h2, hf⟩ := hf
    refine pz_iald dX5_done_44 h1 h2 ?_
    refine pz_iconst (v := (2 : Int32)) dX5_done_45 (by decide) ?_
    obtain ⟨ha, hb⟩ := hf
    refine pz_icmp_eq dX5_done_46 (tgt := 51) (by decide) (fun cc => ?_) (fun cc => ?_)
    · have hf := ha cc
      exact pz_drop (pz_part_of [0, 1, 2, 3, 5, 6, 7] rfl) (kB_X5_done_51 X d _ _ _ _ _ _ _ _ _  hf)
    · have hf := hb cc
      refine pz_iconst (v := (0 : Int32)) dX5_done_49 (by decide) ?_
      exact pz_ireturn dX5_done_50 rfl rfl ⟨_, rfl, hf⟩
def B_X5_done_12 (a0 : Nat) (x1 : Int32) (x2 : Int32) (x3 : Int32) (x4 : Int32) (xs0 : Int32)  (Q : Int32 → pz_H → Prop) (h : pz_H) : Prop := (pq_br ((x4 &&& (1 : Int32)) = 0) (B_X5_done_26 a0 x1 x2 x3 x4 xs0 (0 : Int32) Q h) (B_X5_done_26 a0 x1 x2 x3 x4 xs0 (1 : Int32) Q h))
set_option maxHeartbeats 4000000 in
set_option maxRecDepth 100000 in
theorem kB_X5_done_12 (X : pz_X) (d : Nat) (a0 : Nat) (x1 : Int32) (x2 : Int32) (x3 : Int32) (x4 : Int32) (xs0 : Int32)   (Q : Int32 → pz_H → Prop) (h : pz_H)  (hf : B_X5_done_12 a0 x1 x2 x3 x4 xs0  Q h) : pz_W (fun _ => True) X M_X5_done (d + 2) 12 [(0, .ref a0), (1, .int x1), (2, .int x2), (3, .int x3), (4, .int x4)] [.int xs0] h 0 0 (pq_qI Q) := by
  unfold B_X5_done_12 at hf
  refine pz_istore dX5_done_12 (by decide) rfl ?_
  refine pz_iload dX5_done_14 rfl ?_
  refine pz_iconst (v := (1 : Int32)) dX5_done_16 (by decide) ?_
  refine pz_iand dX5_done_17 ?_
  obtain ⟨ha, hb⟩ := hf
  refine pz_if_eq dX5_done_18 (tgt := 25) (by decide) (fun cc => ?_) (fun cc => ?_)
  · have hf := ha cc
    refine pz_iconst (v := (0 : Int32)) dX5_done_25 (by decide) ?_
    exact pz_drop (pz_part_of [0, 1, 2, 3, 4, 5] rfl) (kB_X5_done_26 X d _ _ _ _ _ _ _ _ _  hf)
  · have hf := hb cc
    refine pz_iconst (v := (1 : Int32)) dX5_done_21 (by decide) ?_
    refine pz_goto dX5_done_22 (tgt := 26) (by decide) ?_
    exact pz_drop (pz_part_of [0, 1, 2, 3, 4, 5] rfl) (kB_X5_done_26 X d _ _ _ _ _ _ _ _ _  hf)
def F_X5_done (a0 : Nat) (x1 : Int32) (x2 : Int32) (x3 : Int32) (x4 : Int32) (h : pz_H) (Q : Int32 → pz_H → Prop) : Prop := (pq_br ((x4 &&& (2 : Int32)) = 0) (B_X5_done_12 a0 x1 x2 x3 x4 (0 : Int32) Q h) (B_X5_done_12 a0 x1 x2 x3 x4 (1 : Int32) Q h))
set_option maxHeartbeats 4000000 in
set_option maxRecDepth 100000 in
theorem k_X5_done (X : pz_X) (d : Nat) (a0 : Nat) (x1 : Int32) (x2 : Int32) (x3 : Int32) (x4 : Int32) (h : pz_H) (Q : Int32 → pz_H → Prop) (hf : F_X5_done a0 x1 x2 x3 x4 h Q) : pz_Call X M_X5_done (d + 2) 0 0 [.ref a0, .int x1, .int x2, .int x3, .int x4] h (pq_qI Q) := by
  refine pz_call_of (by decide +kernel) (Nat.le_of_ble_eq_true rfl) ?_
  unfold F_X5_done at hf
  refine pz_iload dX5_done_0 rfl ?_
  refine pz_iconst (v := (2 : Int32)) dX5_done_2 (by decide) ?_
  refine pz_iand dX5_done_3 ?_
  obtain ⟨ha, hb⟩ := hf
  refine pz_if_eq dX5_done_4 (tgt := 11) (by decide) (fun cc => ?_) (fun cc => ?_)
  · have hf := ha cc
    refine pz_iconst (v := (0 : Int32)) dX5_done_11 (by decide) ?_
    exact pz_drop (pz_part_of [0, 1, 2, 3, 4] rfl) (kB_X5_done_12 X d _ _ _ _ _ _ _ _  hf)
  · have hf := hb cc
    refine pz_iconst (v := (1 : Int32)) dX5_done_7 (by decide) ?_
    refine pz_goto dX5_done_8 (tgt := 12) (by decide) ?_
    exact pz_drop (pz_part_of [0, 1, 2, 3, 4] rfl) (kB_X5_done_12 X d _ _ _ _ _ _ _ _  hf)
def F_X5_stateOf (a0 : Nat) (x1 : Int32) (x2 : Int32) (h : pz_H) (Q : Int32 → pz_H → Prop) : Prop := (Q (x1 ||| (x2 <<< ((8 : Int32) &&& 31))) h)
set_option maxHeartbeats 4000000 in
set_option maxRecDepth 100000 in
theorem k_X5_stateOf (X : pz_X) (d : Nat) (a0 : Nat) (x1 : Int32) (x2 : Int32) (h : pz_H) (Q : Int32 → pz_H → Prop) (hf : F_X5_stateOf a0 x1 x2 h Q) : pz_Call X M_X5_stateOf (d + 0) 0 0 [.ref a0, .int x1, .int x2] h (pq_qI Q) := by
  refine pz_call_of (by decide +kernel) (Nat.le_of_ble_eq_true rfl) ?_
  unfold F_X5_stateOf at hf
  refine pz_iload_n dX5_stateOf_0 rfl ?_
  refine pz_iload_n dX5_stateOf_1 rfl ?_
  refine pz_bipush (v := (8 : Int32)) dX5_stateOf_2 (by decide) ?_
  refine pz_ishl dX5_stateOf_4 ?_
  refine pz_ior dX5_stateOf_5 ?_
  exact pz_ireturn dX5_stateOf_6 rfl rfl ⟨_, rfl, hf⟩
def B_X5_best_244 (xs0 : Int32)  (Q : Int32 → pz_H → Prop) (h : pz_H) : Prop := (Q xs0 h)
set_option maxHeartbeats 4000000 in
set_option maxRecDepth 100000 in
theorem kB_X5_best_244 (X : pz_X) (d : Nat) (xs0 : Int32)   (Q : Int32 → pz_H → Prop) (h : pz_H)  (hf : B_X5_best_244 xs0  Q h) : pz_W (fun _ => True) X M_X5_best (d + 3) 244 [] [.int xs0] h 0 0 (pq_qI Q) := by
  unfold B_X5_best_244 at hf
  exact pz_ireturn dX5_best_244 rfl rfl ⟨_, rfl, hf⟩
def B_X5_best_220 (a0 : Nat) (x1 : Int32) (x2 : Int32) (x3 : Int32) (x6 : Int32) (x7 : Int32) (x8 : Int32) (x9 : Int32) (x10 : Int32) (x11 : Int32) (k9 : Int32 → Int32 → Int32 → pz_H → Prop) (k45 : Int32 → Int32 → Int32 → pz_H → Prop) (Q : Int32 → pz_H → Prop) (h : pz_H) : Prop := (k45 x7 x8 (x11 + (1 : Int32)) h)
set_option maxHeartbeats 4000000 in
set_option maxRecDepth 100000 in
theorem kB_X5_best_220 (X : pz_X) (d : Nat) (a0 : Nat) (x1 : Int32) (x2 : Int32) (x3 : Int32) (x6 : Int32) (x7 : Int32) (x8 : Int32) (x9 : Int32) (x10 : Int32) (x11 : Int32)  (k9 : Int32 → Int32 → Int32 → pz_H → Prop) (k45 : Int32 → Int32 → Int32 → pz_H → Prop) (Q : Int32 → pz_H → Prop) (h : pz_H) (hk9 : ∀ (x7 : Int32) (x8 : Int32) (x9 : Int32) (h : pz_H), k9 x7 x8 x9 h → pz_W (fun _ => True) X M_X5_best (d + 3) 9 [(0, .ref a0), (1, .int x1), (2, .int x2), (3, .int x3), (6, .int x6), (7, .int x7), (8, .int x8), (9, .int x9)] [] h 0 0 (pq_qI Q)) (hk45 : ∀ (x7 : Int32) (x8 : Int32) (x11 : Int32) (h : pz_H), k45 x7 x8 x11 h → pz_W (fun _ => True) X M_X5_best (d + 3) 45 [(0, .ref a0), (1, .int x1), (2, .int x2), (3, .int x3), (6, .int x6), (7, .int x7), (8, .int x8), (9, .int x9), (10, .int x10), (11, .int x11)] [] h 0 0 (pq_qI Q)) (hf : B_X5_best_220 a0 x1 x2 x3 x6 x7 x8 x9 x10 x11 k9 k45 Q h) : pz_W (fun _ => True) X M_X5_best (d + 3) 220 [(0, .ref a0), (1, .int x1), (2, .int x2), (3, .int x3), (6, .int x6), (7, .int x7), (8, .int x8), (9, .int x9), (10, .int x10), (11, .int x11)] [] h 0 0 (pq_qI Q) := by
  unfold B_X5_best_220 at hf
  refine pz_iinc dX5_best_220 rfl (by rfl) (by decide) rfl ?_
  refine pz_goto dX5_best_223 (tgt := 45) (by decide) ?_
  exact pz_drop (pz_part_of [0, 1, 2, 3, 6, 7, 8, 9, 10, 11] rfl) (hk45 _ _ _ _ hf)
def B_X5_best_214 (a0 : Nat) (x1 : Int32) (x2 : Int32) (x3 : Int32) (x6 : Int32) (x7 : Int32) (x8 : Int32) (x9 : Int32) (x10 : Int32) (x11 : Int32) (x12 : Int32) (k9 : Int32 → Int32 → Int32 → pz_H → Prop) (k45 : Int32 → Int32 → Int32 → pz_H → Prop) (k79 : Int32 → Int32 → Int32 → pz_H → Prop) (Q : Int32 → pz_H → Prop) (h : pz_H) : Prop := (k79 x7 x8 (x12 + (1 : Int32)) h)
set_option maxHeartbeats 4000000 in
set_option maxRecDepth 100000 in
theorem kB_X5_best_214 (X : pz_X) (d : Nat) (a0 : Nat) (x1 : Int32) (x2 : Int32) (x3 : Int32) (x6 : Int32) (x7 : Int32) (x8 : Int32) (x9 : Int32) (x10 : Int32) (x11 : Int32) (x12 : Int32)  (k9 : Int32 → Int32 → Int32 → pz_H → Prop) (k45 : Int32 → Int32 → Int32 → pz_H → Prop) (k79 : Int32 → Int32 → Int32 → pz_H → Prop) (Q : Int32 → pz_H → Prop) (h : pz_H) (hk9 : ∀ (x7 : Int32) (x8 : Int32) (x9 : Int32) (h : pz_H), k9 x7 x8 x9 h → pz_W (fun _ => True) X M_X5_best (d + 3) 9 [(0, .ref a0), (1, .int x1), (2, .int x2), (3, .int x3), (6, .int x6), (7, .int x7), (8, .int x8), (9, .int x9)] [] h 0 0 (pq_qI Q)) (hk45 : ∀ (x7 : Int32) (x8 : Int32) (x11 : Int32) (h : pz_H), k45 x7 x8 x11 h → pz_W (fun _ => True) X M_X5_best (d + 3) 45 [(0, .ref a0), (1, .int x1), (2, .int x2), (3, .int x3), (6, .int x6), (7, .int x7), (8, .int x8), (9, .int x9), (10, .int x10), (11, .int x11)] [] h 0 0 (pq_qI Q)) (hk79 : ∀ (x7 : Int32) (x8 : Int32) (x12 : Int32) (h : pz_H), k79 x7 x8 x12 h → pz_W (fun _ => True) X M_X5_best (d + 3) 79 [(0, .ref a0), (1, .int x1), (2, .int x2), (3, .int x3), (6, .int x6), (7, .int x7), (8, .int x8), (9, .int x9), (10, .int x10), (11, .int x11), (12, .int x12)] [] h 0 0 (pq_qI Q)) (hf : B_X5_best_214 a0 x1 x2 x3 x6 x7 x8 x9 x10 x11 x12 k9 k45 k79 Q h) : pz_W (fun _ => True) X M_X5_best (d + 3) 214 [(0, .ref a0), (1, .int x1), (2, .int x2), (3, .int x3), (6, .int x6), (7, .int x7), (8, .int x8), (9, .int x9), (10, .int x10), (11, .int x11), (12, .int x12)] [] h 0 0 (pq_qI Q) := by
  unfold B_X5_best_214 at hf
  refine pz_iinc dX5_best_214 rfl (by rfl) (by decide) rfl ?_
  refine pz_goto dX5_best_217 (tgt := 79) (by decide) ?_
  exact pz_drop (pz_part_of [0, 1, 2, 3, 6, 7, 8, 9, 10, 11, 12] rfl) (hk79 _ _ _ _ hf)
def B_X5_best_204 (a0 : Nat) (x1 : Int32) (x2 : Int32) (x3 : Int32) (x6 : Int32) (x9 : Int32) (x10 : Int32) (x11 : Int32) (x12 : Int32) (x13 : Int32) (x15 : Int32) (k9 : Int32 → Int32 → Int32 → pz_H → Prop) (k45 : Int32 → Int32 → Int32 → pz_H → Prop) (k79 : Int32 → Int32 → Int32 → pz_H → Prop) (Q : Int32 → pz_H → Prop) (h : pz_H) : Prop := (B_X5_best_214 a0 x1 x2 x3 x6 (x15 + (1 : Int32)) x13 x9 x10 x11 x12 k9 k45 k79 Q h)
set_option maxHeartbeats 4000000 in
set_option maxRecDepth 100000 in
theorem kB_X5_best_204 (X : pz_X) (d : Nat) (a0 : Nat) (x1 : Int32) (x2 : Int32) (x3 : Int32) (x6 : Int32) (x9 : Int32) (x10 : Int32) (x11 : Int32) (x12 : Int32) (x13 : Int32) (x15 : Int32)  (k9 : Int32 → Int32 → Int32 → pz_H → Prop) (k45 : Int32 → Int32 → Int32 → pz_H → Prop) (k79 : Int32 → Int32 → Int32 → pz_H → Prop) (Q : Int32 → pz_H → Prop) (h : pz_H) (hk9 : ∀ (x7 : Int32) (x8 : Int32) (x9 : Int32) (h : pz_H), k9 x7 x8 x9 h → pz_W (fun _ => True) X M_X5_best (d + 3) 9 [(0, .ref a0), (1, .int x1), (2, .int x2), (3, .int x3), (6, .int x6), (7, .int x7), (8, .int x8), (9, .int x9)] [] h 0 0 (pq_qI Q)) (hk45 : ∀ (x7 : Int32) (x8 : Int32) (x11 : Int32) (h : pz_H), k45 x7 x8 x11 h → pz_W (fun _ => True) X M_X5_best (d + 3) 45 [(0, .ref a0), (1, .int x1), (2, .int x2), (3, .int x3), (6, .int x6), (7, .int x7), (8, .int x8), (9, .int x9), (10, .int x10), (11, .int x11)] [] h 0 0 (pq_qI Q)) (hk79 : ∀ (x7 : Int32) (x8 : Int32) (x12 : Int32) (h : pz_H), k79 x7 x8 x12 h → pz_W (fun _ => True) X M_X5_best (d + 3) 79 [(0, .ref a0), (1, .int x1), (2, .int x2), (3, .int x3), (6, .int x6), (7, .int x7), (8, .int x8), (9, .int x9), (10, .int x10), (11, .int x11), (12, .int x12)] [] h 0 0 (pq_qI Q)) (hf : B_X5_best_204 a0 x1 x2 x3 x6 x9 x10 x11 x12 x13 x15 k9 k45 k79 Q h) : pz_W (fun _ => True) X M_X5_best (d + 3) 204 [(0, .ref a0), (1, .int x1), (2, .int x2), (3, .int x3), (6, .int x6), (9, .int x9), (10, .int x10), (11, .int x11), (12, .int x12), (13, .int x13), (15, .int x15)] [] h 0 0 (pq_qI Q) := by
  unfold B_X5_best_204 at hf
  refine pz_iload dX5_best_204 rfl ?_
  refine pz_iconst (v := (1 : Int32)) dX5_best_206 (by decide) ?_
  refine pz_iadd dX5_best_207 ?_
  refine pz_istore dX5_best_208 (by decide) rfl ?_
  refine pz_iload dX5_best_210 rfl ?_
  refine pz_istore dX5_best_212 (by decide) rfl ?_
  exact pz_drop (pz_part_of [0, 1, 2, 3, 6, 7, 8, 9, 10, 11, 12] rfl) (kB_X5_best_214 X d _ _ _ _ _ _ _ _ _ _ _ _ _ _ _ _ hk9 hk45 hk79 hf)
def B_X5_best_165 (a0 : Nat) (x1 : Int32) (x2 : Int32) (x3 : Int32) (x6 : Int32) (x7 : Int32) (x8 : Int32) (x9 : Int32) (x10 : Int32) (x11 : Int32) (x12 : Int32) (x13 : Int32) (xs0 : Int32) (k9 : Int32 → Int32 → Int32 → pz_H → Prop) (k45 : Int32 → Int32 → Int32 → pz_H → Prop) (k79 : Int32 → Int32 → Int32 → pz_H → Prop) (Q : Int32 → pz_H → Prop) (h : pz_H) : Prop := (pq_br (xs0 = (-1 : Int32)) (B_X5_best_214 a0 x1 x2 x3 x6 x7 x8 x9 x10 x11 x12 k9 k45 k79 Q h) (pq_br (x7 = (-1 : Int32)) (B_X5_best_204 a0 x1 x2 x3 x6 x9 x10 x11 x12 x13 xs0 k9 k45 k79 Q h) (pq_br ((xs0 + (1 : Int32)) < x7) (B_X5_best_204 a0 x1 x2 x3 x6 x9 x10 x11 x12 x13 xs0 k9 k45 k79 Q h) (pq_br ((xs0 + (1 : Int32)) = x7) (pq_br (x8 ≤ x13) (B_X5_best_214 a0 x1 x2 x3 x6 x7 x8 x9 x10 x11 x12 k9 k45 k79 Q h) (B_X5_best_204 a0 x1 x2 x3 x6 x9 x10 x11 x12 x13 xs0 k9 k45 k79 Q h)) (B_X5_best_214 a0 x1 x2 x3 x6 x7 x8 x9 x10 x11 x12 k9 k45 k79 Q h)))))
set_option maxHeartbeats 4000000 in
set_option maxRecDepth 100000 in
theorem kB_X5_best_165 (X : pz_X) (d : Nat) (a0 : Nat) (x1 : Int32) (x2 : Int32) (x3 : Int32) (x6 : Int32) (x7 : Int32) (x8 : Int32) (x9 : Int32) (x10 : Int32) (x11 : Int32) (x12 : Int32) (x13 : Int32) (xs0 : Int32)  (k9 : Int32 → Int32 → Int32 → pz_H → Prop) (k45 : Int32 → Int32 → Int32 → pz_H → Prop) (k79 : Int32 → Int32 → Int32 → pz_H → Prop) (Q : Int32 → pz_H → Prop) (h : pz_H) (hk9 : ∀ (x7 : Int32) (x8 : Int32) (x9 : Int32) (h : pz_H), k9 x7 x8 x9 h → pz_W (fun _ => True) X M_X5_best (d + 3) 9 [(0, .ref a0), (1, .int x1), (2, .int x2), (3, .int x3), (6, .int x6), (7, .int x7), (8, .int x8), (9, .int x9)] [] h 0 0 (pq_qI Q)) (hk45 : ∀ (x7 : Int32) (x8 : Int32) (x11 : Int32) (h : pz_H), k45 x7 x8 x11 h → pz_W (fun _ => True) X M_X5_best (d + 3) 45 [(0, .ref a0), (1, .int x1), (2, .int x2), (3, .int x3), (6, .int x6), (7, .int x7), (8, .int x8), (9, .int x9), (10, .int x10), (11, .int x11)] [] h 0 0 (pq_qI Q)) (hk79 : ∀ (x7 : Int32) (x8 : Int32) (x12 : Int32) (h : pz_H), k79 x7 x8 x12 h → pz_W (fun _ => True) X M_X5_best (d + 3) 79 [(0, .ref a0), (1, .int x1), (2, .int x2), (3, .int x3), (6, .int x6), (7, .int x7), (8, .int x8), (9, .int x9), (10, .int x10), (11, .int x11), (12, .int x12)] [] h 0 0 (pq_qI Q)) (hf : B_X5_best_165 a0 x1 x2 x3 x6 x7 x8 x9 x10 x11 x12 x13 xs0 k9 k45 k79 Q h) : pz_W (fun _ => True) X M_X5_best (d + 3) 165 [(0, .ref a0), (1, .int x1), (2, .int x2), (3, .int x3), (6, .int x6), (7, .int x7), (8, .int x8), (9, .int x9), (10, .int x10), (11, .int x11), (12, .int x12), (13, .int x13)] [.int xs0] h 0 0 (pq_qI Q) := by
  unfold B_X5_best_165 at hf
  refine pz_istore dX5_best_165 (by decide) rfl ?_
  refine pz_iload dX5_best_167 rfl ?_
  refine pz_iconst (v := (-1 : Int32)) dX5_best_169 (by decide) ?_
  obtain ⟨ha, hb⟩ := hf
  refine pz_icmp_eq dX5_best_170 (tgt := 214) (by decide) (fun cc => ?_) (fun cc => ?_)
  · have hf := ha cc
    exact pz_drop (pz_part_of [0, 1, 2, 3, 6, 7, 8, 9, 10, 11, 12] rfl) (kB_X5_best_214 X d _ _ _ _ _ _ _ _ _ _ _ _ _ _ _ _ hk9 hk45 hk79 hf)
  · have hf := hb cc
    refine pz_iload dX5_best_173 rfl ?_
    refine pz_iconst (v := (-1 : Int32)) dX5_best_175 (by decide) ?_
    obtain ⟨ha, hb⟩ := hf
    refine pz_icmp_eq dX5_best_176 (tgt := 204) (by decide) (fun cc => ?_) (fun cc => ?_)
    · have hf := ha cc
      exact pz_drop (pz_part_of [0, 1, 2, 3, 6, 9, 10, 11, 12, 13, 15] rfl) (kB_X5_best_204 X d _ _ _ _ _ _ _ _ _ _ _ _ _ _ _ _ hk9 hk45 hk79 hf)
    · have hf := hb cc
      refine pz_iload dX5_best_179 rfl ?_
      refine pz_iconst (v := (1 : Int32)) dX5_best_181 (by decide) ?_
      refine pz_iadd dX5_best_182 ?_
      refine pz_iload dX5_best_183 rfl ?_
      obtain ⟨ha, hb⟩ := hf
      refine pz_icmp_lt dX5_best_185 (tgt := 204) (by decide) (fun cc => ?_) (fun cc => ?_)
      · have hf := ha cc
        exact pz_drop (pz_part_of [0, 1, 2, 3, 6, 9, 10, 11, 12, 13, 15] rfl) (kB_X5_best_204 X d _ _ _ _ _ _ _ _ _ _ _ _ _ _ _ _ hk9 hk45 hk79 hf)
      · have hf := hb cc
        refine pz_iload dX5_best_188 rfl ?_
        refine pz_iconst (v := (1 : Int32)) dX5_best_190 (by decide) ?_
        refine pz_iadd dX5_best_191 ?_
        refine pz_iload dX5_best_192 rfl ?_
        obtain ⟨ha, hb⟩ := hf
        refine pz_icmp_ne dX5_best_194 (tgt := 214) (by decide) (fun cc => ?_) (fun cc => ?_)
        · have hf := hb cc
          exact pz_drop (pz_part_of [0, 1, 2, 3, 6, 7, 8, 9, 10, 11, 12] rfl) (kB_X5_best_214 X d _ _ _ _ _ _ _ _ _ _ _ _ _ _ _ _ hk9 hk45 hk79 hf)
        · have hf := ha cc
          refine pz_iload dX5_best_197 rfl ?_
          refine pz_iload dX5_best_199 rfl ?_
          obtain ⟨ha, hb⟩ := hf
          refine pz_icmp_ge dX5_best_201 (tgt := 214) (by decide) (fun cc => ?_) (fun cc => ?_)
          · have hf := ha cc
            exact pz_drop (pz_part_of [0, 1, 2, 3, 6, 7, 8, 9, 10, 11, 12] rfl) (kB_X5_best_214 X d _ _ _ _ _ _ _ _ _ _ _ _ _ _ _ _ hk9 hk45 hk79 hf)
          · have hf := hb cc
            exact pz_drop (pz_part_of [0, 1, 2, 3, 6, 9, 10, 11, 12, 13, 15] rfl) (kB_X5_best_204 X d _ _ _ _ _ _ _ _ _ _ _ _ _ _ _ _ hk9 hk45 hk79 hf)
def L_X5_best_79 (a0 : Nat) (x1 : Int32) (x2 : Int32) (x3 : Int32) (x6 : Int32) (x9 : Int32) (x10 : Int32) (x11 : Int32) (k9 : Int32 → Int32 → Int32 → pz_H → Prop) (k45 : Int32 → Int32 → Int32 → pz_H → Prop) (Q : Int32 → pz_H → Prop) : Nat → Int32 → Int32 → Int32 → pz_H → Prop
  | 0, _, _, _, _ => False
  | n + 1, x7, x8, x12, h => (pq_br ((2 : Int32) ≤ x12) (B_X5_best_220 a0 x1 x2 x3 x6 x7 x8 x9 x10 x11 k9 k45 Q h) (pq_o h a0 5 (F_X5_liesAt a0 x1 x10 (x11 + (1 : Int32)) h (fun v6 h5 => (pq_o h5 a0 5 (F_X5_done a0 x1 x2 x3 ((((4 : Int32) * v6) + ((2 : Int32) * x9)) + x12) h5 (fun v8 h7 => (pq_br (v8 = 0) (B_X5_best_165 a0 x1 x2 x3 x6 x7 x8 x9 x10 x11 x12 ((((4 : Int32) * v6) + ((2 : Int32) * x9)) + x12) (-1 : Int32) k9 k45 (fun z0 z1 z2 hz => L_X5_best_79 a0 x1 x2 x3 x6 x9 x10 x11 k9 k45 Q n z0 z1 z2 hz) Q h7) (pq_br (x9 = (1 : Int32)) (pq_gA h7 a0 5 26 (fun b13 => (pq_o h7 a0 5 (F_X5_stateOf a0 x2 (x3 ||| v8) h7 (fun v15 h14 => (pq_aI h14 b13 v15 (fun v16 => (B_X5_best_165 a0 x1 x2 x3 x6 x7 x8 x9 x10 x11 x12 ((((4 : Int32) * v6) + ((2 : Int32) * x9)) + x12) v16 k9 k45 (fun z0 z1 z2 hz => L_X5_best_79 a0 x1 x2 x3 x6 x9 x10 x11 k9 k45 Q n z0 z1 z2 hz) Q h14)))))))) (pq_gA h7 a0 5 26 (fun b9 => (pq_o h7 a0 5 (F_X5_stateOf a0 (x2 ||| v8) x3 h7 (fun v11 h10 => (pq_aI h10 b9 v11 (fun v12 => (B_X5_best_165 a0 x1 x2 x3 x6 x7 x8 x9 x10 x11 x12 ((((4 : Int32) * v6) + ((2 : Int32) * x9)) + x12) v12 k9 k45 (fun z0 z1 z2 hz => L_X5_best_79 a0 x1 x2 x3 x6 x9 x10 x11 k9 k45 Q n z0 z1 z2 hz) Q h10)))))))))))))))))
set_option maxHeartbeats 4000000 in
set_option maxRecDepth 100000 in
theorem kL_X5_best_79 (X : pz_X) (d : Nat) (a0 : Nat) (x1 : Int32) (x2 : Int32) (x3 : Int32) (x6 : Int32) (x9 : Int32) (x10 : Int32) (x11 : Int32)  (k9 : Int32 → Int32 → Int32 → pz_H → Prop) (k45 : Int32 → Int32 → Int32 → pz_H → Prop) (Q : Int32 → pz_H → Prop) (hk9 : ∀ (x7 : Int32) (x8 : Int32) (x9 : Int32) (h : pz_H), k9 x7 x8 x9 h → pz_W (fun _ => True) X M_X5_best (d + 3) 9 [(0, .ref a0), (1, .int x1), (2, .int x2), (3, .int x3), (6, .int x6), (7, .int x7), (8, .int x8), (9, .int x9)] [] h 0 0 (pq_qI Q)) (hk45 : ∀ (x7 : Int32) (x8 : Int32) (x11 : Int32) (h : pz_H), k45 x7 x8 x11 h → pz_W (fun _ => True) X M_X5_best (d + 3) 45 [(0, .ref a0), (1, .int x1), (2, .int x2), (3, .int x3), (6, .int x6), (7, .int x7), (8, .int x8), (9, .int x9), (10, .int x10), (11, .int x11)] [] h 0 0 (pq_qI Q)) : ∀ (n : Nat) (x7 : Int32) (x8 : Int32) (x12 : Int32) (h : pz_H), L_X5_best_79 a0 x1 x2 x3 x6 x9 x10 x11 k9 k45 Q n x7 x8 x12 h → pz_W (fun _ => True) X M_X5_best (d + 3) 79 [(0, .ref a0), (1, .int x1), (2, .int x2), (3, .int x3), (6, .int x6), (7, .int x7), (8, .int x8), (9, .int x9), (10, .int x10), (11, .int x11), (12, .int x12)] [] h 0 0 (pq_qI Q) := by
  intro n
  induction n with
  | zero =>
    intro _ _ _ _ hf
    exact False.elim hf
  | succ n ih =>
    intro x7 x8 x12 h hf
    unfold L_X5_best_79 at hf
    refine pz_iload dX5_best_79 rfl ?_
    refine pz_iconst (v := (2 : Int32)) dX5_best_81 (by decide) ?_
    obtain ⟨ha, hb⟩ := hf
    refine pz_icmp_ge dX5_best_82 (tgt := 220) (by decide) (fun cc => ?_) (fun cc => ?_)
    · have hf := ha cc
      exact pz_drop (pz_part_of [0, 1, 2, 3, 6, 7, 8, 9, 10, 11] rfl) (kB_X5_best_220 X d _ _ _ _ _ _ _ _ _ _ _ _ _ _ hk9 hk45 hf)
    · have hf := hb cc
      refine pz_iconst (v := (4 : Int32)) dX5_best_85 (by decide) ?_
      refine pz_aload_n dX5_best_86 rfl ?_
      refine pz_iload_n dX5_best_87 rfl ?_
      refine pz_iload dX5_best_88 rfl ?_
      refine pz_iload dX5_best_90 rfl ?_
      refine pz_iconst (v := (1 : Int32)) dX5_best_92 (by decide) ?_
      refine pz_iadd dX5_best_93 ?_
      obtain ⟨_, hO, hf⟩ := hf
      refine pz_callV3 (rc := 0) (rs := 0) (mc := 0) (ms := 0) dX5_best_94 (k_X5_liesAt X (d + 1) _ _ _ _ _ _ hf) (Nat.le_of_ble_eq_true rfl) mf_X5_liesAt ml_X5_200 hO rfl mi_X5_liesAt ms_X5_liesAt (fun _ h9 hq => ?_)
      obtain ⟨_, rfl, hf⟩ := hq
      refine pz_imul dX5_best_97 ?_
      refine pz_iconst (v := (2 : Int32)) dX5_best_98 (by decide) ?_
      refine pz_iload dX5_best_99 rfl ?_
      refine pz_imul dX5_best_101 ?_
      refine pz_iadd dX5_best_102 ?_
      refine pz_iload dX5_best_103 rfl ?_
      refine pz_iadd dX5_best_105 ?_
      refine pz_istore dX5_best_106 (by decide) rfl ?_
      refine pz_aload_n dX5_best_108 rfl ?_
      refine pz_iload_n dX5_best_109 rfl ?_
      refine pz_iload_n dX5_best_110 rfl ?_
      refine pz_iload_n dX5_best_111 rfl ?_
      refine pz_iload dX5_best_112 rfl ?_
      obtain ⟨_, hO, hf⟩ := hf
      refine pz_callV4 (rc := 0) (rs := 0) (mc := 0) (ms := 0) dX5_best_114 (k_X5_done X d _ _ _ _ _ _ _ hf) (Nat.le_of_ble_eq_true rfl) mf_X5_done ml_X5_214 hO rfl mi_X5_done ms_X5_done (fun _ h9 hq => ?_)
      obtain ⟨_, rfl, hf⟩ := hq
      refine pz_istore dX5_best_117 (by decide) rfl ?_
      refine pz_iload dX5_best_119 rfl ?_
      obtain ⟨ha, hb⟩ := hf
      refine pz_if_ne dX5_best_121 (tgt := 128) (by decide) (fun cc => ?_) (fun cc => ?_)
      · have hf := hb cc
        refine pz_iload dX5_best_128 rfl ?_
        refine pz_iconst (v := (1 : Int32)) dX5_best_130 (by decide) ?_
        obtain ⟨ha, hb⟩ := hf
        refine pz_icmp_ne dX5_best_131 (tgt := 151) (by decide) (fun cc => ?_) (fun cc => ?_)
        · have hf := hb cc
          refine pz_aload_n dX5_best_151 rfl ?_
          obtain ⟨_, b9, h1, h2, hf⟩ := hf
          refine pz_get dX5_best_152 fl_X5_76 h1 h2 ?_
          refine pz_aload_n dX5_best_155 rfl ?_
          refine pz_iload_n dX5_best_156 rfl ?_
          refine pz_iload dX5_best_157 rfl ?_
          refine pz_ior dX5_best_159 ?_
          refine pz_iload_n dX5_best_160 rfl ?_
          obtain ⟨_, hO, hf⟩ := hf
          refine pz_callV2 (rc := 0) (rs := 0) (mc := 0) (ms := 0) dX5_best_161 (k_X5_stateOf X (d + 2) _ _ _ _ _ hf) (Nat.le_of_ble_eq_true rfl) mf_X5_stateOf ml_X5_204 hO rfl mi_X5_stateOf ms_X5_stateOf (fun _ h9 hq => ?_)
          obtain ⟨_, rfl, hf⟩ := hq
          obtain ⟨_, _, h1, h2, hf⟩ := hf
          refine pz_iald dX5_best_164 h1 h2 ?_
          exact pz_drop (pz_part_of [0, 1, 2, 3, 6, 7, 8, 9, 10, 11, 12, 13] rfl) (kB_X5_best_165 X d _ _ _ _ _ _ _ _ _ _ _ _ _ _ _ _ _ _ hk9 hk45 ih hf)
        · have hf := ha cc
          refine pz_aload_n dX5_best_134 rfl ?_
          obtain ⟨_, b13, h1, h2, hf⟩ := hf
          refine pz_get dX5_best_135 fl_X5_76 h1 h2 ?_
          refine pz_aload_n dX5_best_138 rfl ?_
          refine pz_iload_n dX5_best_139 rfl ?_
          refine pz_iload_n dX5_best_140 rfl ?_
          refine pz_iload dX5_best_141 rfl ?_
          refine pz_ior dX5_best_143 ?_
          obtain ⟨_, hO, hf⟩ := hf
          refine pz_callV2 (rc := 0) (rs := 0) (mc := 0) (ms := 0) dX5_best_144 (k_X5_stateOf X (d + 2) _ _ _ _ _ hf) (Nat.le_of_ble_eq_true rfl) mf_X5_stateOf ml_X5_204 hO rfl mi_X5_stateOf ms_X5_stateOf (fun _ h9 hq => ?_)
          obtain ⟨_, rfl, hf⟩ := hq
          obtain ⟨_, _, h1, h2, hf⟩ := hf
          refine pz_iald dX5_best_147 h1 h2 ?_
          refine pz_goto dX5_best_148 (tgt := 165) (by decide) ?_
          exact pz_drop (pz_part_of [0, 1, 2, 3, 6, 7, 8, 9, 10, 11, 12, 13] rfl) (kB_X5_best_165 X d _ _ _ _ _ _ _ _ _ _ _ _ _ _ _ _ _ _ hk9 hk45 ih hf)
      · have hf := ha cc
        refine pz_iconst (v := (-1 : Int32)) dX5_best_124 (by decide) ?_
        refine pz_goto dX5_best_125 (tgt := 165) (by decide) ?_
        exact pz_drop (pz_part_of [0, 1, 2, 3, 6, 7, 8, 9, 10, 11, 12, 13] rfl) (kB_X5_best_165 X d _ _ _ _ _ _ _ _ _ _ _ _ _ _ _ _ _ _ hk9 hk45 ih hf)
def B_X5_best_60 (a0 : Nat) (x1 : Int32) (x2 : Int32) (x3 : Int32) (x6 : Int32) (x7 : Int32) (x8 : Int32) (x9 : Int32) (x10 : Int32) (x11 : Int32) (xs0 : Int32) (as1 : Nat) (xs2 : Int32) (xs3 : Int32) (k9 : Int32 → Int32 → Int32 → pz_H → Prop) (k45 : Int32 → Int32 → Int32 → pz_H → Prop) (Q : Int32 → pz_H → Prop) (h : pz_H) : Prop := (pq_o h as1 5 (F_X5_gapsOf as1 xs2 xs3 h (fun v4 h3 => (pq_br (v4 ≤ xs0) (k9 x7 x8 (x9 + (1 : Int32)) h3) (pq_br (((x10 >>> (x11 &&& 31)) &&& (1 : Int32)) = 0) (pq_ex (fun m79 => L_X5_best_79 a0 x1 x2 x3 x6 x9 x10 x11 k9 k45 Q m79 x7 x8 (0 : Int32) h3)) (B_X5_best_220 a0 x1 x2 x3 x6 x7 x8 x9 x10 x11 k9 k45 Q h3))))))
set_option maxHeartbeats 4000000 in
set_option maxRecDepth 100000 in
theorem kB_X5_best_60 (X : pz_X) (d : Nat) (a0 : Nat) (x1 : Int32) (x2 : Int32) (x3 : Int32) (x6 : Int32) (x7 : Int32) (x8 : Int32) (x9 : Int32) (x10 : Int32) (x11 : Int32) (xs0 : Int32) (as1 : Nat) (xs2 : Int32) (xs3 : Int32)  (k9 : Int32 → Int32 → Int32 → pz_H → Prop) (k45 : Int32 → Int32 → Int32 → pz_H → Prop) (Q : Int32 → pz_H → Prop) (h : pz_H) (hk9 : ∀ (x7 : Int32) (x8 : Int32) (x9 : Int32) (h : pz_H), k9 x7 x8 x9 h → pz_W (fun _ => True) X M_X5_best (d + 3) 9 [(0, .ref a0), (1, .int x1), (2, .int x2), (3, .int x3), (6, .int x6), (7, .int x7), (8, .int x8), (9, .int x9)] [] h 0 0 (pq_qI Q)) (hk45 : ∀ (x7 : Int32) (x8 : Int32) (x11 : Int32) (h : pz_H), k45 x7 x8 x11 h → pz_W (fun _ => True) X M_X5_best (d + 3) 45 [(0, .ref a0), (1, .int x1), (2, .int x2), (3, .int x3), (6, .int x6), (7, .int x7), (8, .int x8), (9, .int x9), (10, .int x10), (11, .int x11)] [] h 0 0 (pq_qI Q)) (hf : B_X5_best_60 a0 x1 x2 x3 x6 x7 x8 x9 x10 x11 xs0 as1 xs2 xs3 k9 k45 Q h) : pz_W (fun _ => True) X M_X5_best (d + 3) 60 [(0, .ref a0), (1, .int x1), (2, .int x2), (3, .int x3), (6, .int x6), (7, .int x7), (8, .int x8), (9, .int x9), (10, .int x10), (11, .int x11)] [.int xs3, .int xs2, .ref as1, .int xs0] h 0 0 (pq_qI Q) := by
  unfold B_X5_best_60 at hf
  obtain ⟨_, hO, hf⟩ := hf
  refine pz_callV2 (rc := 0) (rs := 0) (mc := 0) (ms := 0) dX5_best_60 (k_X5_gapsOf X (d + 2) _ _ _ _ _ hf) (Nat.le_of_ble_eq_true rfl) mf_X5_gapsOf ml_X5_196 hO rfl mi_X5_gapsOf ms_X5_gapsOf (fun _ h9 hq => ?_)
  obtain ⟨_, rfl, hf⟩ := hq
  obtain ⟨ha, hb⟩ := hf
  refine pz_icmp_ge dX5_best_63 (tgt := 226) (by decide) (fun cc => ?_) (fun cc => ?_)
  · have hf := ha cc
    refine pz_iinc dX5_best_226 rfl (by rfl) (by decide) rfl ?_
    refine pz_goto dX5_best_229 (tgt := 9) (by decide) ?_
    exact pz_drop (pz_part_of [0, 1, 2, 3, 6, 7, 8, 9] rfl) (hk9 _ _ _ _ hf)
  · have hf := hb cc
    refine pz_iload dX5_best_66 rfl ?_
    refine pz_iload dX5_best_68 rfl ?_
    refine pz_ishr dX5_best_70 ?_
    refine pz_iconst (v := (1 : Int32)) dX5_best_71 (by decide) ?_
    refine pz_iand dX5_best_72 ?_
    obtain ⟨ha, hb⟩ := hf
    refine pz_if_ne dX5_best_73 (tgt := 220) (by decide) (fun cc => ?_) (fun cc => ?_)
    · have hf := hb cc
      exact pz_drop (pz_part_of [0, 1, 2, 3, 6, 7, 8, 9, 10, 11] rfl) (kB_X5_best_220 X d _ _ _ _ _ _ _ _ _ _ _ _ _ _ hk9 hk45 hf)
    · have hf := ha cc
      refine pz_iconst (v := (0 : Int32)) dX5_best_76 (by decide) ?_
      refine pz_istore dX5_best_77 (by decide) rfl ?_
      obtain ⟨n9, hf⟩ := hf
      exact pz_drop (pz_part_of [0, 1, 2, 3, 6, 7, 8, 9, 10, 11, 12] rfl) (kL_X5_best_79 X d _ _ _ _ _ _ _ _ _ _ _ hk9 hk45 n9 _ _ _ _ hf)
def L_X5_best_45 (a0 : Nat) (x1 : Int32) (x2 : Int32) (x3 : Int32) (x6 : Int32) (x9 : Int32) (x10 : Int32) (k9 : Int32 → Int32 → Int32 → pz_H → Prop) (Q : Int32 → pz_H → Prop) : Nat → Int32 → Int32 → Int32 → pz_H → Prop
  | 0, _, _, _, _ => False
  | n + 1, x7, x8, x11, h => (pq_br (x9 = (1 : Int32)) (B_X5_best_60 a0 x1 x2 x3 x6 x7 x8 x9 x10 x11 x11 a0 x1 (1 : Int32) k9 (fun z0 z1 z2 hz => L_X5_best_45 a0 x1 x2 x3 x6 x9 x10 k9 Q n z0 z1 z2 hz) Q h) (B_X5_best_60 a0 x1 x2 x3 x6 x7 x8 x9 x10 x11 x11 a0 x1 (0 : Int32) k9 (fun z0 z1 z2 hz => L_X5_best_45 a0 x1 x2 x3 x6 x9 x10 k9 Q n z0 z1 z2 hz) Q h))
set_option maxHeartbeats 4000000 in
set_option maxRecDepth 100000 in
theorem kL_X5_best_45 (X : pz_X) (d : Nat) (a0 : Nat) (x1 : Int32) (x2 : Int32) (x3 : Int32) (x6 : Int32) (x9 : Int32) (x10 : Int32)  (k9 : Int32 → Int32 → Int32 → pz_H → Prop) (Q : Int32 → pz_H → Prop) (hk9 : ∀ (x7 : Int32) (x8 : Int32) (x9 : Int32) (h : pz_H), k9 x7 x8 x9 h → pz_W (fun _ => True) X M_X5_best (d + 3) 9 [(0, .ref a0), (1, .int x1), (2, .int x2), (3, .int x3), (6, .int x6), (7, .int x7), (8, .int x8), (9, .int x9)] [] h 0 0 (pq_qI Q)) : ∀ (n : Nat) (x7 : Int32) (x8 : Int32) (x11 : Int32) (h : pz_H), L_X5_best_45 a0 x1 x2 x3 x6 x9 x10 k9 Q n x7 x8 x11 h → pz_W (fun _ => True) X M_X5_best (d + 3) 45 [(0, .ref a0), (1, .int x1), (2, .int x2), (3, .int x3), (6, .int x6), (7, .int x7), (8, .int x8), (9, .int x9), (10, .int x10), (11, .int x11)] [] h 0 0 (pq_qI Q) := by
  intro n
  induction n with
  | zero =>
    intro _ _ _ _ hf
    exact False.elim hf
  | succ n ih =>
    intro x7 x8 x11 h hf
    unfold L_X5_best_45 at hf
    refine pz_iload dX5_best_45 rfl ?_
    refine pz_aload_n dX5_best_47 rfl ?_
    refine pz_iload_n dX5_best_48 rfl ?_
    refine pz_iload dX5_best_49 rfl ?_
    refine pz_iconst (v := (1 : Int32)) dX5_best_51 (by decide) ?_
    obtain ⟨ha, hb⟩ := hf
    refine pz_icmp_ne dX5_best_52 (tgt := 59) (by decide) (fun cc => ?_) (fun cc => ?_)
    · have hf := hb cc
      refine pz_iconst (v := (0 : Int32)) dX5_best_59 (by decide) ?_
      exact pz_drop (pz_part_of [0, 1, 2, 3, 6, 7, 8, 9, 10, 11] rfl) (kB_X5_best_60 X d _ _ _ _ _ _ _ _ _ _ _ _ _ _ _ _ _ _ hk9 ih hf)
    · have hf := ha cc
      refine pz_iconst (v := (1 : Int32)) dX5_best_55 (by decide) ?_
      refine pz_goto dX5_best_56 (tgt := 60) (by decide) ?_
      exact pz_drop (pz_part_of [0, 1, 2, 3, 6, 7, 8, 9, 10, 11] rfl) (kB_X5_best_60 X d _ _ _ _ _ _ _ _ _ _ _ _ _ _ _ _ _ _ hk9 ih hf)
def B_X5_best_40 (a0 : Nat) (x1 : Int32) (x2 : Int32) (x3 : Int32) (x6 : Int32) (x7 : Int32) (x8 : Int32) (x9 : Int32) (xs0 : Int32) (k9 : Int32 → Int32 → Int32 → pz_H → Prop) (Q : Int32 → pz_H → Prop) (h : pz_H) : Prop := (pq_ex (fun m45 => L_X5_best_45 a0 x1 x2 x3 x6 x9 xs0 k9 Q m45 x7 x8 (0 : Int32) h))
set_option maxHeartbeats 4000000 in
set_option maxRecDepth 100000 in
theorem kB_X5_best_40 (X : pz_X) (d : Nat) (a0 : Nat) (x1 : Int32) (x2 : Int32) (x3 : Int32) (x6 : Int32) (x7 : Int32) (x8 : Int32) (x9 : Int32) (xs0 : Int32)  (k9 : Int32 → Int32 → Int32 → pz_H → Prop) (Q : Int32 → pz_H → Prop) (h : pz_H) (hk9 : ∀ (x7 : Int32) (x8 : Int32) (x9 : Int32) (h : pz_H), k9 x7 x8 x9 h → pz_W (fun _ => True) X M_X5_best (d + 3) 9 [(0, .ref a0), (1, .int x1), (2, .int x2), (3, .int x3), (6, .int x6), (7, .int x7), (8, .int x8), (9, .int x9)] [] h 0 0 (pq_qI Q)) (hf : B_X5_best_40 a0 x1 x2 x3 x6 x7 x8 x9 xs0 k9 Q h) : pz_W (fun _ => True) X M_X5_best (d + 3) 40 [(0, .ref a0), (1, .int x1), (2, .int x2), (3, .int x3), (6, .int x6), (7, .int x7), (8, .int x8), (9, .int x9)] [.int xs0] h 0 0 (pq_qI Q) := by
  unfold B_X5_best_40 at hf
  refine pz_istore dX5_best_40 (by decide) rfl ?_
  refine pz_iconst (v := (0 : Int32)) dX5_best_42 (by decide) ?_
  refine pz_istore dX5_best_43 (by decide) rfl ?_
  obtain ⟨n9, hf⟩ := hf
  exact pz_drop (pz_part_of [0, 1, 2, 3, 6, 7, 8, 9, 10, 11] rfl) (kL_X5_best_45 X d _ _ _ _ _ _ _ _ _ hk9 n9 _ _ _ _ hf)
def B_X5_best_26 (a0 : Nat) (x1 : Int32) (x2 : Int32) (x3 : Int32) (x6 : Int32) (x7 : Int32) (x8 : Int32) (x9 : Int32) (xs0 : Int32) (xs1 : Int32) (k9 : Int32 → Int32 → Int32 → pz_H → Prop) (Q : Int32 → pz_H → Prop) (h : pz_H) : Prop := (pq_br (xs1 ≤ xs0) (pq_br (x6 = 0) (B_X5_best_244 x7 Q h) (B_X5_best_244 x8 Q h)) (pq_br (x9 = (1 : Int32)) (B_X5_best_40 a0 x1 x2 x3 x6 x7 x8 x9 x3 k9 Q h) (B_X5_best_40 a0 x1 x2 x3 x6 x7 x8 x9 x2 k9 Q h)))
set_option maxHeartbeats 4000000 in
set_option maxRecDepth 100000 in
theorem kB_X5_best_26 (X : pz_X) (d : Nat) (a0 : Nat) (x1 : Int32) (x2 : Int32) (x3 : Int32) (x6 : Int32) (x7 : Int32) (x8 : Int32) (x9 : Int32) (xs0 : Int32) (xs1 : Int32)  (k9 : Int32 → Int32 → Int32 → pz_H → Prop) (Q : Int32 → pz_H → Prop) (h : pz_H) (hk9 : ∀ (x7 : Int32) (x8 : Int32) (x9 : Int32) (h : pz_H), k9 x7 x8 x9 h → pz_W (fun _ => True) X M_X5_best (d + 3) 9 [(0, .ref a0), (1, .int x1), (2, .int x2), (3, .int x3), (6, .int x6), (7, .int x7), (8, .int x8), (9, .int x9)] [] h 0 0 (pq_qI Q)) (hf : B_X5_best_26 a0 x1 x2 x3 x6 x7 x8 x9 xs0 xs1 k9 Q h) : pz_W (fun _ => True) X M_X5_best (d + 3) 26 [(0, .ref a0), (1, .int x1), (2, .int x2), (3, .int x3), (6, .int x6), (7, .int x7), (8, .int x8), (9, .int x9)] [.int xs1, .int xs0] h 0 0 (pq_qI Q) := by
  unfold B_X5_best_26 at hf
  obtain ⟨ha, hb⟩ := hf
  refine pz_icmp_ge dX5_best_26 (tgt := 232) (by decide) (fun cc => ?_) (fun cc => ?_)
  · have hf := ha cc
    refine pz_iload dX5_best_232 rfl ?_
    obtain ⟨ha, hb⟩ := hf
    refine pz_if_eq dX5_best_234 (tgt := 242) (by decide) (fun cc => ?_) (fun cc => ?_)
    · have hf := ha cc
      refine pz_iload dX5_best_242 rfl ?_
      exact pz_drop (pz_part_of [] rfl) (kB_X5_best_244 X d _ _ _  hf)
    · have hf := hb cc
      refine pz_iload dX5_best_237 rfl ?_
      refine pz_goto dX5_best_239 (tgt := 244) (by decide) ?_
      exact pz_drop (pz_part_of [] rfl) (kB_X5_best_244 X d _ _ _  hf)
  · have hf := hb cc
    refine pz_iload dX5_best_29 rfl ?_
    refine pz_iconst (v := (1 : Int32)) dX5_best_31 (by decide) ?_
    obtain ⟨ha, hb⟩ := hf
    refine pz_icmp_ne dX5_best_32 (tgt := 39) (by decide) (fun cc => ?_) (fun cc => ?_)
    · have hf := hb cc
      refine pz_iload_n dX5_best_39 rfl ?_
      exact pz_drop (pz_part_of [0, 1, 2, 3, 6, 7, 8, 9] rfl) (kB_X5_best_40 X d _ _ _ _ _ _ _ _ _ _ _ _ hk9 hf)
    · have hf := ha cc
      refine pz_iload_n dX5_best_35 rfl ?_
      refine pz_goto dX5_best_36 (tgt := 40) (by decide) ?_
      exact pz_drop (pz_part_of [0, 1, 2, 3, 6, 7, 8, 9] rfl) (kB_X5_best_40 X d _ _ _ _ _ _ _ _ _ _ _ _ hk9 hf)
def L_X5_best_9 (a0 : Nat) (x1 : Int32) (x2 : Int32) (x3 : Int32) (x6 : Int32)  (Q : Int32 → pz_H → Prop) : Nat → Int32 → Int32 → Int32 → pz_H → Prop
  | 0, _, _, _, _ => False
  | n + 1, x7, x8, x9, h => (pq_gA h a0 5 1 (fun b1 => (pq_aI h b1 x1 (fun v2 => (pq_br (v2 = (2 : Int32)) (B_X5_best_26 a0 x1 x2 x3 x6 x7 x8 x9 x9 (2 : Int32) (fun z0 z1 z2 hz => L_X5_best_9 a0 x1 x2 x3 x6 Q n z0 z1 z2 hz) Q h) (B_X5_best_26 a0 x1 x2 x3 x6 x7 x8 x9 x9 (1 : Int32) (fun z0 z1 z2 hz => L_X5_best_9 a0 x1 x2 x3 x6 Q n z0 z1 z2 hz) Q h))))))
set_option maxHeartbeats 4000000 in
set_option maxRecDepth 100000 in
theorem kL_X5_best_9 (X : pz_X) (d : Nat) (a0 : Nat) (x1 : Int32) (x2 : Int32) (x3 : Int32) (x6 : Int32)   (Q : Int32 → pz_H → Prop)  : ∀ (n : Nat) (x7 : Int32) (x8 : Int32) (x9 : Int32) (h : pz_H), L_X5_best_9 a0 x1 x2 x3 x6  Q n x7 x8 x9 h → pz_W (fun _ => True) X M_X5_best (d + 3) 9 [(0, .ref a0), (1, .int x1), (2, .int x2), (3, .int x3), (6, .int x6), (7, .int x7), (8, .int x8), (9, .int x9)] [] h 0 0 (pq_qI Q) := by
  intro n
  induction n with
  | zero =>
    intro _ _ _ _ hf
    exact False.elim hf
  | succ n ih =>
    intro x7 x8 x9 h hf
    unfold L_X5_best_9 at hf
    refine pz_iload dX5_best_9 rfl ?_
    refine pz_aload_n dX5_best_11 rfl ?_
    obtain ⟨_, b1, h1, h2, hf⟩ := hf
    refine pz_get dX5_best_12 fl_X5_7 h1 h2 ?_
    refine pz_iload_n dX5_best_15 rfl ?_
    obtain ⟨_, _, h1, h2, hf⟩ := hf
    refine pz_iald dX5_best_16 h1 h2 ?_
    refine pz_iconst (v := (2 : Int32)) dX5_best_17 (by decide) ?_
    obtain ⟨ha, hb⟩ := hf
    refine pz_icmp_ne dX5_best_18 (tgt := 25) (by decide) (fun cc => ?_) (fun cc => ?_)
    · have hf := hb cc
      refine pz_iconst (v := (1 : Int32)) dX5_best_25 (by decide) ?_
      exact pz_drop (pz_part_of [0, 1, 2, 3, 6, 7, 8, 9] rfl) (kB_X5_best_26 X d _ _ _ _ _ _ _ _ _ _ _ _ _ ih hf)
    · have hf := ha cc
      refine pz_iconst (v := (2 : Int32)) dX5_best_21 (by decide) ?_
      refine pz_goto dX5_best_22 (tgt := 26) (by decide) ?_
      exact pz_drop (pz_part_of [0, 1, 2, 3, 6, 7, 8, 9] rfl) (kB_X5_best_26 X d _ _ _ _ _ _ _ _ _ _ _ _ _ ih hf)
def F_X5_best (a0 : Nat) (x1 : Int32) (x2 : Int32) (x3 : Int32) (x4 : Int32) (x5 : Int32) (x6 : Int32) (h : pz_H) (Q : Int32 → pz_H → Prop) : Prop := (pq_ex (fun m9 => L_X5_best_9 a0 x1 x2 x3 x6 Q m9 (-1 : Int32) (0 : Int32) (0 : Int32) h))
set_option maxHeartbeats 4000000 in
set_option maxRecDepth 100000 in
theorem k_X5_best (X : pz_X) (d : Nat) (a0 : Nat) (x1 : Int32) (x2 : Int32) (x3 : Int32) (x4 : Int32) (x5 : Int32) (x6 : Int32) (h : pz_H) (Q : Int32 → pz_H → Prop) (hf : F_X5_best a0 x1 x2 x3 x4 x5 x6 h Q) : pz_Call X M_X5_best (d + 3) 0 0 [.ref a0, .int x1, .int x2, .int x3, .int x4, .int x5, .int x6] h (pq_qI Q) := by
  refine pz_call_of (by decide +kernel) (Nat.le_of_ble_eq_true rfl) ?_
  unfold F_X5_best at hf
  refine pz_iconst (v := (-1 : Int32)) dX5_best_0 (by decide) ?_
  refine pz_istore dX5_best_1 (by decide) rfl ?_
  refine pz_iconst (v := (0 : Int32)) dX5_best_3 (by decide) ?_
  refine pz_istore dX5_best_4 (by decide) rfl ?_
  refine pz_iconst (v := (0 : Int32)) dX5_best_6 (by decide) ?_
  refine pz_istore dX5_best_7 (by decide) rfl ?_
  obtain ⟨n9, hf⟩ := hf
  exact pz_drop (pz_part_of [0, 1, 2, 3, 6, 7, 8, 9] rfl) (kL_X5_best_9 X d _ _ _ _ _ _  n9 _ _ _ _ hf)
def B_X5_simple_214 (a0 : Nat) (x1 : Int32) (x2 : Int32) (x3 : Int32) (x4 : Int32) (x5 : Int32) (x7 : Int32) (xs0 : Int32) (xs1 : Int32) (k142 : Int32 → Int32 → pz_H → Prop) (Q : Int32 → pz_H → Prop) (h : pz_H) : Prop := (pq_gA h a0 5 27 (fun b14 => (pq_gI h a0 5 28 (fun v15 => (pq_sI h b14 v15 x7 (fun h16 => (pq_gI h16 a0 5 28 (fun v17 => (pq_p h16 a0 5 28 (.int (v17 + (1 : Int32))) (fun h18 => (k142 x5 (xs0 ||| xs1) h18)))))))))))
set_option maxHeartbeats 4000000 in
set_option maxRecDepth 100000 in
theorem kB_X5_simple_214 (X : pz_X) (d : Nat) (a0 : Nat) (x1 : Int32) (x2 : Int32) (x3 : Int32) (x4 : Int32) (x5 : Int32) (x7 : Int32) (xs0 : Int32) (xs1 : Int32)  (k142 : Int32 → Int32 → pz_H → Prop) (Q : Int32 → pz_H → Prop) (h : pz_H) (hk142 : ∀ (x5 : Int32) (x6 : Int32) (h : pz_H), k142 x5 x6 h → pz_W (fun _ => True) X M_X5_simple (d + 4) 142 [(0, .ref a0), (1, .int x1), (2, .int x2), (3, .int x3), (4, .int x4), (5, .int x5), (6, .int x6)] [] h 0 0 (pq_qI Q)) (hf : B_X5_simple_214 a0 x1 x2 x3 x4 x5 x7 xs0 xs1 k142 Q h) : pz_W (fun _ => True) X M_X5_simple (d + 4) 214 [(0, .ref a0), (1, .int x1), (2, .int x2), (3, .int x3), (4, .int x4), (5, .int x5), (7, .int x7)] [.int xs1, .int xs0] h 0 0 (pq_qI Q) := by
  unfold B_X5_simple_214 at hf
  refine pz_ior dX5_simple_214 ?_
  refine pz_istore dX5_simple_215 (by decide) rfl ?_
  refine pz_aload_n dX5_simple_217 rfl ?_
  obtain ⟨_, b14, h1, h2, hf⟩ := hf
  refine pz_get dX5_simple_218 fl_X5_79 h1 h2 ?_
  refine pz_aload_n dX5_simple_221 rfl ?_
  obtain ⟨_, v15, h1, h2, hf⟩ := hf
  refine pz_get dX5_simple_222 fl_X5_211 h1 h2 ?_
  refine pz_iload dX5_simple_225 rfl ?_
  obtain ⟨_, _, h1, h2, hf⟩ := hf
  refine pz_iast dX5_simple_227 h1 h2 ?_
  refine pz_aload_n dX5_simple_228 rfl ?_
  refine pz_dup dX5_simple_229 rfl ?_
  obtain ⟨_, v17, h1, h2, hf⟩ := hf
  refine pz_get dX5_simple_230 fl_X5_211 h1 h2 ?_
  refine pz_iconst (v := (1 : Int32)) dX5_simple_233 (by decide) ?_
  refine pz_iadd dX5_simple_234 ?_
  obtain ⟨_, h1, h2, hf⟩ := hf
  refine pz_put dX5_simple_235 fp_X5_211 h1 rfl rfl h2 ?_
  refine pz_goto dX5_simple_238 (tgt := 142) (by decide) ?_
  exact pz_drop (pz_part_of [0, 1, 2, 3, 4, 5, 6] rfl) (hk142 _ _ _ hf)
def B_X5_simple_196 (a0 : Nat) (x1 : Int32) (x2 : Int32) (x3 : Int32) (x4 : Int32) (x6 : Int32) (x7 : Int32) (x8 : Int32) (xs0 : Int32) (xs1 : Int32) (k142 : Int32 → Int32 → pz_H → Prop) (Q : Int32 → pz_H → Prop) (h : pz_H) : Prop := (pq_br ((x7 &&& (2 : Int32)) = 0) (B_X5_simple_214 a0 x1 x2 x3 x4 (xs0 ||| xs1) x7 x6 (0 : Int32) k142 Q h) (B_X5_simple_214 a0 x1 x2 x3 x4 (xs0 ||| xs1) x7 x6 x8 k142 Q h))
set_option maxHeartbeats 4000000 in
set_option maxRecDepth 100000 in
theorem kB_X5_simple_196 (X : pz_X) (d : Nat) (a0 : Nat) (x1 : Int32) (x2 : Int32) (x3 : Int32) (x4 : Int32) (x6 : Int32) (x7 : Int32) (x8 : Int32) (xs0 : Int32) (xs1 : Int32)  (k142 : Int32 → Int32 → pz_H → Prop) (Q : Int32 → pz_H → Prop) (h : pz_H) (hk142 : ∀ (x5 : Int32) (x6 : Int32) (h : pz_H), k142 x5 x6 h → pz_W (fun _ => True) X M_X5_simple (d + 4) 142 [(0, .ref a0), (1, .int x1), (2, .int x2), (3, .int x3), (4, .int x4), (5, .int x5), (6, .int x6)] [] h 0 0 (pq_qI Q)) (hf : B_X5_simple_196 a0 x1 x2 x3 x4 x6 x7 x8 xs0 xs1 k142 Q h) : pz_W (fun _ => True) X M_X5_simple (d + 4) 196 [(0, .ref a0), (1, .int x1), (2, .int x2), (3, .int x3), (4, .int x4), (6, .int x6), (7, .int x7), (8, .int x8)] [.int xs1, .int xs0] h 0 0 (pq_qI Q) := by
  unfold B_X5_simple_196 at hf
  refine pz_ior dX5_simple_196 ?_
  refine pz_istore dX5_simple_197 (by decide) rfl ?_
  refine pz_iload dX5_simple_199 rfl ?_
  refine pz_iload dX5_simple_201 rfl ?_
  refine pz_iconst (v := (2 : Int32)) dX5_simple_203 (by decide) ?_
  refine pz_iand dX5_simple_204 ?_
  obtain ⟨ha, hb⟩ := hf
  refine pz_if_eq dX5_simple_205 (tgt := 213) (by decide) (fun cc => ?_) (fun cc => ?_)
  · have hf := ha cc
    refine pz_iconst (v := (0 : Int32)) dX5_simple_213 (by decide) ?_
    exact pz_drop (pz_part_of [0, 1, 2, 3, 4, 5, 7] rfl) (kB_X5_simple_214 X d _ _ _ _ _ _ _ _ _ _ _ _ hk142 hf)
  · have hf := hb cc
    refine pz_iload dX5_simple_208 rfl ?_
    refine pz_goto dX5_simple_210 (tgt := 214) (by decide) ?_
    exact pz_drop (pz_part_of [0, 1, 2, 3, 4, 5, 7] rfl) (kB_X5_simple_214 X d _ _ _ _ _ _ _ _ _ _ _ _ hk142 hf)
def B_X5_simple_154 (a0 : Nat) (x1 : Int32) (x2 : Int32) (x3 : Int32) (x4 : Int32) (x5 : Int32) (x6 : Int32) (k142 : Int32 → Int32 → pz_H → Prop) (Q : Int32 → pz_H → Prop) (h : pz_H) : Prop := (pq_o h a0 5 (F_X5_best a0 x1 x5 x6 x2 x3 (1 : Int32) h (fun v11 h10 => (pq_o h10 a0 5 (F_X5_done a0 x1 x5 x6 v11 h10 (fun v13 h12 => (pq_br ((v11 &&& (2 : Int32)) = 0) (B_X5_simple_196 a0 x1 x2 x3 x4 x6 v11 v13 x5 v13 k142 Q h12) (B_X5_simple_196 a0 x1 x2 x3 x4 x6 v11 v13 x5 (0 : Int32) k142 Q h12))))))))
set_option maxHeartbeats 4000000 in
set_option maxRecDepth 100000 in
theorem kB_X5_simple_154 (X : pz_X) (d : Nat) (a0 : Nat) (x1 : Int32) (x2 : Int32) (x3 : Int32) (x4 : Int32) (x5 : Int32) (x6 : Int32)  (k142 : Int32 → Int32 → pz_H → Prop) (Q : Int32 → pz_H → Prop) (h : pz_H) (hk142 : ∀ (x5 : Int32) (x6 : Int32) (h : pz_H), k142 x5 x6 h → pz_W (fun _ => True) X M_X5_simple (d + 4) 142 [(0, .ref a0), (1, .int x1), (2, .int x2), (3, .int x3), (4, .int x4), (5, .int x5), (6, .int x6)] [] h 0 0 (pq_qI Q)) (hf : B_X5_simple_154 a0 x1 x2 x3 x4 x5 x6 k142 Q h) : pz_W (fun _ => True) X M_X5_simple (d + 4) 154 [(0, .ref a0), (1, .int x1), (2, .int x2), (3, .int x3), (4, .int x4), (5, .int x5), (6, .int x6)] [] h 0 0 (pq_qI Q) := by
  unfold B_X5_simple_154 at hf
  refine pz_aload_n dX5_simple_154 rfl ?_
  refine pz_iload_n dX5_simple_155 rfl ?_
  refine pz_iload dX5_simple_156 rfl ?_
  refine pz_iload dX5_simple_158 rfl ?_
  refine pz_iload_n dX5_simple_160 rfl ?_
  refine pz_iload_n dX5_simple_161 rfl ?_
  refine pz_iconst (v := (1 : Int32)) dX5_simple_162 (by decide) ?_
  obtain ⟨_, hO, hf⟩ := hf
  refine pz_callV6 (rc := 0) (rs := 0) (mc := 0) (ms := 0) dX5_simple_163 (k_X5_best X d _ _ _ _ _ _ _ _ _ hf) (Nat.le_of_ble_eq_true rfl) mf_X5_best ml_X5_207 hO rfl mi_X5_best ms_X5_best (fun _ h9 hq => ?_)
  obtain ⟨_, rfl, hf⟩ := hq
  refine pz_istore dX5_simple_166 (by decide) rfl ?_
  refine pz_aload_n dX5_simple_168 rfl ?_
  refine pz_iload_n dX5_simple_169 rfl ?_
  refine pz_iload dX5_simple_170 rfl ?_
  refine pz_iload dX5_simple_172 rfl ?_
  refine pz_iload dX5_simple_174 rfl ?_
  obtain ⟨_, hO, hf⟩ := hf
  refine pz_callV4 (rc := 0) (rs := 0) (mc := 0) (ms := 0) dX5_simple_176 (k_X5_done X (d + 1) _ _ _ _ _ _ _ hf) (Nat.le_of_ble_eq_true rfl) mf_X5_done ml_X5_214 hO rfl mi_X5_done ms_X5_done (fun _ h9 hq => ?_)
  obtain ⟨_, rfl, hf⟩ := hq
  refine pz_istore dX5_simple_179 (by decide) rfl ?_
  refine pz_iload dX5_simple_181 rfl ?_
  refine pz_iload dX5_simple_183 rfl ?_
  refine pz_iconst (v := (2 : Int32)) dX5_simple_185 (by decide) ?_
  refine pz_iand dX5_simple_186 ?_
  obtain ⟨ha, hb⟩ := hf
  refine pz_if_ne dX5_simple_187 (tgt := 195) (by decide) (fun cc => ?_) (fun cc => ?_)
  · have hf := hb cc
    refine pz_iconst (v := (0 : Int32)) dX5_simple_195 (by decide) ?_
    exact pz_drop (pz_part_of [0, 1, 2, 3, 4, 6, 7, 8] rfl) (kB_X5_simple_196 X d _ _ _ _ _ _ _ _ _ _ _ _ _ hk142 hf)
  · have hf := ha cc
    refine pz_iload dX5_simple_190 rfl ?_
    refine pz_goto dX5_simple_192 (tgt := 196) (by decide) ?_
    exact pz_drop (pz_part_of [0, 1, 2, 3, 4, 6, 7, 8] rfl) (kB_X5_simple_196 X d _ _ _ _ _ _ _ _ _ _ _ _ _ hk142 hf)
def L_X5_simple_142 (a0 : Nat) (x1 : Int32) (x2 : Int32) (x3 : Int32) (x4 : Int32)  (Q : Int32 → pz_H → Prop) : Nat → Int32 → Int32 → pz_H → Prop
  | 0, _, _, _ => False
  | n + 1, x5, x6, h => (pq_br (x5 = x2) (pq_br (x6 = x3) (Q x4 h) (B_X5_simple_154 a0 x1 x2 x3 x4 x5 x6 (fun z0 z1 hz => L_X5_simple_142 a0 x1 x2 x3 x4 Q n z0 z1 hz) Q h)) (B_X5_simple_154 a0 x1 x2 x3 x4 x5 x6 (fun z0 z1 hz => L_X5_simple_142 a0 x1 x2 x3 x4 Q n z0 z1 hz) Q h))
set_option maxHeartbeats 4000000 in
set_option maxRecDepth 100000 in
theorem kL_X5_simple_142 (X : pz_X) (d : Nat) (a0 : Nat) (x1 : Int32) (x2 : Int32) (x3 : Int32) (x4 : Int32)   (Q : Int32 → pz_H → Prop)  : ∀ (n : Nat) (x5 : Int32) (x6 : Int32) (h : pz_H), L_X5_simple_142 a0 x1 x2 x3 x4  Q n x5 x6 h → pz_W (fun _ => True) X M_X5_simple (d + 4) 142 [(0, .ref a0), (1, .int x1), (2, .int x2), (3, .int x3), (4, .int x4), (5, .int x5), (6, .int x6)] [] h 0 0 (pq_qI Q) := by
  intro n
  induction n with
  | zero =>
    intro _ _ _ hf
    exact False.elim hf
  | succ n ih =>
    intro x5 x6 h hf
    unfold L_X5_simple_142 at hf
    refine pz_iload dX5_simple_142 rfl ?_
    refine pz_iload_n dX5_simple_144 rfl ?_
    obtain ⟨ha, hb⟩ := hf
    refine pz_icmp_ne dX5_simple_145 (tgt := 154) (by decide) (fun cc => ?_) (fun cc => ?_)
    · have hf := hb cc
      exact pz_drop (pz_part_of [0, 1, 2, 3, 4, 5, 6] rfl) (kB_X5_simple_154 X d _ _ _ _ _ _ _ _ _ _ ih hf)
    · have hf := ha cc
      refine pz_iload dX5_simple_148 rfl ?_
      refine pz_iload_n dX5_simple_150 rfl ?_
      obtain ⟨ha, hb⟩ := hf
      refine pz_icmp_eq dX5_simple_151 (tgt := 241) (by decide) (fun cc => ?_) (fun cc => ?_)
      · have hf := ha cc
        refine pz_iload dX5_simple_241 rfl ?_
        exact pz_ireturn dX5_simple_243 rfl rfl ⟨_, rfl, hf⟩
      · have hf := hb cc
        exact pz_drop (pz_part_of [0, 1, 2, 3, 4, 5, 6] rfl) (kB_X5_simple_154 X d _ _ _ _ _ _ _ _ _ _ ih hf)
def B_X5_simple_102 (a0 : Nat) (x1 : Int32) (x2 : Int32) (x3 : Int32) (x4 : Int32) (x5 : Int32) (as0 : Nat) (xs1 : Int32) (xs2 : Int32) (k49 : Int32 → pz_H → Prop) (k57 : Int32 → pz_H → Prop) (Q : Int32 → pz_H → Prop) (h : pz_H) : Prop := (pq_sI h as0 xs1 xs2 (fun h9 => (k57 (x5 + (-1 : Int32)) h9)))
set_option maxHeartbeats 4000000 in
set_option maxRecDepth 100000 in
theorem kB_X5_simple_102 (X : pz_X) (d : Nat) (a0 : Nat) (x1 : Int32) (x2 : Int32) (x3 : Int32) (x4 : Int32) (x5 : Int32) (as0 : Nat) (xs1 : Int32) (xs2 : Int32)  (k49 : Int32 → pz_H → Prop) (k57 : Int32 → pz_H → Prop) (Q : Int32 → pz_H → Prop) (h : pz_H) (hk49 : ∀ (x4 : Int32) (h : pz_H), k49 x4 h → pz_W (fun _ => True) X M_X5_simple (d + 4) 49 [(0, .ref a0), (1, .int x1), (2, .int x2), (3, .int x3), (4, .int x4)] [] h 0 0 (pq_qI Q)) (hk57 : ∀ (x5 : Int32) (h : pz_H), k57 x5 h → pz_W (fun _ => True) X M_X5_simple (d + 4) 57 [(0, .ref a0), (1, .int x1), (2, .int x2), (3, .int x3), (4, .int x4), (5, .int x5)] [] h 0 0 (pq_qI Q)) (hf : B_X5_simple_102 a0 x1 x2 x3 x4 x5 as0 xs1 xs2 k49 k57 Q h) : pz_W (fun _ => True) X M_X5_simple (d + 4) 102 [(0, .ref a0), (1, .int x1), (2, .int x2), (3, .int x3), (4, .int x4), (5, .int x5)] [.int xs2, .int xs1, .ref as0] h 0 0 (pq_qI Q) := by
  unfold B_X5_simple_102 at hf
  obtain ⟨_, _, h1, h2, hf⟩ := hf
  refine pz_iast dX5_simple_102 h1 h2 ?_
  refine pz_iinc dX5_simple_103 rfl (by rfl) (by decide) rfl ?_
  refine pz_goto dX5_simple_106 (tgt := 57) (by decide) ?_
  exact pz_drop (pz_part_of [0, 1, 2, 3, 4, 5] rfl) (hk57 _ _ hf)
def B_X5_simple_90 (a0 : Nat) (x1 : Int32) (x2 : Int32) (x3 : Int32) (x4 : Int32) (x5 : Int32) (as0 : Nat) (xs1 : Int32) (k49 : Int32 → pz_H → Prop) (k57 : Int32 → pz_H → Prop) (Q : Int32 → pz_H → Prop) (h : pz_H) : Prop := (pq_o h a0 5 (F_X5_best a0 x1 x5 x4 x2 x3 (0 : Int32) h (fun v8 h7 => (B_X5_simple_102 a0 x1 x2 x3 x4 x5 as0 xs1 v8 k49 k57 Q h7))))
set_option maxHeartbeats 4000000 in
set_option maxRecDepth 100000 in
theorem kB_X5_simple_90 (X : pz_X) (d : Nat) (a0 : Nat) (x1 : Int32) (x2 : Int32) (x3 : Int32) (x4 : Int32) (x5 : Int32) (as0 : Nat) (xs1 : Int32)  (k49 : Int32 → pz_H → Prop) (k57 : Int32 → pz_H → Prop) (Q : Int32 → pz_H → Prop) (h : pz_H) (hk49 : ∀ (x4 : Int32) (h : pz_H), k49 x4 h → pz_W (fun _ => True) X M_X5_simple (d + 4) 49 [(0, .ref a0), (1, .int x1), (2, .int x2), (3, .int x3), (4, .int x4)] [] h 0 0 (pq_qI Q)) (hk57 : ∀ (x5 : Int32) (h : pz_H), k57 x5 h → pz_W (fun _ => True) X M_X5_simple (d + 4) 57 [(0, .ref a0), (1, .int x1), (2, .int x2), (3, .int x3), (4, .int x4), (5, .int x5)] [] h 0 0 (pq_qI Q)) (hf : B_X5_simple_90 a0 x1 x2 x3 x4 x5 as0 xs1 k49 k57 Q h) : pz_W (fun _ => True) X M_X5_simple (d + 4) 90 [(0, .ref a0), (1, .int x1), (2, .int x2), (3, .int x3), (4, .int x4), (5, .int x5)] [.int xs1, .ref as0] h 0 0 (pq_qI Q) := by
  unfold B_X5_simple_90 at hf
  refine pz_aload_n dX5_simple_90 rfl ?_
  refine pz_iload_n dX5_simple_91 rfl ?_
  refine pz_iload dX5_simple_92 rfl ?_
  refine pz_iload dX5_simple_94 rfl ?_
  refine pz_iload_n dX5_simple_96 rfl ?_
  refine pz_iload_n dX5_simple_97 rfl ?_
  refine pz_iconst (v := (0 : Int32)) dX5_simple_98 (by decide) ?_
  obtain ⟨_, hO, hf⟩ := hf
  refine pz_callV6 (rc := 0) (rs := 0) (mc := 0) (ms := 0) dX5_simple_99 (k_X5_best X d _ _ _ _ _ _ _ _ _ hf) (Nat.le_of_ble_eq_true rfl) mf_X5_best ml_X5_207 hO rfl mi_X5_best ms_X5_best (fun _ h9 hq => ?_)
  obtain ⟨_, rfl, hf⟩ := hq
  exact pz_drop (pz_part_of [0, 1, 2, 3, 4, 5] rfl) (kB_X5_simple_102 X d _ _ _ _ _ _ _ _ _ _ _ _ _ hk49 hk57 hf)
def L_X5_simple_57 (a0 : Nat) (x1 : Int32) (x2 : Int32) (x3 : Int32) (x4 : Int32) (k49 : Int32 → pz_H → Prop) (Q : Int32 → pz_H → Prop) : Nat → Int32 → pz_H → Prop
  | 0, _, _ => False
  | n + 1, x5, h => (pq_br (x5 < 0) (k49 (x4 + (-1 : Int32)) h) (pq_gA h a0 5 26 (fun b4 => (pq_o h a0 5 (F_X5_stateOf a0 x5 x4 h (fun v6 h5 => (pq_br (x5 = x2) (pq_br (x4 = x3) (B_X5_simple_102 a0 x1 x2 x3 x4 x5 b4 v6 (0 : Int32) k49 (fun z0 hz => L_X5_simple_57 a0 x1 x2 x3 x4 k49 Q n z0 hz) Q h5) (B_X5_simple_90 a0 x1 x2 x3 x4 x5 b4 v6 k49 (fun z0 hz => L_X5_simple_57 a0 x1 x2 x3 x4 k49 Q n z0 hz) Q h5)) (B_X5_simple_90 a0 x1 x2 x3 x4 x5 b4 v6 k49 (fun z0 hz => L_X5_simple_57 a0 x1 x2 x3 x4 k49 Q n z0 hz) Q h5))))))))
set_option maxHeartbeats 4000000 in
set_option maxRecDepth 100000 in
theorem kL_X5_simple_57 (X : pz_X) (d : Nat) (a0 : Nat) (x1 : Int32) (x2 : Int32) (x3 : Int32) (x4 : Int32)  (k49 : Int32 → pz_H → Prop) (Q : Int32 → pz_H → Prop) (hk49 : ∀ (x4 : Int32) (h : pz_H), k49 x4 h → pz_W (fun _ => True) X M_X5_simple (d + 4) 49 [(0, .ref a0), (1, .int x1), (2, .int x2), (3, .int x3), (4, .int x4)] [] h 0 0 (pq_qI Q)) : ∀ (n : Nat) (x5 : Int32) (h : pz_H), L_X5_simple_57 a0 x1 x2 x3 x4 k49 Q n x5 h → pz_W (fun _ => True) X M_X5_simple (d + 4) 57 [(0, .ref a0), (1, .int x1), (2, .int x2), (3, .int x3), (4, .int x4), (5, .int x5)] [] h 0 0 (pq_qI Q) := by
  intro n
  induction n with
  | zero =>
    intro _ _ hf
    exact False.elim hf
  | succ n ih =>
    intro x5 h hf
    unfold L_X5_simple_57 at hf
    refine pz_iload dX5_simple_57 rfl ?_
    obtain ⟨ha, hb⟩ := hf
    refine pz_if_lt dX5_simple_59 (tgt := 109) (by decide) (fun cc => ?_) (fun cc => ?_)
    · have hf := ha cc
      refine pz_iinc dX5_simple_109 rfl (by rfl) (by decide) rfl ?_
      refine pz_goto dX5_simple_112 (tgt := 49) (by decide) ?_
      exact pz_drop (pz_part_of [0, 1, 2, 3, 4] rfl) (hk49 _ _ hf)
    · have hf := hb cc
      refine pz_aload_n dX5_simple_62 rfl ?_
      obtain ⟨_, b4, h1, h2, hf⟩ := hf
      refine pz_get dX5_simple_63 fl_X5_76 h1 h2 ?_
      refine pz_aload_n dX5_simple_66 rfl ?_
      refine pz_iload dX5_simple_67 rfl ?_
      refine pz_iload dX5_simple_69 rfl ?_
      obtain ⟨_, hO, hf⟩ := hf
      refine pz_callV2 (rc := 0) (rs := 0) (mc := 0) (ms := 0) dX5_simple_71 (k_X5_stateOf X (d + 3) _ _ _ _ _ hf) (Nat.le_of_ble_eq_true rfl) mf_X5_stateOf ml_X5_204 hO rfl mi_X5_stateOf ms_X5_stateOf (fun _ h9 hq => ?_)
      obtain ⟨_, rfl, hf⟩ := hq
      refine pz_iload dX5_simple_74 rfl ?_
      refine pz_iload_n dX5_simple_76 rfl ?_
      obtain ⟨ha, hb⟩ := hf
      refine pz_icmp_ne dX5_simple_77 (tgt := 90) (by decide) (fun cc => ?_) (fun cc => ?_)
      · have hf := hb cc
        exact pz_drop (pz_part_of [0, 1, 2, 3, 4, 5] rfl) (kB_X5_simple_90 X d _ _ _ _ _ _ _ _ _ _ _ _ hk49 ih hf)
      · have hf := ha cc
        refine pz_iload dX5_simple_80 rfl ?_
        refine pz_iload_n dX5_simple_82 rfl ?_
        obtain ⟨ha, hb⟩ := hf
        refine pz_icmp_ne dX5_simple_83 (tgt := 90) (by decide) (fun cc => ?_) (fun cc => ?_)
        · have hf := hb cc
          exact pz_drop (pz_part_of [0, 1, 2, 3, 4, 5] rfl) (kB_X5_simple_90 X d _ _ _ _ _ _ _ _ _ _ _ _ hk49 ih hf)
        · have hf := ha cc
          refine pz_iconst (v := (0 : Int32)) dX5_simple_86 (by decide) ?_
          refine pz_goto dX5_simple_87 (tgt := 102) (by decide) ?_
          exact pz_drop (pz_part_of [0, 1, 2, 3, 4, 5] rfl) (kB_X5_simple_102 X d _ _ _ _ _ _ _ _ _ _ _ _ _ hk49 ih hf)
def L_X5_simple_49 (a0 : Nat) (x1 : Int32) (x2 : Int32) (x3 : Int32)  (Q : Int32 → pz_H → Prop) : Nat → Int32 → pz_H → Prop
  | 0, _, _ => False
  | n + 1, x4, h => (pq_br (x4 < 0) (pq_gA h a0 5 26 (fun b1 => (pq_aI h b1 (0 : Int32) (fun v2 => (pq_br (v2 = (-1 : Int32)) (Q (-1 : Int32) h) (pq_p h a0 5 28 (.int (0 : Int32)) (fun h3 => (pq_ex (fun m142 => L_X5_simple_142 a0 x1 x2 x3 v2 Q m142 (0 : Int32) (0 : Int32) h3))))))))) (pq_ex (fun m57 => L_X5_simple_57 a0 x1 x2 x3 x4 (fun z0 hz => L_X5_simple_49 a0 x1 x2 x3 Q n z0 hz) Q m57 x2 h)))
set_option maxHeartbeats 4000000 in
set_option maxRecDepth 100000 in
theorem kL_X5_simple_49 (X : pz_X) (d : Nat) (a0 : Nat) (x1 : Int32) (x2 : Int32) (x3 : Int32)   (Q : Int32 → pz_H → Prop)  : ∀ (n : Nat) (x4 : Int32) (h : pz_H), L_X5_simple_49 a0 x1 x2 x3  Q n x4 h → pz_W (fun _ => True) X M_X5_simple (d + 4) 49 [(0, .ref a0), (1, .int x1), (2, .int x2), (3, .int x3), (4, .int x4)] [] h 0 0 (pq_qI Q) := by
  intro n
  induction n with
  | zero =>
    intro _ _ hf
    exact False.elim hf
  | succ n ih =>
    intro x4 h hf
    unfold L_X5_simple_49 at hf
    refine pz_iload dX5_simple_49 rfl ?_
    obtain ⟨ha, hb⟩ := hf
    refine pz_if_lt dX5_simple_51 (tgt := 115) (by decide) (fun cc => ?_) (fun cc => ?_)
    · have hf := ha cc
      refine pz_aload_n dX5_simple_115 rfl ?_
      obtain ⟨_, b1, h1, h2, hf⟩ := hf
      refine pz_get dX5_simple_116 fl_X5_76 h1 h2 ?_
      refine pz_iconst (v := (0 : Int32)) dX5_simple_119 (by decide) ?_
      obtain ⟨_, _, h1, h2, hf⟩ := hf
      refine pz_iald dX5_simple_120 h1 h2 ?_
      refine pz_istore dX5_simple_121 (by decide) rfl ?_
      refine pz_iload dX5_simple_123 rfl ?_
      refine pz_iconst (v := (-1 : Int32)) dX5_simple_125 (by decide) ?_
      obtain ⟨ha, hb⟩ := hf
      refine pz_icmp_ne dX5_simple_126 (tgt := 131) (by decide) (fun cc => ?_) (fun cc => ?_)
      · have hf := hb cc
        refine pz_iconst (v := (0 : Int32)) dX5_simple_131 (by decide) ?_
        refine pz_istore dX5_simple_132 (by decide) rfl ?_
        refine pz_iconst (v := (0 : Int32)) dX5_simple_134 (by decide) ?_
        refine pz_istore dX5_simple_135 (by decide) rfl ?_
        refine pz_aload_n dX5_simple_137 rfl ?_
        refine pz_iconst (v := (0 : Int32)) dX5_simple_138 (by decide) ?_
        obtain ⟨_, h1, h2, hf⟩ := hf
        refine pz_put dX5_simple_139 fp_X5_211 h1 rfl rfl h2 ?_
        obtain ⟨n9, hf⟩ := hf
        exact pz_drop (pz_part_of [0, 1, 2, 3, 4, 5, 6] rfl) (kL_X5_simple_142 X d _ _ _ _ _ _  n9 _ _ _ hf)
      · have hf := ha cc
        refine pz_iconst (v := (-1 : Int32)) dX5_simple_129 (by decide) ?_
        exact pz_ireturn dX5_simple_130 rfl rfl ⟨_, rfl, hf⟩
    · have hf := hb cc
      refine pz_iload_n dX5_simple_54 rfl ?_
      refine pz_istore dX5_simple_55 (by decide) rfl ?_
      obtain ⟨n9, hf⟩ := hf
      exact pz_drop (pz_part_of [0, 1, 2, 3, 4, 5] rfl) (kL_X5_simple_57 X d _ _ _ _ _ _ _ ih n9 _ _ hf)
def F_X5_simple (a0 : Nat) (x1 : Int32) (h : pz_H) (Q : Int32 → pz_H → Prop) : Prop := (pq_o h a0 5 (F_X5_has a0 x1 h (fun v20 h19 => (pq_br (v20 = 0) (Q (-101 : Int32) h19) (pq_gA h19 a0 5 1 (fun b21 => (pq_aI h19 b21 x1 (fun v22 => (pq_br (v22 = (1 : Int32)) (Q (-103 : Int32) h19) (pq_o h19 a0 5 (F_X5_gapsOf a0 x1 (0 : Int32) h19 (fun v24 h23 => (pq_o h23 a0 5 (F_X5_gapsOf a0 x1 (1 : Int32) h23 (fun v26 h25 => (pq_ex (fun m49 => L_X5_simple_49 a0 x1 (((1 : Int32) <<< (v24 &&& 31)) - (1 : Int32)) (((1 : Int32) <<< (v26 &&& 31)) - (1 : Int32)) Q m49 (((1 : Int32) <<< (v26 &&& 31)) - (1 : Int32)) h25)))))))))))))))))
set_option maxHeartbeats 4000000 in
set_option maxRecDepth 100000 in
theorem k_X5_simple (X : pz_X) (d : Nat) (a0 : Nat) (x1 : Int32) (h : pz_H) (Q : Int32 → pz_H → Prop) (hf : F_X5_simple a0 x1 h Q) : pz_Call X M_X5_simple (d + 4) 0 0 [.ref a0, .int x1] h (pq_qI Q) := by
  refine pz_call_of (by decide +kernel) (Nat.le_of_ble_eq_true rfl) ?_
  unfold F_X5_simple at hf
  refine pz_aload_n dX5_simple_0 rfl ?_
  refine pz_iload_n dX5_simple_1 rfl ?_
  obtain ⟨_, hO, hf⟩ := hf
  refine pz_callV1 (rc := 0) (rs := 0) (mc := 0) (ms := 0) dX5_simple_2 (k_X5_has X (d + 3) _ _ _ _ hf) (Nat.le_of_ble_eq_true rfl) mf_X5_has ml_X5_85 hO rfl mi_X5_has ms_X5_has (fun _ h9 hq => ?_)
  obtain ⟨_, rfl, hf⟩ := hq
  obtain ⟨ha, hb⟩ := hf
  refine pz_if_ne dX5_simple_5 (tgt := 11) (by decide) (fun cc => ?_) (fun cc => ?_)
  · have hf := hb cc
    refine pz_aload_n dX5_simple_11 rfl ?_
    obtain ⟨_, b21, h1, h2, hf⟩ := hf
    refine pz_get dX5_simple_12 fl_X5_7 h1 h2 ?_
    refine pz_iload_n dX5_simple_15 rfl ?_
    obtain ⟨_, _, h1, h2, hf⟩ := hf
    refine pz_iald dX5_simple_16 h1 h2 ?_
    refine pz_iconst (v := (1 : Int32)) dX5_simple_17 (by decide) ?_
    obtain ⟨ha, hb⟩ := hf
    refine pz_icmp_ne dX5_simple_18 (tgt := 24) (by decide) (fun cc => ?_) (fun cc => ?_)
    · have hf := hb cc
      refine pz_iconst (v := (1 : Int32)) dX5_simple_24 (by decide) ?_
      refine pz_aload_n dX5_simple_25 rfl ?_
      refine pz_iload_n dX5_simple_26 rfl ?_
      refine pz_iconst (v := (0 : Int32)) dX5_simple_27 (by decide) ?_
      obtain ⟨_, hO, hf⟩ := hf
      refine pz_callV2 (rc := 0) (rs := 0) (mc := 0) (ms := 0) dX5_simple_28 (k_X5_gapsOf X (d + 3) _ _ _ _ _ hf) (Nat.le_of_ble_eq_true rfl) mf_X5_gapsOf ml_X5_196 hO rfl mi_X5_gapsOf ms_X5_gapsOf (fun _ h9 hq => ?_)
      obtain ⟨_, rfl, hf⟩ := hq
      refine pz_ishl dX5_simple_31 ?_
      refine pz_iconst (v := (1 : Int32)) dX5_simple_32 (by decide) ?_
      refine pz_isub dX5_simple_33 ?_
      refine pz_istore_n dX5_simple_34 rfl (by decide) rfl ?_
      refine pz_iconst (v := (1 : Int32)) dX5_simple_35 (by decide) ?_
      refine pz_aload_n dX5_simple_36 rfl ?_
      refine pz_iload_n dX5_simple_37 rfl ?_
      refine pz_iconst (v := (1 : Int32)) dX5_simple_38 (by decide) ?_
      obtain ⟨_, hO, hf⟩ := hf
      refine pz_callV2 (rc := 0) (rs := 0) (mc := 0) (ms := 0) dX5_simple_39 (k_X5_gapsOf X (d + 3) _ _ _ _ _ hf) (Nat.le_of_ble_eq_true rfl) mf_X5_gapsOf ml_X5_196 hO rfl mi_X5_gapsOf ms_X5_gapsOf (fun _ h9 hq => ?_)
      obtain ⟨_, rfl, hf⟩ := hq
      refine pz_ishl dX5_simple_42 ?_
      refine pz_iconst (v := (1 : Int32)) dX5_simple_43 (by decide) ?_
      refine pz_isub dX5_simple_44 ?_
      refine pz_istore_n dX5_simple_45 rfl (by decide) rfl ?_
      refine pz_iload_n dX5_simple_46 rfl ?_
      refine pz_istore dX5_simple_47 (by decide) rfl ?_
      obtain ⟨n9, hf⟩ := hf
      exact pz_drop (pz_part_of [0, 1, 2, 3, 4] rfl) (kL_X5_simple_49 X d _ _ _ _ _  n9 _ _ hf)
    · have hf := ha cc
      refine pz_bipush (v := (-103 : Int32)) dX5_simple_21 (by decide) ?_
      exact pz_ireturn dX5_simple_23 rfl rfl ⟨_, rfl, hf⟩
  · have hf := ha cc
    refine pz_bipush (v := (-101 : Int32)) dX5_simple_8 (by decide) ?_
    exact pz_ireturn dX5_simple_10 rfl rfl ⟨_, rfl, hf⟩
def B_X5_step_23 (xs0 : Int32)  (Q : Int32 → pz_H → Prop) (h : pz_H) : Prop := (Q xs0 h)
set_option maxHeartbeats 4000000 in
set_option maxRecDepth 100000 in
theorem kB_X5_step_23 (X : pz_X) (d : Nat) (xs0 : Int32)   (Q : Int32 → pz_H → Prop) (h : pz_H)  (hf : B_X5_step_23 xs0  Q h) : pz_W (fun _ => True) X M_X5_step (d + 0) 23 [] [.int xs0] h 0 0 (pq_qI Q) := by
  unfold B_X5_step_23 at hf
  exact pz_ireturn dX5_step_23 rfl rfl ⟨_, rfl, hf⟩
def B_X5_step_12   (Q : Int32 → pz_H → Prop) (h : pz_H) : Prop := (B_X5_step_23 (-103 : Int32) Q h)
set_option maxHeartbeats 4000000 in
set_option maxRecDepth 100000 in
theorem kB_X5_step_12 (X : pz_X) (d : Nat)    (Q : Int32 → pz_H → Prop) (h : pz_H)  (hf : B_X5_step_12   Q h) : pz_W (fun _ => True) X M_X5_step (d + 0) 12 [] [] h 0 0 (pq_qI Q) := by
  unfold B_X5_step_12 at hf
  refine pz_bipush (v := (-103 : Int32)) dX5_step_12 (by decide) ?_
  refine pz_goto dX5_step_14 (tgt := 23) (by decide) ?_
  exact pz_drop (pz_part_of [] rfl) (kB_X5_step_23 X d _ _ _  hf)
def F_X5_step (a0 : Nat) (x1 : Int32) (h : pz_H) (Q : Int32 → pz_H → Prop) : Prop := (pq_br (x1 < 0) (B_X5_step_12 Q h) (pq_gI h a0 5 28 (fun v1 => (pq_br (x1 < v1) (pq_gA h a0 5 27 (fun b2 => (pq_aI h b2 x1 (fun v3 => (B_X5_step_23 v3 Q h))))) (B_X5_step_12 Q h)))))
set_option maxHeartbeats 4000000 in
set_option maxRecDepth 100000 in
theorem k_X5_step (X : pz_X) (d : Nat) (a0 : Nat) (x1 : Int32) (h : pz_H) (Q : Int32 → pz_H → Prop) (hf : F_X5_step a0 x1 h Q) : pz_Call X M_X5_step (d + 0) 0 0 [.ref a0, .int x1] h (pq_qI Q) := by
  refine pz_call_of (by decide +kernel) (Nat.le_of_ble_eq_true rfl) ?_
  unfold F_X5_step at hf
  refine pz_iload_n dX5_step_0 rfl ?_
  obtain ⟨ha, hb⟩ := hf
  refine pz_if_lt dX5_step_1 (tgt := 12) (by decide) (fun cc => ?_) (fun cc => ?_)
  · have hf := ha cc
    exact pz_drop (pz_part_of [] rfl) (kB_X5_step_12 X d _ _  hf)
  · have hf := hb cc
    refine pz_iload_n dX5_step_4 rfl ?_
    refine pz_aload_n dX5_step_5 rfl ?_
    obtain ⟨_, v1, h1, h2, hf⟩ := hf
    refine pz_get dX5_step_6 fl_X5_211 h1 h2 ?_
    obtain ⟨ha, hb⟩ := hf
    refine pz_icmp_lt dX5_step_9 (tgt := 17) (by decide) (fun cc => ?_) (fun cc => ?_)
    · have hf := ha cc
      refine pz_aload_n dX5_step_17 rfl ?_
      obtain ⟨_, b2, h1, h2, hf⟩ := hf
      refine pz_get dX5_step_18 fl_X5_79 h1 h2 ?_
      refine pz_iload_n dX5_step_21 rfl ?_
      obtain ⟨_, _, h1, h2, hf⟩ := hf
      refine pz_iald dX5_step_22 h1 h2 ?_
      exact pz_drop (pz_part_of [] rfl) (kB_X5_step_23 X d _ _ _  hf)
    · have hf := hb cc
      exact pz_drop (pz_part_of [] rfl) (kB_X5_step_12 X d _ _  hf)
def B_X5_creasesIn_37 (xs0 : Int32) (xs1 : Int32)  (Q : Int32 → pz_H → Prop) (h : pz_H) : Prop := (Q (xs0 * xs1) h)
set_option maxHeartbeats 4000000 in
set_option maxRecDepth 100000 in
theorem kB_X5_creasesIn_37 (X : pz_X) (d : Nat) (xs0 : Int32) (xs1 : Int32)   (Q : Int32 → pz_H → Prop) (h : pz_H)  (hf : B_X5_creasesIn_37 xs0 xs1  Q h) : pz_W (fun _ => True) X M_X5_creasesIn (d + 1) 37 [] [.int xs1, .int xs0] h 0 0 (pq_qI Q) := by
  unfold B_X5_creasesIn_37 at hf
  refine pz_imul dX5_creasesIn_37 ?_
  exact pz_ireturn dX5_creasesIn_38 rfl rfl ⟨_, rfl, hf⟩
def F_X5_creasesIn (a0 : Nat) (x1 : Int32) (x2 : Int32) (x3 : Int32) (h : pz_H) (Q : Int32 → pz_H → Prop) : Prop := (F_X5_bits x2 h (fun v2 h1 => (pq_gA h1 a0 5 1 (fun b3 => (pq_aI h1 b3 x1 (fun v4 => (pq_br (v4 = (2 : Int32)) (pq_br (x3 = 0) (pq_gA h1 a0 5 3 (fun b5 => (pq_aI h1 b5 x1 (fun v6 => (B_X5_creasesIn_37 v2 v6 Q h1))))) (pq_gA h1 a0 5 4 (fun b7 => (pq_aI h1 b7 x1 (fun v8 => (B_X5_creasesIn_37 v2 v8 Q h1)))))) (B_X5_creasesIn_37 v2 (1 : Int32) Q h1))))))))
set_option maxHeartbeats 4000000 in
set_option maxRecDepth 100000 in
theorem k_X5_creasesIn (X : pz_X) (d : Nat) (a0 : Nat) (x1 : Int32) (x2 : Int32) (x3 : Int32) (h : pz_H) (Q : Int32 → pz_H → Prop) (hf : F_X5_creasesIn a0 x1 x2 x3 h Q) : pz_Call X M_X5_creasesIn (d + 1) 0 0 [.ref a0, .int x1, .int x2, .int x3] h (pq_qI Q) := by
  refine pz_call_of (by decide +kernel) (Nat.le_of_ble_eq_true rfl) ?_
  unfold F_X5_creasesIn at hf
  refine pz_iload_n dX5_creasesIn_0 rfl ?_
  refine pz_callS1 (rc := 0) (rs := 0) (mc := 0) (ms := 0) dX5_creasesIn_1 (k_X5_bits X d _ _ _ hf) (Nat.le_of_ble_eq_true rfl) mf_X5_bits ml_X5_218 mt_X5_bits (fun _ h9 hq => ?_)
  obtain ⟨_, rfl, hf⟩ := hq
  refine pz_aload_n dX5_creasesIn_4 rfl ?_
  obtain ⟨_, b3, h1, h2, hf⟩ := hf
  refine pz_get dX5_creasesIn_5 fl_X5_7 h1 h2 ?_
  refine pz_iload_n dX5_creasesIn_8 rfl ?_
  obtain ⟨_, _, h1, h2, hf⟩ := hf
  refine pz_iald dX5_creasesIn_9 h1 h2 ?_
  refine pz_iconst (v := (2 : Int32)) dX5_creasesIn_10 (by decide) ?_
  obtain ⟨ha, hb⟩ := hf
  refine pz_icmp_eq dX5_creasesIn_11 (tgt := 18) (by decide) (fun cc => ?_) (fun cc => ?_)
  · have hf := ha cc
    refine pz_iload_n dX5_creasesIn_18 rfl ?_
    obtain ⟨ha, hb⟩ := hf
    refine pz_if_eq dX5_creasesIn_19 (tgt := 31) (by decide) (fun cc => ?_) (fun cc => ?_)
    · have hf := ha cc
      refine pz_aload_n dX5_creasesIn_31 rfl ?_
      obtain ⟨_, b5, h1, h2, hf⟩ := hf
      refine pz_get dX5_creasesIn_32 fl_X5_16 h1 h2 ?_
      refine pz_iload_n dX5_creasesIn_35 rfl ?_
      obtain ⟨_, _, h1, h2, hf⟩ := hf
      refine pz_iald dX5_creasesIn_36 h1 h2 ?_
      exact pz_drop (pz_part_of [] rfl) (kB_X5_creasesIn_37 X d _ _ _ _  hf)
    · have hf := hb cc
      refine pz_aload_n dX5_creasesIn_22 rfl ?_
      obtain ⟨_, b7, h1, h2, hf⟩ := hf
      refine pz_get dX5_creasesIn_23 fl_X5_19 h1 h2 ?_
      refine pz_iload_n dX5_creasesIn_26 rfl ?_
      obtain ⟨_, _, h1, h2, hf⟩ := hf
      refine pz_iald dX5_creasesIn_27 h1 h2 ?_
      refine pz_goto dX5_creasesIn_28 (tgt := 37) (by decide) ?_
      exact pz_drop (pz_part_of [] rfl) (kB_X5_creasesIn_37 X d _ _ _ _  hf)
  · have hf := hb cc
    refine pz_iconst (v := (1 : Int32)) dX5_creasesIn_14 (by decide) ?_
    refine pz_goto dX5_creasesIn_15 (tgt := 37) (by decide) ?_
    exact pz_drop (pz_part_of [] rfl) (kB_X5_creasesIn_37 X d _ _ _ _  hf)
def B_X5_fold_84 (a0 : Nat) (x1 : Int32) (x3 : Int32) (x4 : Int32)  (Q : Int32 → pz_H → Prop) (h : pz_H) : Prop := (pq_o h a0 5 (F_X5_creasesIn a0 x1 x3 x4 h (fun v8 h7 => (Q v8 h7))))
set_option maxHeartbeats 4000000 in
set_option maxRecDepth 100000 in
theorem kB_X5_fold_84 (X : pz_X) (d : Nat) (a0 : Nat) (x1 : Int32) (x3 : Int32) (x4 : Int32)   (Q : Int32 → pz_H → Prop) (h : pz_H)  (hf : B_X5_fold_84 a0 x1 x3 x4  Q h) : pz_W (fun _ => True) X M_X5_fold (d + 3) 84 [(0, .ref a0), (1, .int x1), (3, .int x3), (4, .int x4)] [] h 0 0 (pq_qI Q) := by
  unfold B_X5_fold_84 at hf
  refine pz_aload_n dX5_fold_84 rfl ?_
  refine pz_iload_n dX5_fold_85 rfl ?_
  refine pz_iload_n dX5_fold_86 rfl ?_
  refine pz_iload dX5_fold_87 rfl ?_
  obtain ⟨_, hO, hf⟩ := hf
  refine pz_callV3 (rc := 0) (rs := 0) (mc := 0) (ms := 0) dX5_fold_89 (k_X5_creasesIn X (d + 1) _ _ _ _ _ _ hf) (Nat.le_of_ble_eq_true rfl) mf_X5_creasesIn ml_X5_221 hO rfl mi_X5_creasesIn ms_X5_creasesIn (fun _ h9 hq => ?_)
  obtain ⟨_, rfl, hf⟩ := hq
  exact pz_ireturn dX5_fold_92 rfl rfl ⟨_, rfl, hf⟩
def B_X5_fold_54 (a0 : Nat) (x1 : Int32) (x3 : Int32) (xs0 : Int32)  (Q : Int32 → pz_H → Prop) (h : pz_H) : Prop := (pq_br (xs0 = 0) (pq_gA h a0 5 10 (fun b1 => (pq_aI h b1 x1 (fun v2 => (pq_sI h b1 x1 (v2 ||| x3) (fun h3 => (B_X5_fold_84 a0 x1 x3 xs0 Q h3))))))) (pq_gA h a0 5 11 (fun b4 => (pq_aI h b4 x1 (fun v5 => (pq_sI h b4 x1 (v5 ||| x3) (fun h6 => (B_X5_fold_84 a0 x1 x3 xs0 Q h6))))))))
set_option maxHeartbeats 4000000 in
set_option maxRecDepth 100000 in
theorem kB_X5_fold_54 (X : pz_X) (d : Nat) (a0 : Nat) (x1 : Int32) (x3 : Int32) (xs0 : Int32)   (Q : Int32 → pz_H → Prop) (h : pz_H)  (hf : B_X5_fold_54 a0 x1 x3 xs0  Q h) : pz_W (fun _ => True) X M_X5_fold (d + 3) 54 [(0, .ref a0), (1, .int x1), (3, .int x3)] [.int xs0] h 0 0 (pq_qI Q) := by
  unfold B_X5_fold_54 at hf
  refine pz_istore dX5_fold_54 (by decide) rfl ?_
  refine pz_iload dX5_fold_56 rfl ?_
  obtain ⟨ha, hb⟩ := hf
  refine pz_if_eq dX5_fold_58 (tgt := 74) (by decide) (fun cc => ?_) (fun cc => ?_)
  · have hf := ha cc
    refine pz_aload_n dX5_fold_74 rfl ?_
    obtain ⟨_, b1, h1, h2, hf⟩ := hf
    refine pz_get dX5_fold_75 fl_X5_37 h1 h2 ?_
    refine pz_iload_n dX5_fold_78 rfl ?_
    refine pz_dup2 dX5_fold_79 rfl rfl ?_
    obtain ⟨_, _, h1, h2, hf⟩ := hf
    refine pz_iald dX5_fold_80 h1 h2 ?_
    refine pz_iload_n dX5_fold_81 rfl ?_
    refine pz_ior dX5_fold_82 ?_
    obtain ⟨_, _, h1, h2, hf⟩ := hf
    refine pz_iast dX5_fold_83 h1 h2 ?_
    exact pz_drop (pz_part_of [0, 1, 3, 4] rfl) (kB_X5_fold_84 X d _ _ _ _ _ _  hf)
  · have hf := hb cc
    refine pz_aload_n dX5_fold_61 rfl ?_
    obtain ⟨_, b4, h1, h2, hf⟩ := hf
    refine pz_get dX5_fold_62 fl_X5_40 h1 h2 ?_
    refine pz_iload_n dX5_fold_65 rfl ?_
    refine pz_dup2 dX5_fold_66 rfl rfl ?_
    obtain ⟨_, _, h1, h2, hf⟩ := hf
    refine pz_iald dX5_fold_67 h1 h2 ?_
    refine pz_iload_n dX5_fold_68 rfl ?_
    refine pz_ior dX5_fold_69 ?_
    obtain ⟨_, _, h1, h2, hf⟩ := hf
    refine pz_iast dX5_fold_70 h1 h2 ?_
    refine pz_goto dX5_fold_71 (tgt := 84) (by decide) ?_
    exact pz_drop (pz_part_of [0, 1, 3, 4] rfl) (kB_X5_fold_84 X d _ _ _ _ _ _  hf)
def F_X5_fold (a0 : Nat) (x1 : Int32) (x2 : Int32) (h : pz_H) (Q : Int32 → pz_H → Prop) : Prop := (pq_o h a0 5 (F_X5_has a0 x1 h (fun v10 h9 => (pq_br (v10 = 0) (Q (-101 : Int32) h9) (pq_gA h9 a0 5 1 (fun b11 => (pq_aI h9 b11 x1 (fun v12 => (pq_br (v12 = (1 : Int32)) (Q (-103 : Int32) h9) (pq_gA h9 a0 5 10 (fun b13 => (pq_aI h9 b13 x1 (fun v14 => (pq_gA h9 a0 5 11 (fun b15 => (pq_aI h9 b15 x1 (fun v16 => (pq_o h9 a0 5 (F_X5_done a0 x1 v14 v16 x2 h9 (fun v18 h17 => (pq_br ((x2 &&& (2 : Int32)) = 0) (B_X5_fold_54 a0 x1 v18 (0 : Int32) Q h17) (B_X5_fold_54 a0 x1 v18 (1 : Int32) Q h17))))))))))))))))))))))
set_option maxHeartbeats 4000000 in
set_option maxRecDepth 100000 in
theorem k_X5_fold (X : pz_X) (d : Nat) (a0 : Nat) (x1 : Int32) (x2 : Int32) (h : pz_H) (Q : Int32 → pz_H → Prop) (hf : F_X5_fold a0 x1 x2 h Q) : pz_Call X M_X5_fold (d + 3) 0 0 [.ref a0, .int x1, .int x2] h (pq_qI Q) := by
  refine pz_call_of (by decide +kernel) (Nat.le_of_ble_eq_true rfl) ?_
  unfold F_X5_fold at hf
  refine pz_aload_n dX5_fold_0 rfl ?_
  refine pz_iload_n dX5_fold_1 rfl ?_
  obtain ⟨_, hO, hf⟩ := hf
  refine pz_callV1 (rc := 0) (rs := 0) (mc := 0) (ms := 0) dX5_fold_2 (k_X5_has X (d + 2) _ _ _ _ hf) (Nat.le_of_ble_eq_true rfl) mf_X5_has ml_X5_85 hO rfl mi_X5_has ms_X5_has (fun _ h9 hq => ?_)
  obtain ⟨_, rfl, hf⟩ := hq
  obtain ⟨ha, hb⟩ := hf
  refine pz_if_ne dX5_fold_5 (tgt := 11) (by decide) (fun cc => ?_) (fun cc => ?_)
  · have hf := hb cc
    refine pz_aload_n dX5_fold_11 rfl ?_
    obtain ⟨_, b11, h1, h2, hf⟩ := hf
    refine pz_get dX5_fold_12 fl_X5_7 h1 h2 ?_
    refine pz_iload_n dX5_fold_15 rfl ?_
    obtain ⟨_, _, h1, h2, hf⟩ := hf
    refine pz_iald dX5_fold_16 h1 h2 ?_
    refine pz_iconst (v := (1 : Int32)) dX5_fold_17 (by decide) ?_
    obtain ⟨ha, hb⟩ := hf
    refine pz_icmp_ne dX5_fold_18 (tgt := 24) (by decide) (fun cc => ?_) (fun cc => ?_)
    · have hf := hb cc
      refine pz_aload_n dX5_fold_24 rfl ?_
      refine pz_iload_n dX5_fold_25 rfl ?_
      refine pz_aload_n dX5_fold_26 rfl ?_
      obtain ⟨_, b13, h1, h2, hf⟩ := hf
      refine pz_get dX5_fold_27 fl_X5_37 h1 h2 ?_
      refine pz_iload_n dX5_fold_30 rfl ?_
      obtain ⟨_, _, h1, h2, hf⟩ := hf
      refine pz_iald dX5_fold_31 h1 h2 ?_
      refine pz_aload_n dX5_fold_32 rfl ?_
      obtain ⟨_, b15, h1, h2, hf⟩ := hf
      refine pz_get dX5_fold_33 fl_X5_40 h1 h2 ?_
      refine pz_iload_n dX5_fold_36 rfl ?_
      obtain ⟨_, _, h1, h2, hf⟩ := hf
      refine pz_iald dX5_fold_37 h1 h2 ?_
      refine pz_iload_n dX5_fold_38 rfl ?_
      obtain ⟨_, hO, hf⟩ := hf
      refine pz_callV4 (rc := 0) (rs := 0) (mc := 0) (ms := 0) dX5_fold_39 (k_X5_done X d _ _ _ _ _ _ _ hf) (Nat.le_of_ble_eq_true rfl) mf_X5_done ml_X5_214 hO rfl mi_X5_done ms_X5_done (fun _ h9 hq => ?_)
      obtain ⟨_, rfl, hf⟩ := hq
      refine pz_istore_n dX5_fold_42 rfl (by decide) rfl ?_
      refine pz_iload_n dX5_fold_43 rfl ?_
      refine pz_iconst (v := (2 : Int32)) dX5_fold_44 (by decide) ?_
      refine pz_iand dX5_fold_45 ?_
      obtain ⟨ha, hb⟩ := hf
      refine pz_if_eq dX5_fold_46 (tgt := 53) (by decide) (fun cc => ?_) (fun cc => ?_)
      · have hf := ha cc
        refine pz_iconst (v := (0 : Int32)) dX5_fold_53 (by decide) ?_
        exact pz_drop (pz_part_of [0, 1, 3] rfl) (kB_X5_fold_54 X d _ _ _ _ _ _  hf)
      · have hf := hb cc
        refine pz_iconst (v := (1 : Int32)) dX5_fold_49 (by decide) ?_
        refine pz_goto dX5_fold_50 (tgt := 54) (by decide) ?_
        exact pz_drop (pz_part_of [0, 1, 3] rfl) (kB_X5_fold_54 X d _ _ _ _ _ _  hf)
    · have hf := ha cc
      refine pz_bipush (v := (-103 : Int32)) dX5_fold_21 (by decide) ?_
      exact pz_ireturn dX5_fold_23 rfl rfl ⟨_, rfl, hf⟩
  · have hf := ha cc
    refine pz_bipush (v := (-101 : Int32)) dX5_fold_8 (by decide) ?_
    exact pz_ireturn dX5_fold_10 rfl rfl ⟨_, rfl, hf⟩
def F_X5_flatten (a0 : Nat) (x1 : Int32) (h : pz_H) (Q : Int32 → pz_H → Prop) : Prop := (pq_o h a0 5 (F_X5_has a0 x1 h (fun v2 h1 => (pq_br (v2 = 0) (Q (-101 : Int32) h1) (pq_gA h1 a0 5 1 (fun b3 => (pq_aI h1 b3 x1 (fun v4 => (pq_br (v4 = (1 : Int32)) (Q (-103 : Int32) h1) (pq_gA h1 a0 5 10 (fun b5 => (pq_aI h1 b5 x1 (fun v6 => (pq_o h1 a0 5 (F_X5_creasesIn a0 x1 v6 (0 : Int32) h1 (fun v8 h7 => (pq_gA h7 a0 5 11 (fun b9 => (pq_aI h7 b9 x1 (fun v10 => (pq_o h7 a0 5 (F_X5_creasesIn a0 x1 v10 (1 : Int32) h7 (fun v12 h11 => (pq_gA h11 a0 5 10 (fun b13 => (pq_sI h11 b13 x1 (0 : Int32) (fun h14 => (pq_gA h14 a0 5 11 (fun b15 => (pq_sI h14 b15 x1 (0 : Int32) (fun h16 => (Q (v8 + v12) h16))))))))))))))))))))))))))))))))
set_option maxHeartbeats 4000000 in
set_option maxRecDepth 100000 in
theorem k_X5_flatten (X : pz_X) (d : Nat) (a0 : Nat) (x1 : Int32) (h : pz_H) (Q : Int32 → pz_H → Prop) (hf : F_X5_flatten a0 x1 h Q) : pz_Call X M_X5_flatten (d + 2) 0 0 [.ref a0, .int x1] h (pq_qI Q) := by
  refine pz_call_of (by decide +kernel) (Nat.le_of_ble_eq_true rfl) ?_
  unfold F_X5_flatten at hf
  refine pz_aload_n dX5_flatten_0 rfl ?_
  refine pz_iload_n dX5_flatten_1 rfl ?_
  obtain ⟨_, hO, hf⟩ := hf
  refine pz_callV1 (rc := 0) (rs := 0) (mc := 0) (ms := 0) dX5_flatten_2 (k_X5_has X (d + 1) _ _ _ _ hf) (Nat.le_of_ble_eq_true rfl) mf_X5_has ml_X5_85 hO rfl mi_X5_has ms_X5_has (fun _ h9 hq => ?_)
  obtain ⟨_, rfl, hf⟩ := hq
  obtain ⟨ha, hb⟩ := hf
  refine pz_if_ne dX5_flatten_5 (tgt := 11) (by decide) (fun cc => ?_) (fun cc => ?_)
  · have hf := hb cc
    refine pz_aload_n dX5_flatten_11 rfl ?_
    obtain ⟨_, b3, h1, h2, hf⟩ := hf
    refine pz_get dX5_flatten_12 fl_X5_7 h1 h2 ?_
    refine pz_iload_n dX5_flatten_15 rfl ?_
    obtain ⟨_, _, h1, h2, hf⟩ := hf
    refine pz_iald dX5_flatten_16 h1 h2 ?_
    refine pz_iconst (v := (1 : Int32)) dX5_flatten_17 (by decide) ?_
    obtain ⟨ha, hb⟩ := hf
    refine pz_icmp_ne dX5_flatten_18 (tgt := 24) (by decide) (fun cc => ?_) (fun cc => ?_)
    · have hf := hb cc
      refine pz_aload_n dX5_flatten_24 rfl ?_
      refine pz_iload_n dX5_flatten_25 rfl ?_
      refine pz_aload_n dX5_flatten_26 rfl ?_
      obtain ⟨_, b5, h1, h2, hf⟩ := hf
      refine pz_get dX5_flatten_27 fl_X5_37 h1 h2 ?_
      refine pz_iload_n dX5_flatten_30 rfl ?_
      obtain ⟨_, _, h1, h2, hf⟩ := hf
      refine pz_iald dX5_flatten_31 h1 h2 ?_
      refine pz_iconst (v := (0 : Int32)) dX5_flatten_32 (by decide) ?_
      obtain ⟨_, hO, hf⟩ := hf
      refine pz_callV3 (rc := 0) (rs := 0) (mc := 0) (ms := 0) dX5_flatten_33 (k_X5_creasesIn X d _ _ _ _ _ _ hf) (Nat.le_of_ble_eq_true rfl) mf_X5_creasesIn ml_X5_221 hO rfl mi_X5_creasesIn ms_X5_creasesIn (fun _ h9 hq => ?_)
      obtain ⟨_, rfl, hf⟩ := hq
      refine pz_aload_n dX5_flatten_36 rfl ?_
      refine pz_iload_n dX5_flatten_37 rfl ?_
      refine pz_aload_n dX5_flatten_38 rfl ?_
      obtain ⟨_, b9, h1, h2, hf⟩ := hf
      refine pz_get dX5_flatten_39 fl_X5_40 h1 h2 ?_
      refine pz_iload_n dX5_flatten_42 rfl ?_
      obtain ⟨_, _, h1, h2, hf⟩ := hf
      refine pz_iald dX5_flatten_43 h1 h2 ?_
      refine pz_iconst (v := (1 : Int32)) dX5_flatten_44 (by decide) ?_
      obtain ⟨_, hO, hf⟩ := hf
      refine pz_callV3 (rc := 0) (rs := 0) (mc := 0) (ms := 0) dX5_flatten_45 (k_X5_creasesIn X d _ _ _ _ _ _ hf) (Nat.le_of_ble_eq_true rfl) mf_X5_creasesIn ml_X5_221 hO rfl mi_X5_creasesIn ms_X5_creasesIn (fun _ h9 hq => ?_)
      obtain ⟨_, rfl, hf⟩ := hq
      refine pz_iadd dX5_flatten_48 ?_
      refine pz_istore_n dX5_flatten_49 rfl (by decide) rfl ?_
      refine pz_aload_n dX5_flatten_50 rfl ?_
      obtain ⟨_, b13, h1, h2, hf⟩ := hf
      refine pz_get dX5_flatten_51 fl_X5_37 h1 h2 ?_
      refine pz_iload_n dX5_flatten_54 rfl ?_
      refine pz_iconst (v := (0 : Int32)) dX5_flatten_55 (by decide) ?_
      obtain ⟨_, _, h1, h2, hf⟩ := hf
      refine pz_iast dX5_flatten_56 h1 h2 ?_
      refine pz_aload_n dX5_flatten_57 rfl ?_
      obtain ⟨_, b15, h1, h2, hf⟩ := hf
      refine pz_get dX5_flatten_58 fl_X5_40 h1 h2 ?_
      refine pz_iload_n dX5_flatten_61 rfl ?_
      refine pz_iconst (v := (0 : Int32)) dX5_flatten_62 (by decide) ?_
      obtain ⟨_, _, h1, h2, hf⟩ := hf
      refine pz_iast dX5_flatten_63 h1 h2 ?_
      refine pz_iload_n dX5_flatten_64 rfl ?_
      exact pz_ireturn dX5_flatten_65 rfl rfl ⟨_, rfl, hf⟩
    · have hf := ha cc
      refine pz_bipush (v := (-103 : Int32)) dX5_flatten_21 (by decide) ?_
      exact pz_ireturn dX5_flatten_23 rfl rfl ⟨_, rfl, hf⟩
  · have hf := ha cc
    refine pz_bipush (v := (-101 : Int32)) dX5_flatten_8 (by decide) ?_
    exact pz_ireturn dX5_flatten_10 rfl rfl ⟨_, rfl, hf⟩
def B_X5_lies_21   (Q : Int32 → pz_H → Prop) (h : pz_H) : Prop := (Q (-102 : Int32) h)
set_option maxHeartbeats 4000000 in
set_option maxRecDepth 100000 in
theorem kB_X5_lies_21 (X : pz_X) (d : Nat)    (Q : Int32 → pz_H → Prop) (h : pz_H)  (hf : B_X5_lies_21   Q h) : pz_W (fun _ => True) X M_X5_lies (d + 2) 21 [] [] h 0 0 (pq_qI Q) := by
  unfold B_X5_lies_21 at hf
  refine pz_bipush (v := (-102 : Int32)) dX5_lies_21 (by decide) ?_
  exact pz_ireturn dX5_lies_23 rfl rfl ⟨_, rfl, hf⟩
def B_X5_lies_99 (xs0 : Int32)  (Q : Int32 → pz_H → Prop) (h : pz_H) : Prop := (Q xs0 h)
set_option maxHeartbeats 4000000 in
set_option maxRecDepth 100000 in
theorem kB_X5_lies_99 (X : pz_X) (d : Nat) (xs0 : Int32)   (Q : Int32 → pz_H → Prop) (h : pz_H)  (hf : B_X5_lies_99 xs0  Q h) : pz_W (fun _ => True) X M_X5_lies (d + 2) 99 [] [.int xs0] h 0 0 (pq_qI Q) := by
  unfold B_X5_lies_99 at hf
  exact pz_ireturn dX5_lies_99 rfl rfl ⟨_, rfl, hf⟩
def B_X5_lies_153 (xs0 : Int32)  (Q : Int32 → pz_H → Prop) (h : pz_H) : Prop := (Q xs0 h)
set_option maxHeartbeats 4000000 in
set_option maxRecDepth 100000 in
theorem kB_X5_lies_153 (X : pz_X) (d : Nat) (xs0 : Int32)   (Q : Int32 → pz_H → Prop) (h : pz_H)  (hf : B_X5_lies_153 xs0  Q h) : pz_W (fun _ => True) X M_X5_lies (d + 2) 153 [] [.int xs0] h 0 0 (pq_qI Q) := by
  unfold B_X5_lies_153 at hf
  exact pz_ireturn dX5_lies_153 rfl rfl ⟨_, rfl, hf⟩
def B_X5_lies_145 (xs0 : Int32) (xs1 : Int32)  (Q : Int32 → pz_H → Prop) (h : pz_H) : Prop := (pq_br (xs0 = xs1) (B_X5_lies_153 (1 : Int32) Q h) (B_X5_lies_153 (0 : Int32) Q h))
set_option maxHeartbeats 4000000 in
set_option maxRecDepth 100000 in
theorem kB_X5_lies_145 (X : pz_X) (d : Nat) (xs0 : Int32) (xs1 : Int32)   (Q : Int32 → pz_H → Prop) (h : pz_H)  (hf : B_X5_lies_145 xs0 xs1  Q h) : pz_W (fun _ => True) X M_X5_lies (d + 2) 145 [] [.int xs1, .int xs0] h 0 0 (pq_qI Q) := by
  unfold B_X5_lies_145 at hf
  obtain ⟨ha, hb⟩ := hf
  refine pz_icmp_ne dX5_lies_145 (tgt := 152) (by decide) (fun cc => ?_) (fun cc => ?_)
  · have hf := hb cc
    refine pz_iconst (v := (0 : Int32)) dX5_lies_152 (by decide) ?_
    exact pz_drop (pz_part_of [] rfl) (kB_X5_lies_153 X d _ _ _  hf)
  · have hf := ha cc
    refine pz_iconst (v := (1 : Int32)) dX5_lies_148 (by decide) ?_
    refine pz_goto dX5_lies_149 (tgt := 153) (by decide) ?_
    exact pz_drop (pz_part_of [] rfl) (kB_X5_lies_153 X d _ _ _  hf)
def B_X5_lies_140 (xs0 : Int32)  (Q : Int32 → pz_H → Prop) (h : pz_H) : Prop := (B_X5_lies_145 xs0 (1 : Int32) Q h)
set_option maxHeartbeats 4000000 in
set_option maxRecDepth 100000 in
theorem kB_X5_lies_140 (X : pz_X) (d : Nat) (xs0 : Int32)   (Q : Int32 → pz_H → Prop) (h : pz_H)  (hf : B_X5_lies_140 xs0  Q h) : pz_W (fun _ => True) X M_X5_lies (d + 2) 140 [] [.int xs0] h 0 0 (pq_qI Q) := by
  unfold B_X5_lies_140 at hf
  refine pz_iconst (v := (1 : Int32)) dX5_lies_140 (by decide) ?_
  refine pz_goto dX5_lies_141 (tgt := 145) (by decide) ?_
  exact pz_drop (pz_part_of [] rfl) (kB_X5_lies_145 X d _ _ _ _  hf)
def B_X5_lies_181 (xs0 : Int32)  (Q : Int32 → pz_H → Prop) (h : pz_H) : Prop := (Q xs0 h)
set_option maxHeartbeats 4000000 in
set_option maxRecDepth 100000 in
theorem kB_X5_lies_181 (X : pz_X) (d : Nat) (xs0 : Int32)   (Q : Int32 → pz_H → Prop) (h : pz_H)  (hf : B_X5_lies_181 xs0  Q h) : pz_W (fun _ => True) X M_X5_lies (d + 2) 181 [] [.int xs0] h 0 0 (pq_qI Q) := by
  unfold B_X5_lies_181 at hf
  exact pz_ireturn dX5_lies_181 rfl rfl ⟨_, rfl, hf⟩
def F_X5_lies (a0 : Nat) (x1 : Int32) (x2 : Int32) (x3 : Int32) (h : pz_H) (Q : Int32 → pz_H → Prop) : Prop := (pq_o h a0 5 (F_X5_hasFace a0 x1 x2 h (fun v2 h1 => (pq_br (v2 = 0) (Q (-101 : Int32) h1) (pq_br (x3 < 0) (B_X5_lies_21 Q h1) (pq_br (x3 ≤ (3 : Int32)) (pq_gA h1 a0 5 1 (fun b3 => (pq_aI h1 b3 x1 (fun v4 => (pq_br (v4 = (1 : Int32)) (Q (-103 : Int32) h1) (pq_gA h1 a0 5 4 (fun b5 => (pq_aI h1 b5 x1 (fun v6 => (pq_ne v6 (pq_gA h1 a0 5 4 (fun b7 => (pq_aI h1 b7 x1 (fun v8 => (pq_ne v8 (pq_br (x3 = 0) (pq_gA h1 a0 5 10 (fun b29 => (pq_aI h1 b29 x1 (fun v30 => (pq_o h1 a0 5 (F_X5_liesAt a0 x1 v30 (x2 - x2 / v6 * v6) h1 (fun v32 h31 => (Q v32 h31)))))))) (pq_br (x3 = (1 : Int32)) (pq_gA h1 a0 5 10 (fun b25 => (pq_aI h1 b25 x1 (fun v26 => (F_X5_goesUp v26 (x2 - x2 / v6 * v6) h1 (fun v28 h27 => (pq_br (v28 = 0) (B_X5_lies_99 (0 : Int32) Q h27) (B_X5_lies_99 (1 : Int32) Q h27)))))))) (pq_br (x3 = (2 : Int32)) (pq_gA h1 a0 5 10 (fun b15 => (pq_aI h1 b15 x1 (fun v16 => (F_X5_goesUp v16 (x2 - x2 / v6 * v6) h1 (fun v18 h17 => (pq_gA h17 a0 5 1 (fun b19 => (pq_aI h17 b19 x1 (fun v20 => (pq_br (v20 = (2 : Int32)) (pq_gA h17 a0 5 11 (fun b21 => (pq_aI h17 b21 x1 (fun v22 => (F_X5_goesUp v22 (x2 / v8) h17 (fun v24 h23 => (pq_br (v24 = 0) (B_X5_lies_145 v18 (0 : Int32) Q h23) (B_X5_lies_140 v18 Q h23)))))))) (B_X5_lies_140 v18 Q h17)))))))))))) (pq_gA h1 a0 5 1 (fun b9 => (pq_aI h1 b9 x1 (fun v10 => (pq_br (v10 = (2 : Int32)) (pq_gA h1 a0 5 11 (fun b11 => (pq_aI h1 b11 x1 (fun v12 => (pq_o h1 a0 5 (F_X5_liesAt a0 x1 v12 (x2 / v8) h1 (fun v14 h13 => (B_X5_lies_181 v14 Q h13)))))))) (B_X5_lies_181 (0 : Int32) Q h1)))))))))))))))))))))))) (B_X5_lies_21 Q h1)))))))
set_option maxHeartbeats 4000000 in
set_option maxRecDepth 100000 in
theorem k_X5_lies (X : pz_X) (d : Nat) (a0 : Nat) (x1 : Int32) (x2 : Int32) (x3 : Int32) (h : pz_H) (Q : Int32 → pz_H → Prop) (hf : F_X5_lies a0 x1 x2 x3 h Q) : pz_Call X M_X5_lies (d + 2) 0 0 [.ref a0, .int x1, .int x2, .int x3] h (pq_qI Q) := by
  refine pz_call_of (by decide +kernel) (Nat.le_of_ble_eq_true rfl) ?_
  unfold F_X5_lies at hf
  refine pz_aload_n dX5_lies_0 rfl ?_
  refine pz_iload_n dX5_lies_1 rfl ?_
  refine pz_iload_n dX5_lies_2 rfl ?_
  obtain ⟨_, hO, hf⟩ := hf
  refine pz_callV2 (rc := 0) (rs := 0) (mc := 0) (ms := 0) dX5_lies_3 (k_X5_hasFace X d _ _ _ _ _ hf) (Nat.le_of_ble_eq_true rfl) mf_X5_hasFace ml_X5_97 hO rfl mi_X5_hasFace ms_X5_hasFace (fun _ h9 hq => ?_)
  obtain ⟨_, rfl, hf⟩ := hq
  obtain ⟨ha, hb⟩ := hf
  refine pz_if_ne dX5_lies_6 (tgt := 12) (by decide) (fun cc => ?_) (fun cc => ?_)
  · have hf := hb cc
    refine pz_iload_n dX5_lies_12 rfl ?_
    obtain ⟨ha, hb⟩ := hf
    refine pz_if_lt dX5_lies_13 (tgt := 21) (by decide) (fun cc => ?_) (fun cc => ?_)
    · have hf := ha cc
      exact pz_drop (pz_part_of [] rfl) (kB_X5_lies_21 X d _ _  hf)
    · have hf := hb cc
      refine pz_iload_n dX5_lies_16 rfl ?_
      refine pz_iconst (v := (3 : Int32)) dX5_lies_17 (by decide) ?_
      obtain ⟨ha, hb⟩ := hf
      refine pz_icmp_le dX5_lies_18 (tgt := 24) (by decide) (fun cc => ?_) (fun cc => ?_)
      · have hf := ha cc
        refine pz_aload_n dX5_lies_24 rfl ?_
        obtain ⟨_, b3, h1, h2, hf⟩ := hf
        refine pz_get dX5_lies_25 fl_X5_7 h1 h2 ?_
        refine pz_iload_n dX5_lies_28 rfl ?_
        obtain ⟨_, _, h1, h2, hf⟩ := hf
        refine pz_iald dX5_lies_29 h1 h2 ?_
        refine pz_iconst (v := (1 : Int32)) dX5_lies_30 (by decide) ?_
        obtain ⟨ha, hb⟩ := hf
        refine pz_icmp_ne dX5_lies_31 (tgt := 37) (by decide) (fun cc => ?_) (fun cc => ?_)
        · have hf := hb cc
          refine pz_iload_n dX5_lies_37 rfl ?_
          refine pz_aload_n dX5_lies_38 rfl ?_
          obtain ⟨_, b5, h1, h2, hf⟩ := hf
          refine pz_get dX5_lies_39 fl_X5_19 h1 h2 ?_
          refine pz_iload_n dX5_lies_42 rfl ?_
          obtain ⟨_, _, h1, h2, hf⟩ := hf
          refine pz_iald dX5_lies_43 h1 h2 ?_
          obtain ⟨hne, hf⟩ := hf
          refine pz_irem dX5_lies_44 hne ?_
          refine pz_istore dX5_lies_45 (by decide) rfl ?_
          refine pz_iload_n dX5_lies_47 rfl ?_
          refine pz_aload_n dX5_lies_48 rfl ?_
          obtain ⟨_, b7, h1, h2, hf⟩ := hf
          refine pz_get dX5_lies_49 fl_X5_19 h1 h2 ?_
          refine pz_iload_n dX5_lies_52 rfl ?_
          obtain ⟨_, _, h1, h2, hf⟩ := hf
          refine pz_iald dX5_lies_53 h1 h2 ?_
          obtain ⟨hne, hf⟩ := hf
          refine pz_idiv dX5_lies_54 hne ?_
          refine pz_istore dX5_lies_55 (by decide) rfl ?_
          refine pz_iload_n dX5_lies_57 rfl ?_
          obtain ⟨ha, hb⟩ := hf
          refine pz_if_ne dX5_lies_58 (tgt := 75) (by decide) (fun cc => ?_) (fun cc => ?_)
          · have hf := hb cc
            refine pz_iload_n dX5_lies_75 rfl ?_
            refine pz_iconst (v := (1 : Int32)) dX5_lies_76 (by decide) ?_
            obtain ⟨ha, hb⟩ := hf
            refine pz_icmp_ne dX5_lies_77 (tgt := 100) (by decide) (fun cc => ?_) (fun cc => ?_)
            · have hf := hb cc
              refine pz_iload_n dX5_lies_100 rfl ?_
              refine pz_iconst (v := (2 : Int32)) dX5_lies_101 (by decide) ?_
              obtain ⟨ha, hb⟩ := hf
              refine pz_icmp_ne dX5_lies_102 (tgt := 154) (by decide) (fun cc => ?_) (fun cc => ?_)
              · have hf := hb cc
                refine pz_aload_n dX5_lies_154 rfl ?_
                obtain ⟨_, b9, h1, h2, hf⟩ := hf
                refine pz_get dX5_lies_155 fl_X5_7 h1 h2 ?_
                refine pz_iload_n dX5_lies_158 rfl ?_
                obtain ⟨_, _, h1, h2, hf⟩ := hf
                refine pz_iald dX5_lies_159 h1 h2 ?_
                refine pz_iconst (v := (2 : Int32)) dX5_lies_160 (by decide) ?_
                obtain ⟨ha, hb⟩ := hf
                refine pz_icmp_ne dX5_lies_161 (tgt := 180) (by decide) (fun cc => ?_) (fun cc => ?_)
                · have hf := hb cc
                  refine pz_iconst (v := (0 : Int32)) dX5_lies_180 (by decide) ?_
                  exact pz_drop (pz_part_of [] rfl) (kB_X5_lies_181 X d _ _ _  hf)
                · have hf := ha cc
                  refine pz_aload_n dX5_lies_164 rfl ?_
                  refine pz_iload_n dX5_lies_165 rfl ?_
                  refine pz_aload_n dX5_lies_166 rfl ?_
                  obtain ⟨_, b11, h1, h2, hf⟩ := hf
                  refine pz_get dX5_lies_167 fl_X5_40 h1 h2 ?_
                  refine pz_iload_n dX5_lies_170 rfl ?_
                  obtain ⟨_, _, h1, h2, hf⟩ := hf
                  refine pz_iald dX5_lies_171 h1 h2 ?_
                  refine pz_iload dX5_lies_172 rfl ?_
                  obtain ⟨_, hO, hf⟩ := hf
                  refine pz_callV3 (rc := 0) (rs := 0) (mc := 0) (ms := 0) dX5_lies_174 (k_X5_liesAt X d _ _ _ _ _ _ hf) (Nat.le_of_ble_eq_true rfl) mf_X5_liesAt ml_X5_200 hO rfl mi_X5_liesAt ms_X5_liesAt (fun _ h9 hq => ?_)
                  obtain ⟨_, rfl, hf⟩ := hq
                  refine pz_goto dX5_lies_177 (tgt := 181) (by decide) ?_
                  exact pz_drop (pz_part_of [] rfl) (kB_X5_lies_181 X d _ _ _  hf)
              · have hf := ha cc
                refine pz_aload_n dX5_lies_105 rfl ?_
                obtain ⟨_, b15, h1, h2, hf⟩ := hf
                refine pz_get dX5_lies_106 fl_X5_37 h1 h2 ?_
                refine pz_iload_n dX5_lies_109 rfl ?_
                obtain ⟨_, _, h1, h2, hf⟩ := hf
                refine pz_iald dX5_lies_110 h1 h2 ?_
                refine pz_iload dX5_lies_111 rfl ?_
                refine pz_callS2 (rc := 0) (rs := 0) (mc := 0) (ms := 0) dX5_lies_113 (k_X5_goesUp X (d + 1) _ _ _ _ hf) (Nat.le_of_ble_eq_true rfl) mf_X5_goesUp ml_X5_190 mt_X5_goesUp (fun _ h9 hq => ?_)
                obtain ⟨_, rfl, hf⟩ := hq
                refine pz_aload_n dX5_lies_116 rfl ?_
                obtain ⟨_, b19, h1, h2, hf⟩ := hf
                refine pz_get dX5_lies_117 fl_X5_7 h1 h2 ?_
                refine pz_iload_n dX5_lies_120 rfl ?_
                obtain ⟨_, _, h1, h2, hf⟩ := hf
                refine pz_iald dX5_lies_121 h1 h2 ?_
                refine pz_iconst (v := (2 : Int32)) dX5_lies_122 (by decide) ?_
                obtain ⟨ha, hb⟩ := hf
                refine pz_icmp_ne dX5_lies_123 (tgt := 140) (by decide) (fun cc => ?_) (fun cc => ?_)
                · have hf := hb cc
                  exact pz_drop (pz_part_of [] rfl) (kB_X5_lies_140 X d _ _ _  hf)
                · have hf := ha cc
                  refine pz_aload_n dX5_lies_126 rfl ?_
                  obtain ⟨_, b21, h1, h2, hf⟩ := hf
                  refine pz_get dX5_lies_127 fl_X5_40 h1 h2 ?_
                  refine pz_iload_n dX5_lies_130 rfl ?_
                  obtain ⟨_, _, h1, h2, hf⟩ := hf
                  refine pz_iald dX5_lies_131 h1 h2 ?_
                  refine pz_iload dX5_lies_132 rfl ?_
                  refine pz_callS2 (rc := 0) (rs := 0) (mc := 0) (ms := 0) dX5_lies_134 (k_X5_goesUp X (d + 1) _ _ _ _ hf) (Nat.le_of_ble_eq_true rfl) mf_X5_goesUp ml_X5_190 mt_X5_goesUp (fun _ h9 hq => ?_)
                  obtain ⟨_, rfl, hf⟩ := hq
                  obtain ⟨ha, hb⟩ := hf
                  refine pz_if_eq dX5_lies_137 (tgt := 144) (by decide) (fun cc => ?_) (fun cc => ?_)
                  · have hf := ha cc
                    refine pz_iconst (v := (0 : Int32)) dX5_lies_144 (by decide) ?_
                    exact pz_drop (pz_part_of [] rfl) (kB_X5_lies_145 X d _ _ _ _  hf)
                  · have hf := hb cc
                    exact pz_drop (pz_part_of [] rfl) (kB_X5_lies_140 X d _ _ _  hf)
            · have hf := ha cc
              refine pz_aload_n dX5_lies_80 rfl ?_
              obtain ⟨_, b25, h1, h2, hf⟩ := hf
              refine pz_get dX5_lies_81 fl_X5_37 h1 h2 ?_
              refine pz_iload_n dX5_lies_84 rfl ?_
              obtain ⟨_, _, h1, h2, hf⟩ := hf
              refine pz_iald dX5_lies_85 h1 h2 ?_
              refine pz_iload dX5_lies_86 rfl ?_
              refine pz_callS2 (rc := 0) (rs := 0) (mc := 0) (ms := 0) dX5_lies_88 (k_X5_goesUp X (d + 1) _ _ _ _ hf) (Nat.le_of_ble_eq_true rfl) mf_X5_goesUp ml_X5_190 mt_X5_goesUp (fun _ h9 hq => ?_)
              obtain ⟨_, rfl, hf⟩ := hq
              obtain ⟨ha, hb⟩ := hf
              refine pz_if_eq dX5_lies_91 (tgt := 98) (by decide) (fun cc => ?_) (fun cc => ?_)
              · have hf := ha cc
                refine pz_iconst (v := (0 : Int32)) dX5_lies_98 (by decide) ?_
                exact pz_drop (pz_part_of [] rfl) (kB_X5_lies_99 X d _ _ _  hf)
              · have hf := hb cc
                refine pz_iconst (v := (1 : Int32)) dX5_lies_94 (by decide) ?_
                refine pz_goto dX5_lies_95 (tgt := 99) (by decide) ?_
                exact pz_drop (pz_part_of [] rfl) (kB_X5_lies_99 X d _ _ _  hf)
          · have hf := ha cc
            refine pz_aload_n dX5_lies_61 rfl ?_
            refine pz_iload_n dX5_lies_62 rfl ?_
            refine pz_aload_n dX5_lies_63 rfl ?_
            obtain ⟨_, b29, h1, h2, hf⟩ := hf
            refine pz_get dX5_lies_64 fl_X5_37 h1 h2 ?_
            refine pz_iload_n dX5_lies_67 rfl ?_
            obtain ⟨_, _, h1, h2, hf⟩ := hf
            refine pz_iald dX5_lies_68 h1 h2 ?_
            refine pz_iload dX5_lies_69 rfl ?_
            obtain ⟨_, hO, hf⟩ := hf
            refine pz_callV3 (rc := 0) (rs := 0) (mc := 0) (ms := 0) dX5_lies_71 (k_X5_liesAt X d _ _ _ _ _ _ hf) (Nat.le_of_ble_eq_true rfl) mf_X5_liesAt ml_X5_200 hO rfl mi_X5_liesAt ms_X5_liesAt (fun _ h9 hq => ?_)
            obtain ⟨_, rfl, hf⟩ := hq
            exact pz_ireturn dX5_lies_74 rfl rfl ⟨_, rfl, hf⟩
        · have hf := ha cc
          refine pz_bipush (v := (-103 : Int32)) dX5_lies_34 (by decide) ?_
          exact pz_ireturn dX5_lies_36 rfl rfl ⟨_, rfl, hf⟩
      · have hf := hb cc
        exact pz_drop (pz_part_of [] rfl) (kB_X5_lies_21 X d _ _  hf)
  · have hf := ha cc
    refine pz_bipush (v := (-101 : Int32)) dX5_lies_9 (by decide) ?_
    exact pz_ireturn dX5_lies_11 rfl rfl ⟨_, rfl, hf⟩
