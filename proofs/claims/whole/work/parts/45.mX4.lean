def F_X4_init (a0 : Nat) (h : pz_H) (Q : pz_H → Prop) : Prop := (pq_n h (.inl (2, 30, .inr (.inr (.inr (.inr (fun _ => none)))))) (fun q1 h2 => (pq_p h2 a0 4 0 (.ref q1) (fun h3 => (pq_p h3 a0 4 1 (.int (0 : Int32)) (fun h4 => (pq_n h4 (.inr (2, [.null, .null, .null, .int 0, .int 0, .null, .int 0, .null, .null, .int 0])) (fun q5 h6 => (F_X2_init q5 h6 (fun h7 => (pq_p h7 a0 4 2 (.ref q5) (fun h8 => (pq_n h8 (.inr (2, [.null, .null, .null, .int 0, .int 0, .null, .int 0, .null, .null, .int 0])) (fun q9 h10 => (F_X2_init q9 h10 (fun h11 => (pq_p h11 a0 4 3 (.ref q9) (fun h12 => (pq_p h12 a0 4 4 .null (fun h13 => (pq_n h13 (.inl (0, 9, .inl (fun _ => 0))) (fun q14 h15 => (pq_p h15 a0 4 5 (.ref q14) (fun h16 => (pq_n h16 (.inl (0, 9, .inl (fun _ => 0))) (fun q17 h18 => (pq_p h18 a0 4 6 (.ref q17) (fun h19 => (pq_n h19 (.inl (0, 9, .inl (fun _ => 0))) (fun q20 h21 => (pq_p h21 a0 4 7 (.ref q20) (fun h22 => (pq_n h22 (.inl (1, 64, .inr (.inl (fun _ => 0)))) (fun q23 h24 => (pq_p h24 a0 4 8 (.ref q23) (fun h25 => (pq_n h25 (.inl (0, 12, .inl (fun _ => 0))) (fun q26 h27 => (pq_p h27 a0 4 9 (.ref q26) (fun h28 => (pq_p h28 a0 4 10 (.int (0 : Int32)) (fun h29 => (pq_n h29 (.inr (0, [.int 0, .null, .null])) (fun q30 h31 => (F_X0_init q30 h31 (fun h32 => (pq_p h32 a0 4 11 (.ref q30) (fun h33 => (pq_n h33 (.inr (3, [.null, .null, .null])) (fun q34 h35 => (F_X3_init q34 h35 (fun h36 => (pq_p h36 a0 4 12 (.ref q34) (fun h37 => (pq_n h37 (.inl (0, 8, .inl (fun _ => 0))) (fun q38 h39 => (pq_p h39 a0 4 13 (.ref q38) (fun h40 => (pq_p h40 a0 4 14 (.int (0 : Int32)) (fun h41 => (Q h41)))))))))))))))))))))))))))))))))))))))))))))))))))))))))))))
set_option maxHeartbeats 4000000 in
set_option maxRecDepth 100000 in
theorem k_X4_init (X : pz_X) (d : Nat) (a0 : Nat) (h : pz_H) (Q : pz_H → Prop) (hf : F_X4_init a0 h Q) : pz_Call X M_X4_init (d + 2) 30 1071 [.ref a0] h (pq_qV Q) := by
  refine pz_call_of (by decide +kernel) (Nat.le_of_ble_eq_true rfl) ?_
  unfold F_X4_init at hf
  refine pz_aload_n dX4_init_0 rfl ?_
  refine pz_objInit dX4_init_1 ml_X4_1 mi_obj mc_obj (Nat.le_of_ble_eq_true rfl) ?_
  refine pz_aload_n dX4_init_4 rfl ?_
  refine pz_bipush (v := (30 : Int32)) dX4_init_5 (by decide) ?_
  refine pz_anew (N := 30) (rc := 29) (rs := 1041) dX4_init_7 cl_X4_9 (by decide) (by decide +kernel) (by decide) (fun hfr => ?_)
  have hf := hf hfr
  obtain ⟨_, h1, h2, hf⟩ := hf
  refine pz_putF dX4_init_10 fp_X4_11 rfl h1 rfl rfl h2 ?_
  refine pz_aload_n dX4_init_13 rfl ?_
  refine pz_iconst (v := (0 : Int32)) dX4_init_14 (by decide) ?_
  obtain ⟨_, h1, h2, hf⟩ := hf
  refine pz_put dX4_init_15 fp_X4_15 h1 rfl rfl h2 ?_
  refine pz_aload_n dX4_init_18 rfl ?_
  refine pz_new (rc := 28) (rs := 1031) (N := 10) (ty := tyX2) dX4_init_19 (ci := 2) rfl pi_X2 tyX2_ok cl_X4_19 ci_X2 cz_X2 (fun j hj => pq_defX2 j hj) (fun hfr => ?_)
  have hf := hf hfr
  refine pz_dup dX4_init_22 rfl ?_
  refine pz_callIN0 (rc := 23) (rs := 984) (mc := 5) (ms := 47) dX4_init_23 (k_X2_init X d _ _ _ hf) (Nat.le_of_ble_eq_true rfl) mf_X2_init ml_X4_21 rfl rfl mi_X2_init (fun _ h9 hq => ?_)
  obtain ⟨rfl, hf⟩ := hq
  obtain ⟨_, h1, h2, hf⟩ := hf
  refine pz_putF dX4_init_26 fp_X4_22 rfl h1 rfl rfl h2 ?_
  refine pz_aload_n dX4_init_29 rfl ?_
  refine pz_new (rc := 22) (rs := 974) (N := 10) (ty := tyX2) dX4_init_30 (ci := 2) rfl pi_X2 tyX2_ok cl_X4_19 ci_X2 cz_X2 (fun j hj => pq_defX2 j hj) (fun hfr => ?_)
  have hf := hf hfr
  refine pz_dup dX4_init_33 rfl ?_
  refine pz_callIN0 (rc := 17) (rs := 927) (mc := 5) (ms := 47) dX4_init_34 (k_X2_init X d _ _ _ hf) (Nat.le_of_ble_eq_true rfl) mf_X2_init ml_X4_21 rfl rfl mi_X2_init (fun _ h9 hq => ?_)
  obtain ⟨rfl, hf⟩ := hq
  obtain ⟨_, h1, h2, hf⟩ := hf
  refine pz_putF dX4_init_37 fp_X4_26 rfl h1 rfl rfl h2 ?_
  refine pz_aload_n dX4_init_40 rfl ?_
  refine pz_null dX4_init_41 ?_
  obtain ⟨_, h1, h2, hf⟩ := hf
  refine pz_put dX4_init_42 fp_X4_29 h1 rfl rfl h2 ?_
  refine pz_aload_n dX4_init_45 rfl ?_
  refine pz_bipush (v := (9 : Int32)) dX4_init_46 (by decide) ?_
  refine pz_newa (t := 0) (N := 9) (rc := 16) (rs := 918) dX4_init_48 rfl (fun _ _ h => h) ca_int (fun cA => pq_z0 cA 9) (by decide) (by decide +kernel) (by decide) (fun hfr => ?_)
  have hf := hf hfr
  obtain ⟨_, h1, h2, hf⟩ := hf
  refine pz_putF dX4_init_50 fp_X4_33 rfl h1 rfl rfl h2 ?_
  refine pz_aload_n dX4_init_53 rfl ?_
  refine pz_bipush (v := (9 : Int32)) dX4_init_54 (by decide) ?_
  refine pz_newa (t := 0) (N := 9) (rc := 15) (rs := 909) dX4_init_56 rfl (fun _ _ h => h) ca_int (fun cA => pq_z0 cA 9) (by decide) (by decide +kernel) (by decide) (fun hfr => ?_)
  have hf := hf hfr
  obtain ⟨_, h1, h2, hf⟩ := hf
  refine pz_putF dX4_init_58 fp_X4_37 rfl h1 rfl rfl h2 ?_
  refine pz_aload_n dX4_init_61 rfl ?_
  refine pz_bipush (v := (9 : Int32)) dX4_init_62 (by decide) ?_
  refine pz_newa (t := 0) (N := 9) (rc := 14) (rs := 900) dX4_init_64 rfl (fun _ _ h => h) ca_int (fun cA => pq_z0 cA 9) (by decide) (by decide +kernel) (by decide) (fun hfr => ?_)
  have hf := hf hfr
  obtain ⟨_, h1, h2, hf⟩ := hf
  refine pz_putF dX4_init_66 fp_X4_40 rfl h1 rfl rfl h2 ?_
  refine pz_aload_n dX4_init_69 rfl ?_
  refine pz_bipush (v := (64 : Int32)) dX4_init_70 (by decide) ?_
  refine pz_newa (t := 1) (N := 64) (rc := 13) (rs := 836) dX4_init_72 rfl (fun _ _ h => h) ca_long (fun cA => pq_z1 cA 64) (by decide) (by decide +kernel) (by decide) (fun hfr => ?_)
  have hf := hf hfr
  obtain ⟨_, h1, h2, hf⟩ := hf
  refine pz_putF dX4_init_74 fp_X4_43 rfl h1 rfl rfl h2 ?_
  refine pz_aload_n dX4_init_77 rfl ?_
  refine pz_bipush (v := (12 : Int32)) dX4_init_78 (by decide) ?_
  refine pz_newa (t := 0) (N := 12) (rc := 12) (rs := 824) dX4_init_80 rfl (fun _ _ h => h) ca_int (fun cA => pq_z0 cA 12) (by decide) (by decide +kernel) (by decide) (fun hfr => ?_)
  have hf := hf hfr
  obtain ⟨_, h1, h2, hf⟩ := hf
  refine pz_putF dX4_init_82 fp_X4_47 rfl h1 rfl rfl h2 ?_
  refine pz_aload_n dX4_init_85 rfl ?_
  refine pz_iconst (v := (0 : Int32)) dX4_init_86 (by decide) ?_
  obtain ⟨_, h1, h2, hf⟩ := hf
  refine pz_put dX4_init_87 fp_X4_50 h1 rfl rfl h2 ?_
  refine pz_aload_n dX4_init_90 rfl ?_
  refine pz_new (rc := 11) (rs := 821) (N := 3) (ty := tyX0) dX4_init_91 (ci := 0) rfl pi_X0 tyX0_ok cl_X4_53 ci_X0 cz_X0 (fun j hj => pq_defX0 j hj) (fun hfr => ?_)
  have hf := hf hfr
  refine pz_dup dX4_init_94 rfl ?_
  refine pz_callIN0 (rc := 5) (rs := 779) (mc := 6) (ms := 42) dX4_init_95 (k_X0_init X d _ _ _ hf) (Nat.le_of_ble_eq_true rfl) mf_X0_init ml_X4_55 rfl rfl mi_X0_init (fun _ h9 hq => ?_)
  obtain ⟨rfl, hf⟩ := hq
  obtain ⟨_, h1, h2, hf⟩ := hf
  refine pz_putF dX4_init_98 fp_X4_56 rfl h1 rfl rfl h2 ?_
  refine pz_aload_n dX4_init_101 rfl ?_
  refine pz_new (rc := 4) (rs := 776) (N := 3) (ty := tyX3) dX4_init_102 (ci := 3) rfl pi_X3 tyX3_ok cl_X4_60 ci_X3 cz_X3 (fun j hj => pq_defX3 j hj) (fun hfr => ?_)
  have hf := hf hfr
  refine pz_dup dX4_init_105 rfl ?_
  refine pz_callIN0 (rc := 1) (rs := 8) (mc := 3) (ms := 768) dX4_init_106 (k_X3_init X d _ _ _ hf) (Nat.le_of_ble_eq_true rfl) mf_X3_init ml_X4_62 rfl rfl mi_X3_init (fun _ h9 hq => ?_)
  obtain ⟨rfl, hf⟩ := hq
  obtain ⟨_, h1, h2, hf⟩ := hf
  refine pz_putF dX4_init_109 fp_X4_63 rfl h1 rfl rfl h2 ?_
  refine pz_aload_n dX4_init_112 rfl ?_
  refine pz_bipush (v := (8 : Int32)) dX4_init_113 (by decide) ?_
  refine pz_newa (t := 0) (N := 8) (rc := 0) (rs := 0) dX4_init_115 rfl (fun _ _ h => h) ca_int (fun cA => pq_z0 cA 8) (by decide) (by decide +kernel) (by decide) (fun hfr => ?_)
  have hf := hf hfr
  obtain ⟨_, h1, h2, hf⟩ := hf
  refine pz_putF dX4_init_117 fp_X4_67 rfl h1 rfl rfl h2 ?_
  refine pz_aload_n dX4_init_120 rfl ?_
  refine pz_iconst (v := (0 : Int32)) dX4_init_121 (by decide) ?_
  obtain ⟨_, h1, h2, hf⟩ := hf
  refine pz_put dX4_init_122 fp_X4_70 h1 rfl rfl h2 ?_
  exact pz_return dX4_init_125 rfl ⟨rfl, hf⟩
def F_X4_addPaper (a0 : Nat) (x1 : Int32) (x2 : Int32) (x3 : Int32) (h : pz_H) (Q : Int32 → pz_H → Prop) : Prop := (pq_gI h a0 4 1 (fun v1 => (pq_br (v1 < (30 : Int32)) (pq_gA h a0 4 0 (fun b2 => (pq_gI h a0 4 1 (fun v3 => (pq_n h (.inr (1, [.int 0, .int 0, .int 0, .int 0, .int 0, .null, .null, .null, .null, .null, .null, .null, .null, .null, .null, .null, .null, .int 0])) (fun q4 h5 => (F_X1_init q4 x1 x2 x3 h5 (fun h6 => (pq_sA h6 b2 v3 q4 (fun h7 => (pq_gI h7 a0 4 1 (fun v8 => (pq_p h7 a0 4 1 (.int (v8 + (1 : Int32))) (fun h9 => (pq_gI h9 a0 4 1 (fun v10 => (Q (v10 - (1 : Int32)) h9))))))))))))))))) (Q (-104 : Int32) h))))
set_option maxHeartbeats 4000000 in
set_option maxRecDepth 100000 in
theorem k_X4_addPaper (X : pz_X) (d : Nat) (a0 : Nat) (x1 : Int32) (x2 : Int32) (x3 : Int32) (h : pz_H) (Q : Int32 → pz_H → Prop) (hf : F_X4_addPaper a0 x1 x2 x3 h Q) : pz_Call X M_X4_addPaper (d + 5) 13 148 [.ref a0, .int x1, .int x2, .int x3] h (pq_qI Q) := by
  refine pz_call_of (by decide +kernel) (Nat.le_of_ble_eq_true rfl) ?_
  unfold F_X4_addPaper at hf
  refine pz_aload_n dX4_addPaper_0 rfl ?_
  obtain ⟨_, v1, h1, h2, hf⟩ := hf
  refine pz_get dX4_addPaper_1 fl_X4_15 h1 h2 ?_
  refine pz_bipush (v := (30 : Int32)) dX4_addPaper_4 (by decide) ?_
  obtain ⟨ha, hb⟩ := hf
  refine pz_icmp_lt dX4_addPaper_6 (tgt := 12) (by decide) (fun cc => ?_) (fun cc => ?_)
  · have hf := ha cc
    refine pz_aload_n dX4_addPaper_12 rfl ?_
    obtain ⟨_, b2, h1, h2, hf⟩ := hf
    refine pz_get dX4_addPaper_13 fl_X4_11 h1 h2 ?_
    refine pz_aload_n dX4_addPaper_16 rfl ?_
    obtain ⟨_, v3, h1, h2, hf⟩ := hf
    refine pz_get dX4_addPaper_17 fl_X4_15 h1 h2 ?_
    refine pz_new (rc := 12) (rs := 130) (N := 18) (ty := tyX1) dX4_addPaper_20 (ci := 1) rfl pi_X1 tyX1_ok cl_X4_9 ci_X1 cz_X1 (fun j hj => pq_defX1 j hj) (fun hfr => ?_)
    have hf := hf hfr
    refine pz_dup dX4_addPaper_23 rfl ?_
    refine pz_iload_n dX4_addPaper_24 rfl ?_
    refine pz_iload_n dX4_addPaper_25 rfl ?_
    refine pz_iload_n dX4_addPaper_26 rfl ?_
    refine pz_callI3 (rc := 0) (rs := 0) (mc := 12) (ms := 130) dX4_addPaper_27 (k_X1_init X d _ _ _ _ _ _ hf) (Nat.le_of_ble_eq_true rfl) mf_X1_init ml_X4_252 rfl rfl mi_X1_init (fun _ h9 hq => ?_)
    obtain ⟨rfl, hf⟩ := hq
    obtain ⟨_, _, _, h1, h2, h3, hf⟩ := hf
    refine pz_aast (ci := 1) dX4_addPaper_30 h1 h2 h3 ?_
    refine pz_aload_n dX4_addPaper_31 rfl ?_
    refine pz_dup dX4_addPaper_32 rfl ?_
    obtain ⟨_, v8, h1, h2, hf⟩ := hf
    refine pz_get dX4_addPaper_33 fl_X4_15 h1 h2 ?_
    refine pz_iconst (v := (1 : Int32)) dX4_addPaper_36 (by decide) ?_
    refine pz_iadd dX4_addPaper_37 ?_
    obtain ⟨_, h1, h2, hf⟩ := hf
    refine pz_put dX4_addPaper_38 fp_X4_15 h1 rfl rfl h2 ?_
    refine pz_aload_n dX4_addPaper_41 rfl ?_
    obtain ⟨_, v10, h1, h2, hf⟩ := hf
    refine pz_get dX4_addPaper_42 fl_X4_15 h1 h2 ?_
    refine pz_iconst (v := (1 : Int32)) dX4_addPaper_45 (by decide) ?_
    refine pz_isub dX4_addPaper_46 ?_
    exact pz_ireturn dX4_addPaper_47 rfl rfl ⟨_, rfl, hf⟩
  · have hf := hb cc
    refine pz_bipush (v := (-104 : Int32)) dX4_addPaper_9 (by decide) ?_
    exact pz_ireturn dX4_addPaper_11 rfl rfl ⟨_, rfl, hf⟩
def B_X4_strip_23 (xs0 : Int32)  (Q : Int32 → pz_H → Prop) (h : pz_H) : Prop := (Q xs0 h)
set_option maxHeartbeats 4000000 in
set_option maxRecDepth 100000 in
theorem kB_X4_strip_23 (X : pz_X) (d : Nat) (xs0 : Int32)   (Q : Int32 → pz_H → Prop) (h : pz_H)  (hf : B_X4_strip_23 xs0  Q h) : pz_W (fun _ => True) X M_X4_strip (d + 6) 23 [] [.int xs0] h 0 0 (pq_qI Q) := by
  unfold B_X4_strip_23 at hf
  exact pz_ireturn dX4_strip_23 rfl rfl ⟨_, rfl, hf⟩
def B_X4_strip_11   (Q : Int32 → pz_H → Prop) (h : pz_H) : Prop := (B_X4_strip_23 (-102 : Int32) Q h)
set_option maxHeartbeats 4000000 in
set_option maxRecDepth 100000 in
theorem kB_X4_strip_11 (X : pz_X) (d : Nat)    (Q : Int32 → pz_H → Prop) (h : pz_H)  (hf : B_X4_strip_11   Q h) : pz_W (fun _ => True) X M_X4_strip (d + 6) 11 [] [] h 0 0 (pq_qI Q) := by
  unfold B_X4_strip_11 at hf
  refine pz_bipush (v := (-102 : Int32)) dX4_strip_11 (by decide) ?_
  refine pz_goto dX4_strip_13 (tgt := 23) (by decide) ?_
  exact pz_drop (pz_part_of [] rfl) (kB_X4_strip_23 X d _ _ _  hf)
def F_X4_strip (a0 : Nat) (x1 : Int32) (h : pz_H) (Q : Int32 → pz_H → Prop) : Prop := (pq_br (x1 < (1 : Int32)) (B_X4_strip_11 Q h) (pq_br (x1 ≤ (9 : Int32)) (pq_o h a0 4 (F_X4_addPaper a0 (0 : Int32) (1 : Int32) x1 h (fun v2 h1 => (B_X4_strip_23 v2 Q h1)))) (B_X4_strip_11 Q h)))
set_option maxHeartbeats 4000000 in
set_option maxRecDepth 100000 in
theorem k_X4_strip (X : pz_X) (d : Nat) (a0 : Nat) (x1 : Int32) (h : pz_H) (Q : Int32 → pz_H → Prop) (hf : F_X4_strip a0 x1 h Q) : pz_Call X M_X4_strip (d + 6) 13 148 [.ref a0, .int x1] h (pq_qI Q) := by
  refine pz_call_of (by decide +kernel) (Nat.le_of_ble_eq_true rfl) ?_
  unfold F_X4_strip at hf
  refine pz_iload_n dX4_strip_0 rfl ?_
  refine pz_iconst (v := (1 : Int32)) dX4_strip_1 (by decide) ?_
  obtain ⟨ha, hb⟩ := hf
  refine pz_icmp_lt dX4_strip_2 (tgt := 11) (by decide) (fun cc => ?_) (fun cc => ?_)
  · have hf := ha cc
    exact pz_less (by decide) (by decide) <| pz_drop (pz_part_of [] rfl) (kB_X4_strip_11 X d _ _  hf)
  · have hf := hb cc
    refine pz_iload_n dX4_strip_5 rfl ?_
    refine pz_bipush (v := (9 : Int32)) dX4_strip_6 (by decide) ?_
    obtain ⟨ha, hb⟩ := hf
    refine pz_icmp_le dX4_strip_8 (tgt := 16) (by decide) (fun cc => ?_) (fun cc => ?_)
    · have hf := ha cc
      refine pz_aload_n dX4_strip_16 rfl ?_
      refine pz_iconst (v := (0 : Int32)) dX4_strip_17 (by decide) ?_
      refine pz_iconst (v := (1 : Int32)) dX4_strip_18 (by decide) ?_
      refine pz_iload_n dX4_strip_19 rfl ?_
      obtain ⟨_, hO, hf⟩ := hf
      refine pz_callV3 (rc := 0) (rs := 0) (mc := 13) (ms := 148) dX4_strip_20 (k_X4_addPaper X d _ _ _ _ _ _ hf) (Nat.le_of_ble_eq_true rfl) mf_X4_addPaper ml_X4_73 hO rfl mi_X4_addPaper ms_X4_addPaper (fun _ h9 hq => ?_)
      obtain ⟨_, rfl, hf⟩ := hq
      exact pz_drop (pz_part_of [] rfl) (kB_X4_strip_23 X d _ _ _  hf)
    · have hf := hb cc
      exact pz_less (by decide) (by decide) <| pz_drop (pz_part_of [] rfl) (kB_X4_strip_11 X d _ _  hf)
def B_X4_corner_23 (xs0 : Int32)  (Q : Int32 → pz_H → Prop) (h : pz_H) : Prop := (Q xs0 h)
set_option maxHeartbeats 4000000 in
set_option maxRecDepth 100000 in
theorem kB_X4_corner_23 (X : pz_X) (d : Nat) (xs0 : Int32)   (Q : Int32 → pz_H → Prop) (h : pz_H)  (hf : B_X4_corner_23 xs0  Q h) : pz_W (fun _ => True) X M_X4_corner (d + 6) 23 [] [.int xs0] h 0 0 (pq_qI Q) := by
  unfold B_X4_corner_23 at hf
  exact pz_ireturn dX4_corner_23 rfl rfl ⟨_, rfl, hf⟩
def B_X4_corner_11   (Q : Int32 → pz_H → Prop) (h : pz_H) : Prop := (B_X4_corner_23 (-102 : Int32) Q h)
set_option maxHeartbeats 4000000 in
set_option maxRecDepth 100000 in
theorem kB_X4_corner_11 (X : pz_X) (d : Nat)    (Q : Int32 → pz_H → Prop) (h : pz_H)  (hf : B_X4_corner_11   Q h) : pz_W (fun _ => True) X M_X4_corner (d + 6) 11 [] [] h 0 0 (pq_qI Q) := by
  unfold B_X4_corner_11 at hf
  refine pz_bipush (v := (-102 : Int32)) dX4_corner_11 (by decide) ?_
  refine pz_goto dX4_corner_13 (tgt := 23) (by decide) ?_
  exact pz_drop (pz_part_of [] rfl) (kB_X4_corner_23 X d _ _ _  hf)
def F_X4_corner (a0 : Nat) (x1 : Int32) (h : pz_H) (Q : Int32 → pz_H → Prop) : Prop := (pq_br (x1 < (2 : Int32)) (B_X4_corner_11 Q h) (pq_br (x1 ≤ (9 : Int32)) (pq_o h a0 4 (F_X4_addPaper a0 (1 : Int32) (1 : Int32) x1 h (fun v2 h1 => (B_X4_corner_23 v2 Q h1)))) (B_X4_corner_11 Q h)))
set_option maxHeartbeats 4000000 in
set_option maxRecDepth 100000 in
theorem k_X4_corner (X : pz_X) (d : Nat) (a0 : Nat) (x1 : Int32) (h : pz_H) (Q : Int32 → pz_H → Prop) (hf : F_X4_corner a0 x1 h Q) : pz_Call X M_X4_corner (d + 6) 13 148 [.ref a0, .int x1] h (pq_qI Q) := by
  refine pz_call_of (by decide +kernel) (Nat.le_of_ble_eq_true rfl) ?_
  unfold F_X4_corner at hf
  refine pz_iload_n dX4_corner_0 rfl ?_
  refine pz_iconst (v := (2 : Int32)) dX4_corner_1 (by decide) ?_
  obtain ⟨ha, hb⟩ := hf
  refine pz_icmp_lt dX4_corner_2 (tgt := 11) (by decide) (fun cc => ?_) (fun cc => ?_)
  · have hf := ha cc
    exact pz_less (by decide) (by decide) <| pz_drop (pz_part_of [] rfl) (kB_X4_corner_11 X d _ _  hf)
  · have hf := hb cc
    refine pz_iload_n dX4_corner_5 rfl ?_
    refine pz_bipush (v := (9 : Int32)) dX4_corner_6 (by decide) ?_
    obtain ⟨ha, hb⟩ := hf
    refine pz_icmp_le dX4_corner_8 (tgt := 16) (by decide) (fun cc => ?_) (fun cc => ?_)
    · have hf := ha cc
      refine pz_aload_n dX4_corner_16 rfl ?_
      refine pz_iconst (v := (1 : Int32)) dX4_corner_17 (by decide) ?_
      refine pz_iconst (v := (1 : Int32)) dX4_corner_18 (by decide) ?_
      refine pz_iload_n dX4_corner_19 rfl ?_
      obtain ⟨_, hO, hf⟩ := hf
      refine pz_callV3 (rc := 0) (rs := 0) (mc := 13) (ms := 148) dX4_corner_20 (k_X4_addPaper X d _ _ _ _ _ _ hf) (Nat.le_of_ble_eq_true rfl) mf_X4_addPaper ml_X4_73 hO rfl mi_X4_addPaper ms_X4_addPaper (fun _ h9 hq => ?_)
      obtain ⟨_, rfl, hf⟩ := hq
      exact pz_drop (pz_part_of [] rfl) (kB_X4_corner_23 X d _ _ _  hf)
    · have hf := hb cc
      exact pz_less (by decide) (by decide) <| pz_drop (pz_part_of [] rfl) (kB_X4_corner_11 X d _ _  hf)
def B_X4_map_22   (Q : Int32 → pz_H → Prop) (h : pz_H) : Prop := (Q (-102 : Int32) h)
set_option maxHeartbeats 4000000 in
set_option maxRecDepth 100000 in
theorem kB_X4_map_22 (X : pz_X) (d : Nat)    (Q : Int32 → pz_H → Prop) (h : pz_H)  (hf : B_X4_map_22   Q h) : pz_W (fun _ => True) X M_X4_map (d + 6) 22 [] [] h 0 0 (pq_qI Q) := by
  unfold B_X4_map_22 at hf
  refine pz_bipush (v := (-102 : Int32)) dX4_map_22 (by decide) ?_
  exact pz_ireturn dX4_map_24 rfl rfl ⟨_, rfl, hf⟩
def B_X4_map_45 (xs0 : Int32)  (Q : Int32 → pz_H → Prop) (h : pz_H) : Prop := (Q xs0 h)
set_option maxHeartbeats 4000000 in
set_option maxRecDepth 100000 in
theorem kB_X4_map_45 (X : pz_X) (d : Nat) (xs0 : Int32)   (Q : Int32 → pz_H → Prop) (h : pz_H)  (hf : B_X4_map_45 xs0  Q h) : pz_W (fun _ => True) X M_X4_map (d + 6) 45 [] [.int xs0] h 0 0 (pq_qI Q) := by
  unfold B_X4_map_45 at hf
  exact pz_ireturn dX4_map_45 rfl rfl ⟨_, rfl, hf⟩
def F_X4_map (a0 : Nat) (x1 : Int32) (x2 : Int32) (h : pz_H) (Q : Int32 → pz_H → Prop) : Prop := (pq_br (x1 < (1 : Int32)) (B_X4_map_22 Q h) (pq_br (x2 < (1 : Int32)) (B_X4_map_22 Q h) (pq_br ((9 : Int32) < x1) (B_X4_map_22 Q h) (pq_br (x2 ≤ (9 : Int32)) (pq_br ((x1 * x2) ≤ (9 : Int32)) (pq_o h a0 4 (F_X4_addPaper a0 (2 : Int32) x1 x2 h (fun v2 h1 => (B_X4_map_45 v2 Q h1)))) (B_X4_map_45 (-102 : Int32) Q h)) (B_X4_map_22 Q h)))))
set_option maxHeartbeats 4000000 in
set_option maxRecDepth 100000 in
theorem k_X4_map (X : pz_X) (d : Nat) (a0 : Nat) (x1 : Int32) (x2 : Int32) (h : pz_H) (Q : Int32 → pz_H → Prop) (hf : F_X4_map a0 x1 x2 h Q) : pz_Call X M_X4_map (d + 6) 13 148 [.ref a0, .int x1, .int x2] h (pq_qI Q) := by
  refine pz_call_of (by decide +kernel) (Nat.le_of_ble_eq_true rfl) ?_
  unfold F_X4_map at hf
  refine pz_iload_n dX4_map_0 rfl ?_
  refine pz_iconst (v := (1 : Int32)) dX4_map_1 (by decide) ?_
  obtain ⟨ha, hb⟩ := hf
  refine pz_icmp_lt dX4_map_2 (tgt := 22) (by decide) (fun cc => ?_) (fun cc => ?_)
  · have hf := ha cc
    exact pz_less (by decide) (by decide) <| pz_drop (pz_part_of [] rfl) (kB_X4_map_22 X d _ _  hf)
  · have hf := hb cc
    refine pz_iload_n dX4_map_5 rfl ?_
    refine pz_iconst (v := (1 : Int32)) dX4_map_6 (by decide) ?_
    obtain ⟨ha, hb⟩ := hf
    refine pz_icmp_lt dX4_map_7 (tgt := 22) (by decide) (fun cc => ?_) (fun cc => ?_)
    · have hf := ha cc
      exact pz_less (by decide) (by decide) <| pz_drop (pz_part_of [] rfl) (kB_X4_map_22 X d _ _  hf)
    · have hf := hb cc
      refine pz_iload_n dX4_map_10 rfl ?_
      refine pz_bipush (v := (9 : Int32)) dX4_map_11 (by decide) ?_
      obtain ⟨ha, hb⟩ := hf
      refine pz_icmp_gt dX4_map_13 (tgt := 22) (by decide) (fun cc => ?_) (fun cc => ?_)
      · have hf := ha cc
        exact pz_less (by decide) (by decide) <| pz_drop (pz_part_of [] rfl) (kB_X4_map_22 X d _ _  hf)
      · have hf := hb cc
        refine pz_iload_n dX4_map_16 rfl ?_
        refine pz_bipush (v := (9 : Int32)) dX4_map_17 (by decide) ?_
        obtain ⟨ha, hb⟩ := hf
        refine pz_icmp_le dX4_map_19 (tgt := 25) (by decide) (fun cc => ?_) (fun cc => ?_)
        · have hf := ha cc
          refine pz_iload_n dX4_map_25 rfl ?_
          refine pz_iload_n dX4_map_26 rfl ?_
          refine pz_imul dX4_map_27 ?_
          refine pz_bipush (v := (9 : Int32)) dX4_map_28 (by decide) ?_
          obtain ⟨ha, hb⟩ := hf
          refine pz_icmp_le dX4_map_30 (tgt := 38) (by decide) (fun cc => ?_) (fun cc => ?_)
          · have hf := ha cc
            refine pz_aload_n dX4_map_38 rfl ?_
            refine pz_iconst (v := (2 : Int32)) dX4_map_39 (by decide) ?_
            refine pz_iload_n dX4_map_40 rfl ?_
            refine pz_iload_n dX4_map_41 rfl ?_
            obtain ⟨_, hO, hf⟩ := hf
            refine pz_callV3 (rc := 0) (rs := 0) (mc := 13) (ms := 148) dX4_map_42 (k_X4_addPaper X d _ _ _ _ _ _ hf) (Nat.le_of_ble_eq_true rfl) mf_X4_addPaper ml_X4_73 hO rfl mi_X4_addPaper ms_X4_addPaper (fun _ h9 hq => ?_)
            obtain ⟨_, rfl, hf⟩ := hq
            exact pz_drop (pz_part_of [] rfl) (kB_X4_map_45 X d _ _ _  hf)
          · have hf := hb cc
            refine pz_bipush (v := (-102 : Int32)) dX4_map_33 (by decide) ?_
            refine pz_goto dX4_map_35 (tgt := 45) (by decide) ?_
            exact pz_less (by decide) (by decide) <| pz_drop (pz_part_of [] rfl) (kB_X4_map_45 X d _ _ _  hf)
        · have hf := hb cc
          exact pz_less (by decide) (by decide) <| pz_drop (pz_part_of [] rfl) (kB_X4_map_22 X d _ _  hf)
def B_X4_find_22 (rs0 : Option Nat)  (Q : Option Nat → pz_H → Prop) (h : pz_H) : Prop := (Q rs0 h)
set_option maxHeartbeats 4000000 in
set_option maxRecDepth 100000 in
theorem kB_X4_find_22 (X : pz_X) (d : Nat) (rs0 : Option Nat)   (Q : Option Nat → pz_H → Prop) (h : pz_H)  (hf : B_X4_find_22 rs0  Q h) : pz_W (fun _ => True) X M_X4_find (d + 0) 22 [] [va_rf rs0] h 0 0 (pq_qN Q) := by
  unfold B_X4_find_22 at hf
  exact pz_areturnQ (r := _) dX4_find_22 rfl ⟨_, rfl, hf⟩
def B_X4_find_12   (Q : Option Nat → pz_H → Prop) (h : pz_H) : Prop := (B_X4_find_22 none Q h)
set_option maxHeartbeats 4000000 in
set_option maxRecDepth 100000 in
theorem kB_X4_find_12 (X : pz_X) (d : Nat)    (Q : Option Nat → pz_H → Prop) (h : pz_H)  (hf : B_X4_find_12   Q h) : pz_W (fun _ => True) X M_X4_find (d + 0) 12 [] [] h 0 0 (pq_qN Q) := by
  unfold B_X4_find_12 at hf
  refine pz_null dX4_find_12 ?_
  refine pz_goto dX4_find_13 (tgt := 22) (by decide) ?_
  exact pz_drop (pz_part_of [] rfl) (kB_X4_find_22 X d _ _ _  hf)
def F_X4_find (a0 : Nat) (x1 : Int32) (h : pz_H) (Q : Option Nat → pz_H → Prop) : Prop := (pq_br (x1 < 0) (B_X4_find_12 Q h) (pq_gI h a0 4 1 (fun v1 => (pq_br (x1 < v1) (pq_gA h a0 4 0 (fun b2 => (pq_aN h b2 x1 (fun r3 => pq_sw r3 (B_X4_find_22 none Q h) (fun w4 => (B_X4_find_22 (some w4) Q h)))))) (B_X4_find_12 Q h)))))
set_option maxHeartbeats 4000000 in
set_option maxRecDepth 100000 in
theorem k_X4_find (X : pz_X) (d : Nat) (a0 : Nat) (x1 : Int32) (h : pz_H) (Q : Option Nat → pz_H → Prop) (hf : F_X4_find a0 x1 h Q) : pz_Call X M_X4_find (d + 0) 0 0 [.ref a0, .int x1] h (pq_qN Q) := by
  refine pz_call_of (by decide +kernel) (Nat.le_of_ble_eq_true rfl) ?_
  unfold F_X4_find at hf
  refine pz_iload_n dX4_find_0 rfl ?_
  obtain ⟨ha, hb⟩ := hf
  refine pz_if_lt dX4_find_1 (tgt := 12) (by decide) (fun cc => ?_) (fun cc => ?_)
  · have hf := ha cc
    exact pz_drop (pz_part_of [] rfl) (kB_X4_find_12 X d _ _  hf)
  · have hf := hb cc
    refine pz_iload_n dX4_find_4 rfl ?_
    refine pz_aload_n dX4_find_5 rfl ?_
    obtain ⟨_, v1, h1, h2, hf⟩ := hf
    refine pz_get dX4_find_6 fl_X4_15 h1 h2 ?_
    obtain ⟨ha, hb⟩ := hf
    refine pz_icmp_lt dX4_find_9 (tgt := 16) (by decide) (fun cc => ?_) (fun cc => ?_)
    · have hf := ha cc
      refine pz_aload_n dX4_find_16 rfl ?_
      obtain ⟨_, b2, h1, h2, hf⟩ := hf
      refine pz_get dX4_find_17 fl_X4_11 h1 h2 ?_
      refine pz_iload_n dX4_find_20 rfl ?_
      obtain ⟨_, fN, h1, h2, hf⟩ := hf
      refine pz_aald dX4_find_21 h1 h2 ?_
      generalize fN _ = r3 at hf ⊢
      rcases r3 with _ | w4
      · exact pz_drop (pz_part_of [] rfl) (kB_X4_find_22 X d _ _ _  hf)
      · exact pz_drop (pz_part_of [] rfl) (kB_X4_find_22 X d _ _ _  hf)
    · have hf := hb cc
      exact pz_drop (pz_part_of [] rfl) (kB_X4_find_12 X d _ _  hf)
def B_X4_length_21   (Q : Int32 → pz_H → Prop) (h : pz_H) : Prop := (Q (-101 : Int32) h)
set_option maxHeartbeats 4000000 in
set_option maxRecDepth 100000 in
theorem kB_X4_length_21 (X : pz_X) (d : Nat)    (Q : Int32 → pz_H → Prop) (h : pz_H)  (hf : B_X4_length_21   Q h) : pz_W (fun _ => True) X M_X4_length (d + 4) 21 [] [] h 0 0 (pq_qI Q) := by
  unfold B_X4_length_21 at hf
  refine pz_bipush (v := (-101 : Int32)) dX4_length_21 (by decide) ?_
  exact pz_ireturn dX4_length_23 rfl rfl ⟨_, rfl, hf⟩
def B_X4_length_36   (Q : Int32 → pz_H → Prop) (h : pz_H) : Prop := (Q (-102 : Int32) h)
set_option maxHeartbeats 4000000 in
set_option maxRecDepth 100000 in
theorem kB_X4_length_36 (X : pz_X) (d : Nat)    (Q : Int32 → pz_H → Prop) (h : pz_H)  (hf : B_X4_length_36   Q h) : pz_W (fun _ => True) X M_X4_length (d + 4) 36 [] [] h 0 0 (pq_qI Q) := by
  unfold B_X4_length_36 at hf
  refine pz_bipush (v := (-102 : Int32)) dX4_length_36 (by decide) ?_
  exact pz_ireturn dX4_length_38 rfl rfl ⟨_, rfl, hf⟩
def F_X4_length (a0 : Nat) (x1 : Int32) (x2 : Int32) (x3 : Int32) (h : pz_H) (Q : Int32 → pz_H → Prop) : Prop := (pq_o h a0 4 (F_X4_find a0 x1 h (fun r2 h1 => pq_sw r2 (B_X4_length_21 Q h1) (fun w3 => (pq_o h1 w3 1 (F_X1_hasFace w3 x2 h1 (fun v5 h4 => (pq_br (v5 = 0) (B_X4_length_21 Q h4) (pq_br (x3 < (1 : Int32)) (B_X4_length_36 Q h4) (pq_br (x3 ≤ (1000 : Int32)) (pq_gI h4 w3 1 0 (fun v6 => (pq_br (v6 = (2 : Int32)) (Q (-103 : Int32) h4) (pq_gA h4 w3 1 7 (fun b7 => (pq_aI h4 b7 x2 (fun v8 => (pq_gA h4 w3 1 7 (fun b9 => (pq_sI h4 b9 x2 x3 (fun h10 => (pq_o h10 w3 1 (F_X1_measure w3 h10 (fun h11 => (Q v8 h11))))))))))))))) (B_X4_length_36 Q h4)))))))))))
set_option maxHeartbeats 4000000 in
set_option maxRecDepth 100000 in
theorem k_X4_length (X : pz_X) (d : Nat) (a0 : Nat) (x1 : Int32) (x2 : Int32) (x3 : Int32) (h : pz_H) (Q : Int32 → pz_H → Prop) (hf : F_X4_length a0 x1 x2 x3 h Q) : pz_Call X M_X4_length (d + 4) 0 0 [.ref a0, .int x1, .int x2, .int x3] h (pq_qI Q) := by
  refine pz_call_of (by decide +kernel) (Nat.le_of_ble_eq_true rfl) ?_
  unfold F_X4_length at hf
  refine pz_aload_n dX4_length_0 rfl ?_
  refine pz_iload_n dX4_length_1 rfl ?_
  obtain ⟨_, hO, hf⟩ := hf
  refine pz_callV1 (rc := 0) (rs := 0) (mc := 0) (ms := 0) dX4_length_2 (k_X4_find X (d + 3) _ _ _ _ hf) (Nat.le_of_ble_eq_true rfl) mf_X4_find ml_X4_77 hO rfl mi_X4_find ms_X4_find (fun _ h9 hq => ?_)
  obtain ⟨r2, rfl, hf⟩ := hq
  rcases r2 with _ | w3
  · refine pz_astoreN dX4_length_5 (by decide) rfl ?_
    refine pz_aloadN dX4_length_7 rfl ?_
    refine pz_ifnullN dX4_length_9 (tgt := 21) (by decide) ?_
    exact pz_drop (pz_part_of [] rfl) (kB_X4_length_21 X d _ _  hf)
  · refine pz_astore dX4_length_5 (by decide) rfl ?_
    refine pz_aload dX4_length_7 rfl ?_
    refine pz_ifnull dX4_length_9 ?_
    refine pz_aload dX4_length_12 rfl ?_
    refine pz_iload_n dX4_length_14 rfl ?_
    obtain ⟨_, hO, hf⟩ := hf
    refine pz_callV1 (rc := 0) (rs := 0) (mc := 0) (ms := 0) dX4_length_15 (k_X1_hasFace X (d + 3) _ _ _ _ hf) (Nat.le_of_ble_eq_true rfl) mf_X1_hasFace ml_X4_81 hO rfl mi_X1_hasFace ms_X1_hasFace (fun _ h9 hq => ?_)
    obtain ⟨_, rfl, hf⟩ := hq
    obtain ⟨ha, hb⟩ := hf
    refine pz_if_ne dX4_length_18 (tgt := 24) (by decide) (fun cc => ?_) (fun cc => ?_)
    · have hf := hb cc
      refine pz_iload_n dX4_length_24 rfl ?_
      refine pz_iconst (v := (1 : Int32)) dX4_length_25 (by decide) ?_
      obtain ⟨ha, hb⟩ := hf
      refine pz_icmp_lt dX4_length_26 (tgt := 36) (by decide) (fun cc => ?_) (fun cc => ?_)
      · have hf := ha cc
        exact pz_drop (pz_part_of [] rfl) (kB_X4_length_36 X d _ _  hf)
      · have hf := hb cc
        refine pz_iload_n dX4_length_29 rfl ?_
        refine pz_sipush (v := (1000 : Int32)) dX4_length_30 (by decide) ?_
        obtain ⟨ha, hb⟩ := hf
        refine pz_icmp_le dX4_length_33 (tgt := 39) (by decide) (fun cc => ?_) (fun cc => ?_)
        · have hf := ha cc
          refine pz_aload dX4_length_39 rfl ?_
          obtain ⟨_, v6, h1, h2, hf⟩ := hf
          refine pz_get dX4_length_41 fl_X4_85 h1 h2 ?_
          refine pz_iconst (v := (2 : Int32)) dX4_length_44 (by decide) ?_
          obtain ⟨ha, hb⟩ := hf
          refine pz_icmp_ne dX4_length_45 (tgt := 51) (by decide) (fun cc => ?_) (fun cc => ?_)
          · have hf := hb cc
            refine pz_aload dX4_length_51 rfl ?_
            obtain ⟨_, b7, h1, h2, hf⟩ := hf
            refine pz_get dX4_length_53 fl_X4_88 h1 h2 ?_
            refine pz_iload_n dX4_length_56 rfl ?_
            obtain ⟨_, _, h1, h2, hf⟩ := hf
            refine pz_iald dX4_length_57 h1 h2 ?_
            refine pz_istore dX4_length_58 (by decide) rfl ?_
            refine pz_aload dX4_length_60 rfl ?_
            obtain ⟨_, b9, h1, h2, hf⟩ := hf
            refine pz_get dX4_length_62 fl_X4_88 h1 h2 ?_
            refine pz_iload_n dX4_length_65 rfl ?_
            refine pz_iload_n dX4_length_66 rfl ?_
            obtain ⟨_, _, h1, h2, hf⟩ := hf
            refine pz_iast dX4_length_67 h1 h2 ?_
            refine pz_aload dX4_length_68 rfl ?_
            obtain ⟨_, hO, hf⟩ := hf
            refine pz_callV0 (rc := 0) (rs := 0) (mc := 0) (ms := 0) dX4_length_70 (k_X1_measure X d _ _ _ hf) (Nat.le_of_ble_eq_true rfl) mf_X1_measure ml_X4_91 hO rfl mi_X1_measure ms_X1_measure (fun _ h9 hq => ?_)
            obtain ⟨rfl, hf⟩ := hq
            refine pz_iload dX4_length_73 rfl ?_
            exact pz_ireturn dX4_length_75 rfl rfl ⟨_, rfl, hf⟩
          · have hf := ha cc
            refine pz_bipush (v := (-103 : Int32)) dX4_length_48 (by decide) ?_
            exact pz_ireturn dX4_length_50 rfl rfl ⟨_, rfl, hf⟩
        · have hf := hb cc
          exact pz_drop (pz_part_of [] rfl) (kB_X4_length_36 X d _ _  hf)
    · have hf := ha cc
      exact pz_drop (pz_part_of [] rfl) (kB_X4_length_21 X d _ _  hf)
def B_X4_mark_21   (Q : Int32 → pz_H → Prop) (h : pz_H) : Prop := (Q (-101 : Int32) h)
set_option maxHeartbeats 4000000 in
set_option maxRecDepth 100000 in
theorem kB_X4_mark_21 (X : pz_X) (d : Nat)    (Q : Int32 → pz_H → Prop) (h : pz_H)  (hf : B_X4_mark_21   Q h) : pz_W (fun _ => True) X M_X4_mark (d + 1) 21 [] [] h 0 0 (pq_qI Q) := by
  unfold B_X4_mark_21 at hf
  refine pz_bipush (v := (-101 : Int32)) dX4_mark_21 (by decide) ?_
  exact pz_ireturn dX4_mark_23 rfl rfl ⟨_, rfl, hf⟩
def B_X4_mark_33   (Q : Int32 → pz_H → Prop) (h : pz_H) : Prop := (Q (-102 : Int32) h)
set_option maxHeartbeats 4000000 in
set_option maxRecDepth 100000 in
theorem kB_X4_mark_33 (X : pz_X) (d : Nat)    (Q : Int32 → pz_H → Prop) (h : pz_H)  (hf : B_X4_mark_33   Q h) : pz_W (fun _ => True) X M_X4_mark (d + 1) 33 [] [] h 0 0 (pq_qI Q) := by
  unfold B_X4_mark_33 at hf
  refine pz_bipush (v := (-102 : Int32)) dX4_mark_33 (by decide) ?_
  exact pz_ireturn dX4_mark_35 rfl rfl ⟨_, rfl, hf⟩
def F_X4_mark (a0 : Nat) (x1 : Int32) (x2 : Int32) (x3 : Int32) (h : pz_H) (Q : Int32 → pz_H → Prop) : Prop := (pq_o h a0 4 (F_X4_find a0 x1 h (fun r2 h1 => pq_sw r2 (B_X4_mark_21 Q h1) (fun w3 => (pq_o h1 w3 1 (F_X1_hasCrease w3 x2 h1 (fun v5 h4 => (pq_br (v5 = 0) (B_X4_mark_21 Q h4) (pq_br (x3 < 0) (B_X4_mark_33 Q h4) (pq_br (x3 ≤ (2 : Int32)) (pq_gA h4 w3 1 12 (fun b6 => (pq_aI h4 b6 x2 (fun v7 => (pq_gA h4 w3 1 12 (fun b8 => (pq_sI h4 b8 x2 x3 (fun h9 => (Q v7 h9))))))))) (B_X4_mark_33 Q h4)))))))))))
set_option maxHeartbeats 4000000 in
set_option maxRecDepth 100000 in
theorem k_X4_mark (X : pz_X) (d : Nat) (a0 : Nat) (x1 : Int32) (x2 : Int32) (x3 : Int32) (h : pz_H) (Q : Int32 → pz_H → Prop) (hf : F_X4_mark a0 x1 x2 x3 h Q) : pz_Call X M_X4_mark (d + 1) 0 0 [.ref a0, .int x1, .int x2, .int x3] h (pq_qI Q) := by
  refine pz_call_of (by decide +kernel) (Nat.le_of_ble_eq_true rfl) ?_
  unfold F_X4_mark at hf
  refine pz_aload_n dX4_mark_0 rfl ?_
  refine pz_iload_n dX4_mark_1 rfl ?_
  obtain ⟨_, hO, hf⟩ := hf
  refine pz_callV1 (rc := 0) (rs := 0) (mc := 0) (ms := 0) dX4_mark_2 (k_X4_find X d _ _ _ _ hf) (Nat.le_of_ble_eq_true rfl) mf_X4_find ml_X4_77 hO rfl mi_X4_find ms_X4_find (fun _ h9 hq => ?_)
  obtain ⟨r2, rfl, hf⟩ := hq
  rcases r2 with _ | w3
  · refine pz_astoreN dX4_mark_5 (by decide) rfl ?_
    refine pz_aloadN dX4_mark_7 rfl ?_
    refine pz_ifnullN dX4_mark_9 (tgt := 21) (by decide) ?_
    exact pz_drop (pz_part_of [] rfl) (kB_X4_mark_21 X d _ _  hf)
  · refine pz_astore dX4_mark_5 (by decide) rfl ?_
    refine pz_aload dX4_mark_7 rfl ?_
    refine pz_ifnull dX4_mark_9 ?_
    refine pz_aload dX4_mark_12 rfl ?_
    refine pz_iload_n dX4_mark_14 rfl ?_
    obtain ⟨_, hO, hf⟩ := hf
    refine pz_callV1 (rc := 0) (rs := 0) (mc := 0) (ms := 0) dX4_mark_15 (k_X1_hasCrease X d _ _ _ _ hf) (Nat.le_of_ble_eq_true rfl) mf_X1_hasCrease ml_X4_94 hO rfl mi_X1_hasCrease ms_X1_hasCrease (fun _ h9 hq => ?_)
    obtain ⟨_, rfl, hf⟩ := hq
    obtain ⟨ha, hb⟩ := hf
    refine pz_if_ne dX4_mark_18 (tgt := 24) (by decide) (fun cc => ?_) (fun cc => ?_)
    · have hf := hb cc
      refine pz_iload_n dX4_mark_24 rfl ?_
      obtain ⟨ha, hb⟩ := hf
      refine pz_if_lt dX4_mark_25 (tgt := 33) (by decide) (fun cc => ?_) (fun cc => ?_)
      · have hf := ha cc
        exact pz_drop (pz_part_of [] rfl) (kB_X4_mark_33 X d _ _  hf)
      · have hf := hb cc
        refine pz_iload_n dX4_mark_28 rfl ?_
        refine pz_iconst (v := (2 : Int32)) dX4_mark_29 (by decide) ?_
        obtain ⟨ha, hb⟩ := hf
        refine pz_icmp_le dX4_mark_30 (tgt := 36) (by decide) (fun cc => ?_) (fun cc => ?_)
        · have hf := ha cc
          refine pz_aload dX4_mark_36 rfl ?_
          obtain ⟨_, b6, h1, h2, hf⟩ := hf
          refine pz_get dX4_mark_38 fl_X4_97 h1 h2 ?_
          refine pz_iload_n dX4_mark_41 rfl ?_
          obtain ⟨_, _, h1, h2, hf⟩ := hf
          refine pz_iald dX4_mark_42 h1 h2 ?_
          refine pz_istore dX4_mark_43 (by decide) rfl ?_
          refine pz_aload dX4_mark_45 rfl ?_
          obtain ⟨_, b8, h1, h2, hf⟩ := hf
          refine pz_get dX4_mark_47 fl_X4_97 h1 h2 ?_
          refine pz_iload_n dX4_mark_50 rfl ?_
          refine pz_iload_n dX4_mark_51 rfl ?_
          obtain ⟨_, _, h1, h2, hf⟩ := hf
          refine pz_iast dX4_mark_52 h1 h2 ?_
          refine pz_iload dX4_mark_53 rfl ?_
          exact pz_ireturn dX4_mark_55 rfl rfl ⟨_, rfl, hf⟩
        · have hf := hb cc
          exact pz_drop (pz_part_of [] rfl) (kB_X4_mark_33 X d _ _  hf)
    · have hf := ha cc
      exact pz_drop (pz_part_of [] rfl) (kB_X4_mark_21 X d _ _  hf)
def B_X4_about_106 (xs0 : Int32)  (Q : Int32 → pz_H → Prop) (h : pz_H) : Prop := (Q xs0 h)
set_option maxHeartbeats 4000000 in
set_option maxRecDepth 100000 in
theorem kB_X4_about_106 (X : pz_X) (d : Nat) (xs0 : Int32)   (Q : Int32 → pz_H → Prop) (h : pz_H)  (hf : B_X4_about_106 xs0  Q h) : pz_W (fun _ => True) X M_X4_about (d + 1) 106 [] [.int xs0] h 0 0 (pq_qI Q) := by
  unfold B_X4_about_106 at hf
  exact pz_ireturn dX4_about_106 rfl rfl ⟨_, rfl, hf⟩
def F_X4_about (a0 : Nat) (x1 : Int32) (x2 : Int32) (h : pz_H) (Q : Int32 → pz_H → Prop) : Prop := (pq_o h a0 4 (F_X4_find a0 x1 h (fun r2 h1 => pq_sw r2 (Q (-101 : Int32) h1) (fun w3 => (pq_tab x2 0 5 (Q (-102 : Int32) h1) [(pq_gI h1 w3 1 0 (fun v4 => (Q v4 h1))), (pq_gI h1 w3 1 3 (fun v5 => (Q v5 h1))), (pq_gI h1 w3 1 4 (fun v6 => (Q v6 h1))), (pq_o h1 w3 1 (F_X1_marked w3 (1 : Int32) h1 (fun v8 h7 => (F_J6_bitCount_0f7a4 v8 h7 (fun v10 h9 => (Q v10 h9)))))), (pq_o h1 w3 1 (F_X1_marked w3 (2 : Int32) h1 (fun v12 h11 => (F_J6_bitCount_0f7a4 v12 h11 (fun v14 h13 => (Q v14 h13)))))), (pq_gI h1 w3 1 0 (fun v15 => (pq_br (v15 = (1 : Int32)) (pq_gA h1 w3 1 8 (fun b16 => (pq_gI h1 w3 1 3 (fun v17 => (pq_aI h1 b16 v17 (fun v18 => (B_X4_about_106 v18 Q h1))))))) (B_X4_about_106 (0 : Int32) Q h1))))])))))
set_option maxHeartbeats 4000000 in
set_option maxRecDepth 100000 in
theorem k_X4_about (X : pz_X) (d : Nat) (a0 : Nat) (x1 : Int32) (x2 : Int32) (h : pz_H) (Q : Int32 → pz_H → Prop) (hf : F_X4_about a0 x1 x2 h Q) : pz_Call X M_X4_about (d + 1) 0 0 [.ref a0, .int x1, .int x2] h (pq_qI Q) := by
  refine pz_call_of (by decide +kernel) (Nat.le_of_ble_eq_true rfl) ?_
  unfold F_X4_about at hf
  refine pz_aload_n dX4_about_0 rfl ?_
  refine pz_iload_n dX4_about_1 rfl ?_
  obtain ⟨_, hO, hf⟩ := hf
  refine pz_callV1 (rc := 0) (rs := 0) (mc := 0) (ms := 0) dX4_about_2 (k_X4_find X d _ _ _ _ hf) (Nat.le_of_ble_eq_true rfl) mf_X4_find ml_X4_77 hO rfl mi_X4_find ms_X4_find (fun _ h9 hq => ?_)
  obtain ⟨r2, rfl, hf⟩ := hq
  rcases r2 with _ | w3
  · refine pz_astore_nN dX4_about_5 rfl (by decide) rfl ?_
    refine pz_aload_nN dX4_about_6 rfl ?_
    refine pz_ifnonnullN dX4_about_7 ?_
    refine pz_bipush (v := (-101 : Int32)) dX4_about_10 (by decide) ?_
    exact pz_ireturn dX4_about_12 rfl rfl ⟨_, rfl, hf⟩
  · refine pz_astore_n dX4_about_5 rfl (by decide) rfl ?_
    refine pz_aload_n dX4_about_6 rfl ?_
    refine pz_ifnonnull dX4_about_7 (tgt := 13) (by decide) ?_
    refine pz_iload_n dX4_about_13 rfl ?_
    refine pz_table [52, 57, 62, 67, 76, 85] dX4_about_14 hf (tgt := 107) (by decide) (by decide) (by decide) (fun hf => ?_) (fun k9 hk9 hf => ?_)
    · refine pz_bipush (v := (-102 : Int32)) dX4_about_107 (by decide) ?_
      exact pz_ireturn dX4_about_109 rfl rfl ⟨_, rfl, hf⟩
    · match k9, hk9, hf with
      | 0, _, hf =>
        refine pz_aload_n dX4_about_52 rfl ?_
        obtain ⟨_, v4, h1, h2, hf⟩ := hf
        refine pz_get dX4_about_53 fl_X4_85 h1 h2 ?_
        exact pz_ireturn dX4_about_56 rfl rfl ⟨_, rfl, hf⟩
      | 1, _, hf =>
        refine pz_aload_n dX4_about_57 rfl ?_
        obtain ⟨_, v5, h1, h2, hf⟩ := hf
        refine pz_get dX4_about_58 fl_X4_100 h1 h2 ?_
        exact pz_ireturn dX4_about_61 rfl rfl ⟨_, rfl, hf⟩
      | 2, _, hf =>
        refine pz_aload_n dX4_about_62 rfl ?_
        obtain ⟨_, v6, h1, h2, hf⟩ := hf
        refine pz_get dX4_about_63 fl_X4_103 h1 h2 ?_
        exact pz_ireturn dX4_about_66 rfl rfl ⟨_, rfl, hf⟩
      | 3, _, hf =>
        refine pz_aload_n dX4_about_67 rfl ?_
        refine pz_iconst (v := (1 : Int32)) dX4_about_68 (by decide) ?_
        obtain ⟨_, hO, hf⟩ := hf
        refine pz_callV1 (rc := 0) (rs := 0) (mc := 0) (ms := 0) dX4_about_69 (k_X1_marked X d _ _ _ _ hf) (Nat.le_of_ble_eq_true rfl) mf_X1_marked ml_X4_106 hO rfl mi_X1_marked ms_X1_marked (fun _ h9 hq => ?_)
        obtain ⟨_, rfl, hf⟩ := hq
        refine pz_callS1 (rc := 0) (rs := 0) (mc := 0) (ms := 0) dX4_about_72 (k_J6_bitCount_0f7a4 X d _ _ _ hf) (Nat.le_of_ble_eq_true rfl) mf_J6_bitCount_0f7a4 ml_X4_110 mt_J6_bitCount_0f7a4 (fun _ h9 hq => ?_)
        obtain ⟨_, rfl, hf⟩ := hq
        exact pz_ireturn dX4_about_75 rfl rfl ⟨_, rfl, hf⟩
      | 4, _, hf =>
        refine pz_aload_n dX4_about_76 rfl ?_
        refine pz_iconst (v := (2 : Int32)) dX4_about_77 (by decide) ?_
        obtain ⟨_, hO, hf⟩ := hf
        refine pz_callV1 (rc := 0) (rs := 0) (mc := 0) (ms := 0) dX4_about_78 (k_X1_marked X d _ _ _ _ hf) (Nat.le_of_ble_eq_true rfl) mf_X1_marked ml_X4_106 hO rfl mi_X1_marked ms_X1_marked (fun _ h9 hq => ?_)
        obtain ⟨_, rfl, hf⟩ := hq
        refine pz_callS1 (rc := 0) (rs := 0) (mc := 0) (ms := 0) dX4_about_81 (k_J6_bitCount_0f7a4 X d _ _ _ hf) (Nat.le_of_ble_eq_true rfl) mf_J6_bitCount_0f7a4 ml_X4_110 mt_J6_bitCount_0f7a4 (fun _ h9 hq => ?_)
        obtain ⟨_, rfl, hf⟩ := hq
        exact pz_ireturn dX4_about_84 rfl rfl ⟨_, rfl, hf⟩
      | 5, _, hf =>
        refine pz_aload_n dX4_about_85 rfl ?_
        obtain ⟨_, v15, h1, h2, hf⟩ := hf
        refine pz_get dX4_about_86 fl_X4_85 h1 h2 ?_
        refine pz_iconst (v := (1 : Int32)) dX4_about_89 (by decide) ?_
        obtain ⟨ha, hb⟩ := hf
        refine pz_icmp_ne dX4_about_90 (tgt := 105) (by decide) (fun cc => ?_) (fun cc => ?_)
        · have hf := hb cc
          refine pz_iconst (v := (0 : Int32)) dX4_about_105 (by decide) ?_
          exact pz_drop (pz_part_of [] rfl) (kB_X4_about_106 X d _ _ _  hf)
        · have hf := ha cc
          refine pz_aload_n dX4_about_93 rfl ?_
          obtain ⟨_, b16, h1, h2, hf⟩ := hf
          refine pz_get dX4_about_94 fl_X4_115 h1 h2 ?_
          refine pz_aload_n dX4_about_97 rfl ?_
          obtain ⟨_, v17, h1, h2, hf⟩ := hf
          refine pz_get dX4_about_98 fl_X4_100 h1 h2 ?_
          obtain ⟨_, _, h1, h2, hf⟩ := hf
          refine pz_iald dX4_about_101 h1 h2 ?_
          refine pz_goto dX4_about_102 (tgt := 106) (by decide) ?_
          exact pz_drop (pz_part_of [] rfl) (kB_X4_about_106 X d _ _ _  hf)
      | k9 + 6, hk9, _ => exact absurd hk9 (by simp)
def B_X4_crease_21   (Q : Int32 → pz_H → Prop) (h : pz_H) : Prop := (Q (-101 : Int32) h)
set_option maxHeartbeats 4000000 in
set_option maxRecDepth 100000 in
theorem kB_X4_crease_21 (X : pz_X) (d : Nat)    (Q : Int32 → pz_H → Prop) (h : pz_H)  (hf : B_X4_crease_21   Q h) : pz_W (fun _ => True) X M_X4_crease (d + 1) 21 [] [] h 0 0 (pq_qI Q) := by
  unfold B_X4_crease_21 at hf
  refine pz_bipush (v := (-101 : Int32)) dX4_crease_21 (by decide) ?_
  exact pz_ireturn dX4_crease_23 rfl rfl ⟨_, rfl, hf⟩
def F_X4_crease (a0 : Nat) (x1 : Int32) (x2 : Int32) (x3 : Int32) (h : pz_H) (Q : Int32 → pz_H → Prop) : Prop := (pq_o h a0 4 (F_X4_find a0 x1 h (fun r2 h1 => pq_sw r2 (B_X4_crease_21 Q h1) (fun w3 => (pq_o h1 w3 1 (F_X1_hasCrease w3 x2 h1 (fun v5 h4 => (pq_br (v5 = 0) (B_X4_crease_21 Q h4) (pq_tab x3 0 3 (Q (-102 : Int32) h4) [(pq_gA h4 w3 1 9 (fun b6 => (pq_aI h4 b6 x2 (fun v7 => (Q v7 h4))))), (pq_gA h4 w3 1 10 (fun b8 => (pq_aI h4 b8 x2 (fun v9 => (Q v9 h4))))), (pq_gA h4 w3 1 12 (fun b10 => (pq_aI h4 b10 x2 (fun v11 => (Q v11 h4))))), (pq_gA h4 w3 1 13 (fun b12 => (pq_aI h4 b12 x2 (fun v13 => (Q v13 h4)))))])))))))))
set_option maxHeartbeats 4000000 in
set_option maxRecDepth 100000 in
theorem k_X4_crease (X : pz_X) (d : Nat) (a0 : Nat) (x1 : Int32) (x2 : Int32) (x3 : Int32) (h : pz_H) (Q : Int32 → pz_H → Prop) (hf : F_X4_crease a0 x1 x2 x3 h Q) : pz_Call X M_X4_crease (d + 1) 0 0 [.ref a0, .int x1, .int x2, .int x3] h (pq_qI Q) := by
  refine pz_call_of (by decide +kernel) (Nat.le_of_ble_eq_true rfl) ?_
  unfold F_X4_crease at hf
  refine pz_aload_n dX4_crease_0 rfl ?_
  refine pz_iload_n dX4_crease_1 rfl ?_
  obtain ⟨_, hO, hf⟩ := hf
  refine pz_callV1 (rc := 0) (rs := 0) (mc := 0) (ms := 0) dX4_crease_2 (k_X4_find X d _ _ _ _ hf) (Nat.le_of_ble_eq_true rfl) mf_X4_find ml_X4_77 hO rfl mi_X4_find ms_X4_find (fun _ h9 hq => ?_)
  obtain ⟨r2, rfl, hf⟩ := hq
  rcases r2 with _ | w3
  · refine pz_astoreN dX4_crease_5 (by decide) rfl ?_
    refine pz_aloadN dX4_crease_7 rfl ?_
    refine pz_ifnullN dX4_crease_9 (tgt := 21) (by decide) ?_
    exact pz_drop (pz_part_of [] rfl) (kB_X4_crease_21 X d _ _  hf)
  · refine pz_astore dX4_crease_5 (by decide) rfl ?_
    refine pz_aload dX4_crease_7 rfl ?_
    refine pz_ifnull dX4_crease_9 ?_
    refine pz_aload dX4_crease_12 rfl ?_
    refine pz_iload_n dX4_crease_14 rfl ?_
    obtain ⟨_, hO, hf⟩ := hf
    refine pz_callV1 (rc := 0) (rs := 0) (mc := 0) (ms := 0) dX4_crease_15 (k_X1_hasCrease X d _ _ _ _ hf) (Nat.le_of_ble_eq_true rfl) mf_X1_hasCrease ml_X4_94 hO rfl mi_X1_hasCrease ms_X1_hasCrease (fun _ h9 hq => ?_)
    obtain ⟨_, rfl, hf⟩ := hq
    obtain ⟨ha, hb⟩ := hf
    refine pz_if_ne dX4_crease_18 (tgt := 24) (by decide) (fun cc => ?_) (fun cc => ?_)
    · have hf := hb cc
      refine pz_iload_n dX4_crease_24 rfl ?_
      refine pz_table [56, 64, 72, 80] dX4_crease_25 hf (tgt := 88) (by decide) (by decide) (by decide) (fun hf => ?_) (fun k9 hk9 hf => ?_)
      · refine pz_bipush (v := (-102 : Int32)) dX4_crease_88 (by decide) ?_
        exact pz_ireturn dX4_crease_90 rfl rfl ⟨_, rfl, hf⟩
      · match k9, hk9, hf with
        | 0, _, hf =>
          refine pz_aload dX4_crease_56 rfl ?_
          obtain ⟨_, b6, h1, h2, hf⟩ := hf
          refine pz_get dX4_crease_58 fl_X4_118 h1 h2 ?_
          refine pz_iload_n dX4_crease_61 rfl ?_
          obtain ⟨_, _, h1, h2, hf⟩ := hf
          refine pz_iald dX4_crease_62 h1 h2 ?_
          exact pz_ireturn dX4_crease_63 rfl rfl ⟨_, rfl, hf⟩
        | 1, _, hf =>
          refine pz_aload dX4_crease_64 rfl ?_
          obtain ⟨_, b8, h1, h2, hf⟩ := hf
          refine pz_get dX4_crease_66 fl_X4_121 h1 h2 ?_
          refine pz_iload_n dX4_crease_69 rfl ?_
          obtain ⟨_, _, h1, h2, hf⟩ := hf
          refine pz_iald dX4_crease_70 h1 h2 ?_
          exact pz_ireturn dX4_crease_71 rfl rfl ⟨_, rfl, hf⟩
        | 2, _, hf =>
          refine pz_aload dX4_crease_72 rfl ?_
          obtain ⟨_, b10, h1, h2, hf⟩ := hf
          refine pz_get dX4_crease_74 fl_X4_97 h1 h2 ?_
          refine pz_iload_n dX4_crease_77 rfl ?_
          obtain ⟨_, _, h1, h2, hf⟩ := hf
          refine pz_iald dX4_crease_78 h1 h2 ?_
          exact pz_ireturn dX4_crease_79 rfl rfl ⟨_, rfl, hf⟩
        | 3, _, hf =>
          refine pz_aload dX4_crease_80 rfl ?_
          obtain ⟨_, b12, h1, h2, hf⟩ := hf
          refine pz_get dX4_crease_82 fl_X4_124 h1 h2 ?_
          refine pz_iload_n dX4_crease_85 rfl ?_
          obtain ⟨_, _, h1, h2, hf⟩ := hf
          refine pz_iald dX4_crease_86 h1 h2 ?_
          exact pz_ireturn dX4_crease_87 rfl rfl ⟨_, rfl, hf⟩
        | k9 + 4, hk9, _ => exact absurd hk9 (by simp)
    · have hf := ha cc
      exact pz_drop (pz_part_of [] rfl) (kB_X4_crease_21 X d _ _  hf)
def F_X4_judge (a0 : Nat) (x1 : Int32) (h : pz_H) (Q : Int32 → pz_H → Prop) : Prop := (pq_o h a0 4 (F_X4_find a0 x1 h (fun r2 h1 => pq_sw r2 (Q (-101 : Int32) h1) (fun w3 => (pq_gA h1 a0 4 2 (fun b4 => (pq_o h1 b4 2 (F_X2_begin b4 w3 h1 (fun h5 => (pq_gA h5 a0 4 2 (fun b6 => (pq_o h5 b6 2 (F_X2_next b6 h5 (fun v8 h7 => (pq_br (v8 = 0) (Q (0 : Int32) h7) (pq_p h7 a0 4 4 (.ref w3) (fun h9 => (pq_gA h9 a0 4 2 (fun b10 => (pq_gA h9 b10 2 1 (fun b11 => (pq_gA h9 a0 4 5 (fun b12 => (pq_copy h9 b11 (0 : Int32) b12 (0 : Int32) (9 : Int32) (fun h13 => (pq_gA h13 a0 4 2 (fun b14 => (pq_gA h13 b14 2 2 (fun b15 => (pq_gA h13 a0 4 6 (fun b16 => (pq_copy h13 b15 (0 : Int32) b16 (0 : Int32) (9 : Int32) (fun h17 => (Q (1 : Int32) h17))))))))))))))))))))))))))))))))))
set_option maxHeartbeats 4000000 in
set_option maxRecDepth 100000 in
theorem k_X4_judge (X : pz_X) (d : Nat) (a0 : Nat) (x1 : Int32) (h : pz_H) (Q : Int32 → pz_H → Prop) (hf : F_X4_judge a0 x1 h Q) : pz_Call X M_X4_judge (d + 5) 0 0 [.ref a0, .int x1] h (pq_qI Q) := by
  refine pz_call_of (by decide +kernel) (Nat.le_of_ble_eq_true rfl) ?_
  unfold F_X4_judge at hf
  refine pz_aload_n dX4_judge_0 rfl ?_
  refine pz_iload_n dX4_judge_1 rfl ?_
  obtain ⟨_, hO, hf⟩ := hf
  refine pz_callV1 (rc := 0) (rs := 0) (mc := 0) (ms := 0) dX4_judge_2 (k_X4_find X (d + 4) _ _ _ _ hf) (Nat.le_of_ble_eq_true rfl) mf_X4_find ml_X4_77 hO rfl mi_X4_find ms_X4_find (fun _ h9 hq => ?_)
  obtain ⟨r2, rfl, hf⟩ := hq
  rcases r2 with _ | w3
  · refine pz_astore_nN dX4_judge_5 rfl (by decide) rfl ?_
    refine pz_aload_nN dX4_judge_6 rfl ?_
    refine pz_ifnonnullN dX4_judge_7 ?_
    refine pz_bipush (v := (-101 : Int32)) dX4_judge_10 (by decide) ?_
    exact pz_ireturn dX4_judge_12 rfl rfl ⟨_, rfl, hf⟩
  · refine pz_astore_n dX4_judge_5 rfl (by decide) rfl ?_
    refine pz_aload_n dX4_judge_6 rfl ?_
    refine pz_ifnonnull dX4_judge_7 (tgt := 13) (by decide) ?_
    refine pz_aload_n dX4_judge_13 rfl ?_
    obtain ⟨_, b4, h1, h2, hf⟩ := hf
    refine pz_get dX4_judge_14 fl_X4_22 h1 h2 ?_
    refine pz_aload_n dX4_judge_17 rfl ?_
    obtain ⟨_, hO, hf⟩ := hf
    refine pz_callV1 (rc := 0) (rs := 0) (mc := 0) (ms := 0) dX4_judge_18 (k_X2_begin X d _ _ _ _ hf) (Nat.le_of_ble_eq_true rfl) mf_X2_begin ml_X4_127 hO rfl mi_X2_begin ms_X2_begin (fun _ h9 hq => ?_)
    obtain ⟨rfl, hf⟩ := hq
    refine pz_aload_n dX4_judge_21 rfl ?_
    obtain ⟨_, b6, h1, h2, hf⟩ := hf
    refine pz_get dX4_judge_22 fl_X4_22 h1 h2 ?_
    obtain ⟨_, hO, hf⟩ := hf
    refine pz_callV0 (rc := 0) (rs := 0) (mc := 0) (ms := 0) dX4_judge_25 (k_X2_next X d _ _ _ hf) (Nat.le_of_ble_eq_true rfl) mf_X2_next ml_X4_131 hO rfl mi_X2_next ms_X2_next (fun _ h9 hq => ?_)
    obtain ⟨_, rfl, hf⟩ := hq
    obtain ⟨ha, hb⟩ := hf
    refine pz_if_ne dX4_judge_28 (tgt := 33) (by decide) (fun cc => ?_) (fun cc => ?_)
    · have hf := hb cc
      refine pz_aload_n dX4_judge_33 rfl ?_
      refine pz_aload_n dX4_judge_34 rfl ?_
      obtain ⟨_, h1, h2, hf⟩ := hf
      refine pz_put dX4_judge_35 fp_X4_29 h1 rfl rfl h2 ?_
      refine pz_aload_n dX4_judge_38 rfl ?_
      obtain ⟨_, b10, h1, h2, hf⟩ := hf
      refine pz_get dX4_judge_39 fl_X4_22 h1 h2 ?_
      obtain ⟨_, b11, h1, h2, hf⟩ := hf
      refine pz_get dX4_judge_42 fl_X4_135 h1 h2 ?_
      refine pz_iconst (v := (0 : Int32)) dX4_judge_45 (by decide) ?_
      refine pz_aload_n dX4_judge_46 rfl ?_
      obtain ⟨_, b12, h1, h2, hf⟩ := hf
      refine pz_get dX4_judge_47 fl_X4_33 h1 h2 ?_
      refine pz_iconst (v := (0 : Int32)) dX4_judge_50 (by decide) ?_
      refine pz_bipush (v := (9 : Int32)) dX4_judge_51 (by decide) ?_
      obtain ⟨_, _, _, _, h1, h2, h3, h4, h5, h6, h7, hf⟩ := hf
      refine pz_copy dX4_judge_53 ml_copy_X4_138 mn_copy ms_copy cz_J10 (Nat.le_of_ble_eq_true rfl) h1 h2 h3 h4 h5 h6 h7 ?_
      refine pz_aload_n dX4_judge_56 rfl ?_
      obtain ⟨_, b14, h1, h2, hf⟩ := hf
      refine pz_get dX4_judge_57 fl_X4_22 h1 h2 ?_
      obtain ⟨_, b15, h1, h2, hf⟩ := hf
      refine pz_get dX4_judge_60 fl_X4_144 h1 h2 ?_
      refine pz_iconst (v := (0 : Int32)) dX4_judge_63 (by decide) ?_
      refine pz_aload_n dX4_judge_64 rfl ?_
      obtain ⟨_, b16, h1, h2, hf⟩ := hf
      refine pz_get dX4_judge_65 fl_X4_37 h1 h2 ?_
      refine pz_iconst (v := (0 : Int32)) dX4_judge_68 (by decide) ?_
      refine pz_bipush (v := (9 : Int32)) dX4_judge_69 (by decide) ?_
      obtain ⟨_, _, _, _, h1, h2, h3, h4, h5, h6, h7, hf⟩ := hf
      refine pz_copy dX4_judge_71 ml_copy_X4_138 mn_copy ms_copy cz_J10 (Nat.le_of_ble_eq_true rfl) h1 h2 h3 h4 h5 h6 h7 ?_
      refine pz_iconst (v := (1 : Int32)) dX4_judge_74 (by decide) ?_
      exact pz_ireturn dX4_judge_75 rfl rfl ⟨_, rfl, hf⟩
    · have hf := ha cc
      refine pz_iconst (v := (0 : Int32)) dX4_judge_31 (by decide) ?_
      exact pz_ireturn dX4_judge_32 rfl rfl ⟨_, rfl, hf⟩
def B_X4_layer_36 (xs0 : Int32)  (Q : Int32 → pz_H → Prop) (h : pz_H) : Prop := (Q xs0 h)
set_option maxHeartbeats 4000000 in
set_option maxRecDepth 100000 in
theorem kB_X4_layer_36 (X : pz_X) (d : Nat) (xs0 : Int32)   (Q : Int32 → pz_H → Prop) (h : pz_H)  (hf : B_X4_layer_36 xs0  Q h) : pz_W (fun _ => True) X M_X4_layer (d + 0) 36 [] [.int xs0] h 0 0 (pq_qI Q) := by
  unfold B_X4_layer_36 at hf
  exact pz_ireturn dX4_layer_36 rfl rfl ⟨_, rfl, hf⟩
def B_X4_layer_25   (Q : Int32 → pz_H → Prop) (h : pz_H) : Prop := (B_X4_layer_36 (-102 : Int32) Q h)
set_option maxHeartbeats 4000000 in
set_option maxRecDepth 100000 in
theorem kB_X4_layer_25 (X : pz_X) (d : Nat)    (Q : Int32 → pz_H → Prop) (h : pz_H)  (hf : B_X4_layer_25   Q h) : pz_W (fun _ => True) X M_X4_layer (d + 0) 25 [] [] h 0 0 (pq_qI Q) := by
  unfold B_X4_layer_25 at hf
  refine pz_bipush (v := (-102 : Int32)) dX4_layer_25 (by decide) ?_
  refine pz_goto dX4_layer_27 (tgt := 36) (by decide) ?_
  exact pz_drop (pz_part_of [] rfl) (kB_X4_layer_36 X d _ _ _  hf)
def F_X4_layer (a0 : Nat) (x1 : Int32) (h : pz_H) (Q : Int32 → pz_H → Prop) : Prop := (pq_gN h a0 4 4 (fun r1 => pq_sw r1 (Q (-103 : Int32) h) (fun w2 => (pq_br (x1 < 0) (B_X4_layer_25 Q h) (pq_gN h a0 4 4 (fun r3 => pq_sw r3 False (fun w4 => (pq_gI h w4 1 3 (fun v5 => (pq_br (x1 < v5) (pq_gA h a0 4 5 (fun b6 => (pq_aI h b6 x1 (fun v7 => (B_X4_layer_36 v7 Q h))))) (B_X4_layer_25 Q h)))))))))))
set_option maxHeartbeats 4000000 in
set_option maxRecDepth 100000 in
theorem k_X4_layer (X : pz_X) (d : Nat) (a0 : Nat) (x1 : Int32) (h : pz_H) (Q : Int32 → pz_H → Prop) (hf : F_X4_layer a0 x1 h Q) : pz_Call X M_X4_layer (d + 0) 0 0 [.ref a0, .int x1] h (pq_qI Q) := by
  refine pz_call_of (by decide +kernel) (Nat.le_of_ble_eq_true rfl) ?_
  unfold F_X4_layer at hf
  refine pz_aload_n dX4_layer_0 rfl ?_
  obtain ⟨_, r1, h1, h2, hf⟩ := hf
  refine pz_get dX4_layer_1 fl_X4_29 h1 h2 ?_
  rcases r1 with _ | w2
  · refine pz_ifnonnullN dX4_layer_4 ?_
    refine pz_bipush (v := (-103 : Int32)) dX4_layer_7 (by decide) ?_
    exact pz_ireturn dX4_layer_9 rfl rfl ⟨_, rfl, hf⟩
  · refine pz_ifnonnull dX4_layer_4 (tgt := 10) (by decide) ?_
    refine pz_iload_n dX4_layer_10 rfl ?_
    obtain ⟨ha, hb⟩ := hf
    refine pz_if_lt dX4_layer_11 (tgt := 25) (by decide) (fun cc => ?_) (fun cc => ?_)
    · have hf := ha cc
      exact pz_drop (pz_part_of [] rfl) (kB_X4_layer_25 X d _ _  hf)
    · have hf := hb cc
      refine pz_iload_n dX4_layer_14 rfl ?_
      refine pz_aload_n dX4_layer_15 rfl ?_
      obtain ⟨_, r3, h1, h2, hf⟩ := hf
      refine pz_get dX4_layer_16 fl_X4_29 h1 h2 ?_
      rcases r3 with _ | w4
      · exact False.elim hf
      · obtain ⟨_, v5, h1, h2, hf⟩ := hf
        refine pz_get dX4_layer_19 fl_X4_100 h1 h2 ?_
        obtain ⟨ha, hb⟩ := hf
        refine pz_icmp_lt dX4_layer_22 (tgt := 30) (by decide) (fun cc => ?_) (fun cc => ?_)
        · have hf := ha cc
          refine pz_aload_n dX4_layer_30 rfl ?_
          obtain ⟨_, b6, h1, h2, hf⟩ := hf
          refine pz_get dX4_layer_31 fl_X4_33 h1 h2 ?_
          refine pz_iload_n dX4_layer_34 rfl ?_
          obtain ⟨_, _, h1, h2, hf⟩ := hf
          refine pz_iald dX4_layer_35 h1 h2 ?_
          exact pz_drop (pz_part_of [] rfl) (kB_X4_layer_36 X d _ _ _  hf)
        · have hf := hb cc
          exact pz_drop (pz_part_of [] rfl) (kB_X4_layer_25 X d _ _  hf)
def B_X4_turned_38 (xs0 : Int32)  (Q : Int32 → pz_H → Prop) (h : pz_H) : Prop := (Q xs0 h)
set_option maxHeartbeats 4000000 in
set_option maxRecDepth 100000 in
theorem kB_X4_turned_38 (X : pz_X) (d : Nat) (xs0 : Int32)   (Q : Int32 → pz_H → Prop) (h : pz_H)  (hf : B_X4_turned_38 xs0  Q h) : pz_W (fun _ => True) X M_X4_turned (d + 2) 38 [] [.int xs0] h 0 0 (pq_qI Q) := by
  unfold B_X4_turned_38 at hf
  exact pz_ireturn dX4_turned_38 rfl rfl ⟨_, rfl, hf⟩
def F_X4_turned (a0 : Nat) (x1 : Int32) (h : pz_H) (Q : Int32 → pz_H → Prop) : Prop := (pq_gN h a0 4 4 (fun r1 => pq_sw r1 (Q (-103 : Int32) h) (fun w2 => (pq_gN h a0 4 4 (fun r3 => pq_sw r3 False (fun w4 => (pq_o h w4 1 (F_X1_hasCrease w4 x1 h (fun v6 h5 => (pq_br (v6 = 0) (B_X4_turned_38 (-101 : Int32) Q h5) (pq_gN h5 a0 4 4 (fun r7 => pq_sw r7 (pq_gA h5 a0 4 6 (fun b9 => False)) (fun w8 => (pq_gA h5 a0 4 6 (fun b10 => (pq_o h5 w8 1 (F_X1_becomes w8 x1 b10 h5 (fun v12 h11 => (B_X4_turned_38 v12 Q h11)))))))))))))))))))
set_option maxHeartbeats 4000000 in
set_option maxRecDepth 100000 in
theorem k_X4_turned (X : pz_X) (d : Nat) (a0 : Nat) (x1 : Int32) (h : pz_H) (Q : Int32 → pz_H → Prop) (hf : F_X4_turned a0 x1 h Q) : pz_Call X M_X4_turned (d + 2) 0 0 [.ref a0, .int x1] h (pq_qI Q) := by
  refine pz_call_of (by decide +kernel) (Nat.le_of_ble_eq_true rfl) ?_
  unfold F_X4_turned at hf
  refine pz_aload_n dX4_turned_0 rfl ?_
  obtain ⟨_, r1, h1, h2, hf⟩ := hf
  refine pz_get dX4_turned_1 fl_X4_29 h1 h2 ?_
  rcases r1 with _ | w2
  · refine pz_ifnonnullN dX4_turned_4 ?_
    refine pz_bipush (v := (-103 : Int32)) dX4_turned_7 (by decide) ?_
    exact pz_ireturn dX4_turned_9 rfl rfl ⟨_, rfl, hf⟩
  · refine pz_ifnonnull dX4_turned_4 (tgt := 10) (by decide) ?_
    refine pz_aload_n dX4_turned_10 rfl ?_
    obtain ⟨_, r3, h1, h2, hf⟩ := hf
    refine pz_get dX4_turned_11 fl_X4_29 h1 h2 ?_
    rcases r3 with _ | w4
    · refine pz_iload_n dX4_turned_14 rfl ?_
      exact False.elim hf
    · refine pz_iload_n dX4_turned_14 rfl ?_
      obtain ⟨_, hO, hf⟩ := hf
      refine pz_callV1 (rc := 0) (rs := 0) (mc := 0) (ms := 0) dX4_turned_15 (k_X1_hasCrease X (d + 1) _ _ _ _ hf) (Nat.le_of_ble_eq_true rfl) mf_X1_hasCrease ml_X4_94 hO rfl mi_X1_hasCrease ms_X1_hasCrease (fun _ h9 hq => ?_)
      obtain ⟨_, rfl, hf⟩ := hq
      obtain ⟨ha, hb⟩ := hf
      refine pz_if_eq dX4_turned_18 (tgt := 36) (by decide) (fun cc => ?_) (fun cc => ?_)
      · have hf := ha cc
        refine pz_bipush (v := (-101 : Int32)) dX4_turned_36 (by decide) ?_
        exact pz_drop (pz_part_of [] rfl) (kB_X4_turned_38 X d _ _ _  hf)
      · have hf := hb cc
        refine pz_aload_n dX4_turned_21 rfl ?_
        obtain ⟨_, r7, h1, h2, hf⟩ := hf
        refine pz_get dX4_turned_22 fl_X4_29 h1 h2 ?_
        rcases r7 with _ | w8
        · refine pz_iload_n dX4_turned_25 rfl ?_
          refine pz_aload_n dX4_turned_26 rfl ?_
          obtain ⟨_, b9, h1, h2, hf⟩ := hf
          refine pz_get dX4_turned_27 fl_X4_37 h1 h2 ?_
          exact False.elim hf
        · refine pz_iload_n dX4_turned_25 rfl ?_
          refine pz_aload_n dX4_turned_26 rfl ?_
          obtain ⟨_, b10, h1, h2, hf⟩ := hf
          refine pz_get dX4_turned_27 fl_X4_37 h1 h2 ?_
          obtain ⟨_, hO, hf⟩ := hf
          refine pz_callV2 (rc := 0) (rs := 0) (mc := 0) (ms := 0) dX4_turned_30 (k_X1_becomes X d _ _ _ _ _ hf) (Nat.le_of_ble_eq_true rfl) mf_X1_becomes ml_X4_147 hO rfl mi_X1_becomes ms_X1_becomes (fun _ h9 hq => ?_)
          obtain ⟨_, rfl, hf⟩ := hq
          refine pz_goto dX4_turned_33 (tgt := 38) (by decide) ?_
          exact pz_drop (pz_part_of [] rfl) (kB_X4_turned_38 X d _ _ _  hf)
def B_X4_orders_45 (x3 : Int32)  (Q : Int32 → pz_H → Prop) (h : pz_H) : Prop := (Q x3 h)
set_option maxHeartbeats 4000000 in
set_option maxRecDepth 100000 in
theorem kB_X4_orders_45 (X : pz_X) (d : Nat) (x3 : Int32)   (Q : Int32 → pz_H → Prop) (h : pz_H)  (hf : B_X4_orders_45 x3  Q h) : pz_W (fun _ => True) X M_X4_orders (d + 5) 45 [(3, .int x3)] [] h 0 0 (pq_qI Q) := by
  unfold B_X4_orders_45 at hf
  refine pz_iload_n dX4_orders_45 rfl ?_
  exact pz_ireturn dX4_orders_46 rfl rfl ⟨_, rfl, hf⟩
def L_X4_orders_23 (a0 : Nat)  (Q : Int32 → pz_H → Prop) : Nat → Int32 → pz_H → Prop
  | 0, _, _ => False
  | n + 1, x3, h => (pq_br ((362880 : Int32) ≤ x3) (B_X4_orders_45 x3 Q h) (pq_gA h a0 4 2 (fun b1 => (pq_o h b1 2 (F_X2_next b1 h (fun v3 h2 => (pq_br (v3 = 0) (B_X4_orders_45 x3 Q h2) (L_X4_orders_23 a0 Q n (x3 + (1 : Int32)) h2))))))))
set_option maxHeartbeats 4000000 in
set_option maxRecDepth 100000 in
theorem kL_X4_orders_23 (X : pz_X) (d : Nat) (a0 : Nat)   (Q : Int32 → pz_H → Prop)  : ∀ (n : Nat) (x3 : Int32) (h : pz_H), L_X4_orders_23 a0  Q n x3 h → pz_W (fun _ => True) X M_X4_orders (d + 5) 23 [(0, .ref a0), (3, .int x3)] [] h 0 0 (pq_qI Q) := by
  intro n
  induction n with
  | zero =>
    intro _ _ hf
    exact False.elim hf
  | succ n ih =>
    intro x3 h hf
    unfold L_X4_orders_23 at hf
    refine pz_iload_n dX4_orders_23 rfl ?_
    refine pz_ldc dX4_orders_24 cn_X4_151 ?_
    obtain ⟨ha, hb⟩ := hf
    refine pz_icmp_ge dX4_orders_26 (tgt := 45) (by decide) (fun cc => ?_) (fun cc => ?_)
    · have hf := ha cc
      exact pz_drop (pz_part_of [3] rfl) (kB_X4_orders_45 X d _ _ _  hf)
    · have hf := hb cc
      refine pz_aload_n dX4_orders_29 rfl ?_
      obtain ⟨_, b1, h1, h2, hf⟩ := hf
      refine pz_get dX4_orders_30 fl_X4_22 h1 h2 ?_
      obtain ⟨_, hO, hf⟩ := hf
      refine pz_callV0 (rc := 0) (rs := 0) (mc := 0) (ms := 0) dX4_orders_33 (k_X2_next X d _ _ _ hf) (Nat.le_of_ble_eq_true rfl) mf_X2_next ml_X4_131 hO rfl mi_X2_next ms_X2_next (fun _ h9 hq => ?_)
      obtain ⟨_, rfl, hf⟩ := hq
      obtain ⟨ha, hb⟩ := hf
      refine pz_if_eq dX4_orders_36 (tgt := 45) (by decide) (fun cc => ?_) (fun cc => ?_)
      · have hf := ha cc
        exact pz_drop (pz_part_of [3] rfl) (kB_X4_orders_45 X d _ _ _  hf)
      · have hf := hb cc
        refine pz_iinc dX4_orders_39 rfl (by rfl) (by decide) rfl ?_
        refine pz_goto dX4_orders_42 (tgt := 23) (by decide) ?_
        exact pz_drop (pz_part_of [0, 3] rfl) (ih _ _ hf)
def F_X4_orders (a0 : Nat) (x1 : Int32) (h : pz_H) (Q : Int32 → pz_H → Prop) : Prop := (pq_o h a0 4 (F_X4_find a0 x1 h (fun r5 h4 => pq_sw r5 (Q (-101 : Int32) h4) (fun w6 => (pq_gA h4 a0 4 2 (fun b7 => (pq_o h4 b7 2 (F_X2_begin b7 w6 h4 (fun h8 => (pq_ex (fun m23 => L_X4_orders_23 a0 Q m23 (0 : Int32) h8)))))))))))
set_option maxHeartbeats 4000000 in
set_option maxRecDepth 100000 in
theorem k_X4_orders (X : pz_X) (d : Nat) (a0 : Nat) (x1 : Int32) (h : pz_H) (Q : Int32 → pz_H → Prop) (hf : F_X4_orders a0 x1 h Q) : pz_Call X M_X4_orders (d + 5) 0 0 [.ref a0, .int x1] h (pq_qI Q) := by
  refine pz_call_of (by decide +kernel) (Nat.le_of_ble_eq_true rfl) ?_
  unfold F_X4_orders at hf
  refine pz_aload_n dX4_orders_0 rfl ?_
  refine pz_iload_n dX4_orders_1 rfl ?_
  obtain ⟨_, hO, hf⟩ := hf
  refine pz_callV1 (rc := 0) (rs := 0) (mc := 0) (ms := 0) dX4_orders_2 (k_X4_find X (d + 4) _ _ _ _ hf) (Nat.le_of_ble_eq_true rfl) mf_X4_find ml_X4_77 hO rfl mi_X4_find ms_X4_find (fun _ h9 hq => ?_)
  obtain ⟨r5, rfl, hf⟩ := hq
  rcases r5 with _ | w6
  · refine pz_astore_nN dX4_orders_5 rfl (by decide) rfl ?_
    refine pz_aload_nN dX4_orders_6 rfl ?_
    refine pz_ifnonnullN dX4_orders_7 ?_
    refine pz_bipush (v := (-101 : Int32)) dX4_orders_10 (by decide) ?_
    exact pz_ireturn dX4_orders_12 rfl rfl ⟨_, rfl, hf⟩
  · refine pz_astore_n dX4_orders_5 rfl (by decide) rfl ?_
    refine pz_aload_n dX4_orders_6 rfl ?_
    refine pz_ifnonnull dX4_orders_7 (tgt := 13) (by decide) ?_
    refine pz_aload_n dX4_orders_13 rfl ?_
    obtain ⟨_, b7, h1, h2, hf⟩ := hf
    refine pz_get dX4_orders_14 fl_X4_22 h1 h2 ?_
    refine pz_aload_n dX4_orders_17 rfl ?_
    obtain ⟨_, hO, hf⟩ := hf
    refine pz_callV1 (rc := 0) (rs := 0) (mc := 0) (ms := 0) dX4_orders_18 (k_X2_begin X d _ _ _ _ hf) (Nat.le_of_ble_eq_true rfl) mf_X2_begin ml_X4_127 hO rfl mi_X2_begin ms_X2_begin (fun _ h9 hq => ?_)
    obtain ⟨rfl, hf⟩ := hq
    refine pz_iconst (v := (0 : Int32)) dX4_orders_21 (by decide) ?_
    refine pz_istore_n dX4_orders_22 rfl (by decide) rfl ?_
    obtain ⟨n9, hf⟩ := hf
    exact pz_drop (pz_part_of [0, 3] rfl) (kL_X4_orders_23 X d _ _  n9 _ _ hf)
def B_X4_order_24   (Q : Int64 → pz_H → Prop) (h : pz_H) : Prop := (Q (-102 : Int64) h)
set_option maxHeartbeats 4000000 in
set_option maxRecDepth 100000 in
theorem kB_X4_order_24 (X : pz_X) (d : Nat)    (Q : Int64 → pz_H → Prop) (h : pz_H)  (hf : B_X4_order_24   Q h) : pz_W (fun _ => True) X M_X4_order (d + 5) 24 [] [] h 0 0 (pq_qJ Q) := by
  unfold B_X4_order_24 at hf
  refine pz_ldc2 dX4_order_24 cn_X4_154 ?_
  exact pz_lreturn dX4_order_27 rfl ⟨_, rfl, hf⟩
def L_X4_order_39 (a0 : Nat) (x2 : Int32)  (Q : Int64 → pz_H → Prop) : Nat → Int32 → pz_H → Prop
  | 0, _, _ => False
  | n + 1, x4, h => (pq_br (x2 < x4) (pq_gA h a0 4 2 (fun b1 => (pq_o h b1 2 (F_X2_asNumber b1 h (fun v3 h2 => (Q v3 h2)))))) (pq_gA h a0 4 2 (fun b4 => (pq_o h b4 2 (F_X2_next b4 h (fun v6 h5 => (pq_br (v6 = 0) (Q (-102 : Int64) h5) (L_X4_order_39 a0 x2 Q n (x4 + (1 : Int32)) h5))))))))
set_option maxHeartbeats 4000000 in
set_option maxRecDepth 100000 in
theorem kL_X4_order_39 (X : pz_X) (d : Nat) (a0 : Nat) (x2 : Int32)   (Q : Int64 → pz_H → Prop)  : ∀ (n : Nat) (x4 : Int32) (h : pz_H), L_X4_order_39 a0 x2  Q n x4 h → pz_W (fun _ => True) X M_X4_order (d + 5) 39 [(0, .ref a0), (2, .int x2), (4, .int x4)] [] h 0 0 (pq_qJ Q) := by
  intro n
  induction n with
  | zero =>
    intro _ _ hf
    exact False.elim hf
  | succ n ih =>
    intro x4 h hf
    unfold L_X4_order_39 at hf
    refine pz_iload dX4_order_39 rfl ?_
    refine pz_iload_n dX4_order_41 rfl ?_
    obtain ⟨ha, hb⟩ := hf
    refine pz_icmp_gt dX4_order_42 (tgt := 65) (by decide) (fun cc => ?_) (fun cc => ?_)
    · have hf := ha cc
      refine pz_aload_n dX4_order_65 rfl ?_
      obtain ⟨_, b1, h1, h2, hf⟩ := hf
      refine pz_get dX4_order_66 fl_X4_22 h1 h2 ?_
      obtain ⟨_, hO, hf⟩ := hf
      refine pz_callV0 (rc := 0) (rs := 0) (mc := 0) (ms := 0) dX4_order_69 (k_X2_asNumber X (d + 4) _ _ _ hf) (Nat.le_of_ble_eq_true rfl) mf_X2_asNumber ml_X4_156 hO rfl mi_X2_asNumber ms_X2_asNumber (fun _ h9 hq => ?_)
      obtain ⟨_, rfl, hf⟩ := hq
      exact pz_lreturn dX4_order_72 rfl ⟨_, rfl, hf⟩
    · have hf := hb cc
      refine pz_aload_n dX4_order_45 rfl ?_
      obtain ⟨_, b4, h1, h2, hf⟩ := hf
      refine pz_get dX4_order_46 fl_X4_22 h1 h2 ?_
      obtain ⟨_, hO, hf⟩ := hf
      refine pz_callV0 (rc := 0) (rs := 0) (mc := 0) (ms := 0) dX4_order_49 (k_X2_next X d _ _ _ hf) (Nat.le_of_ble_eq_true rfl) mf_X2_next ml_X4_131 hO rfl mi_X2_next ms_X2_next (fun _ h9 hq => ?_)
      obtain ⟨_, rfl, hf⟩ := hq
      obtain ⟨ha, hb⟩ := hf
      refine pz_if_ne dX4_order_52 (tgt := 59) (by decide) (fun cc => ?_) (fun cc => ?_)
      · have hf := hb cc
        refine pz_iinc dX4_order_59 rfl (by rfl) (by decide) rfl ?_
        refine pz_goto dX4_order_62 (tgt := 39) (by decide) ?_
        exact pz_drop (pz_part_of [0, 2, 4] rfl) (ih _ _ hf)
      · have hf := ha cc
        refine pz_ldc2 dX4_order_55 cn_X4_154 ?_
        exact pz_lreturn dX4_order_58 rfl ⟨_, rfl, hf⟩
def F_X4_order (a0 : Nat) (x1 : Int32) (x2 : Int32) (h : pz_H) (Q : Int64 → pz_H → Prop) : Prop := (pq_o h a0 4 (F_X4_find a0 x1 h (fun r8 h7 => pq_sw r8 (Q (-101 : Int64) h7) (fun w9 => (pq_br (x2 < 0) (B_X4_order_24 Q h7) (pq_br (x2 < (362880 : Int32)) (pq_gA h7 a0 4 2 (fun b10 => (pq_o h7 b10 2 (F_X2_begin b10 w9 h7 (fun h11 => (pq_ex (fun m39 => L_X4_order_39 a0 x2 Q m39 (0 : Int32) h11))))))) (B_X4_order_24 Q h7)))))))
set_option maxHeartbeats 4000000 in
set_option maxRecDepth 100000 in
theorem k_X4_order (X : pz_X) (d : Nat) (a0 : Nat) (x1 : Int32) (x2 : Int32) (h : pz_H) (Q : Int64 → pz_H → Prop) (hf : F_X4_order a0 x1 x2 h Q) : pz_Call X M_X4_order (d + 5) 0 0 [.ref a0, .int x1, .int x2] h (pq_qJ Q) := by
  refine pz_call_of (by decide +kernel) (Nat.le_of_ble_eq_true rfl) ?_
  unfold F_X4_order at hf
  refine pz_aload_n dX4_order_0 rfl ?_
  refine pz_iload_n dX4_order_1 rfl ?_
  obtain ⟨_, hO, hf⟩ := hf
  refine pz_callV1 (rc := 0) (rs := 0) (mc := 0) (ms := 0) dX4_order_2 (k_X4_find X (d + 4) _ _ _ _ hf) (Nat.le_of_ble_eq_true rfl) mf_X4_find ml_X4_77 hO rfl mi_X4_find ms_X4_find (fun _ h9 hq => ?_)
  obtain ⟨r8, rfl, hf⟩ := hq
  rcases r8 with _ | w9
  · refine pz_astore_nN dX4_order_5 rfl (by decide) rfl ?_
    refine pz_aload_nN dX4_order_6 rfl ?_
    refine pz_ifnonnullN dX4_order_7 ?_
    refine pz_ldc2 dX4_order_10 cn_X4_152 ?_
    exact pz_lreturn dX4_order_13 rfl ⟨_, rfl, hf⟩
  · refine pz_astore_n dX4_order_5 rfl (by decide) rfl ?_
    refine pz_aload_n dX4_order_6 rfl ?_
    refine pz_ifnonnull dX4_order_7 (tgt := 14) (by decide) ?_
    refine pz_iload_n dX4_order_14 rfl ?_
    obtain ⟨ha, hb⟩ := hf
    refine pz_if_lt dX4_order_15 (tgt := 24) (by decide) (fun cc => ?_) (fun cc => ?_)
    · have hf := ha cc
      exact pz_drop (pz_part_of [] rfl) (kB_X4_order_24 X d _ _  hf)
    · have hf := hb cc
      refine pz_iload_n dX4_order_18 rfl ?_
      refine pz_ldc dX4_order_19 cn_X4_151 ?_
      obtain ⟨ha, hb⟩ := hf
      refine pz_icmp_lt dX4_order_21 (tgt := 28) (by decide) (fun cc => ?_) (fun cc => ?_)
      · have hf := ha cc
        refine pz_aload_n dX4_order_28 rfl ?_
        obtain ⟨_, b10, h1, h2, hf⟩ := hf
        refine pz_get dX4_order_29 fl_X4_22 h1 h2 ?_
        refine pz_aload_n dX4_order_32 rfl ?_
        obtain ⟨_, hO, hf⟩ := hf
        refine pz_callV1 (rc := 0) (rs := 0) (mc := 0) (ms := 0) dX4_order_33 (k_X2_begin X d _ _ _ _ hf) (Nat.le_of_ble_eq_true rfl) mf_X2_begin ml_X4_127 hO rfl mi_X2_begin ms_X2_begin (fun _ h9 hq => ?_)
        obtain ⟨rfl, hf⟩ := hq
        refine pz_iconst (v := (0 : Int32)) dX4_order_36 (by decide) ?_
        refine pz_istore dX4_order_37 (by decide) rfl ?_
        obtain ⟨n9, hf⟩ := hf
        exact pz_drop (pz_part_of [0, 2, 4] rfl) (kL_X4_order_39 X d _ _ _  n9 _ _ hf)
      · have hf := hb cc
        exact pz_drop (pz_part_of [] rfl) (kB_X4_order_24 X d _ _  hf)
def B_X4_readOrder_91 (xs0 : Int32)  (Q : Int32 → pz_H → Prop) (h : pz_H) : Prop := (pq_z xs0 (Q xs0 h))
set_option maxHeartbeats 4000000 in
set_option maxRecDepth 100000 in
theorem kB_X4_readOrder_91 (X : pz_X) (d : Nat) (xs0 : Int32)   (Q : Int32 → pz_H → Prop) (h : pz_H)  (hf : B_X4_readOrder_91 xs0  Q h) : pz_W (fun _ => True) X M_X4_readOrder (d + 1) 91 [] [.int xs0] h 0 0 (pq_qI Q) := by
  unfold B_X4_readOrder_91 at hf
  obtain ⟨hz, hf⟩ := hf
  exact pz_ireturn dX4_readOrder_91 rfl hz ⟨_, rfl, hf⟩
def B_X4_readOrder_53   (Q : Int32 → pz_H → Prop) (h : pz_H) : Prop := (Q (0 : Int32) h)
set_option maxHeartbeats 4000000 in
set_option maxRecDepth 100000 in
theorem kB_X4_readOrder_53 (X : pz_X) (d : Nat)    (Q : Int32 → pz_H → Prop) (h : pz_H)  (hf : B_X4_readOrder_53   Q h) : pz_W (fun _ => True) X M_X4_readOrder (d + 1) 53 [] [] h 0 0 (pq_qI Q) := by
  unfold B_X4_readOrder_53 at hf
  refine pz_iconst (v := (0 : Int32)) dX4_readOrder_53 (by decide) ?_
  exact pz_ireturn dX4_readOrder_54 rfl rfl ⟨_, rfl, hf⟩
def L_X4_readOrder_9 (a0 : Nat) (x1 : Int32)  (Q : Int32 → pz_H → Prop) : Nat → Int64 → Int32 → Int32 → pz_H → Prop
  | 0, _, _, _, _ => False
  | n + 1, y4, x6, x7, h => (pq_br (x1 ≤ x7) (pq_br ((lg_cmp y4 (0 : Int64)) = 0) (B_X4_readOrder_91 (1 : Int32) Q h) (B_X4_readOrder_91 (0 : Int32) Q h)) (pq_neJ (10 : Int64) (pq_neJ (10 : Int64) (pq_br ((Int64.toInt32 (y4 - y4 / (10 : Int64) * (10 : Int64))) < 0) (B_X4_readOrder_53 Q h) (pq_br (x1 ≤ (Int64.toInt32 (y4 - y4 / (10 : Int64) * (10 : Int64)))) (B_X4_readOrder_53 Q h) (F_X4_has x6 (Int64.toInt32 (y4 - y4 / (10 : Int64) * (10 : Int64))) h (fun v2 h1 => (pq_br (v2 = 0) (pq_gA h1 a0 4 7 (fun b3 => (pq_sI h1 b3 (Int64.toInt32 (y4 - y4 / (10 : Int64) * (10 : Int64))) x7 (fun h4 => (L_X4_readOrder_9 a0 x1 Q n (y4 / (10 : Int64)) (x6 ||| ((1 : Int32) <<< ((Int64.toInt32 (y4 - y4 / (10 : Int64) * (10 : Int64))) &&& 31))) (x7 + (1 : Int32)) h4))))) (B_X4_readOrder_53 Q h1)))))))))
set_option maxHeartbeats 4000000 in
set_option maxRecDepth 100000 in
theorem kL_X4_readOrder_9 (X : pz_X) (d : Nat) (a0 : Nat) (x1 : Int32)   (Q : Int32 → pz_H → Prop)  : ∀ (n : Nat) (y4 : Int64) (x6 : Int32) (x7 : Int32) (h : pz_H), L_X4_readOrder_9 a0 x1  Q n y4 x6 x7 h → pz_W (fun _ => True) X M_X4_readOrder (d + 1) 9 [(0, .ref a0), (1, .int x1), (4, .long y4), (6, .int x6), (7, .int x7)] [] h 0 0 (pq_qI Q) := by
  intro n
  induction n with
  | zero =>
    intro _ _ _ _ hf
    exact False.elim hf
  | succ n ih =>
    intro y4 x6 x7 h hf
    unfold L_X4_readOrder_9 at hf
    refine pz_iload dX4_readOrder_9 rfl ?_
    refine pz_iload_n dX4_readOrder_11 rfl ?_
    obtain ⟨ha, hb⟩ := hf
    refine pz_icmp_ge dX4_readOrder_12 (tgt := 79) (by decide) (fun cc => ?_) (fun cc => ?_)
    · have hf := ha cc
      refine pz_lload dX4_readOrder_79 rfl ?_
      refine pz_lconst (v := (0 : Int64)) dX4_readOrder_81 (by decide) ?_
      refine pz_lcmp dX4_readOrder_82 ?_
      obtain ⟨ha, hb⟩ := hf
      refine pz_if_ne dX4_readOrder_83 (tgt := 90) (by decide) (fun cc => ?_) (fun cc => ?_)
      · have hf := hb cc
        refine pz_iconst (v := (0 : Int32)) dX4_readOrder_90 (by decide) ?_
        exact pz_drop (pz_part_of [] rfl) (kB_X4_readOrder_91 X d _ _ _  hf)
      · have hf := ha cc
        refine pz_iconst (v := (1 : Int32)) dX4_readOrder_86 (by decide) ?_
        refine pz_goto dX4_readOrder_87 (tgt := 91) (by decide) ?_
        exact pz_drop (pz_part_of [] rfl) (kB_X4_readOrder_91 X d _ _ _  hf)
    · have hf := hb cc
      refine pz_lload dX4_readOrder_15 rfl ?_
      refine pz_ldc2 dX4_readOrder_17 cn_X4_255 ?_
      obtain ⟨hne, hf⟩ := hf
      refine pz_lrem dX4_readOrder_20 hne ?_
      refine pz_l2i dX4_readOrder_21 ?_
      refine pz_istore dX4_readOrder_22 (by decide) rfl ?_
      refine pz_lload dX4_readOrder_24 rfl ?_
      refine pz_ldc2 dX4_readOrder_26 cn_X4_255 ?_
      obtain ⟨hne, hf⟩ := hf
      refine pz_ldiv dX4_readOrder_29 hne ?_
      refine pz_lstore dX4_readOrder_30 (by decide) rfl ?_
      refine pz_iload dX4_readOrder_32 rfl ?_
      obtain ⟨ha, hb⟩ := hf
      refine pz_if_lt dX4_readOrder_34 (tgt := 53) (by decide) (fun cc => ?_) (fun cc => ?_)
      · have hf := ha cc
        exact pz_drop (pz_part_of [] rfl) (kB_X4_readOrder_53 X d _ _  hf)
      · have hf := hb cc
        refine pz_iload dX4_readOrder_37 rfl ?_
        refine pz_iload_n dX4_readOrder_39 rfl ?_
        obtain ⟨ha, hb⟩ := hf
        refine pz_icmp_ge dX4_readOrder_40 (tgt := 53) (by decide) (fun cc => ?_) (fun cc => ?_)
        · have hf := ha cc
          exact pz_drop (pz_part_of [] rfl) (kB_X4_readOrder_53 X d _ _  hf)
        · have hf := hb cc
          refine pz_iload dX4_readOrder_43 rfl ?_
          refine pz_iload dX4_readOrder_45 rfl ?_
          refine pz_callS2 (rc := 0) (rs := 0) (mc := 0) (ms := 0) dX4_readOrder_47 (k_X4_has X d _ _ _ _ hf) (Nat.le_of_ble_eq_true rfl) mf_X4_has ml_X4_205 mt_X4_has (fun _ h9 hq => ?_)
          obtain ⟨_, rfl, hf⟩ := hq
          obtain ⟨ha, hb⟩ := hf
          refine pz_if_eq dX4_readOrder_50 (tgt := 55) (by decide) (fun cc => ?_) (fun cc => ?_)
          · have hf := ha cc
            refine pz_iload dX4_readOrder_55 rfl ?_
            refine pz_iconst (v := (1 : Int32)) dX4_readOrder_57 (by decide) ?_
            refine pz_iload dX4_readOrder_58 rfl ?_
            refine pz_ishl dX4_readOrder_60 ?_
            refine pz_ior dX4_readOrder_61 ?_
            refine pz_istore dX4_readOrder_62 (by decide) rfl ?_
            refine pz_aload_n dX4_readOrder_64 rfl ?_
            obtain ⟨_, b3, h1, h2, hf⟩ := hf
            refine pz_get dX4_readOrder_65 fl_X4_40 h1 h2 ?_
            refine pz_iload dX4_readOrder_68 rfl ?_
            refine pz_iload dX4_readOrder_70 rfl ?_
            obtain ⟨_, _, h1, h2, hf⟩ := hf
            refine pz_iast dX4_readOrder_72 h1 h2 ?_
            refine pz_iinc dX4_readOrder_73 rfl (by rfl) (by decide) rfl ?_
            refine pz_goto dX4_readOrder_76 (tgt := 9) (by decide) ?_
            exact pz_drop (pz_part_of [0, 1, 4, 6, 7] rfl) (ih _ _ _ _ hf)
          · have hf := hb cc
            exact pz_drop (pz_part_of [] rfl) (kB_X4_readOrder_53 X d _ _  hf)
def F_X4_readOrder (a0 : Nat) (x1 : Int32) (y2 : Int64) (h : pz_H) (Q : Int32 → pz_H → Prop) : Prop := (pq_ex (fun m9 => L_X4_readOrder_9 a0 x1 Q m9 y2 (0 : Int32) (0 : Int32) h))
set_option maxHeartbeats 4000000 in
set_option maxRecDepth 100000 in
theorem k_X4_readOrder (X : pz_X) (d : Nat) (a0 : Nat) (x1 : Int32) (y2 : Int64) (h : pz_H) (Q : Int32 → pz_H → Prop) (hf : F_X4_readOrder a0 x1 y2 h Q) : pz_Call X M_X4_readOrder (d + 1) 0 0 [.ref a0, .int x1, .long y2] h (pq_qI Q) := by
  refine pz_call_of (by decide +kernel) (Nat.le_of_ble_eq_true rfl) ?_
  unfold F_X4_readOrder at hf
  refine pz_lload_n dX4_readOrder_0 rfl ?_
  refine pz_lstore dX4_readOrder_1 (by decide) rfl ?_
  refine pz_iconst (v := (0 : Int32)) dX4_readOrder_3 (by decide) ?_
  refine pz_istore dX4_readOrder_4 (by decide) rfl ?_
  refine pz_iconst (v := (0 : Int32)) dX4_readOrder_6 (by decide) ?_
  refine pz_istore dX4_readOrder_7 (by decide) rfl ?_
  obtain ⟨n9, hf⟩ := hf
  exact pz_drop (pz_part_of [0, 1, 4, 6, 7] rfl) (kL_X4_readOrder_9 X d _ _ _  n9 _ _ _ _ hf)
def B_X4_check_88 (xs0 : Int32)  (Q : Int32 → pz_H → Prop) (h : pz_H) : Prop := (Q xs0 h)
set_option maxHeartbeats 4000000 in
set_option maxRecDepth 100000 in
theorem kB_X4_check_88 (X : pz_X) (d : Nat) (xs0 : Int32)   (Q : Int32 → pz_H → Prop) (h : pz_H)  (hf : B_X4_check_88 xs0  Q h) : pz_W (fun _ => True) X M_X4_check (d + 4) 88 [] [.int xs0] h 0 0 (pq_qI Q) := by
  unfold B_X4_check_88 at hf
  exact pz_ireturn dX4_check_88 rfl rfl ⟨_, rfl, hf⟩
def B_X4_check_69 (a0 : Nat) (a4 : Nat) (x5 : Int32)  (Q : Int32 → pz_H → Prop) (h : pz_H) : Prop := (pq_br (x5 = 0) (pq_gA h a0 4 7 (fun b1 => (pq_o h a4 1 (F_X1_brokenAcross a4 b1 h (fun v3 h2 => (B_X4_check_88 v3 Q h2)))))) (B_X4_check_88 x5 Q h))
set_option maxHeartbeats 4000000 in
set_option maxRecDepth 100000 in
theorem kB_X4_check_69 (X : pz_X) (d : Nat) (a0 : Nat) (a4 : Nat) (x5 : Int32)   (Q : Int32 → pz_H → Prop) (h : pz_H)  (hf : B_X4_check_69 a0 a4 x5  Q h) : pz_W (fun _ => True) X M_X4_check (d + 4) 69 [(0, .ref a0), (4, .ref a4), (5, .int x5)] [] h 0 0 (pq_qI Q) := by
  unfold B_X4_check_69 at hf
  refine pz_iload dX4_check_69 rfl ?_
  obtain ⟨ha, hb⟩ := hf
  refine pz_if_ne dX4_check_71 (tgt := 86) (by decide) (fun cc => ?_) (fun cc => ?_)
  · have hf := hb cc
    refine pz_iload dX4_check_86 rfl ?_
    exact pz_drop (pz_part_of [] rfl) (kB_X4_check_88 X d _ _ _  hf)
  · have hf := ha cc
    refine pz_aload dX4_check_74 rfl ?_
    refine pz_aload_n dX4_check_76 rfl ?_
    obtain ⟨_, b1, h1, h2, hf⟩ := hf
    refine pz_get dX4_check_77 fl_X4_40 h1 h2 ?_
    obtain ⟨_, hO, hf⟩ := hf
    refine pz_callV1 (rc := 0) (rs := 0) (mc := 0) (ms := 0) dX4_check_80 (k_X1_brokenAcross X d _ _ _ _ hf) (Nat.le_of_ble_eq_true rfl) mf_X1_brokenAcross ml_X4_175 hO rfl mi_X1_brokenAcross ms_X1_brokenAcross (fun _ h9 hq => ?_)
    obtain ⟨_, rfl, hf⟩ := hq
    refine pz_goto dX4_check_83 (tgt := 88) (by decide) ?_
    exact pz_drop (pz_part_of [] rfl) (kB_X4_check_88 X d _ _ _  hf)
def F_X4_check (a0 : Nat) (x1 : Int32) (y2 : Int64) (h : pz_H) (Q : Int32 → pz_H → Prop) : Prop := (pq_o h a0 4 (F_X4_find a0 x1 h (fun r5 h4 => pq_sw r5 (Q (-101 : Int32) h4) (fun w6 => (pq_gI h4 w6 1 3 (fun v7 => (pq_o h4 a0 4 (F_X4_readOrder a0 v7 y2 h4 (fun v9 h8 => (pq_br (v9 = 0) (Q (-102 : Int32) h8) (pq_o h8 w6 1 (F_X1_isUneven w6 h8 (fun v11 h10 => (pq_br (v11 = 0) (pq_gA h10 a0 4 7 (fun b12 => (pq_o h10 w6 1 (F_X1_brokenMark w6 b12 h10 (fun v14 h13 => (pq_br (v14 = 0) (pq_gA h13 a0 4 7 (fun b15 => (pq_o h13 w6 1 (F_X1_brokenThrough w6 b15 h13 (fun v17 h16 => (B_X4_check_69 a0 w6 v17 Q h16)))))) (B_X4_check_69 a0 w6 v14 Q h13))))))) (Q (40000 : Int32) h10)))))))))))))))
set_option maxHeartbeats 4000000 in
set_option maxRecDepth 100000 in
theorem k_X4_check (X : pz_X) (d : Nat) (a0 : Nat) (x1 : Int32) (y2 : Int64) (h : pz_H) (Q : Int32 → pz_H → Prop) (hf : F_X4_check a0 x1 y2 h Q) : pz_Call X M_X4_check (d + 4) 0 0 [.ref a0, .int x1, .long y2] h (pq_qI Q) := by
  refine pz_call_of (by decide +kernel) (Nat.le_of_ble_eq_true rfl) ?_
  unfold F_X4_check at hf
  refine pz_aload_n dX4_check_0 rfl ?_
  refine pz_iload_n dX4_check_1 rfl ?_
  obtain ⟨_, hO, hf⟩ := hf
  refine pz_callV1 (rc := 0) (rs := 0) (mc := 0) (ms := 0) dX4_check_2 (k_X4_find X (d + 3) _ _ _ _ hf) (Nat.le_of_ble_eq_true rfl) mf_X4_find ml_X4_77 hO rfl mi_X4_find ms_X4_find (fun _ h9 hq => ?_)
  obtain ⟨r5, rfl, hf⟩ := hq
  rcases r5 with _ | w6
  · refine pz_astoreN dX4_check_5 (by decide) rfl ?_
    refine pz_aloadN dX4_check_7 rfl ?_
    refine pz_ifnonnullN dX4_check_9 ?_
    refine pz_bipush (v := (-101 : Int32)) dX4_check_12 (by decide) ?_
    exact pz_ireturn dX4_check_14 rfl rfl ⟨_, rfl, hf⟩
  · refine pz_astore dX4_check_5 (by decide) rfl ?_
    refine pz_aload dX4_check_7 rfl ?_
    refine pz_ifnonnull dX4_check_9 (tgt := 15) (by decide) ?_
    refine pz_aload_n dX4_check_15 rfl ?_
    refine pz_aload dX4_check_16 rfl ?_
    obtain ⟨_, v7, h1, h2, hf⟩ := hf
    refine pz_get dX4_check_18 fl_X4_100 h1 h2 ?_
    refine pz_lload_n dX4_check_21 rfl ?_
    obtain ⟨_, hO, hf⟩ := hf
    refine pz_callV2 (rc := 0) (rs := 0) (mc := 0) (ms := 0) dX4_check_22 (k_X4_readOrder X (d + 2) _ _ _ _ _ hf) (Nat.le_of_ble_eq_true rfl) mf_X4_readOrder ml_X4_160 hO rfl mi_X4_readOrder ms_X4_readOrder (fun _ h9 hq => ?_)
    obtain ⟨_, rfl, hf⟩ := hq
    obtain ⟨ha, hb⟩ := hf
    refine pz_if_ne dX4_check_25 (tgt := 31) (by decide) (fun cc => ?_) (fun cc => ?_)
    · have hf := hb cc
      refine pz_aload dX4_check_31 rfl ?_
      obtain ⟨_, hO, hf⟩ := hf
      refine pz_callV0 (rc := 0) (rs := 0) (mc := 0) (ms := 0) dX4_check_33 (k_X1_isUneven X (d + 3) _ _ _ hf) (Nat.le_of_ble_eq_true rfl) mf_X1_isUneven ml_X4_164 hO rfl mi_X1_isUneven ms_X1_isUneven (fun _ h9 hq => ?_)
      obtain ⟨_, rfl, hf⟩ := hq
      obtain ⟨ha, hb⟩ := hf
      refine pz_if_eq dX4_check_36 (tgt := 42) (by decide) (fun cc => ?_) (fun cc => ?_)
      · have hf := ha cc
        refine pz_aload dX4_check_42 rfl ?_
        refine pz_aload_n dX4_check_44 rfl ?_
        obtain ⟨_, b12, h1, h2, hf⟩ := hf
        refine pz_get dX4_check_45 fl_X4_40 h1 h2 ?_
        obtain ⟨_, hO, hf⟩ := hf
        refine pz_callV1 (rc := 0) (rs := 0) (mc := 0) (ms := 0) dX4_check_48 (k_X1_brokenMark X (d + 1) _ _ _ _ hf) (Nat.le_of_ble_eq_true rfl) mf_X1_brokenMark ml_X4_168 hO rfl mi_X1_brokenMark ms_X1_brokenMark (fun _ h9 hq => ?_)
        obtain ⟨_, rfl, hf⟩ := hq
        refine pz_istore dX4_check_51 (by decide) rfl ?_
        refine pz_iload dX4_check_53 rfl ?_
        obtain ⟨ha, hb⟩ := hf
        refine pz_if_ne dX4_check_55 (tgt := 69) (by decide) (fun cc => ?_) (fun cc => ?_)
        · have hf := hb cc
          exact pz_drop (pz_part_of [0, 4, 5] rfl) (kB_X4_check_69 X d _ _ _ _ _  hf)
        · have hf := ha cc
          refine pz_aload dX4_check_58 rfl ?_
          refine pz_aload_n dX4_check_60 rfl ?_
          obtain ⟨_, b15, h1, h2, hf⟩ := hf
          refine pz_get dX4_check_61 fl_X4_40 h1 h2 ?_
          obtain ⟨_, hO, hf⟩ := hf
          refine pz_callV1 (rc := 0) (rs := 0) (mc := 0) (ms := 0) dX4_check_64 (k_X1_brokenThrough X d _ _ _ _ hf) (Nat.le_of_ble_eq_true rfl) mf_X1_brokenThrough ml_X4_172 hO rfl mi_X1_brokenThrough ms_X1_brokenThrough (fun _ h9 hq => ?_)
          obtain ⟨_, rfl, hf⟩ := hq
          refine pz_istore dX4_check_67 (by decide) rfl ?_
          exact pz_drop (pz_part_of [0, 4, 5] rfl) (kB_X4_check_69 X d _ _ _ _ _  hf)
      · have hf := hb cc
        refine pz_ldc dX4_check_39 cn_X4_167 ?_
        exact pz_ireturn dX4_check_41 rfl rfl ⟨_, rfl, hf⟩
    · have hf := ha cc
      refine pz_bipush (v := (-102 : Int32)) dX4_check_28 (by decide) ?_
      exact pz_ireturn dX4_check_30 rfl rfl ⟨_, rfl, hf⟩
def F_X4_canBecome (a0 : Nat) (a1 : Nat) (x2 : Int32) (x3 : Int32) (h : pz_H) (Q : Int32 → pz_H → Prop) : Prop := (pq_gA h a0 4 2 (fun b1 => (pq_o h b1 2 (F_X2_begin b1 a1 h (fun h2 => (pq_gA h2 a0 4 2 (fun b3 => (pq_o h2 b3 2 (F_X2_demandTurn b3 x2 x3 h2 (fun h4 => (pq_gA h4 a0 4 2 (fun b5 => (pq_o h4 b5 2 (F_X2_next b5 h4 (fun v7 h6 => (pq_z v7 (Q v7 h6)))))))))))))))))
set_option maxHeartbeats 4000000 in
set_option maxRecDepth 100000 in
theorem k_X4_canBecome (X : pz_X) (d : Nat) (a0 : Nat) (a1 : Nat) (x2 : Int32) (x3 : Int32) (h : pz_H) (Q : Int32 → pz_H → Prop) (hf : F_X4_canBecome a0 a1 x2 x3 h Q) : pz_Call X M_X4_canBecome (d + 5) 0 0 [.ref a0, .ref a1, .int x2, .int x3] h (pq_qI Q) := by
  refine pz_call_of (by decide +kernel) (Nat.le_of_ble_eq_true rfl) ?_
  unfold F_X4_canBecome at hf
  refine pz_aload_n dX4_canBecome_0 rfl ?_
  obtain ⟨_, b1, h1, h2, hf⟩ := hf
  refine pz_get dX4_canBecome_1 fl_X4_22 h1 h2 ?_
  refine pz_aload_n dX4_canBecome_4 rfl ?_
  obtain ⟨_, hO, hf⟩ := hf
  refine pz_callV1 (rc := 0) (rs := 0) (mc := 0) (ms := 0) dX4_canBecome_5 (k_X2_begin X d _ _ _ _ hf) (Nat.le_of_ble_eq_true rfl) mf_X2_begin ml_X4_127 hO rfl mi_X2_begin ms_X2_begin (fun _ h9 hq => ?_)
  obtain ⟨rfl, hf⟩ := hq
  refine pz_aload_n dX4_canBecome_8 rfl ?_
  obtain ⟨_, b3, h1, h2, hf⟩ := hf
  refine pz_get dX4_canBecome_9 fl_X4_22 h1 h2 ?_
  refine pz_iload_n dX4_canBecome_12 rfl ?_
  refine pz_iload_n dX4_canBecome_13 rfl ?_
  obtain ⟨_, hO, hf⟩ := hf
  refine pz_callV2 (rc := 0) (rs := 0) (mc := 0) (ms := 0) dX4_canBecome_14 (k_X2_demandTurn X (d + 2) _ _ _ _ _ hf) (Nat.le_of_ble_eq_true rfl) mf_X2_demandTurn ml_X4_257 hO rfl mi_X2_demandTurn ms_X2_demandTurn (fun _ h9 hq => ?_)
  obtain ⟨rfl, hf⟩ := hq
  refine pz_aload_n dX4_canBecome_17 rfl ?_
  obtain ⟨_, b5, h1, h2, hf⟩ := hf
  refine pz_get dX4_canBecome_18 fl_X4_22 h1 h2 ?_
  obtain ⟨_, hO, hf⟩ := hf
  refine pz_callV0 (rc := 0) (rs := 0) (mc := 0) (ms := 0) dX4_canBecome_21 (k_X2_next X d _ _ _ hf) (Nat.le_of_ble_eq_true rfl) mf_X2_next ml_X4_131 hO rfl mi_X2_next ms_X2_next (fun _ h9 hq => ?_)
  obtain ⟨_, rfl, hf⟩ := hq
  obtain ⟨hz, hf⟩ := hf
  exact pz_ireturn dX4_canBecome_24 rfl hz ⟨_, rfl, hf⟩
def B_X4_forced_18   (Q : Int32 → pz_H → Prop) (h : pz_H) : Prop := (Q (-101 : Int32) h)
set_option maxHeartbeats 4000000 in
set_option maxRecDepth 100000 in
theorem kB_X4_forced_18 (X : pz_X) (d : Nat)    (Q : Int32 → pz_H → Prop) (h : pz_H)  (hf : B_X4_forced_18   Q h) : pz_W (fun _ => True) X M_X4_forced (d + 6) 18 [] [] h 0 0 (pq_qI Q) := by
  unfold B_X4_forced_18 at hf
  refine pz_bipush (v := (-101 : Int32)) dX4_forced_18 (by decide) ?_
  exact pz_ireturn dX4_forced_20 rfl rfl ⟨_, rfl, hf⟩
def B_X4_forced_51 (xs0 : Int32) (xs1 : Int32)  (Q : Int32 → pz_H → Prop) (h : pz_H) : Prop := (Q (xs0 + xs1) h)
set_option maxHeartbeats 4000000 in
set_option maxRecDepth 100000 in
theorem kB_X4_forced_51 (X : pz_X) (d : Nat) (xs0 : Int32) (xs1 : Int32)   (Q : Int32 → pz_H → Prop) (h : pz_H)  (hf : B_X4_forced_51 xs0 xs1  Q h) : pz_W (fun _ => True) X M_X4_forced (d + 6) 51 [] [.int xs1, .int xs0] h 0 0 (pq_qI Q) := by
  unfold B_X4_forced_51 at hf
  refine pz_iadd dX4_forced_51 ?_
  exact pz_ireturn dX4_forced_52 rfl rfl ⟨_, rfl, hf⟩
def B_X4_forced_36 (a0 : Nat) (x2 : Int32) (a3 : Nat) (xs0 : Int32)  (Q : Int32 → pz_H → Prop) (h : pz_H) : Prop := (pq_o h a0 4 (F_X4_canBecome a0 a3 x2 (2 : Int32) h (fun v2 h1 => (pq_br (v2 = 0) (B_X4_forced_51 xs0 (0 : Int32) Q h1) (B_X4_forced_51 xs0 (2 : Int32) Q h1)))))
set_option maxHeartbeats 4000000 in
set_option maxRecDepth 100000 in
theorem kB_X4_forced_36 (X : pz_X) (d : Nat) (a0 : Nat) (x2 : Int32) (a3 : Nat) (xs0 : Int32)   (Q : Int32 → pz_H → Prop) (h : pz_H)  (hf : B_X4_forced_36 a0 x2 a3 xs0  Q h) : pz_W (fun _ => True) X M_X4_forced (d + 6) 36 [(0, .ref a0), (2, .int x2), (3, .ref a3)] [.int xs0] h 0 0 (pq_qI Q) := by
  unfold B_X4_forced_36 at hf
  refine pz_aload_n dX4_forced_36 rfl ?_
  refine pz_aload_n dX4_forced_37 rfl ?_
  refine pz_iload_n dX4_forced_38 rfl ?_
  refine pz_iconst (v := (2 : Int32)) dX4_forced_39 (by decide) ?_
  obtain ⟨_, hO, hf⟩ := hf
  refine pz_callV3 (rc := 0) (rs := 0) (mc := 0) (ms := 0) dX4_forced_40 (k_X4_canBecome X d _ _ _ _ _ _ hf) (Nat.le_of_ble_eq_true rfl) mf_X4_canBecome ml_X4_178 hO rfl mi_X4_canBecome ms_X4_canBecome (fun _ h9 hq => ?_)
  obtain ⟨_, rfl, hf⟩ := hq
  obtain ⟨ha, hb⟩ := hf
  refine pz_if_eq dX4_forced_43 (tgt := 50) (by decide) (fun cc => ?_) (fun cc => ?_)
  · have hf := ha cc
    refine pz_iconst (v := (0 : Int32)) dX4_forced_50 (by decide) ?_
    exact pz_drop (pz_part_of [] rfl) (kB_X4_forced_51 X d _ _ _ _  hf)
  · have hf := hb cc
    refine pz_iconst (v := (2 : Int32)) dX4_forced_46 (by decide) ?_
    refine pz_goto dX4_forced_47 (tgt := 51) (by decide) ?_
    exact pz_drop (pz_part_of [] rfl) (kB_X4_forced_51 X d _ _ _ _  hf)
def F_X4_forced (a0 : Nat) (x1 : Int32) (x2 : Int32) (h : pz_H) (Q : Int32 → pz_H → Prop) : Prop := (pq_o h a0 4 (F_X4_find a0 x1 h (fun r4 h3 => pq_sw r4 (B_X4_forced_18 Q h3) (fun w5 => (pq_o h3 w5 1 (F_X1_hasCrease w5 x2 h3 (fun v7 h6 => (pq_br (v7 = 0) (B_X4_forced_18 Q h6) (pq_o h6 a0 4 (F_X4_canBecome a0 w5 x2 (1 : Int32) h6 (fun v9 h8 => (pq_br (v9 = 0) (B_X4_forced_36 a0 x2 w5 (0 : Int32) Q h8) (B_X4_forced_36 a0 x2 w5 (1 : Int32) Q h8)))))))))))))
set_option maxHeartbeats 4000000 in
set_option maxRecDepth 100000 in
theorem k_X4_forced (X : pz_X) (d : Nat) (a0 : Nat) (x1 : Int32) (x2 : Int32) (h : pz_H) (Q : Int32 → pz_H → Prop) (hf : F_X4_forced a0 x1 x2 h Q) : pz_Call X M_X4_forced (d + 6) 0 0 [.ref a0, .int x1, .int x2] h (pq_qI Q) := by
  refine pz_call_of (by decide +kernel) (Nat.le_of_ble_eq_true rfl) ?_
  unfold F_X4_forced at hf
  refine pz_aload_n dX4_forced_0 rfl ?_
  refine pz_iload_n dX4_forced_1 rfl ?_
  obtain ⟨_, hO, hf⟩ := hf
  refine pz_callV1 (rc := 0) (rs := 0) (mc := 0) (ms := 0) dX4_forced_2 (k_X4_find X (d + 5) _ _ _ _ hf) (Nat.le_of_ble_eq_true rfl) mf_X4_find ml_X4_77 hO rfl mi_X4_find ms_X4_find (fun _ h9 hq => ?_)
  obtain ⟨r4, rfl, hf⟩ := hq
  rcases r4 with _ | w5
  · refine pz_astore_nN dX4_forced_5 rfl (by decide) rfl ?_
    refine pz_aload_nN dX4_forced_6 rfl ?_
    refine pz_ifnullN dX4_forced_7 (tgt := 18) (by decide) ?_
    exact pz_drop (pz_part_of [] rfl) (kB_X4_forced_18 X d _ _  hf)
  · refine pz_astore_n dX4_forced_5 rfl (by decide) rfl ?_
    refine pz_aload_n dX4_forced_6 rfl ?_
    refine pz_ifnull dX4_forced_7 ?_
    refine pz_aload_n dX4_forced_10 rfl ?_
    refine pz_iload_n dX4_forced_11 rfl ?_
    obtain ⟨_, hO, hf⟩ := hf
    refine pz_callV1 (rc := 0) (rs := 0) (mc := 0) (ms := 0) dX4_forced_12 (k_X1_hasCrease X (d + 5) _ _ _ _ hf) (Nat.le_of_ble_eq_true rfl) mf_X1_hasCrease ml_X4_94 hO rfl mi_X1_hasCrease ms_X1_hasCrease (fun _ h9 hq => ?_)
    obtain ⟨_, rfl, hf⟩ := hq
    obtain ⟨ha, hb⟩ := hf
    refine pz_if_ne dX4_forced_15 (tgt := 21) (by decide) (fun cc => ?_) (fun cc => ?_)
    · have hf := hb cc
      refine pz_aload_n dX4_forced_21 rfl ?_
      refine pz_aload_n dX4_forced_22 rfl ?_
      refine pz_iload_n dX4_forced_23 rfl ?_
      refine pz_iconst (v := (1 : Int32)) dX4_forced_24 (by decide) ?_
      obtain ⟨_, hO, hf⟩ := hf
      refine pz_callV3 (rc := 0) (rs := 0) (mc := 0) (ms := 0) dX4_forced_25 (k_X4_canBecome X d _ _ _ _ _ _ hf) (Nat.le_of_ble_eq_true rfl) mf_X4_canBecome ml_X4_178 hO rfl mi_X4_canBecome ms_X4_canBecome (fun _ h9 hq => ?_)
      obtain ⟨_, rfl, hf⟩ := hq
      obtain ⟨ha, hb⟩ := hf
      refine pz_if_eq dX4_forced_28 (tgt := 35) (by decide) (fun cc => ?_) (fun cc => ?_)
      · have hf := ha cc
        refine pz_iconst (v := (0 : Int32)) dX4_forced_35 (by decide) ?_
        exact pz_drop (pz_part_of [0, 2, 3] rfl) (kB_X4_forced_36 X d _ _ _ _ _ _  hf)
      · have hf := hb cc
        refine pz_iconst (v := (1 : Int32)) dX4_forced_31 (by decide) ?_
        refine pz_goto dX4_forced_32 (tgt := 36) (by decide) ?_
        exact pz_drop (pz_part_of [0, 2, 3] rfl) (kB_X4_forced_36 X d _ _ _ _ _ _  hf)
    · have hf := ha cc
      exact pz_drop (pz_part_of [] rfl) (kB_X4_forced_18 X d _ _  hf)
def F_X4_canLieBelow (a0 : Nat) (a1 : Nat) (x2 : Int32) (x3 : Int32) (h : pz_H) (Q : Int32 → pz_H → Prop) : Prop := (pq_gA h a0 4 2 (fun b1 => (pq_o h b1 2 (F_X2_begin b1 a1 h (fun h2 => (pq_gA h2 a0 4 2 (fun b3 => (pq_o h2 b3 2 (F_X2_demandBelow b3 x2 x3 h2 (fun h4 => (pq_gA h4 a0 4 2 (fun b5 => (pq_o h4 b5 2 (F_X2_next b5 h4 (fun v7 h6 => (pq_z v7 (Q v7 h6)))))))))))))))))
set_option maxHeartbeats 4000000 in
set_option maxRecDepth 100000 in
theorem k_X4_canLieBelow (X : pz_X) (d : Nat) (a0 : Nat) (a1 : Nat) (x2 : Int32) (x3 : Int32) (h : pz_H) (Q : Int32 → pz_H → Prop) (hf : F_X4_canLieBelow a0 a1 x2 x3 h Q) : pz_Call X M_X4_canLieBelow (d + 5) 0 0 [.ref a0, .ref a1, .int x2, .int x3] h (pq_qI Q) := by
  refine pz_call_of (by decide +kernel) (Nat.le_of_ble_eq_true rfl) ?_
  unfold F_X4_canLieBelow at hf
  refine pz_aload_n dX4_canLieBelow_0 rfl ?_
  obtain ⟨_, b1, h1, h2, hf⟩ := hf
  refine pz_get dX4_canLieBelow_1 fl_X4_22 h1 h2 ?_
  refine pz_aload_n dX4_canLieBelow_4 rfl ?_
  obtain ⟨_, hO, hf⟩ := hf
  refine pz_callV1 (rc := 0) (rs := 0) (mc := 0) (ms := 0) dX4_canLieBelow_5 (k_X2_begin X d _ _ _ _ hf) (Nat.le_of_ble_eq_true rfl) mf_X2_begin ml_X4_127 hO rfl mi_X2_begin ms_X2_begin (fun _ h9 hq => ?_)
  obtain ⟨rfl, hf⟩ := hq
  refine pz_aload_n dX4_canLieBelow_8 rfl ?_
  obtain ⟨_, b3, h1, h2, hf⟩ := hf
  refine pz_get dX4_canLieBelow_9 fl_X4_22 h1 h2 ?_
  refine pz_iload_n dX4_canLieBelow_12 rfl ?_
  refine pz_iload_n dX4_canLieBelow_13 rfl ?_
  obtain ⟨_, hO, hf⟩ := hf
  refine pz_callV2 (rc := 0) (rs := 0) (mc := 0) (ms := 0) dX4_canLieBelow_14 (k_X2_demandBelow X (d + 3) _ _ _ _ _ hf) (Nat.le_of_ble_eq_true rfl) mf_X2_demandBelow ml_X4_261 hO rfl mi_X2_demandBelow ms_X2_demandBelow (fun _ h9 hq => ?_)
  obtain ⟨rfl, hf⟩ := hq
  refine pz_aload_n dX4_canLieBelow_17 rfl ?_
  obtain ⟨_, b5, h1, h2, hf⟩ := hf
  refine pz_get dX4_canLieBelow_18 fl_X4_22 h1 h2 ?_
  obtain ⟨_, hO, hf⟩ := hf
  refine pz_callV0 (rc := 0) (rs := 0) (mc := 0) (ms := 0) dX4_canLieBelow_21 (k_X2_next X d _ _ _ hf) (Nat.le_of_ble_eq_true rfl) mf_X2_next ml_X4_131 hO rfl mi_X2_next ms_X2_next (fun _ h9 hq => ?_)
  obtain ⟨_, rfl, hf⟩ := hq
  obtain ⟨hz, hf⟩ := hf
  exact pz_ireturn dX4_canLieBelow_24 rfl hz ⟨_, rfl, hf⟩
def B_X4_above_30   (Q : Int32 → pz_H → Prop) (h : pz_H) : Prop := (Q (-101 : Int32) h)
set_option maxHeartbeats 4000000 in
set_option maxRecDepth 100000 in
theorem kB_X4_above_30 (X : pz_X) (d : Nat)    (Q : Int32 → pz_H → Prop) (h : pz_H)  (hf : B_X4_above_30   Q h) : pz_W (fun _ => True) X M_X4_above (d + 6) 30 [] [] h 0 0 (pq_qI Q) := by
  unfold B_X4_above_30 at hf
  refine pz_bipush (v := (-101 : Int32)) dX4_above_30 (by decide) ?_
  exact pz_ireturn dX4_above_32 rfl rfl ⟨_, rfl, hf⟩
def B_X4_above_77 (xs0 : Int32)  (Q : Int32 → pz_H → Prop) (h : pz_H) : Prop := (Q xs0 h)
set_option maxHeartbeats 4000000 in
set_option maxRecDepth 100000 in
theorem kB_X4_above_77 (X : pz_X) (d : Nat) (xs0 : Int32)   (Q : Int32 → pz_H → Prop) (h : pz_H)  (hf : B_X4_above_77 xs0  Q h) : pz_W (fun _ => True) X M_X4_above (d + 6) 77 [] [.int xs0] h 0 0 (pq_qI Q) := by
  unfold B_X4_above_77 at hf
  exact pz_ireturn dX4_above_77 rfl rfl ⟨_, rfl, hf⟩
def B_X4_above_88 (xs0 : Int32)  (Q : Int32 → pz_H → Prop) (h : pz_H) : Prop := (Q xs0 h)
set_option maxHeartbeats 4000000 in
set_option maxRecDepth 100000 in
theorem kB_X4_above_88 (X : pz_X) (d : Nat) (xs0 : Int32)   (Q : Int32 → pz_H → Prop) (h : pz_H)  (hf : B_X4_above_88 xs0  Q h) : pz_W (fun _ => True) X M_X4_above (d + 6) 88 [] [.int xs0] h 0 0 (pq_qI Q) := by
  unfold B_X4_above_88 at hf
  exact pz_ireturn dX4_above_88 rfl rfl ⟨_, rfl, hf⟩
def F_X4_above (a0 : Nat) (x1 : Int32) (x2 : Int32) (x3 : Int32) (h : pz_H) (Q : Int32 → pz_H → Prop) : Prop := (pq_o h a0 4 (F_X4_find a0 x1 h (fun r2 h1 => pq_sw r2 (B_X4_above_30 Q h1) (fun w3 => (pq_o h1 w3 1 (F_X1_hasFace w3 x2 h1 (fun v5 h4 => (pq_br (v5 = 0) (B_X4_above_30 Q h4) (pq_o h4 w3 1 (F_X1_hasFace w3 x3 h4 (fun v7 h6 => (pq_br (v7 = 0) (B_X4_above_30 Q h6) (pq_br (x2 = x3) (Q (2 : Int32) h6) (pq_o h6 a0 4 (F_X4_canLieBelow a0 w3 x3 x2 h6 (fun v9 h8 => (pq_o h8 a0 4 (F_X4_canLieBelow a0 w3 x2 x3 h8 (fun v11 h10 => (pq_br (v9 = v11) (pq_br (v9 = 0) (B_X4_above_77 (2 : Int32) Q h10) (B_X4_above_77 (0 : Int32) Q h10)) (pq_br (v9 = 0) (B_X4_above_88 (-1 : Int32) Q h10) (B_X4_above_88 (1 : Int32) Q h10))))))))))))))))))))))
set_option maxHeartbeats 4000000 in
set_option maxRecDepth 100000 in
theorem k_X4_above (X : pz_X) (d : Nat) (a0 : Nat) (x1 : Int32) (x2 : Int32) (x3 : Int32) (h : pz_H) (Q : Int32 → pz_H → Prop) (hf : F_X4_above a0 x1 x2 x3 h Q) : pz_Call X M_X4_above (d + 6) 0 0 [.ref a0, .int x1, .int x2, .int x3] h (pq_qI Q) := by
  refine pz_call_of (by decide +kernel) (Nat.le_of_ble_eq_true rfl) ?_
  unfold F_X4_above at hf
  refine pz_aload_n dX4_above_0 rfl ?_
  refine pz_iload_n dX4_above_1 rfl ?_
  obtain ⟨_, hO, hf⟩ := hf
  refine pz_callV1 (rc := 0) (rs := 0) (mc := 0) (ms := 0) dX4_above_2 (k_X4_find X (d + 5) _ _ _ _ hf) (Nat.le_of_ble_eq_true rfl) mf_X4_find ml_X4_77 hO rfl mi_X4_find ms_X4_find (fun _ h9 hq => ?_)
  obtain ⟨r2, rfl, hf⟩ := hq
  rcases r2 with _ | w3
  · refine pz_astoreN dX4_above_5 (by decide) rfl ?_
    refine pz_aloadN dX4_above_7 rfl ?_
    refine pz_ifnullN dX4_above_9 (tgt := 30) (by decide) ?_
    exact pz_drop (pz_part_of [] rfl) (kB_X4_above_30 X d _ _  hf)
  · refine pz_astore dX4_above_5 (by decide) rfl ?_
    refine pz_aload dX4_above_7 rfl ?_
    refine pz_ifnull dX4_above_9 ?_
    refine pz_aload dX4_above_12 rfl ?_
    refine pz_iload_n dX4_above_14 rfl ?_
    obtain ⟨_, hO, hf⟩ := hf
    refine pz_callV1 (rc := 0) (rs := 0) (mc := 0) (ms := 0) dX4_above_15 (k_X1_hasFace X (d + 5) _ _ _ _ hf) (Nat.le_of_ble_eq_true rfl) mf_X1_hasFace ml_X4_81 hO rfl mi_X1_hasFace ms_X1_hasFace (fun _ h9 hq => ?_)
    obtain ⟨_, rfl, hf⟩ := hq
    obtain ⟨ha, hb⟩ := hf
    refine pz_if_eq dX4_above_18 (tgt := 30) (by decide) (fun cc => ?_) (fun cc => ?_)
    · have hf := ha cc
      exact pz_drop (pz_part_of [] rfl) (kB_X4_above_30 X d _ _  hf)
    · have hf := hb cc
      refine pz_aload dX4_above_21 rfl ?_
      refine pz_iload_n dX4_above_23 rfl ?_
      obtain ⟨_, hO, hf⟩ := hf
      refine pz_callV1 (rc := 0) (rs := 0) (mc := 0) (ms := 0) dX4_above_24 (k_X1_hasFace X (d + 5) _ _ _ _ hf) (Nat.le_of_ble_eq_true rfl) mf_X1_hasFace ml_X4_81 hO rfl mi_X1_hasFace ms_X1_hasFace (fun _ h9 hq => ?_)
      obtain ⟨_, rfl, hf⟩ := hq
      obtain ⟨ha, hb⟩ := hf
      refine pz_if_ne dX4_above_27 (tgt := 33) (by decide) (fun cc => ?_) (fun cc => ?_)
      · have hf := hb cc
        refine pz_iload_n dX4_above_33 rfl ?_
        refine pz_iload_n dX4_above_34 rfl ?_
        obtain ⟨ha, hb⟩ := hf
        refine pz_icmp_ne dX4_above_35 (tgt := 40) (by decide) (fun cc => ?_) (fun cc => ?_)
        · have hf := hb cc
          refine pz_aload_n dX4_above_40 rfl ?_
          refine pz_aload dX4_above_41 rfl ?_
          refine pz_iload_n dX4_above_43 rfl ?_
          refine pz_iload_n dX4_above_44 rfl ?_
          obtain ⟨_, hO, hf⟩ := hf
          refine pz_callV3 (rc := 0) (rs := 0) (mc := 0) (ms := 0) dX4_above_45 (k_X4_canLieBelow X d _ _ _ _ _ _ hf) (Nat.le_of_ble_eq_true rfl) mf_X4_canLieBelow ml_X4_182 hO rfl mi_X4_canLieBelow ms_X4_canLieBelow (fun _ h9 hq => ?_)
          obtain ⟨_, rfl, hf⟩ := hq
          refine pz_istore dX4_above_48 (by decide) rfl ?_
          refine pz_aload_n dX4_above_50 rfl ?_
          refine pz_aload dX4_above_51 rfl ?_
          refine pz_iload_n dX4_above_53 rfl ?_
          refine pz_iload_n dX4_above_54 rfl ?_
          obtain ⟨_, hO, hf⟩ := hf
          refine pz_callV3 (rc := 0) (rs := 0) (mc := 0) (ms := 0) dX4_above_55 (k_X4_canLieBelow X d _ _ _ _ _ _ hf) (Nat.le_of_ble_eq_true rfl) mf_X4_canLieBelow ml_X4_182 hO rfl mi_X4_canLieBelow ms_X4_canLieBelow (fun _ h9 hq => ?_)
          obtain ⟨_, rfl, hf⟩ := hq
          refine pz_istore dX4_above_58 (by decide) rfl ?_
          refine pz_iload dX4_above_60 rfl ?_
          refine pz_iload dX4_above_62 rfl ?_
          obtain ⟨ha, hb⟩ := hf
          refine pz_icmp_ne dX4_above_64 (tgt := 78) (by decide) (fun cc => ?_) (fun cc => ?_)
          · have hf := hb cc
            refine pz_iload dX4_above_78 rfl ?_
            obtain ⟨ha, hb⟩ := hf
            refine pz_if_eq dX4_above_80 (tgt := 87) (by decide) (fun cc => ?_) (fun cc => ?_)
            · have hf := ha cc
              refine pz_iconst (v := (-1 : Int32)) dX4_above_87 (by decide) ?_
              exact pz_drop (pz_part_of [] rfl) (kB_X4_above_88 X d _ _ _  hf)
            · have hf := hb cc
              refine pz_iconst (v := (1 : Int32)) dX4_above_83 (by decide) ?_
              refine pz_goto dX4_above_84 (tgt := 88) (by decide) ?_
              exact pz_drop (pz_part_of [] rfl) (kB_X4_above_88 X d _ _ _  hf)
          · have hf := ha cc
            refine pz_iload dX4_above_67 rfl ?_
            obtain ⟨ha, hb⟩ := hf
            refine pz_if_eq dX4_above_69 (tgt := 76) (by decide) (fun cc => ?_) (fun cc => ?_)
            · have hf := ha cc
              refine pz_iconst (v := (2 : Int32)) dX4_above_76 (by decide) ?_
              exact pz_drop (pz_part_of [] rfl) (kB_X4_above_77 X d _ _ _  hf)
            · have hf := hb cc
              refine pz_iconst (v := (0 : Int32)) dX4_above_72 (by decide) ?_
              refine pz_goto dX4_above_73 (tgt := 77) (by decide) ?_
              exact pz_drop (pz_part_of [] rfl) (kB_X4_above_77 X d _ _ _  hf)
        · have hf := ha cc
          refine pz_iconst (v := (2 : Int32)) dX4_above_38 (by decide) ?_
          exact pz_ireturn dX4_above_39 rfl rfl ⟨_, rfl, hf⟩
      · have hf := ha cc
        exact pz_drop (pz_part_of [] rfl) (kB_X4_above_30 X d _ _  hf)
def L_X4_allowTheSame_18 (a0 : Nat)  (Q : Int32 → pz_H → Prop) : Nat → Int32 → pz_H → Prop
  | 0, _, _ => False
  | n + 1, x3, h => (pq_br ((362880 : Int32) < x3) (Q (1 : Int32) h) (pq_gA h a0 4 2 (fun b1 => (pq_o h b1 2 (F_X2_next b1 h (fun v3 h2 => (pq_gA h2 a0 4 3 (fun b4 => (pq_o h2 b4 2 (F_X2_next b4 h2 (fun v6 h5 => (pq_br (v3 = v6) (pq_br (v3 = 0) (Q (1 : Int32) h5) (pq_gA h5 a0 4 2 (fun b7 => (pq_o h5 b7 2 (F_X2_asNumber b7 h5 (fun v9 h8 => (pq_gA h8 a0 4 3 (fun b10 => (pq_o h8 b10 2 (F_X2_asNumber b10 h8 (fun v12 h11 => (pq_br ((lg_cmp v9 v12) = 0) (L_X4_allowTheSame_18 a0 Q n (x3 + (1 : Int32)) h11) (Q (0 : Int32) h11))))))))))))) (Q (0 : Int32) h5)))))))))))))
set_option maxHeartbeats 4000000 in
set_option maxRecDepth 100000 in
theorem kL_X4_allowTheSame_18 (X : pz_X) (d : Nat) (a0 : Nat)   (Q : Int32 → pz_H → Prop)  : ∀ (n : Nat) (x3 : Int32) (h : pz_H), L_X4_allowTheSame_18 a0  Q n x3 h → pz_W (fun _ => True) X M_X4_allowTheSame (d + 5) 18 [(0, .ref a0), (3, .int x3)] [] h 0 0 (pq_qI Q) := by
  intro n
  induction n with
  | zero =>
    intro _ _ hf
    exact False.elim hf
  | succ n ih =>
    intro x3 h hf
    unfold L_X4_allowTheSame_18 at hf
    refine pz_iload_n dX4_allowTheSame_18 rfl ?_
    refine pz_ldc dX4_allowTheSame_19 cn_X4_151 ?_
    obtain ⟨ha, hb⟩ := hf
    refine pz_icmp_gt dX4_allowTheSame_21 (tgt := 80) (by decide) (fun cc => ?_) (fun cc => ?_)
    · have hf := ha cc
      refine pz_iconst (v := (1 : Int32)) dX4_allowTheSame_80 (by decide) ?_
      exact pz_ireturn dX4_allowTheSame_81 rfl rfl ⟨_, rfl, hf⟩
    · have hf := hb cc
      refine pz_aload_n dX4_allowTheSame_24 rfl ?_
      obtain ⟨_, b1, h1, h2, hf⟩ := hf
      refine pz_get dX4_allowTheSame_25 fl_X4_22 h1 h2 ?_
      obtain ⟨_, hO, hf⟩ := hf
      refine pz_callV0 (rc := 0) (rs := 0) (mc := 0) (ms := 0) dX4_allowTheSame_28 (k_X2_next X d _ _ _ hf) (Nat.le_of_ble_eq_true rfl) mf_X2_next ml_X4_131 hO rfl mi_X2_next ms_X2_next (fun _ h9 hq => ?_)
      obtain ⟨_, rfl, hf⟩ := hq
      refine pz_istore dX4_allowTheSame_31 (by decide) rfl ?_
      refine pz_iload dX4_allowTheSame_33 rfl ?_
      refine pz_aload_n dX4_allowTheSame_35 rfl ?_
      obtain ⟨_, b4, h1, h2, hf⟩ := hf
      refine pz_get dX4_allowTheSame_36 fl_X4_26 h1 h2 ?_
      obtain ⟨_, hO, hf⟩ := hf
      refine pz_callV0 (rc := 0) (rs := 0) (mc := 0) (ms := 0) dX4_allowTheSame_39 (k_X2_next X d _ _ _ hf) (Nat.le_of_ble_eq_true rfl) mf_X2_next ml_X4_131 hO rfl mi_X2_next ms_X2_next (fun _ h9 hq => ?_)
      obtain ⟨_, rfl, hf⟩ := hq
      obtain ⟨ha, hb⟩ := hf
      refine pz_icmp_eq dX4_allowTheSame_42 (tgt := 47) (by decide) (fun cc => ?_) (fun cc => ?_)
      · have hf := ha cc
        refine pz_iload dX4_allowTheSame_47 rfl ?_
        obtain ⟨ha, hb⟩ := hf
        refine pz_if_ne dX4_allowTheSame_49 (tgt := 54) (by decide) (fun cc => ?_) (fun cc => ?_)
        · have hf := hb cc
          refine pz_aload_n dX4_allowTheSame_54 rfl ?_
          obtain ⟨_, b7, h1, h2, hf⟩ := hf
          refine pz_get dX4_allowTheSame_55 fl_X4_22 h1 h2 ?_
          obtain ⟨_, hO, hf⟩ := hf
          refine pz_callV0 (rc := 0) (rs := 0) (mc := 0) (ms := 0) dX4_allowTheSame_58 (k_X2_asNumber X (d + 4) _ _ _ hf) (Nat.le_of_ble_eq_true rfl) mf_X2_asNumber ml_X4_156 hO rfl mi_X2_asNumber ms_X2_asNumber (fun _ h9 hq => ?_)
          obtain ⟨_, rfl, hf⟩ := hq
          refine pz_aload_n dX4_allowTheSame_61 rfl ?_
          obtain ⟨_, b10, h1, h2, hf⟩ := hf
          refine pz_get dX4_allowTheSame_62 fl_X4_26 h1 h2 ?_
          obtain ⟨_, hO, hf⟩ := hf
          refine pz_callV0 (rc := 0) (rs := 0) (mc := 0) (ms := 0) dX4_allowTheSame_65 (k_X2_asNumber X (d + 4) _ _ _ hf) (Nat.le_of_ble_eq_true rfl) mf_X2_asNumber ml_X4_156 hO rfl mi_X2_asNumber ms_X2_asNumber (fun _ h9 hq => ?_)
          obtain ⟨_, rfl, hf⟩ := hq
          refine pz_lcmp dX4_allowTheSame_68 ?_
          obtain ⟨ha, hb⟩ := hf
          refine pz_if_eq dX4_allowTheSame_69 (tgt := 74) (by decide) (fun cc => ?_) (fun cc => ?_)
          · have hf := ha cc
            refine pz_iinc dX4_allowTheSame_74 rfl (by rfl) (by decide) rfl ?_
            refine pz_goto dX4_allowTheSame_77 (tgt := 18) (by decide) ?_
            exact pz_drop (pz_part_of [0, 3] rfl) (ih _ _ hf)
          · have hf := hb cc
            refine pz_iconst (v := (0 : Int32)) dX4_allowTheSame_72 (by decide) ?_
            exact pz_ireturn dX4_allowTheSame_73 rfl rfl ⟨_, rfl, hf⟩
        · have hf := ha cc
          refine pz_iconst (v := (1 : Int32)) dX4_allowTheSame_52 (by decide) ?_
          exact pz_ireturn dX4_allowTheSame_53 rfl rfl ⟨_, rfl, hf⟩
      · have hf := hb cc
        refine pz_iconst (v := (0 : Int32)) dX4_allowTheSame_45 (by decide) ?_
        exact pz_ireturn dX4_allowTheSame_46 rfl rfl ⟨_, rfl, hf⟩
def F_X4_allowTheSame (a0 : Nat) (a1 : Nat) (a2 : Nat) (h : pz_H) (Q : Int32 → pz_H → Prop) : Prop := (pq_gA h a0 4 2 (fun b13 => (pq_o h b13 2 (F_X2_begin b13 a1 h (fun h14 => (pq_gA h14 a0 4 3 (fun b15 => (pq_o h14 b15 2 (F_X2_begin b15 a2 h14 (fun h16 => (pq_ex (fun m18 => L_X4_allowTheSame_18 a0 Q m18 (0 : Int32) h16))))))))))))
set_option maxHeartbeats 4000000 in
set_option maxRecDepth 100000 in
theorem k_X4_allowTheSame (X : pz_X) (d : Nat) (a0 : Nat) (a1 : Nat) (a2 : Nat) (h : pz_H) (Q : Int32 → pz_H → Prop) (hf : F_X4_allowTheSame a0 a1 a2 h Q) : pz_Call X M_X4_allowTheSame (d + 5) 0 0 [.ref a0, .ref a1, .ref a2] h (pq_qI Q) := by
  refine pz_call_of (by decide +kernel) (Nat.le_of_ble_eq_true rfl) ?_
  unfold F_X4_allowTheSame at hf
  refine pz_aload_n dX4_allowTheSame_0 rfl ?_
  obtain ⟨_, b13, h1, h2, hf⟩ := hf
  refine pz_get dX4_allowTheSame_1 fl_X4_22 h1 h2 ?_
  refine pz_aload_n dX4_allowTheSame_4 rfl ?_
  obtain ⟨_, hO, hf⟩ := hf
  refine pz_callV1 (rc := 0) (rs := 0) (mc := 0) (ms := 0) dX4_allowTheSame_5 (k_X2_begin X d _ _ _ _ hf) (Nat.le_of_ble_eq_true rfl) mf_X2_begin ml_X4_127 hO rfl mi_X2_begin ms_X2_begin (fun _ h9 hq => ?_)
  obtain ⟨rfl, hf⟩ := hq
  refine pz_aload_n dX4_allowTheSame_8 rfl ?_
  obtain ⟨_, b15, h1, h2, hf⟩ := hf
  refine pz_get dX4_allowTheSame_9 fl_X4_26 h1 h2 ?_
  refine pz_aload_n dX4_allowTheSame_12 rfl ?_
  obtain ⟨_, hO, hf⟩ := hf
  refine pz_callV1 (rc := 0) (rs := 0) (mc := 0) (ms := 0) dX4_allowTheSame_13 (k_X2_begin X d _ _ _ _ hf) (Nat.le_of_ble_eq_true rfl) mf_X2_begin ml_X4_127 hO rfl mi_X2_begin ms_X2_begin (fun _ h9 hq => ?_)
  obtain ⟨rfl, hf⟩ := hq
  refine pz_iconst (v := (0 : Int32)) dX4_allowTheSame_16 (by decide) ?_
  refine pz_istore_n dX4_allowTheSame_17 rfl (by decide) rfl ?_
  obtain ⟨n9, hf⟩ := hf
  exact pz_drop (pz_part_of [0, 3] rfl) (kL_X4_allowTheSame_18 X d _ _  n9 _ _ hf)
def B_X4_alike_22   (Q : Int32 → pz_H → Prop) (h : pz_H) : Prop := (Q (-101 : Int32) h)
set_option maxHeartbeats 4000000 in
set_option maxRecDepth 100000 in
theorem kB_X4_alike_22 (X : pz_X) (d : Nat)    (Q : Int32 → pz_H → Prop) (h : pz_H)  (hf : B_X4_alike_22   Q h) : pz_W (fun _ => True) X M_X4_alike (d + 6) 22 [] [] h 0 0 (pq_qI Q) := by
  unfold B_X4_alike_22 at hf
  refine pz_bipush (v := (-101 : Int32)) dX4_alike_22 (by decide) ?_
  exact pz_ireturn dX4_alike_24 rfl rfl ⟨_, rfl, hf⟩
def B_X4_alike_52 (xs0 : Int32)  (Q : Int32 → pz_H → Prop) (h : pz_H) : Prop := (Q xs0 h)
set_option maxHeartbeats 4000000 in
set_option maxRecDepth 100000 in
theorem kB_X4_alike_52 (X : pz_X) (d : Nat) (xs0 : Int32)   (Q : Int32 → pz_H → Prop) (h : pz_H)  (hf : B_X4_alike_52 xs0  Q h) : pz_W (fun _ => True) X M_X4_alike (d + 6) 52 [] [.int xs0] h 0 0 (pq_qI Q) := by
  unfold B_X4_alike_52 at hf
  exact pz_ireturn dX4_alike_52 rfl rfl ⟨_, rfl, hf⟩
def B_X4_alike_51   (Q : Int32 → pz_H → Prop) (h : pz_H) : Prop := (B_X4_alike_52 (0 : Int32) Q h)
set_option maxHeartbeats 4000000 in
set_option maxRecDepth 100000 in
theorem kB_X4_alike_51 (X : pz_X) (d : Nat)    (Q : Int32 → pz_H → Prop) (h : pz_H)  (hf : B_X4_alike_51   Q h) : pz_W (fun _ => True) X M_X4_alike (d + 6) 51 [] [] h 0 0 (pq_qI Q) := by
  unfold B_X4_alike_51 at hf
  refine pz_iconst (v := (0 : Int32)) dX4_alike_51 (by decide) ?_
  exact pz_drop (pz_part_of [] rfl) (kB_X4_alike_52 X d _ _ _  hf)
def F_X4_alike (a0 : Nat) (x1 : Int32) (x2 : Int32) (h : pz_H) (Q : Int32 → pz_H → Prop) : Prop := (pq_o h a0 4 (F_X4_find a0 x1 h (fun r2 h1 => pq_sw r2 (pq_o h1 a0 4 (F_X4_find a0 x2 h1 (fun r5 h4 => pq_sw r5 (B_X4_alike_22 Q h4) (fun w6 => (B_X4_alike_22 Q h4))))) (fun w3 => (pq_o h1 a0 4 (F_X4_find a0 x2 h1 (fun r8 h7 => pq_sw r8 (B_X4_alike_22 Q h7) (fun w9 => (pq_gI h7 w3 1 3 (fun v10 => (pq_gI h7 w9 1 3 (fun v11 => (pq_br (v10 = v11) (pq_o h7 a0 4 (F_X4_allowTheSame a0 w3 w9 h7 (fun v13 h12 => (pq_br (v13 = 0) (B_X4_alike_51 Q h12) (B_X4_alike_52 (1 : Int32) Q h12))))) (B_X4_alike_51 Q h7))))))))))))))
set_option maxHeartbeats 4000000 in
set_option maxRecDepth 100000 in
theorem k_X4_alike (X : pz_X) (d : Nat) (a0 : Nat) (x1 : Int32) (x2 : Int32) (h : pz_H) (Q : Int32 → pz_H → Prop) (hf : F_X4_alike a0 x1 x2 h Q) : pz_Call X M_X4_alike (d + 6) 0 0 [.ref a0, .int x1, .int x2] h (pq_qI Q) := by
  refine pz_call_of (by decide +kernel) (Nat.le_of_ble_eq_true rfl) ?_
  unfold F_X4_alike at hf
  refine pz_aload_n dX4_alike_0 rfl ?_
  refine pz_iload_n dX4_alike_1 rfl ?_
  obtain ⟨_, hO, hf⟩ := hf
  refine pz_callV1 (rc := 0) (rs := 0) (mc := 0) (ms := 0) dX4_alike_2 (k_X4_find X (d + 5) _ _ _ _ hf) (Nat.le_of_ble_eq_true rfl) mf_X4_find ml_X4_77 hO rfl mi_X4_find ms_X4_find (fun _ h9 hq => ?_)
  obtain ⟨r2, rfl, hf⟩ := hq
  rcases r2 with _ | w3
  · refine pz_astore_nN dX4_alike_5 rfl (by decide) rfl ?_
    refine pz_aload_n dX4_alike_6 rfl ?_
    refine pz_iload_n dX4_alike_7 rfl ?_
    obtain ⟨_, hO, hf⟩ := hf
    refine pz_callV1 (rc := 0) (rs := 0) (mc := 0) (ms := 0) dX4_alike_8 (k_X4_find X (d + 5) _ _ _ _ hf) (Nat.le_of_ble_eq_true rfl) mf_X4_find ml_X4_77 hO rfl mi_X4_find ms_X4_find (fun _ h9 hq => ?_)
    obtain ⟨r5, rfl, hf⟩ := hq
    rcases r5 with _ | w6
    · refine pz_astoreN dX4_alike_11 (by decide) rfl ?_
      refine pz_aload_nN dX4_alike_13 rfl ?_
      refine pz_ifnullN dX4_alike_14 (tgt := 22) (by decide) ?_
      exact pz_drop (pz_part_of [] rfl) (kB_X4_alike_22 X d _ _  hf)
    · refine pz_astore dX4_alike_11 (by decide) rfl ?_
      refine pz_aload_nN dX4_alike_13 rfl ?_
      refine pz_ifnullN dX4_alike_14 (tgt := 22) (by decide) ?_
      exact pz_drop (pz_part_of [] rfl) (kB_X4_alike_22 X d _ _  hf)
  · refine pz_astore_n dX4_alike_5 rfl (by decide) rfl ?_
    refine pz_aload_n dX4_alike_6 rfl ?_
    refine pz_iload_n dX4_alike_7 rfl ?_
    obtain ⟨_, hO, hf⟩ := hf
    refine pz_callV1 (rc := 0) (rs := 0) (mc := 0) (ms := 0) dX4_alike_8 (k_X4_find X (d + 5) _ _ _ _ hf) (Nat.le_of_ble_eq_true rfl) mf_X4_find ml_X4_77 hO rfl mi_X4_find ms_X4_find (fun _ h9 hq => ?_)
    obtain ⟨r8, rfl, hf⟩ := hq
    rcases r8 with _ | w9
    · refine pz_astoreN dX4_alike_11 (by decide) rfl ?_
      refine pz_aload_n dX4_alike_13 rfl ?_
      refine pz_ifnull dX4_alike_14 ?_
      refine pz_aloadN dX4_alike_17 rfl ?_
      refine pz_ifnonnullN dX4_alike_19 ?_
      exact pz_drop (pz_part_of [] rfl) (kB_X4_alike_22 X d _ _  hf)
    · refine pz_astore dX4_alike_11 (by decide) rfl ?_
      refine pz_aload_n dX4_alike_13 rfl ?_
      refine pz_ifnull dX4_alike_14 ?_
      refine pz_aload dX4_alike_17 rfl ?_
      refine pz_ifnonnull dX4_alike_19 (tgt := 25) (by decide) ?_
      refine pz_aload_n dX4_alike_25 rfl ?_
      obtain ⟨_, v10, h1, h2, hf⟩ := hf
      refine pz_get dX4_alike_26 fl_X4_100 h1 h2 ?_
      refine pz_aload dX4_alike_29 rfl ?_
      obtain ⟨_, v11, h1, h2, hf⟩ := hf
      refine pz_get dX4_alike_31 fl_X4_100 h1 h2 ?_
      obtain ⟨ha, hb⟩ := hf
      refine pz_icmp_ne dX4_alike_34 (tgt := 51) (by decide) (fun cc => ?_) (fun cc => ?_)
      · have hf := hb cc
        exact pz_drop (pz_part_of [] rfl) (kB_X4_alike_51 X d _ _  hf)
      · have hf := ha cc
        refine pz_aload_n dX4_alike_37 rfl ?_
        refine pz_aload_n dX4_alike_38 rfl ?_
        refine pz_aload dX4_alike_39 rfl ?_
        obtain ⟨_, hO, hf⟩ := hf
        refine pz_callV2 (rc := 0) (rs := 0) (mc := 0) (ms := 0) dX4_alike_41 (k_X4_allowTheSame X d _ _ _ _ _ hf) (Nat.le_of_ble_eq_true rfl) mf_X4_allowTheSame ml_X4_185 hO rfl mi_X4_allowTheSame ms_X4_allowTheSame (fun _ h9 hq => ?_)
        obtain ⟨_, rfl, hf⟩ := hq
        obtain ⟨ha, hb⟩ := hf
        refine pz_if_eq dX4_alike_44 (tgt := 51) (by decide) (fun cc => ?_) (fun cc => ?_)
        · have hf := ha cc
          exact pz_drop (pz_part_of [] rfl) (kB_X4_alike_51 X d _ _  hf)
        · have hf := hb cc
          refine pz_iconst (v := (1 : Int32)) dX4_alike_47 (by decide) ?_
          refine pz_goto dX4_alike_48 (tgt := 52) (by decide) ?_
          exact pz_drop (pz_part_of [] rfl) (kB_X4_alike_52 X d _ _ _  hf)
def B_X4_isNew_42   (Q : Int32 → pz_H → Prop) (h : pz_H) : Prop := (Q (0 : Int32) h)
set_option maxHeartbeats 4000000 in
set_option maxRecDepth 100000 in
theorem kB_X4_isNew_42 (X : pz_X) (d : Nat)    (Q : Int32 → pz_H → Prop) (h : pz_H)  (hf : B_X4_isNew_42   Q h) : pz_W (fun _ => True) X M_X4_isNew (d + 0) 42 [] [] h 0 0 (pq_qI Q) := by
  unfold B_X4_isNew_42 at hf
  refine pz_iconst (v := (0 : Int32)) dX4_isNew_42 (by decide) ?_
  exact pz_ireturn dX4_isNew_43 rfl rfl ⟨_, rfl, hf⟩
def F_X4_isNew (a0 : Nat) (x1 : Int32) (h : pz_H) (Q : Int32 → pz_H → Prop) : Prop := (pq_br ((x1 >>> ((6 : Int32) &&& 31)) < 0) (B_X4_isNew_42 Q h) (pq_gA h a0 4 8 (fun b1 => (pq_len h b1 (fun v2 => (pq_br (v2 ≤ (x1 >>> ((6 : Int32) &&& 31))) (B_X4_isNew_42 Q h) (pq_gA h a0 4 8 (fun b3 => (pq_aJ h b3 (x1 >>> ((6 : Int32) &&& 31)) (fun v4 => (pq_br ((lg_cmp (v4 &&& ((1 : Int64) <<< (Int32.toInt64 (x1 &&& (63 : Int32)) &&& 63))) (0 : Int64)) = 0) (pq_gA h a0 4 8 (fun b5 => (pq_aJ h b5 (x1 >>> ((6 : Int32) &&& 31)) (fun v6 => (pq_sJ h b5 (x1 >>> ((6 : Int32) &&& 31)) (v6 ||| ((1 : Int64) <<< (Int32.toInt64 (x1 &&& (63 : Int32)) &&& 63))) (fun h7 => (Q (1 : Int32) h7))))))) (B_X4_isNew_42 Q h))))))))))))
set_option maxHeartbeats 4000000 in
set_option maxRecDepth 100000 in
theorem k_X4_isNew (X : pz_X) (d : Nat) (a0 : Nat) (x1 : Int32) (h : pz_H) (Q : Int32 → pz_H → Prop) (hf : F_X4_isNew a0 x1 h Q) : pz_Call X M_X4_isNew (d + 0) 0 0 [.ref a0, .int x1] h (pq_qI Q) := by
  refine pz_call_of (by decide +kernel) (Nat.le_of_ble_eq_true rfl) ?_
  unfold F_X4_isNew at hf
  refine pz_lconst (v := (1 : Int64)) dX4_isNew_0 (by decide) ?_
  refine pz_iload_n dX4_isNew_1 rfl ?_
  refine pz_bipush (v := (63 : Int32)) dX4_isNew_2 (by decide) ?_
  refine pz_iand dX4_isNew_4 ?_
  refine pz_lshl dX4_isNew_5 rfl ?_
  refine pz_lstore_n dX4_isNew_6 rfl (by decide) rfl ?_
  refine pz_iload_n dX4_isNew_7 rfl ?_
  refine pz_bipush (v := (6 : Int32)) dX4_isNew_8 (by decide) ?_
  refine pz_ishr dX4_isNew_10 ?_
  refine pz_istore dX4_isNew_11 (by decide) rfl ?_
  refine pz_iload dX4_isNew_13 rfl ?_
  obtain ⟨ha, hb⟩ := hf
  refine pz_if_lt dX4_isNew_15 (tgt := 42) (by decide) (fun cc => ?_) (fun cc => ?_)
  · have hf := ha cc
    exact pz_drop (pz_part_of [] rfl) (kB_X4_isNew_42 X d _ _  hf)
  · have hf := hb cc
    refine pz_iload dX4_isNew_18 rfl ?_
    refine pz_aload_n dX4_isNew_20 rfl ?_
    obtain ⟨_, b1, h1, h2, hf⟩ := hf
    refine pz_get dX4_isNew_21 fl_X4_43 h1 h2 ?_
    obtain ⟨_, _, _, h1, h2, hf⟩ := hf
    refine pz_alen dX4_isNew_24 h1 h2 rfl ?_
    obtain ⟨ha, hb⟩ := hf
    refine pz_icmp_ge dX4_isNew_25 (tgt := 42) (by decide) (fun cc => ?_) (fun cc => ?_)
    · have hf := ha cc
      exact pz_drop (pz_part_of [] rfl) (kB_X4_isNew_42 X d _ _  hf)
    · have hf := hb cc
      refine pz_aload_n dX4_isNew_28 rfl ?_
      obtain ⟨_, b3, h1, h2, hf⟩ := hf
      refine pz_get dX4_isNew_29 fl_X4_43 h1 h2 ?_
      refine pz_iload dX4_isNew_32 rfl ?_
      obtain ⟨_, _, h1, h2, hf⟩ := hf
      refine pz_lald dX4_isNew_34 h1 h2 ?_
      refine pz_lload_n dX4_isNew_35 rfl ?_
      refine pz_land dX4_isNew_36 ?_
      refine pz_lconst (v := (0 : Int64)) dX4_isNew_37 (by decide) ?_
      refine pz_lcmp dX4_isNew_38 ?_
      obtain ⟨ha, hb⟩ := hf
      refine pz_if_eq dX4_isNew_39 (tgt := 44) (by decide) (fun cc => ?_) (fun cc => ?_)
      · have hf := ha cc
        refine pz_aload_n dX4_isNew_44 rfl ?_
        obtain ⟨_, b5, h1, h2, hf⟩ := hf
        refine pz_get dX4_isNew_45 fl_X4_43 h1 h2 ?_
        refine pz_iload dX4_isNew_48 rfl ?_
        refine pz_dup2 dX4_isNew_50 rfl rfl ?_
        obtain ⟨_, _, h1, h2, hf⟩ := hf
        refine pz_lald dX4_isNew_51 h1 h2 ?_
        refine pz_lload_n dX4_isNew_52 rfl ?_
        refine pz_lor dX4_isNew_53 ?_
        obtain ⟨_, _, h1, h2, hf⟩ := hf
        refine pz_last dX4_isNew_54 h1 h2 ?_
        refine pz_iconst (v := (1 : Int32)) dX4_isNew_55 (by decide) ?_
        exact pz_ireturn dX4_isNew_56 rfl rfl ⟨_, rfl, hf⟩
      · have hf := hb cc
        exact pz_drop (pz_part_of [] rfl) (kB_X4_isNew_42 X d _ _  hf)
def B_X4_foldings_78 (x3 : Int32)  (Q : Int32 → pz_H → Prop) (h : pz_H) : Prop := (Q x3 h)
set_option maxHeartbeats 4000000 in
set_option maxRecDepth 100000 in
theorem kB_X4_foldings_78 (X : pz_X) (d : Nat) (x3 : Int32)   (Q : Int32 → pz_H → Prop) (h : pz_H)  (hf : B_X4_foldings_78 x3  Q h) : pz_W (fun _ => True) X M_X4_foldings (d + 5) 78 [(3, .int x3)] [] h 0 0 (pq_qI Q) := by
  unfold B_X4_foldings_78 at hf
  refine pz_iload_n dX4_foldings_78 rfl ?_
  exact pz_ireturn dX4_foldings_79 rfl rfl ⟨_, rfl, hf⟩
def B_X4_foldings_72 (a0 : Nat) (a2 : Nat) (x3 : Int32) (x4 : Int32) (k34 : Int32 → Int32 → pz_H → Prop) (Q : Int32 → pz_H → Prop) (h : pz_H) : Prop := (k34 x3 (x4 + (1 : Int32)) h)
set_option maxHeartbeats 4000000 in
set_option maxRecDepth 100000 in
theorem kB_X4_foldings_72 (X : pz_X) (d : Nat) (a0 : Nat) (a2 : Nat) (x3 : Int32) (x4 : Int32)  (k34 : Int32 → Int32 → pz_H → Prop) (Q : Int32 → pz_H → Prop) (h : pz_H) (hk34 : ∀ (x3 : Int32) (x4 : Int32) (h : pz_H), k34 x3 x4 h → pz_W (fun _ => True) X M_X4_foldings (d + 5) 34 [(0, .ref a0), (2, .ref a2), (3, .int x3), (4, .int x4)] [] h 0 0 (pq_qI Q)) (hf : B_X4_foldings_72 a0 a2 x3 x4 k34 Q h) : pz_W (fun _ => True) X M_X4_foldings (d + 5) 72 [(0, .ref a0), (2, .ref a2), (3, .int x3), (4, .int x4)] [] h 0 0 (pq_qI Q) := by
  unfold B_X4_foldings_72 at hf
  refine pz_iinc dX4_foldings_72 rfl (by rfl) (by decide) rfl ?_
  refine pz_goto dX4_foldings_75 (tgt := 34) (by decide) ?_
  exact pz_drop (pz_part_of [0, 2, 3, 4] rfl) (hk34 _ _ _ hf)
def L_X4_foldings_34 (a0 : Nat) (a2 : Nat)  (Q : Int32 → pz_H → Prop) : Nat → Int32 → Int32 → pz_H → Prop
  | 0, _, _, _ => False
  | n + 1, x3, x4, h => (pq_br ((362880 : Int32) ≤ x4) (B_X4_foldings_78 x3 Q h) (pq_gA h a0 4 2 (fun b1 => (pq_o h b1 2 (F_X2_next b1 h (fun v3 h2 => (pq_br (v3 = 0) (B_X4_foldings_78 x3 Q h2) (pq_gA h2 a0 4 2 (fun b4 => (pq_gA h2 b4 2 2 (fun b5 => (pq_o h2 a2 1 (F_X1_valleysIn a2 b5 h2 (fun v7 h6 => (pq_o h6 a0 4 (F_X4_isNew a0 v7 h6 (fun v9 h8 => (pq_br (v9 = 0) (B_X4_foldings_72 a0 a2 x3 x4 (fun z0 z1 hz => L_X4_foldings_34 a0 a2 Q n z0 z1 hz) Q h8) (B_X4_foldings_72 a0 a2 (x3 + (1 : Int32)) x4 (fun z0 z1 hz => L_X4_foldings_34 a0 a2 Q n z0 z1 hz) Q h8)))))))))))))))))))
set_option maxHeartbeats 4000000 in
set_option maxRecDepth 100000 in
theorem kL_X4_foldings_34 (X : pz_X) (d : Nat) (a0 : Nat) (a2 : Nat)   (Q : Int32 → pz_H → Prop)  : ∀ (n : Nat) (x3 : Int32) (x4 : Int32) (h : pz_H), L_X4_foldings_34 a0 a2  Q n x3 x4 h → pz_W (fun _ => True) X M_X4_foldings (d + 5) 34 [(0, .ref a0), (2, .ref a2), (3, .int x3), (4, .int x4)] [] h 0 0 (pq_qI Q) := by
  intro n
  induction n with
  | zero =>
    intro _ _ _ hf
    exact False.elim hf
  | succ n ih =>
    intro x3 x4 h hf
    unfold L_X4_foldings_34 at hf
    refine pz_iload dX4_foldings_34 rfl ?_
    refine pz_ldc dX4_foldings_36 cn_X4_151 ?_
    obtain ⟨ha, hb⟩ := hf
    refine pz_icmp_ge dX4_foldings_38 (tgt := 78) (by decide) (fun cc => ?_) (fun cc => ?_)
    · have hf := ha cc
      exact pz_drop (pz_part_of [3] rfl) (kB_X4_foldings_78 X d _ _ _  hf)
    · have hf := hb cc
      refine pz_aload_n dX4_foldings_41 rfl ?_
      obtain ⟨_, b1, h1, h2, hf⟩ := hf
      refine pz_get dX4_foldings_42 fl_X4_22 h1 h2 ?_
      obtain ⟨_, hO, hf⟩ := hf
      refine pz_callV0 (rc := 0) (rs := 0) (mc := 0) (ms := 0) dX4_foldings_45 (k_X2_next X d _ _ _ hf) (Nat.le_of_ble_eq_true rfl) mf_X2_next ml_X4_131 hO rfl mi_X2_next ms_X2_next (fun _ h9 hq => ?_)
      obtain ⟨_, rfl, hf⟩ := hq
      obtain ⟨ha, hb⟩ := hf
      refine pz_if_eq dX4_foldings_48 (tgt := 78) (by decide) (fun cc => ?_) (fun cc => ?_)
      · have hf := ha cc
        exact pz_drop (pz_part_of [3] rfl) (kB_X4_foldings_78 X d _ _ _  hf)
      · have hf := hb cc
        refine pz_aload_n dX4_foldings_51 rfl ?_
        refine pz_aload_n dX4_foldings_52 rfl ?_
        refine pz_aload_n dX4_foldings_53 rfl ?_
        obtain ⟨_, b4, h1, h2, hf⟩ := hf
        refine pz_get dX4_foldings_54 fl_X4_22 h1 h2 ?_
        obtain ⟨_, b5, h1, h2, hf⟩ := hf
        refine pz_get dX4_foldings_57 fl_X4_144 h1 h2 ?_
        obtain ⟨_, hO, hf⟩ := hf
        refine pz_callV1 (rc := 0) (rs := 0) (mc := 0) (ms := 0) dX4_foldings_60 (k_X1_valleysIn X (d + 2) _ _ _ _ hf) (Nat.le_of_ble_eq_true rfl) mf_X1_valleysIn ml_X4_195 hO rfl mi_X1_valleysIn ms_X1_valleysIn (fun _ h9 hq => ?_)
        obtain ⟨_, rfl, hf⟩ := hq
        obtain ⟨_, hO, hf⟩ := hf
        refine pz_callV1 (rc := 0) (rs := 0) (mc := 0) (ms := 0) dX4_foldings_63 (k_X4_isNew X (d + 4) _ _ _ _ hf) (Nat.le_of_ble_eq_true rfl) mf_X4_isNew ml_X4_198 hO rfl mi_X4_isNew ms_X4_isNew (fun _ h9 hq => ?_)
        obtain ⟨_, rfl, hf⟩ := hq
        obtain ⟨ha, hb⟩ := hf
        refine pz_if_eq dX4_foldings_66 (tgt := 72) (by decide) (fun cc => ?_) (fun cc => ?_)
        · have hf := ha cc
          exact pz_drop (pz_part_of [0, 2, 3, 4] rfl) (kB_X4_foldings_72 X d _ _ _ _ _ _ _ ih hf)
        · have hf := hb cc
          refine pz_iinc dX4_foldings_69 rfl (by rfl) (by decide) rfl ?_
          exact pz_drop (pz_part_of [0, 2, 3, 4] rfl) (kB_X4_foldings_72 X d _ _ _ _ _ _ _ ih hf)
def F_X4_foldings (a0 : Nat) (x1 : Int32) (h : pz_H) (Q : Int32 → pz_H → Prop) : Prop := (pq_o h a0 4 (F_X4_find a0 x1 h (fun r11 h10 => pq_sw r11 (Q (-101 : Int32) h10) (fun w12 => (pq_gA h10 a0 4 8 (fun b13 => (F_J7_fill_d0a16 b13 (0 : Int64) h10 (fun h14 => (pq_gA h14 a0 4 2 (fun b15 => (pq_o h14 b15 2 (F_X2_begin b15 w12 h14 (fun h16 => (pq_ex (fun m34 => L_X4_foldings_34 a0 w12 Q m34 (0 : Int32) (0 : Int32) h16)))))))))))))))
set_option maxHeartbeats 4000000 in
set_option maxRecDepth 100000 in
theorem k_X4_foldings (X : pz_X) (d : Nat) (a0 : Nat) (x1 : Int32) (h : pz_H) (Q : Int32 → pz_H → Prop) (hf : F_X4_foldings a0 x1 h Q) : pz_Call X M_X4_foldings (d + 5) 0 0 [.ref a0, .int x1] h (pq_qI Q) := by
  refine pz_call_of (by decide +kernel) (Nat.le_of_ble_eq_true rfl) ?_
  unfold F_X4_foldings at hf
  refine pz_aload_n dX4_foldings_0 rfl ?_
  refine pz_iload_n dX4_foldings_1 rfl ?_
  obtain ⟨_, hO, hf⟩ := hf
  refine pz_callV1 (rc := 0) (rs := 0) (mc := 0) (ms := 0) dX4_foldings_2 (k_X4_find X (d + 4) _ _ _ _ hf) (Nat.le_of_ble_eq_true rfl) mf_X4_find ml_X4_77 hO rfl mi_X4_find ms_X4_find (fun _ h9 hq => ?_)
  obtain ⟨r11, rfl, hf⟩ := hq
  rcases r11 with _ | w12
  · refine pz_astore_nN dX4_foldings_5 rfl (by decide) rfl ?_
    refine pz_aload_nN dX4_foldings_6 rfl ?_
    refine pz_ifnonnullN dX4_foldings_7 ?_
    refine pz_bipush (v := (-101 : Int32)) dX4_foldings_10 (by decide) ?_
    exact pz_ireturn dX4_foldings_12 rfl rfl ⟨_, rfl, hf⟩
  · refine pz_astore_n dX4_foldings_5 rfl (by decide) rfl ?_
    refine pz_aload_n dX4_foldings_6 rfl ?_
    refine pz_ifnonnull dX4_foldings_7 (tgt := 13) (by decide) ?_
    refine pz_aload_n dX4_foldings_13 rfl ?_
    obtain ⟨_, b13, h1, h2, hf⟩ := hf
    refine pz_get dX4_foldings_14 fl_X4_43 h1 h2 ?_
    refine pz_lconst (v := (0 : Int64)) dX4_foldings_17 (by decide) ?_
    refine pz_callS2 (rc := 0) (rs := 0) (mc := 0) (ms := 0) dX4_foldings_18 (k_J7_fill_d0a16 X (d + 4) _ _ _ _ hf) (Nat.le_of_ble_eq_true rfl) mf_J7_fill_d0a16 ml_X4_189 mt_J7_fill_d0a16 (fun _ h9 hq => ?_)
    obtain ⟨rfl, hf⟩ := hq
    refine pz_aload_n dX4_foldings_21 rfl ?_
    obtain ⟨_, b15, h1, h2, hf⟩ := hf
    refine pz_get dX4_foldings_22 fl_X4_22 h1 h2 ?_
    refine pz_aload_n dX4_foldings_25 rfl ?_
    obtain ⟨_, hO, hf⟩ := hf
    refine pz_callV1 (rc := 0) (rs := 0) (mc := 0) (ms := 0) dX4_foldings_26 (k_X2_begin X d _ _ _ _ hf) (Nat.le_of_ble_eq_true rfl) mf_X2_begin ml_X4_127 hO rfl mi_X2_begin ms_X2_begin (fun _ h9 hq => ?_)
    obtain ⟨rfl, hf⟩ := hq
    refine pz_iconst (v := (0 : Int32)) dX4_foldings_29 (by decide) ?_
    refine pz_istore_n dX4_foldings_30 rfl (by decide) rfl ?_
    refine pz_iconst (v := (0 : Int32)) dX4_foldings_31 (by decide) ?_
    refine pz_istore dX4_foldings_32 (by decide) rfl ?_
    obtain ⟨n9, hf⟩ := hf
    exact pz_drop (pz_part_of [0, 2, 3, 4] rfl) (kL_X4_foldings_34 X d _ _ _  n9 _ _ _ hf)
def F_X4_allowsSome (a0 : Nat) (a1 : Nat) (x2 : Int32) (h : pz_H) (Q : Int32 → pz_H → Prop) : Prop := (pq_gA h a0 4 2 (fun b1 => (pq_o h b1 2 (F_X2_beginWith b1 a1 x2 h (fun h2 => (pq_gA h2 a0 4 2 (fun b3 => (pq_o h2 b3 2 (F_X2_next b3 h2 (fun v5 h4 => (pq_z v5 (Q v5 h4))))))))))))
set_option maxHeartbeats 4000000 in
set_option maxRecDepth 100000 in
theorem k_X4_allowsSome (X : pz_X) (d : Nat) (a0 : Nat) (a1 : Nat) (x2 : Int32) (h : pz_H) (Q : Int32 → pz_H → Prop) (hf : F_X4_allowsSome a0 a1 x2 h Q) : pz_Call X M_X4_allowsSome (d + 5) 0 0 [.ref a0, .ref a1, .int x2] h (pq_qI Q) := by
  refine pz_call_of (by decide +kernel) (Nat.le_of_ble_eq_true rfl) ?_
  unfold F_X4_allowsSome at hf
  refine pz_aload_n dX4_allowsSome_0 rfl ?_
  obtain ⟨_, b1, h1, h2, hf⟩ := hf
  refine pz_get dX4_allowsSome_1 fl_X4_22 h1 h2 ?_
  refine pz_aload_n dX4_allowsSome_4 rfl ?_
  refine pz_iload_n dX4_allowsSome_5 rfl ?_
  obtain ⟨_, hO, hf⟩ := hf
  refine pz_callV2 (rc := 0) (rs := 0) (mc := 0) (ms := 0) dX4_allowsSome_6 (k_X2_beginWith X (d + 1) _ _ _ _ _ hf) (Nat.le_of_ble_eq_true rfl) mf_X2_beginWith ml_X4_264 hO rfl mi_X2_beginWith ms_X2_beginWith (fun _ h9 hq => ?_)
  obtain ⟨rfl, hf⟩ := hq
  refine pz_aload_n dX4_allowsSome_9 rfl ?_
  obtain ⟨_, b3, h1, h2, hf⟩ := hf
  refine pz_get dX4_allowsSome_10 fl_X4_22 h1 h2 ?_
  obtain ⟨_, hO, hf⟩ := hf
  refine pz_callV0 (rc := 0) (rs := 0) (mc := 0) (ms := 0) dX4_allowsSome_13 (k_X2_next X d _ _ _ hf) (Nat.le_of_ble_eq_true rfl) mf_X2_next ml_X4_131 hO rfl mi_X2_next ms_X2_next (fun _ h9 hq => ?_)
  obtain ⟨_, rfl, hf⟩ := hq
  obtain ⟨hz, hf⟩ := hf
  exact pz_ireturn dX4_allowsSome_16 rfl hz ⟨_, rfl, hf⟩
def B_X4_clash_131 (a0 : Nat) (a2 : Nat) (x3 : Int32) (x4 : Int32) (k92 : Int32 → pz_H → Prop) (Q : Int32 → pz_H → Prop) (h : pz_H) : Prop := (k92 (x4 + (1 : Int32)) h)
set_option maxHeartbeats 4000000 in
set_option maxRecDepth 100000 in
theorem kB_X4_clash_131 (X : pz_X) (d : Nat) (a0 : Nat) (a2 : Nat) (x3 : Int32) (x4 : Int32)  (k92 : Int32 → pz_H → Prop) (Q : Int32 → pz_H → Prop) (h : pz_H) (hk92 : ∀ (x4 : Int32) (h : pz_H), k92 x4 h → pz_W (fun _ => True) X M_X4_clash (d + 6) 92 [(0, .ref a0), (2, .ref a2), (3, .int x3), (4, .int x4)] [] h 0 0 (pq_qI Q)) (hf : B_X4_clash_131 a0 a2 x3 x4 k92 Q h) : pz_W (fun _ => True) X M_X4_clash (d + 6) 131 [(0, .ref a0), (2, .ref a2), (3, .int x3), (4, .int x4)] [] h 0 0 (pq_qI Q) := by
  unfold B_X4_clash_131 at hf
  refine pz_iinc dX4_clash_131 rfl (by rfl) (by decide) rfl ?_
  refine pz_goto dX4_clash_134 (tgt := 92) (by decide) ?_
  exact pz_drop (pz_part_of [0, 2, 3, 4] rfl) (hk92 _ _ hf)
def L_X4_clash_92 (a0 : Nat) (a2 : Nat) (x3 : Int32)  (Q : Int32 → pz_H → Prop) : Nat → Int32 → pz_H → Prop
  | 0, _, _ => False
  | n + 1, x4, h => (pq_gI h a2 1 4 (fun v3 => (pq_br (v3 ≤ x4) (pq_gI h a0 4 10 (fun v4 => (Q v4 h))) (F_X4_has x3 x4 h (fun v6 h5 => (pq_br (v6 = 0) (B_X4_clash_131 a0 a2 x3 x4 (fun z0 hz => L_X4_clash_92 a0 a2 x3 Q n z0 hz) Q h5) (pq_gA h5 a0 4 9 (fun b7 => (pq_gI h5 a0 4 10 (fun v8 => (pq_sI h5 b7 v8 x4 (fun h9 => (pq_gI h9 a0 4 10 (fun v10 => (pq_p h9 a0 4 10 (.int (v10 + (1 : Int32))) (fun h11 => (B_X4_clash_131 a0 a2 x3 x4 (fun z0 hz => L_X4_clash_92 a0 a2 x3 Q n z0 hz) Q h11)))))))))))))))))
set_option maxHeartbeats 4000000 in
set_option maxRecDepth 100000 in
theorem kL_X4_clash_92 (X : pz_X) (d : Nat) (a0 : Nat) (a2 : Nat) (x3 : Int32)   (Q : Int32 → pz_H → Prop)  : ∀ (n : Nat) (x4 : Int32) (h : pz_H), L_X4_clash_92 a0 a2 x3  Q n x4 h → pz_W (fun _ => True) X M_X4_clash (d + 6) 92 [(0, .ref a0), (2, .ref a2), (3, .int x3), (4, .int x4)] [] h 0 0 (pq_qI Q) := by
  intro n
  induction n with
  | zero =>
    intro _ _ hf
    exact False.elim hf
  | succ n ih =>
    intro x4 h hf
    unfold L_X4_clash_92 at hf
    refine pz_iload dX4_clash_92 rfl ?_
    refine pz_aload_n dX4_clash_94 rfl ?_
    obtain ⟨_, v3, h1, h2, hf⟩ := hf
    refine pz_get dX4_clash_95 fl_X4_103 h1 h2 ?_
    obtain ⟨ha, hb⟩ := hf
    refine pz_icmp_ge dX4_clash_98 (tgt := 137) (by decide) (fun cc => ?_) (fun cc => ?_)
    · have hf := ha cc
      refine pz_aload_n dX4_clash_137 rfl ?_
      obtain ⟨_, v4, h1, h2, hf⟩ := hf
      refine pz_get dX4_clash_138 fl_X4_50 h1 h2 ?_
      exact pz_ireturn dX4_clash_141 rfl rfl ⟨_, rfl, hf⟩
    · have hf := hb cc
      refine pz_iload_n dX4_clash_101 rfl ?_
      refine pz_iload dX4_clash_102 rfl ?_
      refine pz_callS2 (rc := 0) (rs := 0) (mc := 0) (ms := 0) dX4_clash_104 (k_X4_has X (d + 5) _ _ _ _ hf) (Nat.le_of_ble_eq_true rfl) mf_X4_has ml_X4_205 mt_X4_has (fun _ h9 hq => ?_)
      obtain ⟨_, rfl, hf⟩ := hq
      obtain ⟨ha, hb⟩ := hf
      refine pz_if_eq dX4_clash_107 (tgt := 131) (by decide) (fun cc => ?_) (fun cc => ?_)
      · have hf := ha cc
        exact pz_drop (pz_part_of [0, 2, 3, 4] rfl) (kB_X4_clash_131 X d _ _ _ _ _ _ _ ih hf)
      · have hf := hb cc
        refine pz_aload_n dX4_clash_110 rfl ?_
        obtain ⟨_, b7, h1, h2, hf⟩ := hf
        refine pz_get dX4_clash_111 fl_X4_47 h1 h2 ?_
        refine pz_aload_n dX4_clash_114 rfl ?_
        obtain ⟨_, v8, h1, h2, hf⟩ := hf
        refine pz_get dX4_clash_115 fl_X4_50 h1 h2 ?_
        refine pz_iload dX4_clash_118 rfl ?_
        obtain ⟨_, _, h1, h2, hf⟩ := hf
        refine pz_iast dX4_clash_120 h1 h2 ?_
        refine pz_aload_n dX4_clash_121 rfl ?_
        refine pz_dup dX4_clash_122 rfl ?_
        obtain ⟨_, v10, h1, h2, hf⟩ := hf
        refine pz_get dX4_clash_123 fl_X4_50 h1 h2 ?_
        refine pz_iconst (v := (1 : Int32)) dX4_clash_126 (by decide) ?_
        refine pz_iadd dX4_clash_127 ?_
        obtain ⟨_, h1, h2, hf⟩ := hf
        refine pz_put dX4_clash_128 fp_X4_50 h1 rfl rfl h2 ?_
        exact pz_drop (pz_part_of [0, 2, 3, 4] rfl) (kB_X4_clash_131 X d _ _ _ _ _ _ _ ih hf)
def B_X4_clash_83 (a0 : Nat) (a2 : Nat) (x3 : Int32) (x4 : Int32) (k49 : Int32 → Int32 → pz_H → Prop) (Q : Int32 → pz_H → Prop) (h : pz_H) : Prop := (k49 x3 (x4 + (-1 : Int32)) h)
set_option maxHeartbeats 4000000 in
set_option maxRecDepth 100000 in
theorem kB_X4_clash_83 (X : pz_X) (d : Nat) (a0 : Nat) (a2 : Nat) (x3 : Int32) (x4 : Int32)  (k49 : Int32 → Int32 → pz_H → Prop) (Q : Int32 → pz_H → Prop) (h : pz_H) (hk49 : ∀ (x3 : Int32) (x4 : Int32) (h : pz_H), k49 x3 x4 h → pz_W (fun _ => True) X M_X4_clash (d + 6) 49 [(0, .ref a0), (2, .ref a2), (3, .int x3), (4, .int x4)] [] h 0 0 (pq_qI Q)) (hf : B_X4_clash_83 a0 a2 x3 x4 k49 Q h) : pz_W (fun _ => True) X M_X4_clash (d + 6) 83 [(0, .ref a0), (2, .ref a2), (3, .int x3), (4, .int x4)] [] h 0 0 (pq_qI Q) := by
  unfold B_X4_clash_83 at hf
  refine pz_iinc dX4_clash_83 rfl (by rfl) (by decide) rfl ?_
  refine pz_goto dX4_clash_86 (tgt := 49) (by decide) ?_
  exact pz_drop (pz_part_of [0, 2, 3, 4] rfl) (hk49 _ _ _ hf)
def L_X4_clash_49 (a0 : Nat) (a2 : Nat)  (Q : Int32 → pz_H → Prop) : Nat → Int32 → Int32 → pz_H → Prop
  | 0, _, _, _ => False
  | n + 1, x3, x4, h => (pq_br (x4 < 0) (pq_ex (fun m92 => L_X4_clash_92 a0 a2 x3 Q m92 (0 : Int32) h)) (pq_br ((x3 &&& (((1 : Int32) <<< (x4 &&& 31)) ^^^ (-1 : Int32))) = x3) (B_X4_clash_83 a0 a2 x3 x4 (fun z0 z1 hz => L_X4_clash_49 a0 a2 Q n z0 z1 hz) Q h) (pq_o h a0 4 (F_X4_allowsSome a0 a2 (x3 &&& (((1 : Int32) <<< (x4 &&& 31)) ^^^ (-1 : Int32))) h (fun v2 h1 => (pq_br (v2 = 0) (B_X4_clash_83 a0 a2 (x3 &&& (((1 : Int32) <<< (x4 &&& 31)) ^^^ (-1 : Int32))) x4 (fun z0 z1 hz => L_X4_clash_49 a0 a2 Q n z0 z1 hz) Q h1) (B_X4_clash_83 a0 a2 x3 x4 (fun z0 z1 hz => L_X4_clash_49 a0 a2 Q n z0 z1 hz) Q h1)))))))
set_option maxHeartbeats 4000000 in
set_option maxRecDepth 100000 in
theorem kL_X4_clash_49 (X : pz_X) (d : Nat) (a0 : Nat) (a2 : Nat)   (Q : Int32 → pz_H → Prop)  : ∀ (n : Nat) (x3 : Int32) (x4 : Int32) (h : pz_H), L_X4_clash_49 a0 a2  Q n x3 x4 h → pz_W (fun _ => True) X M_X4_clash (d + 6) 49 [(0, .ref a0), (2, .ref a2), (3, .int x3), (4, .int x4)] [] h 0 0 (pq_qI Q) := by
  intro n
  induction n with
  | zero =>
    intro _ _ _ hf
    exact False.elim hf
  | succ n ih =>
    intro x3 x4 h hf
    unfold L_X4_clash_49 at hf
    refine pz_iload dX4_clash_49 rfl ?_
    obtain ⟨ha, hb⟩ := hf
    refine pz_if_lt dX4_clash_51 (tgt := 89) (by decide) (fun cc => ?_) (fun cc => ?_)
    · have hf := ha cc
      refine pz_iconst (v := (0 : Int32)) dX4_clash_89 (by decide) ?_
      refine pz_istore dX4_clash_90 (by decide) rfl ?_
      obtain ⟨n9, hf⟩ := hf
      exact pz_drop (pz_part_of [0, 2, 3, 4] rfl) (kL_X4_clash_92 X d _ _ _ _  n9 _ _ hf)
    · have hf := hb cc
      refine pz_iload_n dX4_clash_54 rfl ?_
      refine pz_iconst (v := (1 : Int32)) dX4_clash_55 (by decide) ?_
      refine pz_iload dX4_clash_56 rfl ?_
      refine pz_ishl dX4_clash_58 ?_
      refine pz_iconst (v := (-1 : Int32)) dX4_clash_59 (by decide) ?_
      refine pz_ixor dX4_clash_60 ?_
      refine pz_iand dX4_clash_61 ?_
      refine pz_istore dX4_clash_62 (by decide) rfl ?_
      refine pz_iload dX4_clash_64 rfl ?_
      refine pz_iload_n dX4_clash_66 rfl ?_
      obtain ⟨ha, hb⟩ := hf
      refine pz_icmp_eq dX4_clash_67 (tgt := 83) (by decide) (fun cc => ?_) (fun cc => ?_)
      · have hf := ha cc
        exact pz_drop (pz_part_of [0, 2, 3, 4] rfl) (kB_X4_clash_83 X d _ _ _ _ _ _ _ ih hf)
      · have hf := hb cc
        refine pz_aload_n dX4_clash_70 rfl ?_
        refine pz_aload_n dX4_clash_71 rfl ?_
        refine pz_iload dX4_clash_72 rfl ?_
        obtain ⟨_, hO, hf⟩ := hf
        refine pz_callV2 (rc := 0) (rs := 0) (mc := 0) (ms := 0) dX4_clash_74 (k_X4_allowsSome X d _ _ _ _ _ hf) (Nat.le_of_ble_eq_true rfl) mf_X4_allowsSome ml_X4_201 hO rfl mi_X4_allowsSome ms_X4_allowsSome (fun _ h9 hq => ?_)
        obtain ⟨_, rfl, hf⟩ := hq
        obtain ⟨ha, hb⟩ := hf
        refine pz_if_ne dX4_clash_77 (tgt := 83) (by decide) (fun cc => ?_) (fun cc => ?_)
        · have hf := hb cc
          exact pz_drop (pz_part_of [0, 2, 3, 4] rfl) (kB_X4_clash_83 X d _ _ _ _ _ _ _ ih hf)
        · have hf := ha cc
          refine pz_iload dX4_clash_80 rfl ?_
          refine pz_istore_n dX4_clash_82 rfl (by decide) rfl ?_
          exact pz_drop (pz_part_of [0, 2, 3, 4] rfl) (kB_X4_clash_83 X d _ _ _ _ _ _ _ ih hf)
def F_X4_clash (a0 : Nat) (x1 : Int32) (h : pz_H) (Q : Int32 → pz_H → Prop) : Prop := (pq_o h a0 4 (F_X4_find a0 x1 h (fun r13 h12 => pq_sw r13 (Q (-101 : Int32) h12) (fun w14 => (pq_p h12 a0 4 10 (.int (0 : Int32)) (fun h15 => (pq_o h15 w14 1 (F_X1_marked w14 (1 : Int32) h15 (fun v17 h16 => (pq_o h16 w14 1 (F_X1_marked w14 (2 : Int32) h16 (fun v19 h18 => (pq_o h18 a0 4 (F_X4_allowsSome a0 w14 (v17 ||| v19) h18 (fun v21 h20 => (pq_br (v21 = 0) (pq_gI h20 w14 1 4 (fun v22 => (pq_ex (fun m49 => L_X4_clash_49 a0 w14 Q m49 (v17 ||| v19) (v22 - (1 : Int32)) h20)))) (Q (0 : Int32) h20)))))))))))))))))
set_option maxHeartbeats 4000000 in
set_option maxRecDepth 100000 in
theorem k_X4_clash (X : pz_X) (d : Nat) (a0 : Nat) (x1 : Int32) (h : pz_H) (Q : Int32 → pz_H → Prop) (hf : F_X4_clash a0 x1 h Q) : pz_Call X M_X4_clash (d + 6) 0 0 [.ref a0, .int x1] h (pq_qI Q) := by
  refine pz_call_of (by decide +kernel) (Nat.le_of_ble_eq_true rfl) ?_
  unfold F_X4_clash at hf
  refine pz_aload_n dX4_clash_0 rfl ?_
  refine pz_iload_n dX4_clash_1 rfl ?_
  obtain ⟨_, hO, hf⟩ := hf
  refine pz_callV1 (rc := 0) (rs := 0) (mc := 0) (ms := 0) dX4_clash_2 (k_X4_find X (d + 5) _ _ _ _ hf) (Nat.le_of_ble_eq_true rfl) mf_X4_find ml_X4_77 hO rfl mi_X4_find ms_X4_find (fun _ h9 hq => ?_)
  obtain ⟨r13, rfl, hf⟩ := hq
  rcases r13 with _ | w14
  · refine pz_astore_nN dX4_clash_5 rfl (by decide) rfl ?_
    refine pz_aload_nN dX4_clash_6 rfl ?_
    refine pz_ifnonnullN dX4_clash_7 ?_
    refine pz_bipush (v := (-101 : Int32)) dX4_clash_10 (by decide) ?_
    exact pz_ireturn dX4_clash_12 rfl rfl ⟨_, rfl, hf⟩
  · refine pz_astore_n dX4_clash_5 rfl (by decide) rfl ?_
    refine pz_aload_n dX4_clash_6 rfl ?_
    refine pz_ifnonnull dX4_clash_7 (tgt := 13) (by decide) ?_
    refine pz_aload_n dX4_clash_13 rfl ?_
    refine pz_iconst (v := (0 : Int32)) dX4_clash_14 (by decide) ?_
    obtain ⟨_, h1, h2, hf⟩ := hf
    refine pz_put dX4_clash_15 fp_X4_50 h1 rfl rfl h2 ?_
    refine pz_aload_n dX4_clash_18 rfl ?_
    refine pz_iconst (v := (1 : Int32)) dX4_clash_19 (by decide) ?_
    obtain ⟨_, hO, hf⟩ := hf
    refine pz_callV1 (rc := 0) (rs := 0) (mc := 0) (ms := 0) dX4_clash_20 (k_X1_marked X (d + 5) _ _ _ _ hf) (Nat.le_of_ble_eq_true rfl) mf_X1_marked ml_X4_106 hO rfl mi_X1_marked ms_X1_marked (fun _ h9 hq => ?_)
    obtain ⟨_, rfl, hf⟩ := hq
    refine pz_aload_n dX4_clash_23 rfl ?_
    refine pz_iconst (v := (2 : Int32)) dX4_clash_24 (by decide) ?_
    obtain ⟨_, hO, hf⟩ := hf
    refine pz_callV1 (rc := 0) (rs := 0) (mc := 0) (ms := 0) dX4_clash_25 (k_X1_marked X (d + 5) _ _ _ _ hf) (Nat.le_of_ble_eq_true rfl) mf_X1_marked ml_X4_106 hO rfl mi_X1_marked ms_X1_marked (fun _ h9 hq => ?_)
    obtain ⟨_, rfl, hf⟩ := hq
    refine pz_ior dX4_clash_28 ?_
    refine pz_istore_n dX4_clash_29 rfl (by decide) rfl ?_
    refine pz_aload_n dX4_clash_30 rfl ?_
    refine pz_aload_n dX4_clash_31 rfl ?_
    refine pz_iload_n dX4_clash_32 rfl ?_
    obtain ⟨_, hO, hf⟩ := hf
    refine pz_callV2 (rc := 0) (rs := 0) (mc := 0) (ms := 0) dX4_clash_33 (k_X4_allowsSome X d _ _ _ _ _ hf) (Nat.le_of_ble_eq_true rfl) mf_X4_allowsSome ml_X4_201 hO rfl mi_X4_allowsSome ms_X4_allowsSome (fun _ h9 hq => ?_)
    obtain ⟨_, rfl, hf⟩ := hq
    obtain ⟨ha, hb⟩ := hf
    refine pz_if_eq dX4_clash_36 (tgt := 41) (by decide) (fun cc => ?_) (fun cc => ?_)
    · have hf := ha cc
      refine pz_aload_n dX4_clash_41 rfl ?_
      obtain ⟨_, v22, h1, h2, hf⟩ := hf
      refine pz_get dX4_clash_42 fl_X4_103 h1 h2 ?_
      refine pz_iconst (v := (1 : Int32)) dX4_clash_45 (by decide) ?_
      refine pz_isub dX4_clash_46 ?_
      refine pz_istore dX4_clash_47 (by decide) rfl ?_
      obtain ⟨n9, hf⟩ := hf
      exact pz_drop (pz_part_of [0, 2, 3, 4] rfl) (kL_X4_clash_49 X d _ _ _  n9 _ _ _ hf)
    · have hf := hb cc
      refine pz_iconst (v := (0 : Int32)) dX4_clash_39 (by decide) ?_
      exact pz_ireturn dX4_clash_40 rfl rfl ⟨_, rfl, hf⟩
def B_X4_inClash_22 (xs0 : Int32)  (Q : Int32 → pz_H → Prop) (h : pz_H) : Prop := (Q xs0 h)
set_option maxHeartbeats 4000000 in
set_option maxRecDepth 100000 in
theorem kB_X4_inClash_22 (X : pz_X) (d : Nat) (xs0 : Int32)   (Q : Int32 → pz_H → Prop) (h : pz_H)  (hf : B_X4_inClash_22 xs0  Q h) : pz_W (fun _ => True) X M_X4_inClash (d + 0) 22 [] [.int xs0] h 0 0 (pq_qI Q) := by
  unfold B_X4_inClash_22 at hf
  exact pz_ireturn dX4_inClash_22 rfl rfl ⟨_, rfl, hf⟩
def B_X4_inClash_12   (Q : Int32 → pz_H → Prop) (h : pz_H) : Prop := (B_X4_inClash_22 (-1 : Int32) Q h)
set_option maxHeartbeats 4000000 in
set_option maxRecDepth 100000 in
theorem kB_X4_inClash_12 (X : pz_X) (d : Nat)    (Q : Int32 → pz_H → Prop) (h : pz_H)  (hf : B_X4_inClash_12   Q h) : pz_W (fun _ => True) X M_X4_inClash (d + 0) 12 [] [] h 0 0 (pq_qI Q) := by
  unfold B_X4_inClash_12 at hf
  refine pz_iconst (v := (-1 : Int32)) dX4_inClash_12 (by decide) ?_
  refine pz_goto dX4_inClash_13 (tgt := 22) (by decide) ?_
  exact pz_drop (pz_part_of [] rfl) (kB_X4_inClash_22 X d _ _ _  hf)
def F_X4_inClash (a0 : Nat) (x1 : Int32) (h : pz_H) (Q : Int32 → pz_H → Prop) : Prop := (pq_br (x1 < 0) (B_X4_inClash_12 Q h) (pq_gI h a0 4 10 (fun v1 => (pq_br (x1 < v1) (pq_gA h a0 4 9 (fun b2 => (pq_aI h b2 x1 (fun v3 => (B_X4_inClash_22 v3 Q h))))) (B_X4_inClash_12 Q h)))))
set_option maxHeartbeats 4000000 in
set_option maxRecDepth 100000 in
theorem k_X4_inClash (X : pz_X) (d : Nat) (a0 : Nat) (x1 : Int32) (h : pz_H) (Q : Int32 → pz_H → Prop) (hf : F_X4_inClash a0 x1 h Q) : pz_Call X M_X4_inClash (d + 0) 0 0 [.ref a0, .int x1] h (pq_qI Q) := by
  refine pz_call_of (by decide +kernel) (Nat.le_of_ble_eq_true rfl) ?_
  unfold F_X4_inClash at hf
  refine pz_iload_n dX4_inClash_0 rfl ?_
  obtain ⟨ha, hb⟩ := hf
  refine pz_if_lt dX4_inClash_1 (tgt := 12) (by decide) (fun cc => ?_) (fun cc => ?_)
  · have hf := ha cc
    exact pz_drop (pz_part_of [] rfl) (kB_X4_inClash_12 X d _ _  hf)
  · have hf := hb cc
    refine pz_iload_n dX4_inClash_4 rfl ?_
    refine pz_aload_n dX4_inClash_5 rfl ?_
    obtain ⟨_, v1, h1, h2, hf⟩ := hf
    refine pz_get dX4_inClash_6 fl_X4_50 h1 h2 ?_
    obtain ⟨ha, hb⟩ := hf
    refine pz_icmp_lt dX4_inClash_9 (tgt := 16) (by decide) (fun cc => ?_) (fun cc => ?_)
    · have hf := ha cc
      refine pz_aload_n dX4_inClash_16 rfl ?_
      obtain ⟨_, b2, h1, h2, hf⟩ := hf
      refine pz_get dX4_inClash_17 fl_X4_47 h1 h2 ?_
      refine pz_iload_n dX4_inClash_20 rfl ?_
      obtain ⟨_, _, h1, h2, hf⟩ := hf
      refine pz_iald dX4_inClash_21 h1 h2 ?_
      exact pz_drop (pz_part_of [] rfl) (kB_X4_inClash_22 X d _ _ _  hf)
    · have hf := hb cc
      exact pz_drop (pz_part_of [] rfl) (kB_X4_inClash_12 X d _ _  hf)
def F_X4_simple (a0 : Nat) (x1 : Int32) (h : pz_H) (Q : Int32 → pz_H → Prop) : Prop := (pq_o h a0 4 (F_X4_find a0 x1 h (fun r2 h1 => pq_sw r2 (Q (-101 : Int32) h1) (fun w3 => (pq_gI h1 w3 1 0 (fun v4 => (pq_br (v4 = (1 : Int32)) (Q (-103 : Int32) h1) (pq_gA h1 a0 4 12 (fun b5 => (pq_gA h1 a0 4 11 (fun b6 => (pq_o h1 b5 3 (F_X3_explore b5 w3 b6 h1 (fun h7 => (pq_gA h7 a0 4 12 (fun b8 => (pq_gA h7 b8 3 0 (fun b9 => (pq_aI h7 b9 (0 : Int32) (fun v10 => (pq_br (v10 ≤ (8 : Int32)) (pq_gA h7 a0 4 12 (fun b11 => (pq_o h7 w3 1 (F_X1_allLines w3 h7 (fun v13 h12 => (pq_gA h12 a0 4 13 (fun b14 => (pq_o h12 b11 3 (F_X3_trace b11 v13 b14 h12 (fun v16 h15 => (pq_p h15 a0 4 14 (.int v16) (fun h17 => (pq_gI h17 a0 4 14 (fun v18 => (Q v18 h17))))))))))))))) (Q (-1 : Int32) h7))))))))))))))))))))))
set_option maxHeartbeats 4000000 in
set_option maxRecDepth 100000 in
theorem k_X4_simple (X : pz_X) (d : Nat) (a0 : Nat) (x1 : Int32) (h : pz_H) (Q : Int32 → pz_H → Prop) (hf : F_X4_simple a0 x1 h Q) : pz_Call X M_X4_simple (d + 7) 0 0 [.ref a0, .int x1] h (pq_qI Q) := by
  refine pz_call_of (by decide +kernel) (Nat.le_of_ble_eq_true rfl) ?_
  unfold F_X4_simple at hf
  refine pz_aload_n dX4_simple_0 rfl ?_
  refine pz_iload_n dX4_simple_1 rfl ?_
  obtain ⟨_, hO, hf⟩ := hf
  refine pz_callV1 (rc := 0) (rs := 0) (mc := 0) (ms := 0) dX4_simple_2 (k_X4_find X (d + 6) _ _ _ _ hf) (Nat.le_of_ble_eq_true rfl) mf_X4_find ml_X4_77 hO rfl mi_X4_find ms_X4_find (fun _ h9 hq => ?_)
  obtain ⟨r2, rfl, hf⟩ := hq
  rcases r2 with _ | w3
  · refine pz_astore_nN dX4_simple_5 rfl (by decide) rfl ?_
    refine pz_aload_nN dX4_simple_6 rfl ?_
    refine pz_ifnonnullN dX4_simple_7 ?_
    refine pz_bipush (v := (-101 : Int32)) dX4_simple_10 (by decide) ?_
    exact pz_ireturn dX4_simple_12 rfl rfl ⟨_, rfl, hf⟩
  · refine pz_astore_n dX4_simple_5 rfl (by decide) rfl ?_
    refine pz_aload_n dX4_simple_6 rfl ?_
    refine pz_ifnonnull dX4_simple_7 (tgt := 13) (by decide) ?_
    refine pz_aload_n dX4_simple_13 rfl ?_
    obtain ⟨_, v4, h1, h2, hf⟩ := hf
    refine pz_get dX4_simple_14 fl_X4_85 h1 h2 ?_
    refine pz_iconst (v := (1 : Int32)) dX4_simple_17 (by decide) ?_
    obtain ⟨ha, hb⟩ := hf
    refine pz_icmp_ne dX4_simple_18 (tgt := 24) (by decide) (fun cc => ?_) (fun cc => ?_)
    · have hf := hb cc
      refine pz_aload_n dX4_simple_24 rfl ?_
      obtain ⟨_, b5, h1, h2, hf⟩ := hf
      refine pz_get dX4_simple_25 fl_X4_63 h1 h2 ?_
      refine pz_aload_n dX4_simple_28 rfl ?_
      refine pz_aload_n dX4_simple_29 rfl ?_
      obtain ⟨_, b6, h1, h2, hf⟩ := hf
      refine pz_get dX4_simple_30 fl_X4_56 h1 h2 ?_
      obtain ⟨_, hO, hf⟩ := hf
      refine pz_callV2 (rc := 0) (rs := 0) (mc := 0) (ms := 0) dX4_simple_33 (k_X3_explore X d _ _ _ _ _ hf) (Nat.le_of_ble_eq_true rfl) mf_X3_explore ml_X4_209 hO rfl mi_X3_explore ms_X3_explore (fun _ h9 hq => ?_)
      obtain ⟨rfl, hf⟩ := hq
      refine pz_aload_n dX4_simple_36 rfl ?_
      obtain ⟨_, b8, h1, h2, hf⟩ := hf
      refine pz_get dX4_simple_37 fl_X4_63 h1 h2 ?_
      obtain ⟨_, b9, h1, h2, hf⟩ := hf
      refine pz_get dX4_simple_40 fl_X4_213 h1 h2 ?_
      refine pz_iconst (v := (0 : Int32)) dX4_simple_43 (by decide) ?_
      obtain ⟨_, _, h1, h2, hf⟩ := hf
      refine pz_iald dX4_simple_44 h1 h2 ?_
      refine pz_bipush (v := (8 : Int32)) dX4_simple_45 (by decide) ?_
      obtain ⟨ha, hb⟩ := hf
      refine pz_icmp_le dX4_simple_47 (tgt := 52) (by decide) (fun cc => ?_) (fun cc => ?_)
      · have hf := ha cc
        refine pz_aload_n dX4_simple_52 rfl ?_
        refine pz_aload_n dX4_simple_53 rfl ?_
        obtain ⟨_, b11, h1, h2, hf⟩ := hf
        refine pz_get dX4_simple_54 fl_X4_63 h1 h2 ?_
        refine pz_aload_n dX4_simple_57 rfl ?_
        obtain ⟨_, hO, hf⟩ := hf
        refine pz_callV0 (rc := 0) (rs := 0) (mc := 0) (ms := 0) dX4_simple_58 (k_X1_allLines X (d + 6) _ _ _ hf) (Nat.le_of_ble_eq_true rfl) mf_X1_allLines ml_X4_216 hO rfl mi_X1_allLines ms_X1_allLines (fun _ h9 hq => ?_)
        obtain ⟨_, rfl, hf⟩ := hq
        refine pz_aload_n dX4_simple_61 rfl ?_
        obtain ⟨_, b14, h1, h2, hf⟩ := hf
        refine pz_get dX4_simple_62 fl_X4_67 h1 h2 ?_
        obtain ⟨_, hO, hf⟩ := hf
        refine pz_callV2 (rc := 0) (rs := 0) (mc := 0) (ms := 0) dX4_simple_65 (k_X3_trace X (d + 6) _ _ _ _ _ hf) (Nat.le_of_ble_eq_true rfl) mf_X3_trace ml_X4_220 hO rfl mi_X3_trace ms_X3_trace (fun _ h9 hq => ?_)
        obtain ⟨_, rfl, hf⟩ := hq
        obtain ⟨_, h1, h2, hf⟩ := hf
        refine pz_put dX4_simple_68 fp_X4_70 h1 rfl rfl h2 ?_
        refine pz_aload_n dX4_simple_71 rfl ?_
        obtain ⟨_, v18, h1, h2, hf⟩ := hf
        refine pz_get dX4_simple_72 fl_X4_70 h1 h2 ?_
        exact pz_ireturn dX4_simple_75 rfl rfl ⟨_, rfl, hf⟩
      · have hf := hb cc
        refine pz_iconst (v := (-1 : Int32)) dX4_simple_50 (by decide) ?_
        exact pz_ireturn dX4_simple_51 rfl rfl ⟨_, rfl, hf⟩
    · have hf := ha cc
      refine pz_bipush (v := (-103 : Int32)) dX4_simple_21 (by decide) ?_
      exact pz_ireturn dX4_simple_23 rfl rfl ⟨_, rfl, hf⟩
def B_X4_step_23 (xs0 : Int32)  (Q : Int32 → pz_H → Prop) (h : pz_H) : Prop := (Q xs0 h)
set_option maxHeartbeats 4000000 in
set_option maxRecDepth 100000 in
theorem kB_X4_step_23 (X : pz_X) (d : Nat) (xs0 : Int32)   (Q : Int32 → pz_H → Prop) (h : pz_H)  (hf : B_X4_step_23 xs0  Q h) : pz_W (fun _ => True) X M_X4_step (d + 0) 23 [] [.int xs0] h 0 0 (pq_qI Q) := by
  unfold B_X4_step_23 at hf
  exact pz_ireturn dX4_step_23 rfl rfl ⟨_, rfl, hf⟩
def B_X4_step_12   (Q : Int32 → pz_H → Prop) (h : pz_H) : Prop := (B_X4_step_23 (-103 : Int32) Q h)
set_option maxHeartbeats 4000000 in
set_option maxRecDepth 100000 in
theorem kB_X4_step_12 (X : pz_X) (d : Nat)    (Q : Int32 → pz_H → Prop) (h : pz_H)  (hf : B_X4_step_12   Q h) : pz_W (fun _ => True) X M_X4_step (d + 0) 12 [] [] h 0 0 (pq_qI Q) := by
  unfold B_X4_step_12 at hf
  refine pz_bipush (v := (-103 : Int32)) dX4_step_12 (by decide) ?_
  refine pz_goto dX4_step_14 (tgt := 23) (by decide) ?_
  exact pz_drop (pz_part_of [] rfl) (kB_X4_step_23 X d _ _ _  hf)
def F_X4_step (a0 : Nat) (x1 : Int32) (h : pz_H) (Q : Int32 → pz_H → Prop) : Prop := (pq_br (x1 < 0) (B_X4_step_12 Q h) (pq_gI h a0 4 14 (fun v1 => (pq_br (x1 < v1) (pq_gA h a0 4 13 (fun b2 => (pq_aI h b2 x1 (fun v3 => (B_X4_step_23 v3 Q h))))) (B_X4_step_12 Q h)))))
set_option maxHeartbeats 4000000 in
set_option maxRecDepth 100000 in
theorem k_X4_step (X : pz_X) (d : Nat) (a0 : Nat) (x1 : Int32) (h : pz_H) (Q : Int32 → pz_H → Prop) (hf : F_X4_step a0 x1 h Q) : pz_Call X M_X4_step (d + 0) 0 0 [.ref a0, .int x1] h (pq_qI Q) := by
  refine pz_call_of (by decide +kernel) (Nat.le_of_ble_eq_true rfl) ?_
  unfold F_X4_step at hf
  refine pz_iload_n dX4_step_0 rfl ?_
  obtain ⟨ha, hb⟩ := hf
  refine pz_if_lt dX4_step_1 (tgt := 12) (by decide) (fun cc => ?_) (fun cc => ?_)
  · have hf := ha cc
    exact pz_drop (pz_part_of [] rfl) (kB_X4_step_12 X d _ _  hf)
  · have hf := hb cc
    refine pz_iload_n dX4_step_4 rfl ?_
    refine pz_aload_n dX4_step_5 rfl ?_
    obtain ⟨_, v1, h1, h2, hf⟩ := hf
    refine pz_get dX4_step_6 fl_X4_70 h1 h2 ?_
    obtain ⟨ha, hb⟩ := hf
    refine pz_icmp_lt dX4_step_9 (tgt := 17) (by decide) (fun cc => ?_) (fun cc => ?_)
    · have hf := ha cc
      refine pz_aload_n dX4_step_17 rfl ?_
      obtain ⟨_, b2, h1, h2, hf⟩ := hf
      refine pz_get dX4_step_18 fl_X4_67 h1 h2 ?_
      refine pz_iload_n dX4_step_21 rfl ?_
      obtain ⟨_, _, h1, h2, hf⟩ := hf
      refine pz_iald dX4_step_22 h1 h2 ?_
      exact pz_drop (pz_part_of [] rfl) (kB_X4_step_23 X d _ _ _  hf)
    · have hf := hb cc
      exact pz_drop (pz_part_of [] rfl) (kB_X4_step_12 X d _ _  hf)
def F_X4_fold (a0 : Nat) (x1 : Int32) (x2 : Int32) (h : pz_H) (Q : Int32 → pz_H → Prop) : Prop := (pq_o h a0 4 (F_X4_find a0 x1 h (fun r2 h1 => pq_sw r2 (Q (-101 : Int32) h1) (fun w3 => (pq_gI h1 w3 1 0 (fun v4 => (pq_br (v4 = (1 : Int32)) (Q (-103 : Int32) h1) (pq_gA h1 a0 4 11 (fun b5 => (pq_gI h1 w3 1 17 (fun v6 => (pq_o h1 b5 0 (F_X0_put b5 w3 v6 h1 (fun h7 => (pq_gA h7 a0 4 11 (fun b8 => (pq_o h7 b8 0 (F_X0_linesFoldedBy b8 w3 x2 h7 (fun v10 h9 => (pq_gI h9 w3 1 17 (fun v11 => (pq_p h9 w3 1 17 (.int (v11 ||| v10)) (fun h12 => (pq_o h12 w3 1 (F_X1_creasesOn w3 v10 h12 (fun v14 h13 => (Q v14 h13)))))))))))))))))))))))))))
set_option maxHeartbeats 4000000 in
set_option maxRecDepth 100000 in
theorem k_X4_fold (X : pz_X) (d : Nat) (a0 : Nat) (x1 : Int32) (x2 : Int32) (h : pz_H) (Q : Int32 → pz_H → Prop) (hf : F_X4_fold a0 x1 x2 h Q) : pz_Call X M_X4_fold (d + 4) 0 0 [.ref a0, .int x1, .int x2] h (pq_qI Q) := by
  refine pz_call_of (by decide +kernel) (Nat.le_of_ble_eq_true rfl) ?_
  unfold F_X4_fold at hf
  refine pz_aload_n dX4_fold_0 rfl ?_
  refine pz_iload_n dX4_fold_1 rfl ?_
  obtain ⟨_, hO, hf⟩ := hf
  refine pz_callV1 (rc := 0) (rs := 0) (mc := 0) (ms := 0) dX4_fold_2 (k_X4_find X (d + 3) _ _ _ _ hf) (Nat.le_of_ble_eq_true rfl) mf_X4_find ml_X4_77 hO rfl mi_X4_find ms_X4_find (fun _ h9 hq => ?_)
  obtain ⟨r2, rfl, hf⟩ := hq
  rcases r2 with _ | w3
  · refine pz_astore_nN dX4_fold_5 rfl (by decide) rfl ?_
    refine pz_aload_nN dX4_fold_6 rfl ?_
    refine pz_ifnonnullN dX4_fold_7 ?_
    refine pz_bipush (v := (-101 : Int32)) dX4_fold_10 (by decide) ?_
    exact pz_ireturn dX4_fold_12 rfl rfl ⟨_, rfl, hf⟩
  · refine pz_astore_n dX4_fold_5 rfl (by decide) rfl ?_
    refine pz_aload_n dX4_fold_6 rfl ?_
    refine pz_ifnonnull dX4_fold_7 (tgt := 13) (by decide) ?_
    refine pz_aload_n dX4_fold_13 rfl ?_
    obtain ⟨_, v4, h1, h2, hf⟩ := hf
    refine pz_get dX4_fold_14 fl_X4_85 h1 h2 ?_
    refine pz_iconst (v := (1 : Int32)) dX4_fold_17 (by decide) ?_
    obtain ⟨ha, hb⟩ := hf
    refine pz_icmp_ne dX4_fold_18 (tgt := 24) (by decide) (fun cc => ?_) (fun cc => ?_)
    · have hf := hb cc
      refine pz_aload_n dX4_fold_24 rfl ?_
      obtain ⟨_, b5, h1, h2, hf⟩ := hf
      refine pz_get dX4_fold_25 fl_X4_56 h1 h2 ?_
      refine pz_aload_n dX4_fold_28 rfl ?_
      refine pz_aload_n dX4_fold_29 rfl ?_
      obtain ⟨_, v6, h1, h2, hf⟩ := hf
      refine pz_get dX4_fold_30 fl_X4_223 h1 h2 ?_
      obtain ⟨_, hO, hf⟩ := hf
      refine pz_callV2 (rc := 0) (rs := 0) (mc := 0) (ms := 0) dX4_fold_33 (k_X0_put X (d + 2) _ _ _ _ _ hf) (Nat.le_of_ble_eq_true rfl) mf_X0_put ml_X4_226 hO rfl mi_X0_put ms_X0_put (fun _ h9 hq => ?_)
      obtain ⟨rfl, hf⟩ := hq
      refine pz_aload_n dX4_fold_36 rfl ?_
      obtain ⟨_, b8, h1, h2, hf⟩ := hf
      refine pz_get dX4_fold_37 fl_X4_56 h1 h2 ?_
      refine pz_aload_n dX4_fold_40 rfl ?_
      refine pz_iload_n dX4_fold_41 rfl ?_
      obtain ⟨_, hO, hf⟩ := hf
      refine pz_callV2 (rc := 0) (rs := 0) (mc := 0) (ms := 0) dX4_fold_42 (k_X0_linesFoldedBy X d _ _ _ _ _ hf) (Nat.le_of_ble_eq_true rfl) mf_X0_linesFoldedBy ml_X4_230 hO rfl mi_X0_linesFoldedBy ms_X0_linesFoldedBy (fun _ h9 hq => ?_)
      obtain ⟨_, rfl, hf⟩ := hq
      refine pz_istore dX4_fold_45 (by decide) rfl ?_
      refine pz_aload_n dX4_fold_47 rfl ?_
      refine pz_dup dX4_fold_48 rfl ?_
      obtain ⟨_, v11, h1, h2, hf⟩ := hf
      refine pz_get dX4_fold_49 fl_X4_223 h1 h2 ?_
      refine pz_iload dX4_fold_52 rfl ?_
      refine pz_ior dX4_fold_54 ?_
      obtain ⟨_, h1, h2, hf⟩ := hf
      refine pz_put dX4_fold_55 fp_X4_223 h1 rfl rfl h2 ?_
      refine pz_aload_n dX4_fold_58 rfl ?_
      refine pz_iload dX4_fold_59 rfl ?_
      obtain ⟨_, hO, hf⟩ := hf
      refine pz_callV1 (rc := 0) (rs := 0) (mc := 0) (ms := 0) dX4_fold_61 (k_X1_creasesOn X (d + 2) _ _ _ _ hf) (Nat.le_of_ble_eq_true rfl) mf_X1_creasesOn ml_X4_234 hO rfl mi_X1_creasesOn ms_X1_creasesOn (fun _ h9 hq => ?_)
      obtain ⟨_, rfl, hf⟩ := hq
      exact pz_ireturn dX4_fold_64 rfl rfl ⟨_, rfl, hf⟩
    · have hf := ha cc
      refine pz_bipush (v := (-103 : Int32)) dX4_fold_21 (by decide) ?_
      exact pz_ireturn dX4_fold_23 rfl rfl ⟨_, rfl, hf⟩
def F_X4_flatten (a0 : Nat) (x1 : Int32) (h : pz_H) (Q : Int32 → pz_H → Prop) : Prop := (pq_o h a0 4 (F_X4_find a0 x1 h (fun r2 h1 => pq_sw r2 (Q (-101 : Int32) h1) (fun w3 => (pq_gI h1 w3 1 0 (fun v4 => (pq_br (v4 = (1 : Int32)) (Q (-103 : Int32) h1) (pq_gI h1 w3 1 17 (fun v5 => (pq_o h1 w3 1 (F_X1_creasesOn w3 v5 h1 (fun v7 h6 => (pq_p h6 w3 1 17 (.int (0 : Int32)) (fun h8 => (Q v7 h8)))))))))))))))
set_option maxHeartbeats 4000000 in
set_option maxRecDepth 100000 in
theorem k_X4_flatten (X : pz_X) (d : Nat) (a0 : Nat) (x1 : Int32) (h : pz_H) (Q : Int32 → pz_H → Prop) (hf : F_X4_flatten a0 x1 h Q) : pz_Call X M_X4_flatten (d + 2) 0 0 [.ref a0, .int x1] h (pq_qI Q) := by
  refine pz_call_of (by decide +kernel) (Nat.le_of_ble_eq_true rfl) ?_
  unfold F_X4_flatten at hf
  refine pz_aload_n dX4_flatten_0 rfl ?_
  refine pz_iload_n dX4_flatten_1 rfl ?_
  obtain ⟨_, hO, hf⟩ := hf
  refine pz_callV1 (rc := 0) (rs := 0) (mc := 0) (ms := 0) dX4_flatten_2 (k_X4_find X (d + 1) _ _ _ _ hf) (Nat.le_of_ble_eq_true rfl) mf_X4_find ml_X4_77 hO rfl mi_X4_find ms_X4_find (fun _ h9 hq => ?_)
  obtain ⟨r2, rfl, hf⟩ := hq
  rcases r2 with _ | w3
  · refine pz_astore_nN dX4_flatten_5 rfl (by decide) rfl ?_
    refine pz_aload_nN dX4_flatten_6 rfl ?_
    refine pz_ifnonnullN dX4_flatten_7 ?_
    refine pz_bipush (v := (-101 : Int32)) dX4_flatten_10 (by decide) ?_
    exact pz_ireturn dX4_flatten_12 rfl rfl ⟨_, rfl, hf⟩
  · refine pz_astore_n dX4_flatten_5 rfl (by decide) rfl ?_
    refine pz_aload_n dX4_flatten_6 rfl ?_
    refine pz_ifnonnull dX4_flatten_7 (tgt := 13) (by decide) ?_
    refine pz_aload_n dX4_flatten_13 rfl ?_
    obtain ⟨_, v4, h1, h2, hf⟩ := hf
    refine pz_get dX4_flatten_14 fl_X4_85 h1 h2 ?_
    refine pz_iconst (v := (1 : Int32)) dX4_flatten_17 (by decide) ?_
    obtain ⟨ha, hb⟩ := hf
    refine pz_icmp_ne dX4_flatten_18 (tgt := 24) (by decide) (fun cc => ?_) (fun cc => ?_)
    · have hf := hb cc
      refine pz_aload_n dX4_flatten_24 rfl ?_
      refine pz_aload_n dX4_flatten_25 rfl ?_
      obtain ⟨_, v5, h1, h2, hf⟩ := hf
      refine pz_get dX4_flatten_26 fl_X4_223 h1 h2 ?_
      obtain ⟨_, hO, hf⟩ := hf
      refine pz_callV1 (rc := 0) (rs := 0) (mc := 0) (ms := 0) dX4_flatten_29 (k_X1_creasesOn X d _ _ _ _ hf) (Nat.le_of_ble_eq_true rfl) mf_X1_creasesOn ml_X4_234 hO rfl mi_X1_creasesOn ms_X1_creasesOn (fun _ h9 hq => ?_)
      obtain ⟨_, rfl, hf⟩ := hq
      refine pz_istore_n dX4_flatten_32 rfl (by decide) rfl ?_
      refine pz_aload_n dX4_flatten_33 rfl ?_
      refine pz_iconst (v := (0 : Int32)) dX4_flatten_34 (by decide) ?_
      obtain ⟨_, h1, h2, hf⟩ := hf
      refine pz_put dX4_flatten_35 fp_X4_223 h1 rfl rfl h2 ?_
      refine pz_iload_n dX4_flatten_38 rfl ?_
      exact pz_ireturn dX4_flatten_39 rfl rfl ⟨_, rfl, hf⟩
    · have hf := ha cc
      refine pz_bipush (v := (-103 : Int32)) dX4_flatten_21 (by decide) ?_
      exact pz_ireturn dX4_flatten_23 rfl rfl ⟨_, rfl, hf⟩
def B_X4_lies_21   (Q : Int32 → pz_H → Prop) (h : pz_H) : Prop := (Q (-101 : Int32) h)
set_option maxHeartbeats 4000000 in
set_option maxRecDepth 100000 in
theorem kB_X4_lies_21 (X : pz_X) (d : Nat)    (Q : Int32 → pz_H → Prop) (h : pz_H)  (hf : B_X4_lies_21   Q h) : pz_W (fun _ => True) X M_X4_lies (d + 2) 21 [] [] h 0 0 (pq_qI Q) := by
  unfold B_X4_lies_21 at hf
  refine pz_bipush (v := (-101 : Int32)) dX4_lies_21 (by decide) ?_
  exact pz_ireturn dX4_lies_23 rfl rfl ⟨_, rfl, hf⟩
def B_X4_lies_33   (Q : Int32 → pz_H → Prop) (h : pz_H) : Prop := (Q (-102 : Int32) h)
set_option maxHeartbeats 4000000 in
set_option maxRecDepth 100000 in
theorem kB_X4_lies_33 (X : pz_X) (d : Nat)    (Q : Int32 → pz_H → Prop) (h : pz_H)  (hf : B_X4_lies_33   Q h) : pz_W (fun _ => True) X M_X4_lies (d + 2) 33 [] [] h 0 0 (pq_qI Q) := by
  unfold B_X4_lies_33 at hf
  refine pz_bipush (v := (-102 : Int32)) dX4_lies_33 (by decide) ?_
  exact pz_ireturn dX4_lies_35 rfl rfl ⟨_, rfl, hf⟩
def B_X4_lies_144 (xs0 : Int32)  (Q : Int32 → pz_H → Prop) (h : pz_H) : Prop := (Q xs0 h)
set_option maxHeartbeats 4000000 in
set_option maxRecDepth 100000 in
theorem kB_X4_lies_144 (X : pz_X) (d : Nat) (xs0 : Int32)   (Q : Int32 → pz_H → Prop) (h : pz_H)  (hf : B_X4_lies_144 xs0  Q h) : pz_W (fun _ => True) X M_X4_lies (d + 2) 144 [] [.int xs0] h 0 0 (pq_qI Q) := by
  unfold B_X4_lies_144 at hf
  exact pz_ireturn dX4_lies_144 rfl rfl ⟨_, rfl, hf⟩
def F_X4_lies (a0 : Nat) (x1 : Int32) (x2 : Int32) (x3 : Int32) (h : pz_H) (Q : Int32 → pz_H → Prop) : Prop := (pq_o h a0 4 (F_X4_find a0 x1 h (fun r2 h1 => pq_sw r2 (B_X4_lies_21 Q h1) (fun w3 => (pq_o h1 w3 1 (F_X1_hasFace w3 x2 h1 (fun v5 h4 => (pq_br (v5 = 0) (B_X4_lies_21 Q h4) (pq_br (x3 < 0) (B_X4_lies_33 Q h4) (pq_br (x3 ≤ (3 : Int32)) (pq_gI h4 w3 1 0 (fun v6 => (pq_br (v6 = (1 : Int32)) (Q (-103 : Int32) h4) (pq_gA h4 a0 4 11 (fun b7 => (pq_gI h4 w3 1 17 (fun v8 => (pq_o h4 b7 0 (F_X0_put b7 w3 v8 h4 (fun h9 => (pq_tab x3 0 2 (pq_gA h9 a0 4 11 (fun b10 => (pq_gA h9 b10 0 1 (fun b11 => (pq_aA h9 b11 (1 : Int32) (fun b12 => (pq_gA h9 w3 1 5 (fun b13 => (pq_aI h9 b13 x2 (fun v14 => (pq_aI h9 b12 v14 (fun v15 => (Q v15 h9))))))))))))) [(pq_gA h9 a0 4 11 (fun b16 => (pq_gA h9 b16 0 1 (fun b17 => (pq_aA h9 b17 (0 : Int32) (fun b18 => (pq_gA h9 w3 1 6 (fun b19 => (pq_aI h9 b19 x2 (fun v20 => (pq_aI h9 b18 v20 (fun v21 => (Q v21 h9))))))))))))), (pq_gA h9 a0 4 11 (fun b22 => (pq_gA h9 b22 0 2 (fun b23 => (pq_aA h9 b23 (0 : Int32) (fun b24 => (pq_gA h9 w3 1 6 (fun b25 => (pq_aI h9 b25 x2 (fun v26 => (pq_aI h9 b24 v26 (fun v27 => (Q ((1 : Int32) - v27) h9))))))))))))), (pq_gA h9 a0 4 11 (fun b28 => (pq_o h9 b28 0 (F_X0_isFrontUp b28 w3 x2 h9 (fun v30 h29 => (pq_br (v30 = 0) (B_X4_lies_144 (0 : Int32) Q h29) (B_X4_lies_144 (1 : Int32) Q h29)))))))]))))))))))) (B_X4_lies_33 Q h4)))))))))))
set_option maxHeartbeats 4000000 in
set_option maxRecDepth 100000 in
theorem k_X4_lies (X : pz_X) (d : Nat) (a0 : Nat) (x1 : Int32) (x2 : Int32) (x3 : Int32) (h : pz_H) (Q : Int32 → pz_H → Prop) (hf : F_X4_lies a0 x1 x2 x3 h Q) : pz_Call X M_X4_lies (d + 2) 0 0 [.ref a0, .int x1, .int x2, .int x3] h (pq_qI Q) := by
  refine pz_call_of (by decide +kernel) (Nat.le_of_ble_eq_true rfl) ?_
  unfold F_X4_lies at hf
  refine pz_aload_n dX4_lies_0 rfl ?_
  refine pz_iload_n dX4_lies_1 rfl ?_
  obtain ⟨_, hO, hf⟩ := hf
  refine pz_callV1 (rc := 0) (rs := 0) (mc := 0) (ms := 0) dX4_lies_2 (k_X4_find X (d + 1) _ _ _ _ hf) (Nat.le_of_ble_eq_true rfl) mf_X4_find ml_X4_77 hO rfl mi_X4_find ms_X4_find (fun _ h9 hq => ?_)
  obtain ⟨r2, rfl, hf⟩ := hq
  rcases r2 with _ | w3
  · refine pz_astoreN dX4_lies_5 (by decide) rfl ?_
    refine pz_aloadN dX4_lies_7 rfl ?_
    refine pz_ifnullN dX4_lies_9 (tgt := 21) (by decide) ?_
    exact pz_drop (pz_part_of [] rfl) (kB_X4_lies_21 X d _ _  hf)
  · refine pz_astore dX4_lies_5 (by decide) rfl ?_
    refine pz_aload dX4_lies_7 rfl ?_
    refine pz_ifnull dX4_lies_9 ?_
    refine pz_aload dX4_lies_12 rfl ?_
    refine pz_iload_n dX4_lies_14 rfl ?_
    obtain ⟨_, hO, hf⟩ := hf
    refine pz_callV1 (rc := 0) (rs := 0) (mc := 0) (ms := 0) dX4_lies_15 (k_X1_hasFace X (d + 1) _ _ _ _ hf) (Nat.le_of_ble_eq_true rfl) mf_X1_hasFace ml_X4_81 hO rfl mi_X1_hasFace ms_X1_hasFace (fun _ h9 hq => ?_)
    obtain ⟨_, rfl, hf⟩ := hq
    obtain ⟨ha, hb⟩ := hf
    refine pz_if_ne dX4_lies_18 (tgt := 24) (by decide) (fun cc => ?_) (fun cc => ?_)
    · have hf := hb cc
      refine pz_iload_n dX4_lies_24 rfl ?_
      obtain ⟨ha, hb⟩ := hf
      refine pz_if_lt dX4_lies_25 (tgt := 33) (by decide) (fun cc => ?_) (fun cc => ?_)
      · have hf := ha cc
        exact pz_drop (pz_part_of [] rfl) (kB_X4_lies_33 X d _ _  hf)
      · have hf := hb cc
        refine pz_iload_n dX4_lies_28 rfl ?_
        refine pz_iconst (v := (3 : Int32)) dX4_lies_29 (by decide) ?_
        obtain ⟨ha, hb⟩ := hf
        refine pz_icmp_le dX4_lies_30 (tgt := 36) (by decide) (fun cc => ?_) (fun cc => ?_)
        · have hf := ha cc
          refine pz_aload dX4_lies_36 rfl ?_
          obtain ⟨_, v6, h1, h2, hf⟩ := hf
          refine pz_get dX4_lies_38 fl_X4_85 h1 h2 ?_
          refine pz_iconst (v := (1 : Int32)) dX4_lies_41 (by decide) ?_
          obtain ⟨ha, hb⟩ := hf
          refine pz_icmp_ne dX4_lies_42 (tgt := 48) (by decide) (fun cc => ?_) (fun cc => ?_)
          · have hf := hb cc
            refine pz_aload_n dX4_lies_48 rfl ?_
            obtain ⟨_, b7, h1, h2, hf⟩ := hf
            refine pz_get dX4_lies_49 fl_X4_56 h1 h2 ?_
            refine pz_aload dX4_lies_52 rfl ?_
            refine pz_aload dX4_lies_54 rfl ?_
            obtain ⟨_, v8, h1, h2, hf⟩ := hf
            refine pz_get dX4_lies_56 fl_X4_223 h1 h2 ?_
            obtain ⟨_, hO, hf⟩ := hf
            refine pz_callV2 (rc := 0) (rs := 0) (mc := 0) (ms := 0) dX4_lies_59 (k_X0_put X d _ _ _ _ _ hf) (Nat.le_of_ble_eq_true rfl) mf_X0_put ml_X4_226 hO rfl mi_X0_put ms_X0_put (fun _ h9 hq => ?_)
            obtain ⟨rfl, hf⟩ := hq
            refine pz_iload_n dX4_lies_62 rfl ?_
            refine pz_table [88, 106, 126] dX4_lies_63 hf (tgt := 145) (by decide) (by decide) (by decide) (fun hf => ?_) (fun k9 hk9 hf => ?_)
            · refine pz_aload_n dX4_lies_145 rfl ?_
              obtain ⟨_, b10, h1, h2, hf⟩ := hf
              refine pz_get dX4_lies_146 fl_X4_56 h1 h2 ?_
              obtain ⟨_, b11, h1, h2, hf⟩ := hf
              refine pz_get dX4_lies_149 fl_X4_237 h1 h2 ?_
              refine pz_iconst (v := (1 : Int32)) dX4_lies_152 (by decide) ?_
              obtain ⟨_, _, b12, h1, h2, h3, hf⟩ := hf
              refine pz_aald2 dX4_lies_153 h1 h2 ?_
              rw [h3]
              refine pz_aload dX4_lies_154 rfl ?_
              obtain ⟨_, b13, h1, h2, hf⟩ := hf
              refine pz_get dX4_lies_156 fl_X4_249 h1 h2 ?_
              refine pz_iload_n dX4_lies_159 rfl ?_
              obtain ⟨_, _, h1, h2, hf⟩ := hf
              refine pz_iald dX4_lies_160 h1 h2 ?_
              obtain ⟨_, _, h1, h2, hf⟩ := hf
              refine pz_iald dX4_lies_161 h1 h2 ?_
              exact pz_ireturn dX4_lies_162 rfl rfl ⟨_, rfl, hf⟩
            · match k9, hk9, hf with
              | 0, _, hf =>
                refine pz_aload_n dX4_lies_88 rfl ?_
                obtain ⟨_, b16, h1, h2, hf⟩ := hf
                refine pz_get dX4_lies_89 fl_X4_56 h1 h2 ?_
                obtain ⟨_, b17, h1, h2, hf⟩ := hf
                refine pz_get dX4_lies_92 fl_X4_237 h1 h2 ?_
                refine pz_iconst (v := (0 : Int32)) dX4_lies_95 (by decide) ?_
                obtain ⟨_, _, b18, h1, h2, h3, hf⟩ := hf
                refine pz_aald2 dX4_lies_96 h1 h2 ?_
                rw [h3]
                refine pz_aload dX4_lies_97 rfl ?_
                obtain ⟨_, b19, h1, h2, hf⟩ := hf
                refine pz_get dX4_lies_99 fl_X4_240 h1 h2 ?_
                refine pz_iload_n dX4_lies_102 rfl ?_
                obtain ⟨_, _, h1, h2, hf⟩ := hf
                refine pz_iald dX4_lies_103 h1 h2 ?_
                obtain ⟨_, _, h1, h2, hf⟩ := hf
                refine pz_iald dX4_lies_104 h1 h2 ?_
                exact pz_ireturn dX4_lies_105 rfl rfl ⟨_, rfl, hf⟩
              | 1, _, hf =>
                refine pz_iconst (v := (1 : Int32)) dX4_lies_106 (by decide) ?_
                refine pz_aload_n dX4_lies_107 rfl ?_
                obtain ⟨_, b22, h1, h2, hf⟩ := hf
                refine pz_get dX4_lies_108 fl_X4_56 h1 h2 ?_
                obtain ⟨_, b23, h1, h2, hf⟩ := hf
                refine pz_get dX4_lies_111 fl_X4_243 h1 h2 ?_
                refine pz_iconst (v := (0 : Int32)) dX4_lies_114 (by decide) ?_
                obtain ⟨_, _, b24, h1, h2, h3, hf⟩ := hf
                refine pz_aald2 dX4_lies_115 h1 h2 ?_
                rw [h3]
                refine pz_aload dX4_lies_116 rfl ?_
                obtain ⟨_, b25, h1, h2, hf⟩ := hf
                refine pz_get dX4_lies_118 fl_X4_240 h1 h2 ?_
                refine pz_iload_n dX4_lies_121 rfl ?_
                obtain ⟨_, _, h1, h2, hf⟩ := hf
                refine pz_iald dX4_lies_122 h1 h2 ?_
                obtain ⟨_, _, h1, h2, hf⟩ := hf
                refine pz_iald dX4_lies_123 h1 h2 ?_
                refine pz_isub dX4_lies_124 ?_
                exact pz_ireturn dX4_lies_125 rfl rfl ⟨_, rfl, hf⟩
              | 2, _, hf =>
                refine pz_aload_n dX4_lies_126 rfl ?_
                obtain ⟨_, b28, h1, h2, hf⟩ := hf
                refine pz_get dX4_lies_127 fl_X4_56 h1 h2 ?_
                refine pz_aload dX4_lies_130 rfl ?_
                refine pz_iload_n dX4_lies_132 rfl ?_
                obtain ⟨_, hO, hf⟩ := hf
                refine pz_callV2 (rc := 0) (rs := 0) (mc := 0) (ms := 0) dX4_lies_133 (k_X0_isFrontUp X (d + 1) _ _ _ _ _ hf) (Nat.le_of_ble_eq_true rfl) mf_X0_isFrontUp ml_X4_246 hO rfl mi_X0_isFrontUp ms_X0_isFrontUp (fun _ h9 hq => ?_)
                obtain ⟨_, rfl, hf⟩ := hq
                obtain ⟨ha, hb⟩ := hf
                refine pz_if_eq dX4_lies_136 (tgt := 143) (by decide) (fun cc => ?_) (fun cc => ?_)
                · have hf := ha cc
                  refine pz_iconst (v := (0 : Int32)) dX4_lies_143 (by decide) ?_
                  exact pz_drop (pz_part_of [] rfl) (kB_X4_lies_144 X d _ _ _  hf)
                · have hf := hb cc
                  refine pz_iconst (v := (1 : Int32)) dX4_lies_139 (by decide) ?_
                  refine pz_goto dX4_lies_140 (tgt := 144) (by decide) ?_
                  exact pz_drop (pz_part_of [] rfl) (kB_X4_lies_144 X d _ _ _  hf)
              | k9 + 3, hk9, _ => exact absurd hk9 (by simp)
          · have hf := ha cc
            refine pz_bipush (v := (-103 : Int32)) dX4_lies_45 (by decide) ?_
            exact pz_ireturn dX4_lies_47 rfl rfl ⟨_, rfl, hf⟩
        · have hf := hb cc
          exact pz_drop (pz_part_of [] rfl) (kB_X4_lies_33 X d _ _  hf)
    · have hf := ha cc
      exact pz_drop (pz_part_of [] rfl) (kB_X4_lies_21 X d _ _  hf)
