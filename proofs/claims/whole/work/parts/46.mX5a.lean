def F_X5_init (a0 : Nat) (h : pz_H) (Q : pz_H → Prop) : Prop := (pq_n h (.inl (0, 30, .inl (fun _ => 0))) (fun q1 h2 => (pq_p h2 a0 5 1 (.ref q1) (fun h3 => (pq_n h3 (.inl (0, 30, .inl (fun _ => 0))) (fun q4 h5 => (pq_p h5 a0 5 2 (.ref q4) (fun h6 => (pq_n h6 (.inl (0, 30, .inl (fun _ => 0))) (fun q7 h8 => (pq_p h8 a0 5 3 (.ref q7) (fun h9 => (pq_n h9 (.inl (0, 30, .inl (fun _ => 0))) (fun q10 h11 => (pq_p h11 a0 5 4 (.ref q10) (fun h12 => (pq_n h12 (.inl (0, 30, .inl (fun _ => 0))) (fun q13 h14 => (pq_p h14 a0 5 5 (.ref q13) (fun h15 => (pq_n h15 (.inl (0, 270, .inl (fun _ => 0))) (fun q16 h17 => (pq_p h17 a0 5 6 (.ref q16) (fun h18 => (pq_n h18 (.inl (0, 360, .inl (fun _ => 0))) (fun q19 h20 => (pq_p h20 a0 5 7 (.ref q19) (fun h21 => (pq_n h21 (.inl (0, 360, .inl (fun _ => 0))) (fun q22 h23 => (pq_p h23 a0 5 8 (.ref q22) (fun h24 => (pq_n h24 (.inl (0, 360, .inl (fun _ => 0))) (fun q25 h26 => (pq_p h26 a0 5 9 (.ref q25) (fun h27 => (pq_n h27 (.inl (0, 30, .inl (fun _ => 0))) (fun q28 h29 => (pq_p h29 a0 5 10 (.ref q28) (fun h30 => (pq_n h30 (.inl (0, 30, .inl (fun _ => 0))) (fun q31 h32 => (pq_p h32 a0 5 11 (.ref q31) (fun h33 => (pq_n h33 (.inl (0, 9, .inl (fun _ => 0))) (fun q34 h35 => (pq_p h35 a0 5 14 (.ref q34) (fun h36 => (pq_n h36 (.inl (0, 9, .inl (fun _ => 0))) (fun q37 h38 => (pq_p h38 a0 5 16 (.ref q37) (fun h39 => (pq_n h39 (.inl (0, 12, .inl (fun _ => 0))) (fun q40 h41 => (pq_p h41 a0 5 17 (.ref q40) (fun h42 => (pq_p h42 a0 5 18 (.int (-1 : Int32)) (fun h43 => (pq_n h43 (.inl (0, 9, .inl (fun _ => 0))) (fun q44 h45 => (pq_p h45 a0 5 19 (.ref q44) (fun h46 => (pq_n h46 (.inl (0, 9, .inl (fun _ => 0))) (fun q47 h48 => (pq_p h48 a0 5 20 (.ref q47) (fun h49 => (pq_n h49 (.inl (0, 9, .inl (fun _ => 0))) (fun q50 h51 => (pq_p h51 a0 5 21 (.ref q50) (fun h52 => (pq_n h52 (.inl (4, 4096, .inl (fun _ => 0))) (fun q53 h54 => (pq_p h54 a0 5 22 (.ref q53) (fun h55 => (pq_n h55 (.inl (0, 12, .inl (fun _ => 0))) (fun q56 h57 => (pq_p h57 a0 5 23 (.ref q56) (fun h58 => (pq_n h58 (.inl (0, 12, .inl (fun _ => 0))) (fun q59 h60 => (pq_p h60 a0 5 25 (.ref q59) (fun h61 => (pq_n h61 (.inl (0, 65536, .inl (fun _ => 0))) (fun q62 h63 => (pq_p h63 a0 5 26 (.ref q62) (fun h64 => (pq_n h64 (.inl (0, 16, .inl (fun _ => 0))) (fun q65 h66 => (pq_p h66 a0 5 27 (.ref q65) (fun h67 => (Q h67)))))))))))))))))))))))))))))))))))))))))))))))))))))))))))))))))))))))))))))))))))))))))))
set_option maxHeartbeats 4000000 in
set_option maxRecDepth 100000 in
theorem k_X5_init (X : pz_X) (d : Nat) (a0 : Nat) (h : pz_H) (Q : pz_H → Prop) (hf : F_X5_init a0 h Q) : pz_Call X M_X5_init (d + 1) 22 71289 [.ref a0] h (pq_qV Q) := by
  refine pz_call_of (by decide +kernel) (Nat.le_of_ble_eq_true rfl) ?_
  unfold F_X5_init at hf
  refine pz_aload_n dX5_init_0 rfl ?_
  refine pz_objInit dX5_init_1 ml_X5_1 mi_obj mc_obj (Nat.le_of_ble_eq_true rfl) ?_
  refine pz_aload_n dX5_init_4 rfl ?_
  refine pz_bipush (v := (30 : Int32)) dX5_init_5 (by decide) ?_
  refine pz_newa (t := 0) (N := 30) (rc := 21) (rs := 71259) dX5_init_7 rfl (fun _ _ h => h) ca_int (fun cA => pq_z0 cA 30) (by decide) (by decide +kernel) (by decide) (fun hfr => ?_)
  have hf := hf hfr
  obtain ⟨_, h1, h2, hf⟩ := hf
  refine pz_putF dX5_init_9 fp_X5_7 rfl h1 rfl rfl h2 ?_
  refine pz_aload_n dX5_init_12 rfl ?_
  refine pz_bipush (v := (30 : Int32)) dX5_init_13 (by decide) ?_
  refine pz_newa (t := 0) (N := 30) (rc := 20) (rs := 71229) dX5_init_15 rfl (fun _ _ h => h) ca_int (fun cA => pq_z0 cA 30) (by decide) (by decide +kernel) (by decide) (fun hfr => ?_)
  have hf := hf hfr
  obtain ⟨_, h1, h2, hf⟩ := hf
  refine pz_putF dX5_init_17 fp_X5_13 rfl h1 rfl rfl h2 ?_
  refine pz_aload_n dX5_init_20 rfl ?_
  refine pz_bipush (v := (30 : Int32)) dX5_init_21 (by decide) ?_
  refine pz_newa (t := 0) (N := 30) (rc := 19) (rs := 71199) dX5_init_23 rfl (fun _ _ h => h) ca_int (fun cA => pq_z0 cA 30) (by decide) (by decide +kernel) (by decide) (fun hfr => ?_)
  have hf := hf hfr
  obtain ⟨_, h1, h2, hf⟩ := hf
  refine pz_putF dX5_init_25 fp_X5_16 rfl h1 rfl rfl h2 ?_
  refine pz_aload_n dX5_init_28 rfl ?_
  refine pz_bipush (v := (30 : Int32)) dX5_init_29 (by decide) ?_
  refine pz_newa (t := 0) (N := 30) (rc := 18) (rs := 71169) dX5_init_31 rfl (fun _ _ h => h) ca_int (fun cA => pq_z0 cA 30) (by decide) (by decide +kernel) (by decide) (fun hfr => ?_)
  have hf := hf hfr
  obtain ⟨_, h1, h2, hf⟩ := hf
  refine pz_putF dX5_init_33 fp_X5_19 rfl h1 rfl rfl h2 ?_
  refine pz_aload_n dX5_init_36 rfl ?_
  refine pz_bipush (v := (30 : Int32)) dX5_init_37 (by decide) ?_
  refine pz_newa (t := 0) (N := 30) (rc := 17) (rs := 71139) dX5_init_39 rfl (fun _ _ h => h) ca_int (fun cA => pq_z0 cA 30) (by decide) (by decide +kernel) (by decide) (fun hfr => ?_)
  have hf := hf hfr
  obtain ⟨_, h1, h2, hf⟩ := hf
  refine pz_putF dX5_init_41 fp_X5_22 rfl h1 rfl rfl h2 ?_
  refine pz_aload_n dX5_init_44 rfl ?_
  refine pz_sipush (v := (270 : Int32)) dX5_init_45 (by decide) ?_
  refine pz_newa (t := 0) (N := 270) (rc := 16) (rs := 70869) dX5_init_48 rfl (fun _ _ h => h) ca_int (fun cA => pq_z0 cA 270) (by decide) (by decide +kernel) (by decide) (fun hfr => ?_)
  have hf := hf hfr
  obtain ⟨_, h1, h2, hf⟩ := hf
  refine pz_putF dX5_init_50 fp_X5_25 rfl h1 rfl rfl h2 ?_
  refine pz_aload_n dX5_init_53 rfl ?_
  refine pz_sipush (v := (360 : Int32)) dX5_init_54 (by decide) ?_
  refine pz_newa (t := 0) (N := 360) (rc := 15) (rs := 70509) dX5_init_57 rfl (fun _ _ h => h) ca_int (fun cA => pq_z0 cA 360) (by decide) (by decide +kernel) (by decide) (fun hfr => ?_)
  have hf := hf hfr
  obtain ⟨_, h1, h2, hf⟩ := hf
  refine pz_putF dX5_init_59 fp_X5_28 rfl h1 rfl rfl h2 ?_
  refine pz_aload_n dX5_init_62 rfl ?_
  refine pz_sipush (v := (360 : Int32)) dX5_init_63 (by decide) ?_
  refine pz_newa (t := 0) (N := 360) (rc := 14) (rs := 70149) dX5_init_66 rfl (fun _ _ h => h) ca_int (fun cA => pq_z0 cA 360) (by decide) (by decide +kernel) (by decide) (fun hfr => ?_)
  have hf := hf hfr
  obtain ⟨_, h1, h2, hf⟩ := hf
  refine pz_putF dX5_init_68 fp_X5_31 rfl h1 rfl rfl h2 ?_
  refine pz_aload_n dX5_init_71 rfl ?_
  refine pz_sipush (v := (360 : Int32)) dX5_init_72 (by decide) ?_
  refine pz_newa (t := 0) (N := 360) (rc := 13) (rs := 69789) dX5_init_75 rfl (fun _ _ h => h) ca_int (fun cA => pq_z0 cA 360) (by decide) (by decide +kernel) (by decide) (fun hfr => ?_)
  have hf := hf hfr
  obtain ⟨_, h1, h2, hf⟩ := hf
  refine pz_putF dX5_init_77 fp_X5_34 rfl h1 rfl rfl h2 ?_
  refine pz_aload_n dX5_init_80 rfl ?_
  refine pz_bipush (v := (30 : Int32)) dX5_init_81 (by decide) ?_
  refine pz_newa (t := 0) (N := 30) (rc := 12) (rs := 69759) dX5_init_83 rfl (fun _ _ h => h) ca_int (fun cA => pq_z0 cA 30) (by decide) (by decide +kernel) (by decide) (fun hfr => ?_)
  have hf := hf hfr
  obtain ⟨_, h1, h2, hf⟩ := hf
  refine pz_putF dX5_init_85 fp_X5_37 rfl h1 rfl rfl h2 ?_
  refine pz_aload_n dX5_init_88 rfl ?_
  refine pz_bipush (v := (30 : Int32)) dX5_init_89 (by decide) ?_
  refine pz_newa (t := 0) (N := 30) (rc := 11) (rs := 69729) dX5_init_91 rfl (fun _ _ h => h) ca_int (fun cA => pq_z0 cA 30) (by decide) (by decide +kernel) (by decide) (fun hfr => ?_)
  have hf := hf hfr
  obtain ⟨_, h1, h2, hf⟩ := hf
  refine pz_putF dX5_init_93 fp_X5_40 rfl h1 rfl rfl h2 ?_
  refine pz_aload_n dX5_init_96 rfl ?_
  refine pz_bipush (v := (9 : Int32)) dX5_init_97 (by decide) ?_
  refine pz_newa (t := 0) (N := 9) (rc := 10) (rs := 69720) dX5_init_99 rfl (fun _ _ h => h) ca_int (fun cA => pq_z0 cA 9) (by decide) (by decide +kernel) (by decide) (fun hfr => ?_)
  have hf := hf hfr
  obtain ⟨_, h1, h2, hf⟩ := hf
  refine pz_putF dX5_init_101 fp_X5_43 rfl h1 rfl rfl h2 ?_
  refine pz_aload_n dX5_init_104 rfl ?_
  refine pz_bipush (v := (9 : Int32)) dX5_init_105 (by decide) ?_
  refine pz_newa (t := 0) (N := 9) (rc := 9) (rs := 69711) dX5_init_107 rfl (fun _ _ h => h) ca_int (fun cA => pq_z0 cA 9) (by decide) (by decide +kernel) (by decide) (fun hfr => ?_)
  have hf := hf hfr
  obtain ⟨_, h1, h2, hf⟩ := hf
  refine pz_putF dX5_init_109 fp_X5_46 rfl h1 rfl rfl h2 ?_
  refine pz_aload_n dX5_init_112 rfl ?_
  refine pz_bipush (v := (12 : Int32)) dX5_init_113 (by decide) ?_
  refine pz_newa (t := 0) (N := 12) (rc := 8) (rs := 69699) dX5_init_115 rfl (fun _ _ h => h) ca_int (fun cA => pq_z0 cA 12) (by decide) (by decide +kernel) (by decide) (fun hfr => ?_)
  have hf := hf hfr
  obtain ⟨_, h1, h2, hf⟩ := hf
  refine pz_putF dX5_init_117 fp_X5_49 rfl h1 rfl rfl h2 ?_
  refine pz_aload_n dX5_init_120 rfl ?_
  refine pz_iconst (v := (-1 : Int32)) dX5_init_121 (by decide) ?_
  obtain ⟨_, h1, h2, hf⟩ := hf
  refine pz_put dX5_init_122 fp_X5_52 h1 rfl rfl h2 ?_
  refine pz_aload_n dX5_init_125 rfl ?_
  refine pz_bipush (v := (9 : Int32)) dX5_init_126 (by decide) ?_
  refine pz_newa (t := 0) (N := 9) (rc := 7) (rs := 69690) dX5_init_128 rfl (fun _ _ h => h) ca_int (fun cA => pq_z0 cA 9) (by decide) (by decide +kernel) (by decide) (fun hfr => ?_)
  have hf := hf hfr
  obtain ⟨_, h1, h2, hf⟩ := hf
  refine pz_putF dX5_init_130 fp_X5_56 rfl h1 rfl rfl h2 ?_
  refine pz_aload_n dX5_init_133 rfl ?_
  refine pz_bipush (v := (9 : Int32)) dX5_init_134 (by decide) ?_
  refine pz_newa (t := 0) (N := 9) (rc := 6) (rs := 69681) dX5_init_136 rfl (fun _ _ h => h) ca_int (fun cA => pq_z0 cA 9) (by decide) (by decide +kernel) (by decide) (fun hfr => ?_)
  have hf := hf hfr
  obtain ⟨_, h1, h2, hf⟩ := hf
  refine pz_putF dX5_init_138 fp_X5_59 rfl h1 rfl rfl h2 ?_
  refine pz_aload_n dX5_init_141 rfl ?_
  refine pz_bipush (v := (9 : Int32)) dX5_init_142 (by decide) ?_
  refine pz_newa (t := 0) (N := 9) (rc := 5) (rs := 69672) dX5_init_144 rfl (fun _ _ h => h) ca_int (fun cA => pq_z0 cA 9) (by decide) (by decide +kernel) (by decide) (fun hfr => ?_)
  have hf := hf hfr
  obtain ⟨_, h1, h2, hf⟩ := hf
  refine pz_putF dX5_init_146 fp_X5_62 rfl h1 rfl rfl h2 ?_
  refine pz_aload_n dX5_init_149 rfl ?_
  refine pz_sipush (v := (4096 : Int32)) dX5_init_150 (by decide) ?_
  refine pz_newa (t := 4) (N := 4096) (rc := 4) (rs := 65576) dX5_init_153 rfl (fun _ _ h => h) ca_boolean (fun cA => pq_z4 cA 4096) (by decide) (by decide +kernel) (by decide) (fun hfr => ?_)
  have hf := hf hfr
  obtain ⟨_, h1, h2, hf⟩ := hf
  refine pz_putF dX5_init_155 fp_X5_65 rfl h1 rfl rfl h2 ?_
  refine pz_aload_n dX5_init_158 rfl ?_
  refine pz_bipush (v := (12 : Int32)) dX5_init_159 (by decide) ?_
  refine pz_newa (t := 0) (N := 12) (rc := 3) (rs := 65564) dX5_init_161 rfl (fun _ _ h => h) ca_int (fun cA => pq_z0 cA 12) (by decide) (by decide +kernel) (by decide) (fun hfr => ?_)
  have hf := hf hfr
  obtain ⟨_, h1, h2, hf⟩ := hf
  refine pz_putF dX5_init_163 fp_X5_69 rfl h1 rfl rfl h2 ?_
  refine pz_aload_n dX5_init_166 rfl ?_
  refine pz_bipush (v := (12 : Int32)) dX5_init_167 (by decide) ?_
  refine pz_newa (t := 0) (N := 12) (rc := 2) (rs := 65552) dX5_init_169 rfl (fun _ _ h => h) ca_int (fun cA => pq_z0 cA 12) (by decide) (by decide +kernel) (by decide) (fun hfr => ?_)
  have hf := hf hfr
  obtain ⟨_, h1, h2, hf⟩ := hf
  refine pz_putF dX5_init_171 fp_X5_72 rfl h1 rfl rfl h2 ?_
  refine pz_aload_n dX5_init_174 rfl ?_
  refine pz_ldc dX5_init_175 cn_X5_75 ?_
  refine pz_newa (t := 0) (N := 65536) (rc := 1) (rs := 16) dX5_init_177 rfl (fun _ _ h => h) ca_int (fun cA => pq_z0 cA 65536) (by decide) (by decide +kernel) (by decide) (fun hfr => ?_)
  have hf := hf hfr
  obtain ⟨_, h1, h2, hf⟩ := hf
  refine pz_putF dX5_init_179 fp_X5_76 rfl h1 rfl rfl h2 ?_
  refine pz_aload_n dX5_init_182 rfl ?_
  refine pz_bipush (v := (16 : Int32)) dX5_init_183 (by decide) ?_
  refine pz_newa (t := 0) (N := 16) (rc := 0) (rs := 0) dX5_init_185 rfl (fun _ _ h => h) ca_int (fun cA => pq_z0 cA 16) (by decide) (by decide +kernel) (by decide) (fun hfr => ?_)
  have hf := hf hfr
  obtain ⟨_, h1, h2, hf⟩ := hf
  refine pz_putF dX5_init_187 fp_X5_79 rfl h1 rfl rfl h2 ?_
  exact pz_return dX5_init_190 rfl ⟨rfl, hf⟩
def B_X5_lesser_10 (xs0 : Int32)  (Q : Int32 → pz_H → Prop) (h : pz_H) : Prop := (Q xs0 h)
set_option maxHeartbeats 4000000 in
set_option maxRecDepth 100000 in
theorem kB_X5_lesser_10 (X : pz_X) (d : Nat) (xs0 : Int32)   (Q : Int32 → pz_H → Prop) (h : pz_H)  (hf : B_X5_lesser_10 xs0  Q h) : pz_W (fun _ => True) X M_X5_lesser (d + 0) 10 [] [.int xs0] h 0 0 (pq_qI Q) := by
  unfold B_X5_lesser_10 at hf
  exact pz_ireturn dX5_lesser_10 rfl rfl ⟨_, rfl, hf⟩
def F_X5_lesser (x0 : Int32) (x1 : Int32) (h : pz_H) (Q : Int32 → pz_H → Prop) : Prop := (pq_br (x1 ≤ x0) (B_X5_lesser_10 x1 Q h) (B_X5_lesser_10 x0 Q h))
set_option maxHeartbeats 4000000 in
set_option maxRecDepth 100000 in
theorem k_X5_lesser (X : pz_X) (d : Nat) (x0 : Int32) (x1 : Int32) (h : pz_H) (Q : Int32 → pz_H → Prop) (hf : F_X5_lesser x0 x1 h Q) : pz_Call X M_X5_lesser (d + 0) 0 0 [.int x0, .int x1] h (pq_qI Q) := by
  refine pz_call_of (by decide +kernel) (Nat.le_of_ble_eq_true rfl) ?_
  unfold F_X5_lesser at hf
  refine pz_iload_n dX5_lesser_0 rfl ?_
  refine pz_iload_n dX5_lesser_1 rfl ?_
  obtain ⟨ha, hb⟩ := hf
  refine pz_icmp_ge dX5_lesser_2 (tgt := 9) (by decide) (fun cc => ?_) (fun cc => ?_)
  · have hf := ha cc
    refine pz_iload_n dX5_lesser_9 rfl ?_
    exact pz_drop (pz_part_of [] rfl) (kB_X5_lesser_10 X d _ _ _  hf)
  · have hf := hb cc
    refine pz_iload_n dX5_lesser_5 rfl ?_
    refine pz_goto dX5_lesser_6 (tgt := 10) (by decide) ?_
    exact pz_drop (pz_part_of [] rfl) (kB_X5_lesser_10 X d _ _ _  hf)
def B_X5_greater_10 (xs0 : Int32)  (Q : Int32 → pz_H → Prop) (h : pz_H) : Prop := (Q xs0 h)
set_option maxHeartbeats 4000000 in
set_option maxRecDepth 100000 in
theorem kB_X5_greater_10 (X : pz_X) (d : Nat) (xs0 : Int32)   (Q : Int32 → pz_H → Prop) (h : pz_H)  (hf : B_X5_greater_10 xs0  Q h) : pz_W (fun _ => True) X M_X5_greater (d + 0) 10 [] [.int xs0] h 0 0 (pq_qI Q) := by
  unfold B_X5_greater_10 at hf
  exact pz_ireturn dX5_greater_10 rfl rfl ⟨_, rfl, hf⟩
def F_X5_greater (x0 : Int32) (x1 : Int32) (h : pz_H) (Q : Int32 → pz_H → Prop) : Prop := (pq_br (x0 ≤ x1) (B_X5_greater_10 x1 Q h) (B_X5_greater_10 x0 Q h))
set_option maxHeartbeats 4000000 in
set_option maxRecDepth 100000 in
theorem k_X5_greater (X : pz_X) (d : Nat) (x0 : Int32) (x1 : Int32) (h : pz_H) (Q : Int32 → pz_H → Prop) (hf : F_X5_greater x0 x1 h Q) : pz_Call X M_X5_greater (d + 0) 0 0 [.int x0, .int x1] h (pq_qI Q) := by
  refine pz_call_of (by decide +kernel) (Nat.le_of_ble_eq_true rfl) ?_
  unfold F_X5_greater at hf
  refine pz_iload_n dX5_greater_0 rfl ?_
  refine pz_iload_n dX5_greater_1 rfl ?_
  obtain ⟨ha, hb⟩ := hf
  refine pz_icmp_le dX5_greater_2 (tgt := 9) (by decide) (fun cc => ?_) (fun cc => ?_)
  · have hf := ha cc
    refine pz_iload_n dX5_greater_9 rfl ?_
    exact pz_drop (pz_part_of [] rfl) (kB_X5_greater_10 X d _ _ _  hf)
  · have hf := hb cc
    refine pz_iload_n dX5_greater_5 rfl ?_
    refine pz_goto dX5_greater_6 (tgt := 10) (by decide) ?_
    exact pz_drop (pz_part_of [] rfl) (kB_X5_greater_10 X d _ _ _  hf)
def L_X5_bits_4   (Q : Int32 → pz_H → Prop) : Nat → Int32 → Int32 → pz_H → Prop
  | 0, _, _, _ => False
  | n + 1, x1, x2, h => (pq_br (x2 = 0) (Q x1 h) (L_X5_bits_4 Q n (x1 + (1 : Int32)) (x2 &&& (x2 - (1 : Int32))) h))
set_option maxHeartbeats 4000000 in
set_option maxRecDepth 100000 in
theorem kL_X5_bits_4 (X : pz_X) (d : Nat)    (Q : Int32 → pz_H → Prop)  : ∀ (n : Nat) (x1 : Int32) (x2 : Int32) (h : pz_H), L_X5_bits_4   Q n x1 x2 h → pz_W (fun _ => True) X M_X5_bits (d + 0) 4 [(1, .int x1), (2, .int x2)] [] h 0 0 (pq_qI Q) := by
  intro n
  induction n with
  | zero =>
    intro _ _ _ hf
    exact False.elim hf
  | succ n ih =>
    intro x1 x2 h hf
    unfold L_X5_bits_4 at hf
    refine pz_iload_n dX5_bits_4 rfl ?_
    obtain ⟨ha, hb⟩ := hf
    refine pz_if_eq dX5_bits_5 (tgt := 20) (by decide) (fun cc => ?_) (fun cc => ?_)
    · have hf := ha cc
      refine pz_iload_n dX5_bits_20 rfl ?_
      exact pz_ireturn dX5_bits_21 rfl rfl ⟨_, rfl, hf⟩
    · have hf := hb cc
      refine pz_iinc dX5_bits_8 rfl (by rfl) (by decide) rfl ?_
      refine pz_iload_n dX5_bits_11 rfl ?_
      refine pz_iload_n dX5_bits_12 rfl ?_
      refine pz_iconst (v := (1 : Int32)) dX5_bits_13 (by decide) ?_
      refine pz_isub dX5_bits_14 ?_
      refine pz_iand dX5_bits_15 ?_
      refine pz_istore_n dX5_bits_16 rfl (by decide) rfl ?_
      refine pz_goto dX5_bits_17 (tgt := 4) (by decide) ?_
      exact pz_drop (pz_part_of [1, 2] rfl) (ih _ _ _ hf)
def F_X5_bits (x0 : Int32) (h : pz_H) (Q : Int32 → pz_H → Prop) : Prop := (pq_ex (fun m4 => L_X5_bits_4 Q m4 (0 : Int32) x0 h))
set_option maxHeartbeats 4000000 in
set_option maxRecDepth 100000 in
theorem k_X5_bits (X : pz_X) (d : Nat) (x0 : Int32) (h : pz_H) (Q : Int32 → pz_H → Prop) (hf : F_X5_bits x0 h Q) : pz_Call X M_X5_bits (d + 0) 0 0 [.int x0] h (pq_qI Q) := by
  refine pz_call_of (by decide +kernel) (Nat.le_of_ble_eq_true rfl) ?_
  unfold F_X5_bits at hf
  refine pz_iconst (v := (0 : Int32)) dX5_bits_0 (by decide) ?_
  refine pz_istore_n dX5_bits_1 rfl (by decide) rfl ?_
  refine pz_iload_n dX5_bits_2 rfl ?_
  refine pz_istore_n dX5_bits_3 rfl (by decide) rfl ?_
  obtain ⟨n9, hf⟩ := hf
  exact pz_drop (pz_part_of [1, 2] rfl) (kL_X5_bits_4 X d _  n9 _ _ _ hf)
def B_X5_has_17 (xs0 : Int32)  (Q : Int32 → pz_H → Prop) (h : pz_H) : Prop := (pq_z xs0 (Q xs0 h))
set_option maxHeartbeats 4000000 in
set_option maxRecDepth 100000 in
theorem kB_X5_has_17 (X : pz_X) (d : Nat) (xs0 : Int32)   (Q : Int32 → pz_H → Prop) (h : pz_H)  (hf : B_X5_has_17 xs0  Q h) : pz_W (fun _ => True) X M_X5_has (d + 0) 17 [] [.int xs0] h 0 0 (pq_qI Q) := by
  unfold B_X5_has_17 at hf
  obtain ⟨hz, hf⟩ := hf
  exact pz_ireturn dX5_has_17 rfl hz ⟨_, rfl, hf⟩
def B_X5_has_16   (Q : Int32 → pz_H → Prop) (h : pz_H) : Prop := (B_X5_has_17 (0 : Int32) Q h)
set_option maxHeartbeats 4000000 in
set_option maxRecDepth 100000 in
theorem kB_X5_has_16 (X : pz_X) (d : Nat)    (Q : Int32 → pz_H → Prop) (h : pz_H)  (hf : B_X5_has_16   Q h) : pz_W (fun _ => True) X M_X5_has (d + 0) 16 [] [] h 0 0 (pq_qI Q) := by
  unfold B_X5_has_16 at hf
  refine pz_iconst (v := (0 : Int32)) dX5_has_16 (by decide) ?_
  exact pz_drop (pz_part_of [] rfl) (kB_X5_has_17 X d _ _ _  hf)
def F_X5_has (a0 : Nat) (x1 : Int32) (h : pz_H) (Q : Int32 → pz_H → Prop) : Prop := (pq_br (x1 < 0) (B_X5_has_16 Q h) (pq_gI h a0 5 0 (fun v1 => (pq_br (v1 ≤ x1) (B_X5_has_16 Q h) (B_X5_has_17 (1 : Int32) Q h)))))
set_option maxHeartbeats 4000000 in
set_option maxRecDepth 100000 in
theorem k_X5_has (X : pz_X) (d : Nat) (a0 : Nat) (x1 : Int32) (h : pz_H) (Q : Int32 → pz_H → Prop) (hf : F_X5_has a0 x1 h Q) : pz_Call X M_X5_has (d + 0) 0 0 [.ref a0, .int x1] h (pq_qI Q) := by
  refine pz_call_of (by decide +kernel) (Nat.le_of_ble_eq_true rfl) ?_
  unfold F_X5_has at hf
  refine pz_iload_n dX5_has_0 rfl ?_
  obtain ⟨ha, hb⟩ := hf
  refine pz_if_lt dX5_has_1 (tgt := 16) (by decide) (fun cc => ?_) (fun cc => ?_)
  · have hf := ha cc
    exact pz_drop (pz_part_of [] rfl) (kB_X5_has_16 X d _ _  hf)
  · have hf := hb cc
    refine pz_iload_n dX5_has_4 rfl ?_
    refine pz_aload_n dX5_has_5 rfl ?_
    obtain ⟨_, v1, h1, h2, hf⟩ := hf
    refine pz_get dX5_has_6 fl_X5_82 h1 h2 ?_
    obtain ⟨ha, hb⟩ := hf
    refine pz_icmp_ge dX5_has_9 (tgt := 16) (by decide) (fun cc => ?_) (fun cc => ?_)
    · have hf := ha cc
      exact pz_drop (pz_part_of [] rfl) (kB_X5_has_16 X d _ _  hf)
    · have hf := hb cc
      refine pz_iconst (v := (1 : Int32)) dX5_has_12 (by decide) ?_
      refine pz_goto dX5_has_13 (tgt := 17) (by decide) ?_
      exact pz_drop (pz_part_of [] rfl) (kB_X5_has_17 X d _ _ _  hf)
def B_X5_hasFace_27 (xs0 : Int32)  (Q : Int32 → pz_H → Prop) (h : pz_H) : Prop := (pq_z xs0 (Q xs0 h))
set_option maxHeartbeats 4000000 in
set_option maxRecDepth 100000 in
theorem kB_X5_hasFace_27 (X : pz_X) (d : Nat) (xs0 : Int32)   (Q : Int32 → pz_H → Prop) (h : pz_H)  (hf : B_X5_hasFace_27 xs0  Q h) : pz_W (fun _ => True) X M_X5_hasFace (d + 1) 27 [] [.int xs0] h 0 0 (pq_qI Q) := by
  unfold B_X5_hasFace_27 at hf
  obtain ⟨hz, hf⟩ := hf
  exact pz_ireturn dX5_hasFace_27 rfl hz ⟨_, rfl, hf⟩
def B_X5_hasFace_26   (Q : Int32 → pz_H → Prop) (h : pz_H) : Prop := (B_X5_hasFace_27 (0 : Int32) Q h)
set_option maxHeartbeats 4000000 in
set_option maxRecDepth 100000 in
theorem kB_X5_hasFace_26 (X : pz_X) (d : Nat)    (Q : Int32 → pz_H → Prop) (h : pz_H)  (hf : B_X5_hasFace_26   Q h) : pz_W (fun _ => True) X M_X5_hasFace (d + 1) 26 [] [] h 0 0 (pq_qI Q) := by
  unfold B_X5_hasFace_26 at hf
  refine pz_iconst (v := (0 : Int32)) dX5_hasFace_26 (by decide) ?_
  exact pz_drop (pz_part_of [] rfl) (kB_X5_hasFace_27 X d _ _ _  hf)
def F_X5_hasFace (a0 : Nat) (x1 : Int32) (x2 : Int32) (h : pz_H) (Q : Int32 → pz_H → Prop) : Prop := (pq_o h a0 5 (F_X5_has a0 x1 h (fun v2 h1 => (pq_br (v2 = 0) (B_X5_hasFace_26 Q h1) (pq_br (x2 < 0) (B_X5_hasFace_26 Q h1) (pq_gA h1 a0 5 2 (fun b3 => (pq_aI h1 b3 x1 (fun v4 => (pq_br (v4 ≤ x2) (B_X5_hasFace_26 Q h1) (B_X5_hasFace_27 (1 : Int32) Q h1)))))))))))
set_option maxHeartbeats 4000000 in
set_option maxRecDepth 100000 in
theorem k_X5_hasFace (X : pz_X) (d : Nat) (a0 : Nat) (x1 : Int32) (x2 : Int32) (h : pz_H) (Q : Int32 → pz_H → Prop) (hf : F_X5_hasFace a0 x1 x2 h Q) : pz_Call X M_X5_hasFace (d + 1) 0 0 [.ref a0, .int x1, .int x2] h (pq_qI Q) := by
  refine pz_call_of (by decide +kernel) (Nat.le_of_ble_eq_true rfl) ?_
  unfold F_X5_hasFace at hf
  refine pz_aload_n dX5_hasFace_0 rfl ?_
  refine pz_iload_n dX5_hasFace_1 rfl ?_
  obtain ⟨_, hO, hf⟩ := hf
  refine pz_callV1 (rc := 0) (rs := 0) (mc := 0) (ms := 0) dX5_hasFace_2 (k_X5_has X d _ _ _ _ hf) (Nat.le_of_ble_eq_true rfl) mf_X5_has ml_X5_85 hO rfl mi_X5_has ms_X5_has (fun _ h9 hq => ?_)
  obtain ⟨_, rfl, hf⟩ := hq
  obtain ⟨ha, hb⟩ := hf
  refine pz_if_eq dX5_hasFace_5 (tgt := 26) (by decide) (fun cc => ?_) (fun cc => ?_)
  · have hf := ha cc
    exact pz_drop (pz_part_of [] rfl) (kB_X5_hasFace_26 X d _ _  hf)
  · have hf := hb cc
    refine pz_iload_n dX5_hasFace_8 rfl ?_
    obtain ⟨ha, hb⟩ := hf
    refine pz_if_lt dX5_hasFace_9 (tgt := 26) (by decide) (fun cc => ?_) (fun cc => ?_)
    · have hf := ha cc
      exact pz_drop (pz_part_of [] rfl) (kB_X5_hasFace_26 X d _ _  hf)
    · have hf := hb cc
      refine pz_iload_n dX5_hasFace_12 rfl ?_
      refine pz_aload_n dX5_hasFace_13 rfl ?_
      obtain ⟨_, b3, h1, h2, hf⟩ := hf
      refine pz_get dX5_hasFace_14 fl_X5_13 h1 h2 ?_
      refine pz_iload_n dX5_hasFace_17 rfl ?_
      obtain ⟨_, _, h1, h2, hf⟩ := hf
      refine pz_iald dX5_hasFace_18 h1 h2 ?_
      obtain ⟨ha, hb⟩ := hf
      refine pz_icmp_ge dX5_hasFace_19 (tgt := 26) (by decide) (fun cc => ?_) (fun cc => ?_)
      · have hf := ha cc
        exact pz_drop (pz_part_of [] rfl) (kB_X5_hasFace_26 X d _ _  hf)
      · have hf := hb cc
        refine pz_iconst (v := (1 : Int32)) dX5_hasFace_22 (by decide) ?_
        refine pz_goto dX5_hasFace_23 (tgt := 27) (by decide) ?_
        exact pz_drop (pz_part_of [] rfl) (kB_X5_hasFace_27 X d _ _ _  hf)
def B_X5_hasCrease_27 (xs0 : Int32)  (Q : Int32 → pz_H → Prop) (h : pz_H) : Prop := (pq_z xs0 (Q xs0 h))
set_option maxHeartbeats 4000000 in
set_option maxRecDepth 100000 in
theorem kB_X5_hasCrease_27 (X : pz_X) (d : Nat) (xs0 : Int32)   (Q : Int32 → pz_H → Prop) (h : pz_H)  (hf : B_X5_hasCrease_27 xs0  Q h) : pz_W (fun _ => True) X M_X5_hasCrease (d + 1) 27 [] [.int xs0] h 0 0 (pq_qI Q) := by
  unfold B_X5_hasCrease_27 at hf
  obtain ⟨hz, hf⟩ := hf
  exact pz_ireturn dX5_hasCrease_27 rfl hz ⟨_, rfl, hf⟩
def B_X5_hasCrease_26   (Q : Int32 → pz_H → Prop) (h : pz_H) : Prop := (B_X5_hasCrease_27 (0 : Int32) Q h)
set_option maxHeartbeats 4000000 in
set_option maxRecDepth 100000 in
theorem kB_X5_hasCrease_26 (X : pz_X) (d : Nat)    (Q : Int32 → pz_H → Prop) (h : pz_H)  (hf : B_X5_hasCrease_26   Q h) : pz_W (fun _ => True) X M_X5_hasCrease (d + 1) 26 [] [] h 0 0 (pq_qI Q) := by
  unfold B_X5_hasCrease_26 at hf
  refine pz_iconst (v := (0 : Int32)) dX5_hasCrease_26 (by decide) ?_
  exact pz_drop (pz_part_of [] rfl) (kB_X5_hasCrease_27 X d _ _ _  hf)
def F_X5_hasCrease (a0 : Nat) (x1 : Int32) (x2 : Int32) (h : pz_H) (Q : Int32 → pz_H → Prop) : Prop := (pq_o h a0 5 (F_X5_has a0 x1 h (fun v2 h1 => (pq_br (v2 = 0) (B_X5_hasCrease_26 Q h1) (pq_br (x2 < 0) (B_X5_hasCrease_26 Q h1) (pq_gA h1 a0 5 5 (fun b3 => (pq_aI h1 b3 x1 (fun v4 => (pq_br (v4 ≤ x2) (B_X5_hasCrease_26 Q h1) (B_X5_hasCrease_27 (1 : Int32) Q h1)))))))))))
set_option maxHeartbeats 4000000 in
set_option maxRecDepth 100000 in
theorem k_X5_hasCrease (X : pz_X) (d : Nat) (a0 : Nat) (x1 : Int32) (x2 : Int32) (h : pz_H) (Q : Int32 → pz_H → Prop) (hf : F_X5_hasCrease a0 x1 x2 h Q) : pz_Call X M_X5_hasCrease (d + 1) 0 0 [.ref a0, .int x1, .int x2] h (pq_qI Q) := by
  refine pz_call_of (by decide +kernel) (Nat.le_of_ble_eq_true rfl) ?_
  unfold F_X5_hasCrease at hf
  refine pz_aload_n dX5_hasCrease_0 rfl ?_
  refine pz_iload_n dX5_hasCrease_1 rfl ?_
  obtain ⟨_, hO, hf⟩ := hf
  refine pz_callV1 (rc := 0) (rs := 0) (mc := 0) (ms := 0) dX5_hasCrease_2 (k_X5_has X d _ _ _ _ hf) (Nat.le_of_ble_eq_true rfl) mf_X5_has ml_X5_85 hO rfl mi_X5_has ms_X5_has (fun _ h9 hq => ?_)
  obtain ⟨_, rfl, hf⟩ := hq
  obtain ⟨ha, hb⟩ := hf
  refine pz_if_eq dX5_hasCrease_5 (tgt := 26) (by decide) (fun cc => ?_) (fun cc => ?_)
  · have hf := ha cc
    exact pz_drop (pz_part_of [] rfl) (kB_X5_hasCrease_26 X d _ _  hf)
  · have hf := hb cc
    refine pz_iload_n dX5_hasCrease_8 rfl ?_
    obtain ⟨ha, hb⟩ := hf
    refine pz_if_lt dX5_hasCrease_9 (tgt := 26) (by decide) (fun cc => ?_) (fun cc => ?_)
    · have hf := ha cc
      exact pz_drop (pz_part_of [] rfl) (kB_X5_hasCrease_26 X d _ _  hf)
    · have hf := hb cc
      refine pz_iload_n dX5_hasCrease_12 rfl ?_
      refine pz_aload_n dX5_hasCrease_13 rfl ?_
      obtain ⟨_, b3, h1, h2, hf⟩ := hf
      refine pz_get dX5_hasCrease_14 fl_X5_22 h1 h2 ?_
      refine pz_iload_n dX5_hasCrease_17 rfl ?_
      obtain ⟨_, _, h1, h2, hf⟩ := hf
      refine pz_iald dX5_hasCrease_18 h1 h2 ?_
      obtain ⟨ha, hb⟩ := hf
      refine pz_icmp_ge dX5_hasCrease_19 (tgt := 26) (by decide) (fun cc => ?_) (fun cc => ?_)
      · have hf := ha cc
        exact pz_drop (pz_part_of [] rfl) (kB_X5_hasCrease_26 X d _ _  hf)
      · have hf := hb cc
        refine pz_iconst (v := (1 : Int32)) dX5_hasCrease_22 (by decide) ?_
        refine pz_goto dX5_hasCrease_23 (tgt := 27) (by decide) ?_
        exact pz_drop (pz_part_of [] rfl) (kB_X5_hasCrease_27 X d _ _ _  hf)
def L_X5_add_57 (a0 : Nat) (x3 : Int32)  (Q : Int32 → pz_H → Prop) : Nat → Int32 → pz_H → Prop
  | 0, _, _ => False
  | n + 1, x4, h => (pq_br ((9 : Int32) ≤ x4) (pq_gI h a0 5 0 (fun v1 => (pq_p h a0 5 0 (.int (v1 + (1 : Int32))) (fun h2 => (Q x3 h2))))) (pq_gA h a0 5 6 (fun b3 => (pq_sI h b3 (((9 : Int32) * x3) + x4) (1 : Int32) (fun h4 => (L_X5_add_57 a0 x3 Q n (x4 + (1 : Int32)) h4))))))
set_option maxHeartbeats 4000000 in
set_option maxRecDepth 100000 in
theorem kL_X5_add_57 (X : pz_X) (d : Nat) (a0 : Nat) (x3 : Int32)   (Q : Int32 → pz_H → Prop)  : ∀ (n : Nat) (x4 : Int32) (h : pz_H), L_X5_add_57 a0 x3  Q n x4 h → pz_W (fun _ => True) X M_X5_add (d + 0) 57 [(0, .ref a0), (3, .int x3), (4, .int x4)] [] h 0 0 (pq_qI Q) := by
  intro n
  induction n with
  | zero =>
    intro _ _ hf
    exact False.elim hf
  | succ n ih =>
    intro x4 h hf
    unfold L_X5_add_57 at hf
    refine pz_iload dX5_add_57 rfl ?_
    refine pz_bipush (v := (9 : Int32)) dX5_add_59 (by decide) ?_
    obtain ⟨ha, hb⟩ := hf
    refine pz_icmp_ge dX5_add_61 (tgt := 83) (by decide) (fun cc => ?_) (fun cc => ?_)
    · have hf := ha cc
      refine pz_aload_n dX5_add_83 rfl ?_
      refine pz_dup dX5_add_84 rfl ?_
      obtain ⟨_, v1, h1, h2, hf⟩ := hf
      refine pz_get dX5_add_85 fl_X5_82 h1 h2 ?_
      refine pz_iconst (v := (1 : Int32)) dX5_add_88 (by decide) ?_
      refine pz_iadd dX5_add_89 ?_
      obtain ⟨_, h1, h2, hf⟩ := hf
      refine pz_put dX5_add_90 fp_X5_82 h1 rfl rfl h2 ?_
      refine pz_iload_n dX5_add_93 rfl ?_
      exact pz_ireturn dX5_add_94 rfl rfl ⟨_, rfl, hf⟩
    · have hf := hb cc
      refine pz_aload_n dX5_add_64 rfl ?_
      obtain ⟨_, b3, h1, h2, hf⟩ := hf
      refine pz_get dX5_add_65 fl_X5_25 h1 h2 ?_
      refine pz_bipush (v := (9 : Int32)) dX5_add_68 (by decide) ?_
      refine pz_iload_n dX5_add_70 rfl ?_
      refine pz_imul dX5_add_71 ?_
      refine pz_iload dX5_add_72 rfl ?_
      refine pz_iadd dX5_add_74 ?_
      refine pz_iconst (v := (1 : Int32)) dX5_add_75 (by decide) ?_
      obtain ⟨_, _, h1, h2, hf⟩ := hf
      refine pz_iast dX5_add_76 h1 h2 ?_
      refine pz_iinc dX5_add_77 rfl (by rfl) (by decide) rfl ?_
      refine pz_goto dX5_add_80 (tgt := 57) (by decide) ?_
      exact pz_drop (pz_part_of [0, 3, 4] rfl) (ih _ _ hf)
def F_X5_add (a0 : Nat) (x1 : Int32) (x2 : Int32) (h : pz_H) (Q : Int32 → pz_H → Prop) : Prop := (pq_gI h a0 5 0 (fun v5 => (pq_gA h a0 5 1 (fun b6 => (pq_sI h b6 v5 x1 (fun h7 => (pq_gA h7 a0 5 2 (fun b8 => (pq_sI h7 b8 v5 x2 (fun h9 => (pq_gA h9 a0 5 3 (fun b10 => (pq_sI h9 b10 v5 (1 : Int32) (fun h11 => (pq_gA h11 a0 5 4 (fun b12 => (pq_sI h11 b12 v5 x2 (fun h13 => (pq_gA h13 a0 5 5 (fun b14 => (pq_sI h13 b14 v5 (0 : Int32) (fun h15 => (pq_gA h15 a0 5 10 (fun b16 => (pq_sI h15 b16 v5 (0 : Int32) (fun h17 => (pq_gA h17 a0 5 11 (fun b18 => (pq_sI h17 b18 v5 (0 : Int32) (fun h19 => (pq_ex (fun m57 => L_X5_add_57 a0 v5 Q m57 (0 : Int32) h19))))))))))))))))))))))))))))))))
set_option maxHeartbeats 4000000 in
set_option maxRecDepth 100000 in
theorem k_X5_add (X : pz_X) (d : Nat) (a0 : Nat) (x1 : Int32) (x2 : Int32) (h : pz_H) (Q : Int32 → pz_H → Prop) (hf : F_X5_add a0 x1 x2 h Q) : pz_Call X M_X5_add (d + 0) 0 0 [.ref a0, .int x1, .int x2] h (pq_qI Q) := by
  refine pz_call_of (by decide +kernel) (Nat.le_of_ble_eq_true rfl) ?_
  unfold F_X5_add at hf
  refine pz_aload_n dX5_add_0 rfl ?_
  obtain ⟨_, v5, h1, h2, hf⟩ := hf
  refine pz_get dX5_add_1 fl_X5_82 h1 h2 ?_
  refine pz_istore_n dX5_add_4 rfl (by decide) rfl ?_
  refine pz_aload_n dX5_add_5 rfl ?_
  obtain ⟨_, b6, h1, h2, hf⟩ := hf
  refine pz_get dX5_add_6 fl_X5_7 h1 h2 ?_
  refine pz_iload_n dX5_add_9 rfl ?_
  refine pz_iload_n dX5_add_10 rfl ?_
  obtain ⟨_, _, h1, h2, hf⟩ := hf
  refine pz_iast dX5_add_11 h1 h2 ?_
  refine pz_aload_n dX5_add_12 rfl ?_
  obtain ⟨_, b8, h1, h2, hf⟩ := hf
  refine pz_get dX5_add_13 fl_X5_13 h1 h2 ?_
  refine pz_iload_n dX5_add_16 rfl ?_
  refine pz_iload_n dX5_add_17 rfl ?_
  obtain ⟨_, _, h1, h2, hf⟩ := hf
  refine pz_iast dX5_add_18 h1 h2 ?_
  refine pz_aload_n dX5_add_19 rfl ?_
  obtain ⟨_, b10, h1, h2, hf⟩ := hf
  refine pz_get dX5_add_20 fl_X5_16 h1 h2 ?_
  refine pz_iload_n dX5_add_23 rfl ?_
  refine pz_iconst (v := (1 : Int32)) dX5_add_24 (by decide) ?_
  obtain ⟨_, _, h1, h2, hf⟩ := hf
  refine pz_iast dX5_add_25 h1 h2 ?_
  refine pz_aload_n dX5_add_26 rfl ?_
  obtain ⟨_, b12, h1, h2, hf⟩ := hf
  refine pz_get dX5_add_27 fl_X5_19 h1 h2 ?_
  refine pz_iload_n dX5_add_30 rfl ?_
  refine pz_iload_n dX5_add_31 rfl ?_
  obtain ⟨_, _, h1, h2, hf⟩ := hf
  refine pz_iast dX5_add_32 h1 h2 ?_
  refine pz_aload_n dX5_add_33 rfl ?_
  obtain ⟨_, b14, h1, h2, hf⟩ := hf
  refine pz_get dX5_add_34 fl_X5_22 h1 h2 ?_
  refine pz_iload_n dX5_add_37 rfl ?_
  refine pz_iconst (v := (0 : Int32)) dX5_add_38 (by decide) ?_
  obtain ⟨_, _, h1, h2, hf⟩ := hf
  refine pz_iast dX5_add_39 h1 h2 ?_
  refine pz_aload_n dX5_add_40 rfl ?_
  obtain ⟨_, b16, h1, h2, hf⟩ := hf
  refine pz_get dX5_add_41 fl_X5_37 h1 h2 ?_
  refine pz_iload_n dX5_add_44 rfl ?_
  refine pz_iconst (v := (0 : Int32)) dX5_add_45 (by decide) ?_
  obtain ⟨_, _, h1, h2, hf⟩ := hf
  refine pz_iast dX5_add_46 h1 h2 ?_
  refine pz_aload_n dX5_add_47 rfl ?_
  obtain ⟨_, b18, h1, h2, hf⟩ := hf
  refine pz_get dX5_add_48 fl_X5_40 h1 h2 ?_
  refine pz_iload_n dX5_add_51 rfl ?_
  refine pz_iconst (v := (0 : Int32)) dX5_add_52 (by decide) ?_
  obtain ⟨_, _, h1, h2, hf⟩ := hf
  refine pz_iast dX5_add_53 h1 h2 ?_
  refine pz_iconst (v := (0 : Int32)) dX5_add_54 (by decide) ?_
  refine pz_istore dX5_add_55 (by decide) rfl ?_
  obtain ⟨n9, hf⟩ := hf
  exact pz_drop (pz_part_of [0, 3, 4] rfl) (kL_X5_add_57 X d _ _ _  n9 _ _ hf)
def F_X5_addCrease (a0 : Nat) (x1 : Int32) (x2 : Int32) (x3 : Int32) (h : pz_H) (Q : pz_H → Prop) : Prop := (pq_gA h a0 5 5 (fun b1 => (pq_aI h b1 x1 (fun v2 => (pq_gA h a0 5 7 (fun b3 => (pq_sI h b3 (((12 : Int32) * x1) + v2) x2 (fun h4 => (pq_gA h4 a0 5 8 (fun b5 => (pq_sI h4 b5 (((12 : Int32) * x1) + v2) x3 (fun h6 => (pq_gA h6 a0 5 9 (fun b7 => (pq_sI h6 b7 (((12 : Int32) * x1) + v2) (0 : Int32) (fun h8 => (pq_gA h8 a0 5 5 (fun b9 => (pq_aI h8 b9 x1 (fun v10 => (pq_sI h8 b9 x1 (v10 + (1 : Int32)) (fun h11 => (Q h11)))))))))))))))))))))))
set_option maxHeartbeats 4000000 in
set_option maxRecDepth 100000 in
theorem k_X5_addCrease (X : pz_X) (d : Nat) (a0 : Nat) (x1 : Int32) (x2 : Int32) (x3 : Int32) (h : pz_H) (Q : pz_H → Prop) (hf : F_X5_addCrease a0 x1 x2 x3 h Q) : pz_Call X M_X5_addCrease (d + 0) 0 0 [.ref a0, .int x1, .int x2, .int x3] h (pq_qV Q) := by
  refine pz_call_of (by decide +kernel) (Nat.le_of_ble_eq_true rfl) ?_
  unfold F_X5_addCrease at hf
  refine pz_bipush (v := (12 : Int32)) dX5_addCrease_0 (by decide) ?_
  refine pz_iload_n dX5_addCrease_2 rfl ?_
  refine pz_imul dX5_addCrease_3 ?_
  refine pz_aload_n dX5_addCrease_4 rfl ?_
  obtain ⟨_, b1, h1, h2, hf⟩ := hf
  refine pz_get dX5_addCrease_5 fl_X5_22 h1 h2 ?_
  refine pz_iload_n dX5_addCrease_8 rfl ?_
  obtain ⟨_, _, h1, h2, hf⟩ := hf
  refine pz_iald dX5_addCrease_9 h1 h2 ?_
  refine pz_iadd dX5_addCrease_10 ?_
  refine pz_istore dX5_addCrease_11 (by decide) rfl ?_
  refine pz_aload_n dX5_addCrease_13 rfl ?_
  obtain ⟨_, b3, h1, h2, hf⟩ := hf
  refine pz_get dX5_addCrease_14 fl_X5_28 h1 h2 ?_
  refine pz_iload dX5_addCrease_17 rfl ?_
  refine pz_iload_n dX5_addCrease_19 rfl ?_
  obtain ⟨_, _, h1, h2, hf⟩ := hf
  refine pz_iast dX5_addCrease_20 h1 h2 ?_
  refine pz_aload_n dX5_addCrease_21 rfl ?_
  obtain ⟨_, b5, h1, h2, hf⟩ := hf
  refine pz_get dX5_addCrease_22 fl_X5_31 h1 h2 ?_
  refine pz_iload dX5_addCrease_25 rfl ?_
  refine pz_iload_n dX5_addCrease_27 rfl ?_
  obtain ⟨_, _, h1, h2, hf⟩ := hf
  refine pz_iast dX5_addCrease_28 h1 h2 ?_
  refine pz_aload_n dX5_addCrease_29 rfl ?_
  obtain ⟨_, b7, h1, h2, hf⟩ := hf
  refine pz_get dX5_addCrease_30 fl_X5_34 h1 h2 ?_
  refine pz_iload dX5_addCrease_33 rfl ?_
  refine pz_iconst (v := (0 : Int32)) dX5_addCrease_35 (by decide) ?_
  obtain ⟨_, _, h1, h2, hf⟩ := hf
  refine pz_iast dX5_addCrease_36 h1 h2 ?_
  refine pz_aload_n dX5_addCrease_37 rfl ?_
  obtain ⟨_, b9, h1, h2, hf⟩ := hf
  refine pz_get dX5_addCrease_38 fl_X5_22 h1 h2 ?_
  refine pz_iload_n dX5_addCrease_41 rfl ?_
  refine pz_dup2 dX5_addCrease_42 rfl rfl ?_
  obtain ⟨_, _, h1, h2, hf⟩ := hf
  refine pz_iald dX5_addCrease_43 h1 h2 ?_
  refine pz_iconst (v := (1 : Int32)) dX5_addCrease_44 (by decide) ?_
  refine pz_iadd dX5_addCrease_45 ?_
  obtain ⟨_, _, h1, h2, hf⟩ := hf
  refine pz_iast dX5_addCrease_46 h1 h2 ?_
  exact pz_return dX5_addCrease_47 rfl ⟨rfl, hf⟩
def B_X5_strip_11   (Q : Int32 → pz_H → Prop) (h : pz_H) : Prop := (Q (-102 : Int32) h)
set_option maxHeartbeats 4000000 in
set_option maxRecDepth 100000 in
theorem kB_X5_strip_11 (X : pz_X) (d : Nat)    (Q : Int32 → pz_H → Prop) (h : pz_H)  (hf : B_X5_strip_11   Q h) : pz_W (fun _ => True) X M_X5_strip (d + 1) 11 [] [] h 0 0 (pq_qI Q) := by
  unfold B_X5_strip_11 at hf
  refine pz_bipush (v := (-102 : Int32)) dX5_strip_11 (by decide) ?_
  exact pz_ireturn dX5_strip_13 rfl rfl ⟨_, rfl, hf⟩
def L_X5_strip_35 (a0 : Nat) (x1 : Int32) (x2 : Int32)  (Q : Int32 → pz_H → Prop) : Nat → Int32 → pz_H → Prop
  | 0, _, _ => False
  | n + 1, x3, h => (pq_br (x1 ≤ (x3 + (1 : Int32))) (Q x2 h) (pq_o h a0 5 (F_X5_addCrease a0 x2 x3 (x3 + (1 : Int32)) h (fun h1 => (L_X5_strip_35 a0 x1 x2 Q n (x3 + (1 : Int32)) h1)))))
set_option maxHeartbeats 4000000 in
set_option maxRecDepth 100000 in
theorem kL_X5_strip_35 (X : pz_X) (d : Nat) (a0 : Nat) (x1 : Int32) (x2 : Int32)   (Q : Int32 → pz_H → Prop)  : ∀ (n : Nat) (x3 : Int32) (h : pz_H), L_X5_strip_35 a0 x1 x2  Q n x3 h → pz_W (fun _ => True) X M_X5_strip (d + 1) 35 [(0, .ref a0), (1, .int x1), (2, .int x2), (3, .int x3)] [] h 0 0 (pq_qI Q) := by
  intro n
  induction n with
  | zero =>
    intro _ _ hf
    exact False.elim hf
  | succ n ih =>
    intro x3 h hf
    unfold L_X5_strip_35 at hf
    refine pz_iload_n dX5_strip_35 rfl ?_
    refine pz_iconst (v := (1 : Int32)) dX5_strip_36 (by decide) ?_
    refine pz_iadd dX5_strip_37 ?_
    refine pz_iload_n dX5_strip_38 rfl ?_
    obtain ⟨ha, hb⟩ := hf
    refine pz_icmp_ge dX5_strip_39 (tgt := 57) (by decide) (fun cc => ?_) (fun cc => ?_)
    · have hf := ha cc
      refine pz_iload_n dX5_strip_57 rfl ?_
      exact pz_ireturn dX5_strip_58 rfl rfl ⟨_, rfl, hf⟩
    · have hf := hb cc
      refine pz_aload_n dX5_strip_42 rfl ?_
      refine pz_iload_n dX5_strip_43 rfl ?_
      refine pz_iload_n dX5_strip_44 rfl ?_
      refine pz_iload_n dX5_strip_45 rfl ?_
      refine pz_iconst (v := (1 : Int32)) dX5_strip_46 (by decide) ?_
      refine pz_iadd dX5_strip_47 ?_
      obtain ⟨_, hO, hf⟩ := hf
      refine pz_callV3 (rc := 0) (rs := 0) (mc := 0) (ms := 0) dX5_strip_48 (k_X5_addCrease X d _ _ _ _ _ _ hf) (Nat.le_of_ble_eq_true rfl) mf_X5_addCrease ml_X5_93 hO rfl mi_X5_addCrease ms_X5_addCrease (fun _ h9 hq => ?_)
      obtain ⟨rfl, hf⟩ := hq
      refine pz_iinc dX5_strip_51 rfl (by rfl) (by decide) rfl ?_
      refine pz_goto dX5_strip_54 (tgt := 35) (by decide) ?_
      exact pz_drop (pz_part_of [0, 1, 2, 3] rfl) (ih _ _ hf)
def F_X5_strip (a0 : Nat) (x1 : Int32) (h : pz_H) (Q : Int32 → pz_H → Prop) : Prop := (pq_br (x1 < (1 : Int32)) (B_X5_strip_11 Q h) (pq_br (x1 ≤ (9 : Int32)) (pq_gI h a0 5 0 (fun v2 => (pq_br (v2 = (30 : Int32)) (Q (-104 : Int32) h) (pq_o h a0 5 (F_X5_add a0 (0 : Int32) x1 h (fun v4 h3 => (pq_ex (fun m35 => L_X5_strip_35 a0 x1 v4 Q m35 (0 : Int32) h3)))))))) (B_X5_strip_11 Q h)))
set_option maxHeartbeats 4000000 in
set_option maxRecDepth 100000 in
theorem k_X5_strip (X : pz_X) (d : Nat) (a0 : Nat) (x1 : Int32) (h : pz_H) (Q : Int32 → pz_H → Prop) (hf : F_X5_strip a0 x1 h Q) : pz_Call X M_X5_strip (d + 1) 0 0 [.ref a0, .int x1] h (pq_qI Q) := by
  refine pz_call_of (by decide +kernel) (Nat.le_of_ble_eq_true rfl) ?_
  unfold F_X5_strip at hf
  refine pz_iload_n dX5_strip_0 rfl ?_
  refine pz_iconst (v := (1 : Int32)) dX5_strip_1 (by decide) ?_
  obtain ⟨ha, hb⟩ := hf
  refine pz_icmp_lt dX5_strip_2 (tgt := 11) (by decide) (fun cc => ?_) (fun cc => ?_)
  · have hf := ha cc
    exact pz_drop (pz_part_of [] rfl) (kB_X5_strip_11 X d _ _  hf)
  · have hf := hb cc
    refine pz_iload_n dX5_strip_5 rfl ?_
    refine pz_bipush (v := (9 : Int32)) dX5_strip_6 (by decide) ?_
    obtain ⟨ha, hb⟩ := hf
    refine pz_icmp_le dX5_strip_8 (tgt := 14) (by decide) (fun cc => ?_) (fun cc => ?_)
    · have hf := ha cc
      refine pz_aload_n dX5_strip_14 rfl ?_
      obtain ⟨_, v2, h1, h2, hf⟩ := hf
      refine pz_get dX5_strip_15 fl_X5_82 h1 h2 ?_
      refine pz_bipush (v := (30 : Int32)) dX5_strip_18 (by decide) ?_
      obtain ⟨ha, hb⟩ := hf
      refine pz_icmp_ne dX5_strip_20 (tgt := 26) (by decide) (fun cc => ?_) (fun cc => ?_)
      · have hf := hb cc
        refine pz_aload_n dX5_strip_26 rfl ?_
        refine pz_iconst (v := (0 : Int32)) dX5_strip_27 (by decide) ?_
        refine pz_iload_n dX5_strip_28 rfl ?_
        obtain ⟨_, hO, hf⟩ := hf
        refine pz_callV2 (rc := 0) (rs := 0) (mc := 0) (ms := 0) dX5_strip_29 (k_X5_add X d _ _ _ _ _ hf) (Nat.le_of_ble_eq_true rfl) mf_X5_add ml_X5_89 hO rfl mi_X5_add ms_X5_add (fun _ h9 hq => ?_)
        obtain ⟨_, rfl, hf⟩ := hq
        refine pz_istore_n dX5_strip_32 rfl (by decide) rfl ?_
        refine pz_iconst (v := (0 : Int32)) dX5_strip_33 (by decide) ?_
        refine pz_istore_n dX5_strip_34 rfl (by decide) rfl ?_
        obtain ⟨n9, hf⟩ := hf
        exact pz_drop (pz_part_of [0, 1, 2, 3] rfl) (kL_X5_strip_35 X d _ _ _ _  n9 _ _ hf)
      · have hf := ha cc
        refine pz_bipush (v := (-104 : Int32)) dX5_strip_23 (by decide) ?_
        exact pz_ireturn dX5_strip_25 rfl rfl ⟨_, rfl, hf⟩
    · have hf := hb cc
      exact pz_drop (pz_part_of [] rfl) (kB_X5_strip_11 X d _ _  hf)
def B_X5_corner_11   (Q : Int32 → pz_H → Prop) (h : pz_H) : Prop := (Q (-102 : Int32) h)
set_option maxHeartbeats 4000000 in
set_option maxRecDepth 100000 in
theorem kB_X5_corner_11 (X : pz_X) (d : Nat)    (Q : Int32 → pz_H → Prop) (h : pz_H)  (hf : B_X5_corner_11   Q h) : pz_W (fun _ => True) X M_X5_corner (d + 1) 11 [] [] h 0 0 (pq_qI Q) := by
  unfold B_X5_corner_11 at hf
  refine pz_bipush (v := (-102 : Int32)) dX5_corner_11 (by decide) ?_
  exact pz_ireturn dX5_corner_13 rfl rfl ⟨_, rfl, hf⟩
def L_X5_corner_35 (a0 : Nat) (x1 : Int32) (x2 : Int32)  (Q : Int32 → pz_H → Prop) : Nat → Int32 → pz_H → Prop
  | 0, _, _ => False
  | n + 1, x3, h => (pq_br (x1 ≤ x3) (Q x2 h) (pq_ne x1 (pq_o h a0 5 (F_X5_addCrease a0 x2 x3 ((x3 + (1 : Int32)) - (x3 + (1 : Int32)) / x1 * x1) h (fun h1 => (L_X5_corner_35 a0 x1 x2 Q n (x3 + (1 : Int32)) h1))))))
set_option maxHeartbeats 4000000 in
set_option maxRecDepth 100000 in
theorem kL_X5_corner_35 (X : pz_X) (d : Nat) (a0 : Nat) (x1 : Int32) (x2 : Int32)   (Q : Int32 → pz_H → Prop)  : ∀ (n : Nat) (x3 : Int32) (h : pz_H), L_X5_corner_35 a0 x1 x2  Q n x3 h → pz_W (fun _ => True) X M_X5_corner (d + 1) 35 [(0, .ref a0), (1, .int x1), (2, .int x2), (3, .int x3)] [] h 0 0 (pq_qI Q) := by
  intro n
  induction n with
  | zero =>
    intro _ _ hf
    exact False.elim hf
  | succ n ih =>
    intro x3 h hf
    unfold L_X5_corner_35 at hf
    refine pz_iload_n dX5_corner_35 rfl ?_
    refine pz_iload_n dX5_corner_36 rfl ?_
    obtain ⟨ha, hb⟩ := hf
    refine pz_icmp_ge dX5_corner_37 (tgt := 57) (by decide) (fun cc => ?_) (fun cc => ?_)
    · have hf := ha cc
      refine pz_iload_n dX5_corner_57 rfl ?_
      exact pz_ireturn dX5_corner_58 rfl rfl ⟨_, rfl, hf⟩
    · have hf := hb cc
      refine pz_aload_n dX5_corner_40 rfl ?_
      refine pz_iload_n dX5_corner_41 rfl ?_
      refine pz_iload_n dX5_corner_42 rfl ?_
      refine pz_iload_n dX5_corner_43 rfl ?_
      refine pz_iconst (v := (1 : Int32)) dX5_corner_44 (by decide) ?_
      refine pz_iadd dX5_corner_45 ?_
      refine pz_iload_n dX5_corner_46 rfl ?_
      obtain ⟨hne, hf⟩ := hf
      refine pz_irem dX5_corner_47 hne ?_
      obtain ⟨_, hO, hf⟩ := hf
      refine pz_callV3 (rc := 0) (rs := 0) (mc := 0) (ms := 0) dX5_corner_48 (k_X5_addCrease X d _ _ _ _ _ _ hf) (Nat.le_of_ble_eq_true rfl) mf_X5_addCrease ml_X5_93 hO rfl mi_X5_addCrease ms_X5_addCrease (fun _ h9 hq => ?_)
      obtain ⟨rfl, hf⟩ := hq
      refine pz_iinc dX5_corner_51 rfl (by rfl) (by decide) rfl ?_
      refine pz_goto dX5_corner_54 (tgt := 35) (by decide) ?_
      exact pz_drop (pz_part_of [0, 1, 2, 3] rfl) (ih _ _ hf)
def F_X5_corner (a0 : Nat) (x1 : Int32) (h : pz_H) (Q : Int32 → pz_H → Prop) : Prop := (pq_br (x1 < (2 : Int32)) (B_X5_corner_11 Q h) (pq_br (x1 ≤ (9 : Int32)) (pq_gI h a0 5 0 (fun v2 => (pq_br (v2 = (30 : Int32)) (Q (-104 : Int32) h) (pq_o h a0 5 (F_X5_add a0 (1 : Int32) x1 h (fun v4 h3 => (pq_ex (fun m35 => L_X5_corner_35 a0 x1 v4 Q m35 (0 : Int32) h3)))))))) (B_X5_corner_11 Q h)))
set_option maxHeartbeats 4000000 in
set_option maxRecDepth 100000 in
theorem k_X5_corner (X : pz_X) (d : Nat) (a0 : Nat) (x1 : Int32) (h : pz_H) (Q : Int32 → pz_H → Prop) (hf : F_X5_corner a0 x1 h Q) : pz_Call X M_X5_corner (d + 1) 0 0 [.ref a0, .int x1] h (pq_qI Q) := by
  refine pz_call_of (by decide +kernel) (Nat.le_of_ble_eq_true rfl) ?_
  unfold F_X5_corner at hf
  refine pz_iload_n dX5_corner_0 rfl ?_
  refine pz_iconst (v := (2 : Int32)) dX5_corner_1 (by decide) ?_
  obtain ⟨ha, hb⟩ := hf
  refine pz_icmp_lt dX5_corner_2 (tgt := 11) (by decide) (fun cc => ?_) (fun cc => ?_)
  · have hf := ha cc
    exact pz_drop (pz_part_of [] rfl) (kB_X5_corner_11 X d _ _  hf)
  · have hf := hb cc
    refine pz_iload_n dX5_corner_5 rfl ?_
    refine pz_bipush (v := (9 : Int32)) dX5_corner_6 (by decide) ?_
    obtain ⟨ha, hb⟩ := hf
    refine pz_icmp_le dX5_corner_8 (tgt := 14) (by decide) (fun cc => ?_) (fun cc => ?_)
    · have hf := ha cc
      refine pz_aload_n dX5_corner_14 rfl ?_
      obtain ⟨_, v2, h1, h2, hf⟩ := hf
      refine pz_get dX5_corner_15 fl_X5_82 h1 h2 ?_
      refine pz_bipush (v := (30 : Int32)) dX5_corner_18 (by decide) ?_
      obtain ⟨ha, hb⟩ := hf
      refine pz_icmp_ne dX5_corner_20 (tgt := 26) (by decide) (fun cc => ?_) (fun cc => ?_)
      · have hf := hb cc
        refine pz_aload_n dX5_corner_26 rfl ?_
        refine pz_iconst (v := (1 : Int32)) dX5_corner_27 (by decide) ?_
        refine pz_iload_n dX5_corner_28 rfl ?_
        obtain ⟨_, hO, hf⟩ := hf
        refine pz_callV2 (rc := 0) (rs := 0) (mc := 0) (ms := 0) dX5_corner_29 (k_X5_add X d _ _ _ _ _ hf) (Nat.le_of_ble_eq_true rfl) mf_X5_add ml_X5_89 hO rfl mi_X5_add ms_X5_add (fun _ h9 hq => ?_)
        obtain ⟨_, rfl, hf⟩ := hq
        refine pz_istore_n dX5_corner_32 rfl (by decide) rfl ?_
        refine pz_iconst (v := (0 : Int32)) dX5_corner_33 (by decide) ?_
        refine pz_istore_n dX5_corner_34 rfl (by decide) rfl ?_
        obtain ⟨n9, hf⟩ := hf
        exact pz_drop (pz_part_of [0, 1, 2, 3] rfl) (kL_X5_corner_35 X d _ _ _ _  n9 _ _ hf)
      · have hf := ha cc
        refine pz_bipush (v := (-104 : Int32)) dX5_corner_23 (by decide) ?_
        exact pz_ireturn dX5_corner_25 rfl rfl ⟨_, rfl, hf⟩
    · have hf := hb cc
      exact pz_drop (pz_part_of [] rfl) (kB_X5_corner_11 X d _ _  hf)
def B_X5_map_30   (Q : Int32 → pz_H → Prop) (h : pz_H) : Prop := (Q (-102 : Int32) h)
set_option maxHeartbeats 4000000 in
set_option maxRecDepth 100000 in
theorem kB_X5_map_30 (X : pz_X) (d : Nat)    (Q : Int32 → pz_H → Prop) (h : pz_H)  (hf : B_X5_map_30   Q h) : pz_W (fun _ => True) X M_X5_map (d + 1) 30 [] [] h 0 0 (pq_qI Q) := by
  unfold B_X5_map_30 at hf
  refine pz_bipush (v := (-102 : Int32)) dX5_map_30 (by decide) ?_
  exact pz_ireturn dX5_map_32 rfl rfl ⟨_, rfl, hf⟩
def L_X5_map_135 (a0 : Nat) (x1 : Int32) (x2 : Int32) (x3 : Int32) (x4 : Int32) (k124 : Int32 → pz_H → Prop) (Q : Int32 → pz_H → Prop) : Nat → Int32 → pz_H → Prop
  | 0, _, _ => False
  | n + 1, x5, h => (pq_br (x2 ≤ x5) (k124 (x4 + (1 : Int32)) h) (pq_o h a0 5 (F_X5_addCrease a0 x3 ((x4 * x2) + x5) (((x4 * x2) + x5) + x2) h (fun h2 => (L_X5_map_135 a0 x1 x2 x3 x4 k124 Q n (x5 + (1 : Int32)) h2)))))
set_option maxHeartbeats 4000000 in
set_option maxRecDepth 100000 in
theorem kL_X5_map_135 (X : pz_X) (d : Nat) (a0 : Nat) (x1 : Int32) (x2 : Int32) (x3 : Int32) (x4 : Int32)  (k124 : Int32 → pz_H → Prop) (Q : Int32 → pz_H → Prop) (hk124 : ∀ (x4 : Int32) (h : pz_H), k124 x4 h → pz_W (fun _ => True) X M_X5_map (d + 1) 124 [(0, .ref a0), (1, .int x1), (2, .int x2), (3, .int x3), (4, .int x4)] [] h 0 0 (pq_qI Q)) : ∀ (n : Nat) (x5 : Int32) (h : pz_H), L_X5_map_135 a0 x1 x2 x3 x4 k124 Q n x5 h → pz_W (fun _ => True) X M_X5_map (d + 1) 135 [(0, .ref a0), (1, .int x1), (2, .int x2), (3, .int x3), (4, .int x4), (5, .int x5)] [] h 0 0 (pq_qI Q) := by
  intro n
  induction n with
  | zero =>
    intro _ _ hf
    exact False.elim hf
  | succ n ih =>
    intro x5 h hf
    unfold L_X5_map_135 at hf
    refine pz_iload dX5_map_135 rfl ?_
    refine pz_iload_n dX5_map_137 rfl ?_
    obtain ⟨ha, hb⟩ := hf
    refine pz_icmp_ge dX5_map_138 (tgt := 168) (by decide) (fun cc => ?_) (fun cc => ?_)
    · have hf := ha cc
      refine pz_iinc dX5_map_168 rfl (by rfl) (by decide) rfl ?_
      refine pz_goto dX5_map_171 (tgt := 124) (by decide) ?_
      exact pz_drop (pz_part_of [0, 1, 2, 3, 4] rfl) (hk124 _ _ hf)
    · have hf := hb cc
      refine pz_aload_n dX5_map_141 rfl ?_
      refine pz_iload_n dX5_map_142 rfl ?_
      refine pz_iload dX5_map_143 rfl ?_
      refine pz_iload_n dX5_map_145 rfl ?_
      refine pz_imul dX5_map_146 ?_
      refine pz_iload dX5_map_147 rfl ?_
      refine pz_iadd dX5_map_149 ?_
      refine pz_iload dX5_map_150 rfl ?_
      refine pz_iload_n dX5_map_152 rfl ?_
      refine pz_imul dX5_map_153 ?_
      refine pz_iload dX5_map_154 rfl ?_
      refine pz_iadd dX5_map_156 ?_
      refine pz_iload_n dX5_map_157 rfl ?_
      refine pz_iadd dX5_map_158 ?_
      obtain ⟨_, hO, hf⟩ := hf
      refine pz_callV3 (rc := 0) (rs := 0) (mc := 0) (ms := 0) dX5_map_159 (k_X5_addCrease X d _ _ _ _ _ _ hf) (Nat.le_of_ble_eq_true rfl) mf_X5_addCrease ml_X5_93 hO rfl mi_X5_addCrease ms_X5_addCrease (fun _ h9 hq => ?_)
      obtain ⟨rfl, hf⟩ := hq
      refine pz_iinc dX5_map_162 rfl (by rfl) (by decide) rfl ?_
      refine pz_goto dX5_map_165 (tgt := 135) (by decide) ?_
      exact pz_drop (pz_part_of [0, 1, 2, 3, 4, 5] rfl) (ih _ _ hf)
def L_X5_map_124 (a0 : Nat) (x1 : Int32) (x2 : Int32) (x3 : Int32)  (Q : Int32 → pz_H → Prop) : Nat → Int32 → pz_H → Prop
  | 0, _, _ => False
  | n + 1, x4, h => (pq_br (x1 ≤ (x4 + (1 : Int32))) (Q x3 h) (pq_ex (fun m135 => L_X5_map_135 a0 x1 x2 x3 x4 (fun z0 hz => L_X5_map_124 a0 x1 x2 x3 Q n z0 hz) Q m135 (0 : Int32) h)))
set_option maxHeartbeats 4000000 in
set_option maxRecDepth 100000 in
theorem kL_X5_map_124 (X : pz_X) (d : Nat) (a0 : Nat) (x1 : Int32) (x2 : Int32) (x3 : Int32)   (Q : Int32 → pz_H → Prop)  : ∀ (n : Nat) (x4 : Int32) (h : pz_H), L_X5_map_124 a0 x1 x2 x3  Q n x4 h → pz_W (fun _ => True) X M_X5_map (d + 1) 124 [(0, .ref a0), (1, .int x1), (2, .int x2), (3, .int x3), (4, .int x4)] [] h 0 0 (pq_qI Q) := by
  intro n
  induction n with
  | zero =>
    intro _ _ hf
    exact False.elim hf
  | succ n ih =>
    intro x4 h hf
    unfold L_X5_map_124 at hf
    refine pz_iload dX5_map_124 rfl ?_
    refine pz_iconst (v := (1 : Int32)) dX5_map_126 (by decide) ?_
    refine pz_iadd dX5_map_127 ?_
    refine pz_iload_n dX5_map_128 rfl ?_
    obtain ⟨ha, hb⟩ := hf
    refine pz_icmp_ge dX5_map_129 (tgt := 174) (by decide) (fun cc => ?_) (fun cc => ?_)
    · have hf := ha cc
      refine pz_iload_n dX5_map_174 rfl ?_
      exact pz_ireturn dX5_map_175 rfl rfl ⟨_, rfl, hf⟩
    · have hf := hb cc
      refine pz_iconst (v := (0 : Int32)) dX5_map_132 (by decide) ?_
      refine pz_istore dX5_map_133 (by decide) rfl ?_
      obtain ⟨n9, hf⟩ := hf
      exact pz_drop (pz_part_of [0, 1, 2, 3, 4, 5] rfl) (kL_X5_map_135 X d _ _ _ _ _ _ _ ih n9 _ _ hf)
def L_X5_map_80 (a0 : Nat) (x1 : Int32) (x2 : Int32) (x3 : Int32) (x4 : Int32) (k71 : Int32 → pz_H → Prop) (Q : Int32 → pz_H → Prop) : Nat → Int32 → pz_H → Prop
  | 0, _, _ => False
  | n + 1, x5, h => (pq_br (x2 ≤ (x5 + (1 : Int32))) (k71 (x4 + (1 : Int32)) h) (pq_o h a0 5 (F_X5_addCrease a0 x3 ((x4 * x2) + x5) (((x4 * x2) + x5) + (1 : Int32)) h (fun h1 => (L_X5_map_80 a0 x1 x2 x3 x4 k71 Q n (x5 + (1 : Int32)) h1)))))
set_option maxHeartbeats 4000000 in
set_option maxRecDepth 100000 in
theorem kL_X5_map_80 (X : pz_X) (d : Nat) (a0 : Nat) (x1 : Int32) (x2 : Int32) (x3 : Int32) (x4 : Int32)  (k71 : Int32 → pz_H → Prop) (Q : Int32 → pz_H → Prop) (hk71 : ∀ (x4 : Int32) (h : pz_H), k71 x4 h → pz_W (fun _ => True) X M_X5_map (d + 1) 71 [(0, .ref a0), (1, .int x1), (2, .int x2), (3, .int x3), (4, .int x4)] [] h 0 0 (pq_qI Q)) : ∀ (n : Nat) (x5 : Int32) (h : pz_H), L_X5_map_80 a0 x1 x2 x3 x4 k71 Q n x5 h → pz_W (fun _ => True) X M_X5_map (d + 1) 80 [(0, .ref a0), (1, .int x1), (2, .int x2), (3, .int x3), (4, .int x4), (5, .int x5)] [] h 0 0 (pq_qI Q) := by
  intro n
  induction n with
  | zero =>
    intro _ _ hf
    exact False.elim hf
  | succ n ih =>
    intro x5 h hf
    unfold L_X5_map_80 at hf
    refine pz_iload dX5_map_80 rfl ?_
    refine pz_iconst (v := (1 : Int32)) dX5_map_82 (by decide) ?_
    refine pz_iadd dX5_map_83 ?_
    refine pz_iload_n dX5_map_84 rfl ?_
    obtain ⟨ha, hb⟩ := hf
    refine pz_icmp_ge dX5_map_85 (tgt := 115) (by decide) (fun cc => ?_) (fun cc => ?_)
    · have hf := ha cc
      refine pz_iinc dX5_map_115 rfl (by rfl) (by decide) rfl ?_
      refine pz_goto dX5_map_118 (tgt := 71) (by decide) ?_
      exact pz_drop (pz_part_of [0, 1, 2, 3, 4] rfl) (hk71 _ _ hf)
    · have hf := hb cc
      refine pz_aload_n dX5_map_88 rfl ?_
      refine pz_iload_n dX5_map_89 rfl ?_
      refine pz_iload dX5_map_90 rfl ?_
      refine pz_iload_n dX5_map_92 rfl ?_
      refine pz_imul dX5_map_93 ?_
      refine pz_iload dX5_map_94 rfl ?_
      refine pz_iadd dX5_map_96 ?_
      refine pz_iload dX5_map_97 rfl ?_
      refine pz_iload_n dX5_map_99 rfl ?_
      refine pz_imul dX5_map_100 ?_
      refine pz_iload dX5_map_101 rfl ?_
      refine pz_iadd dX5_map_103 ?_
      refine pz_iconst (v := (1 : Int32)) dX5_map_104 (by decide) ?_
      refine pz_iadd dX5_map_105 ?_
      obtain ⟨_, hO, hf⟩ := hf
      refine pz_callV3 (rc := 0) (rs := 0) (mc := 0) (ms := 0) dX5_map_106 (k_X5_addCrease X d _ _ _ _ _ _ hf) (Nat.le_of_ble_eq_true rfl) mf_X5_addCrease ml_X5_93 hO rfl mi_X5_addCrease ms_X5_addCrease (fun _ h9 hq => ?_)
      obtain ⟨rfl, hf⟩ := hq
      refine pz_iinc dX5_map_109 rfl (by rfl) (by decide) rfl ?_
      refine pz_goto dX5_map_112 (tgt := 80) (by decide) ?_
      exact pz_drop (pz_part_of [0, 1, 2, 3, 4, 5] rfl) (ih _ _ hf)
def L_X5_map_71 (a0 : Nat) (x1 : Int32) (x2 : Int32) (x3 : Int32)  (Q : Int32 → pz_H → Prop) : Nat → Int32 → pz_H → Prop
  | 0, _, _ => False
  | n + 1, x4, h => (pq_br (x1 ≤ x4) (pq_ex (fun m124 => L_X5_map_124 a0 x1 x2 x3 Q m124 (0 : Int32) h)) (pq_ex (fun m80 => L_X5_map_80 a0 x1 x2 x3 x4 (fun z0 hz => L_X5_map_71 a0 x1 x2 x3 Q n z0 hz) Q m80 (0 : Int32) h)))
set_option maxHeartbeats 4000000 in
set_option maxRecDepth 100000 in
theorem kL_X5_map_71 (X : pz_X) (d : Nat) (a0 : Nat) (x1 : Int32) (x2 : Int32) (x3 : Int32)   (Q : Int32 → pz_H → Prop)  : ∀ (n : Nat) (x4 : Int32) (h : pz_H), L_X5_map_71 a0 x1 x2 x3  Q n x4 h → pz_W (fun _ => True) X M_X5_map (d + 1) 71 [(0, .ref a0), (1, .int x1), (2, .int x2), (3, .int x3), (4, .int x4)] [] h 0 0 (pq_qI Q) := by
  intro n
  induction n with
  | zero =>
    intro _ _ hf
    exact False.elim hf
  | succ n ih =>
    intro x4 h hf
    unfold L_X5_map_71 at hf
    refine pz_iload dX5_map_71 rfl ?_
    refine pz_iload_n dX5_map_73 rfl ?_
    obtain ⟨ha, hb⟩ := hf
    refine pz_icmp_ge dX5_map_74 (tgt := 121) (by decide) (fun cc => ?_) (fun cc => ?_)
    · have hf := ha cc
      refine pz_iconst (v := (0 : Int32)) dX5_map_121 (by decide) ?_
      refine pz_istore dX5_map_122 (by decide) rfl ?_
      obtain ⟨n9, hf⟩ := hf
      exact pz_drop (pz_part_of [0, 1, 2, 3, 4] rfl) (kL_X5_map_124 X d _ _ _ _ _  n9 _ _ hf)
    · have hf := hb cc
      refine pz_iconst (v := (0 : Int32)) dX5_map_77 (by decide) ?_
      refine pz_istore dX5_map_78 (by decide) rfl ?_
      obtain ⟨n9, hf⟩ := hf
      exact pz_drop (pz_part_of [0, 1, 2, 3, 4, 5] rfl) (kL_X5_map_80 X d _ _ _ _ _ _ _ ih n9 _ _ hf)
def F_X5_map (a0 : Nat) (x1 : Int32) (x2 : Int32) (h : pz_H) (Q : Int32 → pz_H → Prop) : Prop := (pq_br (x1 < (1 : Int32)) (B_X5_map_30 Q h) (pq_br (x2 < (1 : Int32)) (B_X5_map_30 Q h) (pq_br ((9 : Int32) < x1) (B_X5_map_30 Q h) (pq_br ((9 : Int32) < x2) (B_X5_map_30 Q h) (pq_br ((x1 * x2) ≤ (9 : Int32)) (pq_gI h a0 5 0 (fun v3 => (pq_br (v3 = (30 : Int32)) (Q (-104 : Int32) h) (pq_o h a0 5 (F_X5_add a0 (2 : Int32) (x1 * x2) h (fun v5 h4 => (pq_gA h4 a0 5 3 (fun b6 => (pq_sI h4 b6 v5 x1 (fun h7 => (pq_gA h7 a0 5 4 (fun b8 => (pq_sI h7 b8 v5 x2 (fun h9 => (pq_ex (fun m71 => L_X5_map_71 a0 x1 x2 v5 Q m71 (0 : Int32) h9)))))))))))))))) (B_X5_map_30 Q h))))))
set_option maxHeartbeats 4000000 in
set_option maxRecDepth 100000 in
theorem k_X5_map (X : pz_X) (d : Nat) (a0 : Nat) (x1 : Int32) (x2 : Int32) (h : pz_H) (Q : Int32 → pz_H → Prop) (hf : F_X5_map a0 x1 x2 h Q) : pz_Call X M_X5_map (d + 1) 0 0 [.ref a0, .int x1, .int x2] h (pq_qI Q) := by
  refine pz_call_of (by decide +kernel) (Nat.le_of_ble_eq_true rfl) ?_
  unfold F_X5_map at hf
  refine pz_iload_n dX5_map_0 rfl ?_
  refine pz_iconst (v := (1 : Int32)) dX5_map_1 (by decide) ?_
  obtain ⟨ha, hb⟩ := hf
  refine pz_icmp_lt dX5_map_2 (tgt := 30) (by decide) (fun cc => ?_) (fun cc => ?_)
  · have hf := ha cc
    exact pz_drop (pz_part_of [] rfl) (kB_X5_map_30 X d _ _  hf)
  · have hf := hb cc
    refine pz_iload_n dX5_map_5 rfl ?_
    refine pz_iconst (v := (1 : Int32)) dX5_map_6 (by decide) ?_
    obtain ⟨ha, hb⟩ := hf
    refine pz_icmp_lt dX5_map_7 (tgt := 30) (by decide) (fun cc => ?_) (fun cc => ?_)
    · have hf := ha cc
      exact pz_drop (pz_part_of [] rfl) (kB_X5_map_30 X d _ _  hf)
    · have hf := hb cc
      refine pz_iload_n dX5_map_10 rfl ?_
      refine pz_bipush (v := (9 : Int32)) dX5_map_11 (by decide) ?_
      obtain ⟨ha, hb⟩ := hf
      refine pz_icmp_gt dX5_map_13 (tgt := 30) (by decide) (fun cc => ?_) (fun cc => ?_)
      · have hf := ha cc
        exact pz_drop (pz_part_of [] rfl) (kB_X5_map_30 X d _ _  hf)
      · have hf := hb cc
        refine pz_iload_n dX5_map_16 rfl ?_
        refine pz_bipush (v := (9 : Int32)) dX5_map_17 (by decide) ?_
        obtain ⟨ha, hb⟩ := hf
        refine pz_icmp_gt dX5_map_19 (tgt := 30) (by decide) (fun cc => ?_) (fun cc => ?_)
        · have hf := ha cc
          exact pz_drop (pz_part_of [] rfl) (kB_X5_map_30 X d _ _  hf)
        · have hf := hb cc
          refine pz_iload_n dX5_map_22 rfl ?_
          refine pz_iload_n dX5_map_23 rfl ?_
          refine pz_imul dX5_map_24 ?_
          refine pz_bipush (v := (9 : Int32)) dX5_map_25 (by decide) ?_
          obtain ⟨ha, hb⟩ := hf
          refine pz_icmp_le dX5_map_27 (tgt := 33) (by decide) (fun cc => ?_) (fun cc => ?_)
          · have hf := ha cc
            refine pz_aload_n dX5_map_33 rfl ?_
            obtain ⟨_, v3, h1, h2, hf⟩ := hf
            refine pz_get dX5_map_34 fl_X5_82 h1 h2 ?_
            refine pz_bipush (v := (30 : Int32)) dX5_map_37 (by decide) ?_
            obtain ⟨ha, hb⟩ := hf
            refine pz_icmp_ne dX5_map_39 (tgt := 45) (by decide) (fun cc => ?_) (fun cc => ?_)
            · have hf := hb cc
              refine pz_aload_n dX5_map_45 rfl ?_
              refine pz_iconst (v := (2 : Int32)) dX5_map_46 (by decide) ?_
              refine pz_iload_n dX5_map_47 rfl ?_
              refine pz_iload_n dX5_map_48 rfl ?_
              refine pz_imul dX5_map_49 ?_
              obtain ⟨_, hO, hf⟩ := hf
              refine pz_callV2 (rc := 0) (rs := 0) (mc := 0) (ms := 0) dX5_map_50 (k_X5_add X d _ _ _ _ _ hf) (Nat.le_of_ble_eq_true rfl) mf_X5_add ml_X5_89 hO rfl mi_X5_add ms_X5_add (fun _ h9 hq => ?_)
              obtain ⟨_, rfl, hf⟩ := hq
              refine pz_istore_n dX5_map_53 rfl (by decide) rfl ?_
              refine pz_aload_n dX5_map_54 rfl ?_
              obtain ⟨_, b6, h1, h2, hf⟩ := hf
              refine pz_get dX5_map_55 fl_X5_16 h1 h2 ?_
              refine pz_iload_n dX5_map_58 rfl ?_
              refine pz_iload_n dX5_map_59 rfl ?_
              obtain ⟨_, _, h1, h2, hf⟩ := hf
              refine pz_iast dX5_map_60 h1 h2 ?_
              refine pz_aload_n dX5_map_61 rfl ?_
              obtain ⟨_, b8, h1, h2, hf⟩ := hf
              refine pz_get dX5_map_62 fl_X5_19 h1 h2 ?_
              refine pz_iload_n dX5_map_65 rfl ?_
              refine pz_iload_n dX5_map_66 rfl ?_
              obtain ⟨_, _, h1, h2, hf⟩ := hf
              refine pz_iast dX5_map_67 h1 h2 ?_
              refine pz_iconst (v := (0 : Int32)) dX5_map_68 (by decide) ?_
              refine pz_istore dX5_map_69 (by decide) rfl ?_
              obtain ⟨n9, hf⟩ := hf
              exact pz_drop (pz_part_of [0, 1, 2, 3, 4] rfl) (kL_X5_map_71 X d _ _ _ _ _  n9 _ _ hf)
            · have hf := ha cc
              refine pz_bipush (v := (-104 : Int32)) dX5_map_42 (by decide) ?_
              exact pz_ireturn dX5_map_44 rfl rfl ⟨_, rfl, hf⟩
          · have hf := hb cc
            exact pz_drop (pz_part_of [] rfl) (kB_X5_map_30 X d _ _  hf)
def B_X5_length_24   (Q : Int32 → pz_H → Prop) (h : pz_H) : Prop := (Q (-102 : Int32) h)
set_option maxHeartbeats 4000000 in
set_option maxRecDepth 100000 in
theorem kB_X5_length_24 (X : pz_X) (d : Nat)    (Q : Int32 → pz_H → Prop) (h : pz_H)  (hf : B_X5_length_24   Q h) : pz_W (fun _ => True) X M_X5_length (d + 2) 24 [] [] h 0 0 (pq_qI Q) := by
  unfold B_X5_length_24 at hf
  refine pz_bipush (v := (-102 : Int32)) dX5_length_24 (by decide) ?_
  exact pz_ireturn dX5_length_26 rfl rfl ⟨_, rfl, hf⟩
def F_X5_length (a0 : Nat) (x1 : Int32) (x2 : Int32) (x3 : Int32) (h : pz_H) (Q : Int32 → pz_H → Prop) : Prop := (pq_o h a0 5 (F_X5_hasFace a0 x1 x2 h (fun v2 h1 => (pq_br (v2 = 0) (Q (-101 : Int32) h1) (pq_br (x3 < (1 : Int32)) (B_X5_length_24 Q h1) (pq_br (x3 ≤ (1000 : Int32)) (pq_gA h1 a0 5 1 (fun b3 => (pq_aI h1 b3 x1 (fun v4 => (pq_br (v4 = (2 : Int32)) (Q (-103 : Int32) h1) (pq_gA h1 a0 5 6 (fun b5 => (pq_aI h1 b5 (((9 : Int32) * x1) + x2) (fun v6 => (pq_gA h1 a0 5 6 (fun b7 => (pq_sI h1 b7 (((9 : Int32) * x1) + x2) x3 (fun h8 => (Q v6 h8)))))))))))))) (B_X5_length_24 Q h1)))))))
set_option maxHeartbeats 4000000 in
set_option maxRecDepth 100000 in
theorem k_X5_length (X : pz_X) (d : Nat) (a0 : Nat) (x1 : Int32) (x2 : Int32) (x3 : Int32) (h : pz_H) (Q : Int32 → pz_H → Prop) (hf : F_X5_length a0 x1 x2 x3 h Q) : pz_Call X M_X5_length (d + 2) 0 0 [.ref a0, .int x1, .int x2, .int x3] h (pq_qI Q) := by
  refine pz_call_of (by decide +kernel) (Nat.le_of_ble_eq_true rfl) ?_
  unfold F_X5_length at hf
  refine pz_aload_n dX5_length_0 rfl ?_
  refine pz_iload_n dX5_length_1 rfl ?_
  refine pz_iload_n dX5_length_2 rfl ?_
  obtain ⟨_, hO, hf⟩ := hf
  refine pz_callV2 (rc := 0) (rs := 0) (mc := 0) (ms := 0) dX5_length_3 (k_X5_hasFace X d _ _ _ _ _ hf) (Nat.le_of_ble_eq_true rfl) mf_X5_hasFace ml_X5_97 hO rfl mi_X5_hasFace ms_X5_hasFace (fun _ h9 hq => ?_)
  obtain ⟨_, rfl, hf⟩ := hq
  obtain ⟨ha, hb⟩ := hf
  refine pz_if_ne dX5_length_6 (tgt := 12) (by decide) (fun cc => ?_) (fun cc => ?_)
  · have hf := hb cc
    refine pz_iload_n dX5_length_12 rfl ?_
    refine pz_iconst (v := (1 : Int32)) dX5_length_13 (by decide) ?_
    obtain ⟨ha, hb⟩ := hf
    refine pz_icmp_lt dX5_length_14 (tgt := 24) (by decide) (fun cc => ?_) (fun cc => ?_)
    · have hf := ha cc
      exact pz_drop (pz_part_of [] rfl) (kB_X5_length_24 X d _ _  hf)
    · have hf := hb cc
      refine pz_iload_n dX5_length_17 rfl ?_
      refine pz_sipush (v := (1000 : Int32)) dX5_length_18 (by decide) ?_
      obtain ⟨ha, hb⟩ := hf
      refine pz_icmp_le dX5_length_21 (tgt := 27) (by decide) (fun cc => ?_) (fun cc => ?_)
      · have hf := ha cc
        refine pz_aload_n dX5_length_27 rfl ?_
        obtain ⟨_, b3, h1, h2, hf⟩ := hf
        refine pz_get dX5_length_28 fl_X5_7 h1 h2 ?_
        refine pz_iload_n dX5_length_31 rfl ?_
        obtain ⟨_, _, h1, h2, hf⟩ := hf
        refine pz_iald dX5_length_32 h1 h2 ?_
        refine pz_iconst (v := (2 : Int32)) dX5_length_33 (by decide) ?_
        obtain ⟨ha, hb⟩ := hf
        refine pz_icmp_ne dX5_length_34 (tgt := 40) (by decide) (fun cc => ?_) (fun cc => ?_)
        · have hf := hb cc
          refine pz_aload_n dX5_length_40 rfl ?_
          obtain ⟨_, b5, h1, h2, hf⟩ := hf
          refine pz_get dX5_length_41 fl_X5_25 h1 h2 ?_
          refine pz_bipush (v := (9 : Int32)) dX5_length_44 (by decide) ?_
          refine pz_iload_n dX5_length_46 rfl ?_
          refine pz_imul dX5_length_47 ?_
          refine pz_iload_n dX5_length_48 rfl ?_
          refine pz_iadd dX5_length_49 ?_
          obtain ⟨_, _, h1, h2, hf⟩ := hf
          refine pz_iald dX5_length_50 h1 h2 ?_
          refine pz_istore dX5_length_51 (by decide) rfl ?_
          refine pz_aload_n dX5_length_53 rfl ?_
          obtain ⟨_, b7, h1, h2, hf⟩ := hf
          refine pz_get dX5_length_54 fl_X5_25 h1 h2 ?_
          refine pz_bipush (v := (9 : Int32)) dX5_length_57 (by decide) ?_
          refine pz_iload_n dX5_length_59 rfl ?_
          refine pz_imul dX5_length_60 ?_
          refine pz_iload_n dX5_length_61 rfl ?_
          refine pz_iadd dX5_length_62 ?_
          refine pz_iload_n dX5_length_63 rfl ?_
          obtain ⟨_, _, h1, h2, hf⟩ := hf
          refine pz_iast dX5_length_64 h1 h2 ?_
          refine pz_iload dX5_length_65 rfl ?_
          exact pz_ireturn dX5_length_67 rfl rfl ⟨_, rfl, hf⟩
        · have hf := ha cc
          refine pz_bipush (v := (-103 : Int32)) dX5_length_37 (by decide) ?_
          exact pz_ireturn dX5_length_39 rfl rfl ⟨_, rfl, hf⟩
      · have hf := hb cc
        exact pz_drop (pz_part_of [] rfl) (kB_X5_length_24 X d _ _  hf)
  · have hf := ha cc
    refine pz_bipush (v := (-101 : Int32)) dX5_length_9 (by decide) ?_
    exact pz_ireturn dX5_length_11 rfl rfl ⟨_, rfl, hf⟩
def B_X5_mark_21   (Q : Int32 → pz_H → Prop) (h : pz_H) : Prop := (Q (-102 : Int32) h)
set_option maxHeartbeats 4000000 in
set_option maxRecDepth 100000 in
theorem kB_X5_mark_21 (X : pz_X) (d : Nat)    (Q : Int32 → pz_H → Prop) (h : pz_H)  (hf : B_X5_mark_21   Q h) : pz_W (fun _ => True) X M_X5_mark (d + 2) 21 [] [] h 0 0 (pq_qI Q) := by
  unfold B_X5_mark_21 at hf
  refine pz_bipush (v := (-102 : Int32)) dX5_mark_21 (by decide) ?_
  exact pz_ireturn dX5_mark_23 rfl rfl ⟨_, rfl, hf⟩
def F_X5_mark (a0 : Nat) (x1 : Int32) (x2 : Int32) (x3 : Int32) (h : pz_H) (Q : Int32 → pz_H → Prop) : Prop := (pq_o h a0 5 (F_X5_hasCrease a0 x1 x2 h (fun v2 h1 => (pq_br (v2 = 0) (Q (-101 : Int32) h1) (pq_br (x3 < 0) (B_X5_mark_21 Q h1) (pq_br (x3 ≤ (2 : Int32)) (pq_gA h1 a0 5 9 (fun b3 => (pq_aI h1 b3 (((12 : Int32) * x1) + x2) (fun v4 => (pq_gA h1 a0 5 9 (fun b5 => (pq_sI h1 b5 (((12 : Int32) * x1) + x2) x3 (fun h6 => (Q v4 h6))))))))) (B_X5_mark_21 Q h1)))))))
set_option maxHeartbeats 4000000 in
set_option maxRecDepth 100000 in
theorem k_X5_mark (X : pz_X) (d : Nat) (a0 : Nat) (x1 : Int32) (x2 : Int32) (x3 : Int32) (h : pz_H) (Q : Int32 → pz_H → Prop) (hf : F_X5_mark a0 x1 x2 x3 h Q) : pz_Call X M_X5_mark (d + 2) 0 0 [.ref a0, .int x1, .int x2, .int x3] h (pq_qI Q) := by
  refine pz_call_of (by decide +kernel) (Nat.le_of_ble_eq_true rfl) ?_
  unfold F_X5_mark at hf
  refine pz_aload_n dX5_mark_0 rfl ?_
  refine pz_iload_n dX5_mark_1 rfl ?_
  refine pz_iload_n dX5_mark_2 rfl ?_
  obtain ⟨_, hO, hf⟩ := hf
  refine pz_callV2 (rc := 0) (rs := 0) (mc := 0) (ms := 0) dX5_mark_3 (k_X5_hasCrease X d _ _ _ _ _ hf) (Nat.le_of_ble_eq_true rfl) mf_X5_hasCrease ml_X5_101 hO rfl mi_X5_hasCrease ms_X5_hasCrease (fun _ h9 hq => ?_)
  obtain ⟨_, rfl, hf⟩ := hq
  obtain ⟨ha, hb⟩ := hf
  refine pz_if_ne dX5_mark_6 (tgt := 12) (by decide) (fun cc => ?_) (fun cc => ?_)
  · have hf := hb cc
    refine pz_iload_n dX5_mark_12 rfl ?_
    obtain ⟨ha, hb⟩ := hf
    refine pz_if_lt dX5_mark_13 (tgt := 21) (by decide) (fun cc => ?_) (fun cc => ?_)
    · have hf := ha cc
      exact pz_drop (pz_part_of [] rfl) (kB_X5_mark_21 X d _ _  hf)
    · have hf := hb cc
      refine pz_iload_n dX5_mark_16 rfl ?_
      refine pz_iconst (v := (2 : Int32)) dX5_mark_17 (by decide) ?_
      obtain ⟨ha, hb⟩ := hf
      refine pz_icmp_le dX5_mark_18 (tgt := 24) (by decide) (fun cc => ?_) (fun cc => ?_)
      · have hf := ha cc
        refine pz_aload_n dX5_mark_24 rfl ?_
        obtain ⟨_, b3, h1, h2, hf⟩ := hf
        refine pz_get dX5_mark_25 fl_X5_34 h1 h2 ?_
        refine pz_bipush (v := (12 : Int32)) dX5_mark_28 (by decide) ?_
        refine pz_iload_n dX5_mark_30 rfl ?_
        refine pz_imul dX5_mark_31 ?_
        refine pz_iload_n dX5_mark_32 rfl ?_
        refine pz_iadd dX5_mark_33 ?_
        obtain ⟨_, _, h1, h2, hf⟩ := hf
        refine pz_iald dX5_mark_34 h1 h2 ?_
        refine pz_istore dX5_mark_35 (by decide) rfl ?_
        refine pz_aload_n dX5_mark_37 rfl ?_
        obtain ⟨_, b5, h1, h2, hf⟩ := hf
        refine pz_get dX5_mark_38 fl_X5_34 h1 h2 ?_
        refine pz_bipush (v := (12 : Int32)) dX5_mark_41 (by decide) ?_
        refine pz_iload_n dX5_mark_43 rfl ?_
        refine pz_imul dX5_mark_44 ?_
        refine pz_iload_n dX5_mark_45 rfl ?_
        refine pz_iadd dX5_mark_46 ?_
        refine pz_iload_n dX5_mark_47 rfl ?_
        obtain ⟨_, _, h1, h2, hf⟩ := hf
        refine pz_iast dX5_mark_48 h1 h2 ?_
        refine pz_iload dX5_mark_49 rfl ?_
        exact pz_ireturn dX5_mark_51 rfl rfl ⟨_, rfl, hf⟩
      · have hf := hb cc
        exact pz_drop (pz_part_of [] rfl) (kB_X5_mark_21 X d _ _  hf)
  · have hf := ha cc
    refine pz_bipush (v := (-101 : Int32)) dX5_mark_9 (by decide) ?_
    exact pz_ireturn dX5_mark_11 rfl rfl ⟨_, rfl, hf⟩
def B_X5_uneven_47 (a0 : Nat) (x1 : Int32) (x3 : Int32) (xs0 : Int32) (xs1 : Int32) (k4 : Int32 → Int32 → pz_H → Prop) (Q : Int32 → pz_H → Prop) (h : pz_H) : Prop := (k4 (xs0 + xs1) (x3 + (1 : Int32)) h)
set_option maxHeartbeats 4000000 in
set_option maxRecDepth 100000 in
theorem kB_X5_uneven_47 (X : pz_X) (d : Nat) (a0 : Nat) (x1 : Int32) (x3 : Int32) (xs0 : Int32) (xs1 : Int32)  (k4 : Int32 → Int32 → pz_H → Prop) (Q : Int32 → pz_H → Prop) (h : pz_H) (hk4 : ∀ (x2 : Int32) (x3 : Int32) (h : pz_H), k4 x2 x3 h → pz_W (fun _ => True) X M_X5_uneven (d + 0) 4 [(0, .ref a0), (1, .int x1), (2, .int x2), (3, .int x3)] [] h 0 0 (pq_qI Q)) (hf : B_X5_uneven_47 a0 x1 x3 xs0 xs1 k4 Q h) : pz_W (fun _ => True) X M_X5_uneven (d + 0) 47 [(0, .ref a0), (1, .int x1), (3, .int x3)] [.int xs1, .int xs0] h 0 0 (pq_qI Q) := by
  unfold B_X5_uneven_47 at hf
  refine pz_iadd dX5_uneven_47 ?_
  refine pz_istore_n dX5_uneven_48 rfl (by decide) rfl ?_
  refine pz_iinc dX5_uneven_49 rfl (by rfl) (by decide) rfl ?_
  refine pz_goto dX5_uneven_52 (tgt := 4) (by decide) ?_
  exact pz_drop (pz_part_of [0, 1, 2, 3] rfl) (hk4 _ _ _ hf)
def L_X5_uneven_4 (a0 : Nat) (x1 : Int32)  (Q : Int32 → pz_H → Prop) : Nat → Int32 → Int32 → pz_H → Prop
  | 0, _, _, _ => False
  | n + 1, x2, x3, h => (pq_gA h a0 5 2 (fun b1 => (pq_aI h b1 x1 (fun v2 => (pq_br (v2 ≤ x3) (Q x2 h) (pq_ne (2 : Int32) (pq_br ((x3 - x3 / (2 : Int32) * (2 : Int32)) = 0) (pq_gA h a0 5 6 (fun b5 => (pq_aI h b5 (((9 : Int32) * x1) + x3) (fun v6 => (B_X5_uneven_47 a0 x1 x3 x2 v6 (fun z0 z1 hz => L_X5_uneven_4 a0 x1 Q n z0 z1 hz) Q h))))) (pq_gA h a0 5 6 (fun b3 => (pq_aI h b3 (((9 : Int32) * x1) + x3) (fun v4 => (B_X5_uneven_47 a0 x1 x3 x2 (-v4) (fun z0 z1 hz => L_X5_uneven_4 a0 x1 Q n z0 z1 hz) Q h))))))))))))
set_option maxHeartbeats 4000000 in
set_option maxRecDepth 100000 in
theorem kL_X5_uneven_4 (X : pz_X) (d : Nat) (a0 : Nat) (x1 : Int32)   (Q : Int32 → pz_H → Prop)  : ∀ (n : Nat) (x2 : Int32) (x3 : Int32) (h : pz_H), L_X5_uneven_4 a0 x1  Q n x2 x3 h → pz_W (fun _ => True) X M_X5_uneven (d + 0) 4 [(0, .ref a0), (1, .int x1), (2, .int x2), (3, .int x3)] [] h 0 0 (pq_qI Q) := by
  intro n
  induction n with
  | zero =>
    intro _ _ _ hf
    exact False.elim hf
  | succ n ih =>
    intro x2 x3 h hf
    unfold L_X5_uneven_4 at hf
    refine pz_iload_n dX5_uneven_4 rfl ?_
    refine pz_aload_n dX5_uneven_5 rfl ?_
    obtain ⟨_, b1, h1, h2, hf⟩ := hf
    refine pz_get dX5_uneven_6 fl_X5_13 h1 h2 ?_
    refine pz_iload_n dX5_uneven_9 rfl ?_
    obtain ⟨_, _, h1, h2, hf⟩ := hf
    refine pz_iald dX5_uneven_10 h1 h2 ?_
    obtain ⟨ha, hb⟩ := hf
    refine pz_icmp_ge dX5_uneven_11 (tgt := 55) (by decide) (fun cc => ?_) (fun cc => ?_)
    · have hf := ha cc
      refine pz_iload_n dX5_uneven_55 rfl ?_
      exact pz_ireturn dX5_uneven_56 rfl rfl ⟨_, rfl, hf⟩
    · have hf := hb cc
      refine pz_iload_n dX5_uneven_14 rfl ?_
      refine pz_iload_n dX5_uneven_15 rfl ?_
      refine pz_iconst (v := (2 : Int32)) dX5_uneven_16 (by decide) ?_
      obtain ⟨hne, hf⟩ := hf
      refine pz_irem dX5_uneven_17 hne ?_
      obtain ⟨ha, hb⟩ := hf
      refine pz_if_ne dX5_uneven_18 (tgt := 35) (by decide) (fun cc => ?_) (fun cc => ?_)
      · have hf := hb cc
        refine pz_aload_n dX5_uneven_35 rfl ?_
        obtain ⟨_, b3, h1, h2, hf⟩ := hf
        refine pz_get dX5_uneven_36 fl_X5_25 h1 h2 ?_
        refine pz_bipush (v := (9 : Int32)) dX5_uneven_39 (by decide) ?_
        refine pz_iload_n dX5_uneven_41 rfl ?_
        refine pz_imul dX5_uneven_42 ?_
        refine pz_iload_n dX5_uneven_43 rfl ?_
        refine pz_iadd dX5_uneven_44 ?_
        obtain ⟨_, _, h1, h2, hf⟩ := hf
        refine pz_iald dX5_uneven_45 h1 h2 ?_
        refine pz_ineg dX5_uneven_46 ?_
        exact pz_drop (pz_part_of [0, 1, 3] rfl) (kB_X5_uneven_47 X d _ _ _ _ _ _ _ _ ih hf)
      · have hf := ha cc
        refine pz_aload_n dX5_uneven_21 rfl ?_
        obtain ⟨_, b5, h1, h2, hf⟩ := hf
        refine pz_get dX5_uneven_22 fl_X5_25 h1 h2 ?_
        refine pz_bipush (v := (9 : Int32)) dX5_uneven_25 (by decide) ?_
        refine pz_iload_n dX5_uneven_27 rfl ?_
        refine pz_imul dX5_uneven_28 ?_
        refine pz_iload_n dX5_uneven_29 rfl ?_
        refine pz_iadd dX5_uneven_30 ?_
        obtain ⟨_, _, h1, h2, hf⟩ := hf
        refine pz_iald dX5_uneven_31 h1 h2 ?_
        refine pz_goto dX5_uneven_32 (tgt := 47) (by decide) ?_
        exact pz_drop (pz_part_of [0, 1, 3] rfl) (kB_X5_uneven_47 X d _ _ _ _ _ _ _ _ ih hf)
def F_X5_uneven (a0 : Nat) (x1 : Int32) (h : pz_H) (Q : Int32 → pz_H → Prop) : Prop := (pq_ex (fun m4 => L_X5_uneven_4 a0 x1 Q m4 (0 : Int32) (0 : Int32) h))
set_option maxHeartbeats 4000000 in
set_option maxRecDepth 100000 in
theorem k_X5_uneven (X : pz_X) (d : Nat) (a0 : Nat) (x1 : Int32) (h : pz_H) (Q : Int32 → pz_H → Prop) (hf : F_X5_uneven a0 x1 h Q) : pz_Call X M_X5_uneven (d + 0) 0 0 [.ref a0, .int x1] h (pq_qI Q) := by
  refine pz_call_of (by decide +kernel) (Nat.le_of_ble_eq_true rfl) ?_
  unfold F_X5_uneven at hf
  refine pz_iconst (v := (0 : Int32)) dX5_uneven_0 (by decide) ?_
  refine pz_istore_n dX5_uneven_1 rfl (by decide) rfl ?_
  refine pz_iconst (v := (0 : Int32)) dX5_uneven_2 (by decide) ?_
  refine pz_istore_n dX5_uneven_3 rfl (by decide) rfl ?_
  obtain ⟨n9, hf⟩ := hf
  exact pz_drop (pz_part_of [0, 1, 2, 3] rfl) (kL_X5_uneven_4 X d _ _ _  n9 _ _ _ hf)
def B_X5_marked_38 (a0 : Nat) (x1 : Int32) (x2 : Int32) (x4 : Int32) (xs0 : Int32) (xs1 : Int32) (k5 : Int32 → Int32 → pz_H → Prop) (Q : Int32 → pz_H → Prop) (h : pz_H) : Prop := (k5 (xs0 + xs1) (x4 + (1 : Int32)) h)
set_option maxHeartbeats 4000000 in
set_option maxRecDepth 100000 in
theorem kB_X5_marked_38 (X : pz_X) (d : Nat) (a0 : Nat) (x1 : Int32) (x2 : Int32) (x4 : Int32) (xs0 : Int32) (xs1 : Int32)  (k5 : Int32 → Int32 → pz_H → Prop) (Q : Int32 → pz_H → Prop) (h : pz_H) (hk5 : ∀ (x3 : Int32) (x4 : Int32) (h : pz_H), k5 x3 x4 h → pz_W (fun _ => True) X M_X5_marked (d + 0) 5 [(0, .ref a0), (1, .int x1), (2, .int x2), (3, .int x3), (4, .int x4)] [] h 0 0 (pq_qI Q)) (hf : B_X5_marked_38 a0 x1 x2 x4 xs0 xs1 k5 Q h) : pz_W (fun _ => True) X M_X5_marked (d + 0) 38 [(0, .ref a0), (1, .int x1), (2, .int x2), (4, .int x4)] [.int xs1, .int xs0] h 0 0 (pq_qI Q) := by
  unfold B_X5_marked_38 at hf
  refine pz_iadd dX5_marked_38 ?_
  refine pz_istore_n dX5_marked_39 rfl (by decide) rfl ?_
  refine pz_iinc dX5_marked_40 rfl (by rfl) (by decide) rfl ?_
  refine pz_goto dX5_marked_43 (tgt := 5) (by decide) ?_
  exact pz_drop (pz_part_of [0, 1, 2, 3, 4] rfl) (hk5 _ _ _ hf)
def L_X5_marked_5 (a0 : Nat) (x1 : Int32) (x2 : Int32)  (Q : Int32 → pz_H → Prop) : Nat → Int32 → Int32 → pz_H → Prop
  | 0, _, _, _ => False
  | n + 1, x3, x4, h => (pq_gA h a0 5 5 (fun b1 => (pq_aI h b1 x1 (fun v2 => (pq_br (v2 ≤ x4) (Q x3 h) (pq_gA h a0 5 9 (fun b3 => (pq_aI h b3 (((12 : Int32) * x1) + x4) (fun v4 => (pq_br (v4 = x2) (B_X5_marked_38 a0 x1 x2 x4 x3 (1 : Int32) (fun z0 z1 hz => L_X5_marked_5 a0 x1 x2 Q n z0 z1 hz) Q h) (B_X5_marked_38 a0 x1 x2 x4 x3 (0 : Int32) (fun z0 z1 hz => L_X5_marked_5 a0 x1 x2 Q n z0 z1 hz) Q h)))))))))))
set_option maxHeartbeats 4000000 in
set_option maxRecDepth 100000 in
theorem kL_X5_marked_5 (X : pz_X) (d : Nat) (a0 : Nat) (x1 : Int32) (x2 : Int32)   (Q : Int32 → pz_H → Prop)  : ∀ (n : Nat) (x3 : Int32) (x4 : Int32) (h : pz_H), L_X5_marked_5 a0 x1 x2  Q n x3 x4 h → pz_W (fun _ => True) X M_X5_marked (d + 0) 5 [(0, .ref a0), (1, .int x1), (2, .int x2), (3, .int x3), (4, .int x4)] [] h 0 0 (pq_qI Q) := by
  intro n
  induction n with
  | zero =>
    intro _ _ _ hf
    exact False.elim hf
  | succ n ih =>
    intro x3 x4 h hf
    unfold L_X5_marked_5 at hf
    refine pz_iload dX5_marked_5 rfl ?_
    refine pz_aload_n dX5_marked_7 rfl ?_
    obtain ⟨_, b1, h1, h2, hf⟩ := hf
    refine pz_get dX5_marked_8 fl_X5_22 h1 h2 ?_
    refine pz_iload_n dX5_marked_11 rfl ?_
    obtain ⟨_, _, h1, h2, hf⟩ := hf
    refine pz_iald dX5_marked_12 h1 h2 ?_
    obtain ⟨ha, hb⟩ := hf
    refine pz_icmp_ge dX5_marked_13 (tgt := 46) (by decide) (fun cc => ?_) (fun cc => ?_)
    · have hf := ha cc
      refine pz_iload_n dX5_marked_46 rfl ?_
      exact pz_ireturn dX5_marked_47 rfl rfl ⟨_, rfl, hf⟩
    · have hf := hb cc
      refine pz_iload_n dX5_marked_16 rfl ?_
      refine pz_aload_n dX5_marked_17 rfl ?_
      obtain ⟨_, b3, h1, h2, hf⟩ := hf
      refine pz_get dX5_marked_18 fl_X5_34 h1 h2 ?_
      refine pz_bipush (v := (12 : Int32)) dX5_marked_21 (by decide) ?_
      refine pz_iload_n dX5_marked_23 rfl ?_
      refine pz_imul dX5_marked_24 ?_
      refine pz_iload dX5_marked_25 rfl ?_
      refine pz_iadd dX5_marked_27 ?_
      obtain ⟨_, _, h1, h2, hf⟩ := hf
      refine pz_iald dX5_marked_28 h1 h2 ?_
      refine pz_iload_n dX5_marked_29 rfl ?_
      obtain ⟨ha, hb⟩ := hf
      refine pz_icmp_ne dX5_marked_30 (tgt := 37) (by decide) (fun cc => ?_) (fun cc => ?_)
      · have hf := hb cc
        refine pz_iconst (v := (0 : Int32)) dX5_marked_37 (by decide) ?_
        exact pz_drop (pz_part_of [0, 1, 2, 4] rfl) (kB_X5_marked_38 X d _ _ _ _ _ _ _ _ _ ih hf)
      · have hf := ha cc
        refine pz_iconst (v := (1 : Int32)) dX5_marked_33 (by decide) ?_
        refine pz_goto dX5_marked_34 (tgt := 38) (by decide) ?_
        exact pz_drop (pz_part_of [0, 1, 2, 4] rfl) (kB_X5_marked_38 X d _ _ _ _ _ _ _ _ _ ih hf)
def F_X5_marked (a0 : Nat) (x1 : Int32) (x2 : Int32) (h : pz_H) (Q : Int32 → pz_H → Prop) : Prop := (pq_ex (fun m5 => L_X5_marked_5 a0 x1 x2 Q m5 (0 : Int32) (0 : Int32) h))
set_option maxHeartbeats 4000000 in
set_option maxRecDepth 100000 in
theorem k_X5_marked (X : pz_X) (d : Nat) (a0 : Nat) (x1 : Int32) (x2 : Int32) (h : pz_H) (Q : Int32 → pz_H → Prop) (hf : F_X5_marked a0 x1 x2 h Q) : pz_Call X M_X5_marked (d + 0) 0 0 [.ref a0, .int x1, .int x2] h (pq_qI Q) := by
  refine pz_call_of (by decide +kernel) (Nat.le_of_ble_eq_true rfl) ?_
  unfold F_X5_marked at hf
  refine pz_iconst (v := (0 : Int32)) dX5_marked_0 (by decide) ?_
  refine pz_istore_n dX5_marked_1 rfl (by decide) rfl ?_
  refine pz_iconst (v := (0 : Int32)) dX5_marked_2 (by decide) ?_
  refine pz_istore dX5_marked_3 (by decide) rfl ?_
  obtain ⟨n9, hf⟩ := hf
  exact pz_drop (pz_part_of [0, 1, 2, 3, 4] rfl) (kL_X5_marked_5 X d _ _ _ _  n9 _ _ _ hf)
def B_X5_about_106 (xs0 : Int32)  (Q : Int32 → pz_H → Prop) (h : pz_H) : Prop := (Q xs0 h)
set_option maxHeartbeats 4000000 in
set_option maxRecDepth 100000 in
theorem kB_X5_about_106 (X : pz_X) (d : Nat) (xs0 : Int32)   (Q : Int32 → pz_H → Prop) (h : pz_H)  (hf : B_X5_about_106 xs0  Q h) : pz_W (fun _ => True) X M_X5_about (d + 1) 106 [] [.int xs0] h 0 0 (pq_qI Q) := by
  unfold B_X5_about_106 at hf
  exact pz_ireturn dX5_about_106 rfl rfl ⟨_, rfl, hf⟩
def F_X5_about (a0 : Nat) (x1 : Int32) (x2 : Int32) (h : pz_H) (Q : Int32 → pz_H → Prop) : Prop := (pq_o h a0 5 (F_X5_has a0 x1 h (fun v2 h1 => (pq_br (v2 = 0) (Q (-101 : Int32) h1) (pq_tab x2 0 5 (Q (-102 : Int32) h1) [(pq_gA h1 a0 5 1 (fun b3 => (pq_aI h1 b3 x1 (fun v4 => (Q v4 h1))))), (pq_gA h1 a0 5 2 (fun b5 => (pq_aI h1 b5 x1 (fun v6 => (Q v6 h1))))), (pq_gA h1 a0 5 5 (fun b7 => (pq_aI h1 b7 x1 (fun v8 => (Q v8 h1))))), (pq_o h1 a0 5 (F_X5_marked a0 x1 (1 : Int32) h1 (fun v10 h9 => (Q v10 h9)))), (pq_o h1 a0 5 (F_X5_marked a0 x1 (2 : Int32) h1 (fun v12 h11 => (Q v12 h11)))), (pq_gA h1 a0 5 1 (fun b13 => (pq_aI h1 b13 x1 (fun v14 => (pq_br (v14 = (1 : Int32)) (pq_o h1 a0 5 (F_X5_uneven a0 x1 h1 (fun v16 h15 => (B_X5_about_106 v16 Q h15)))) (B_X5_about_106 (0 : Int32) Q h1))))))])))))
set_option maxHeartbeats 4000000 in
set_option maxRecDepth 100000 in
theorem k_X5_about (X : pz_X) (d : Nat) (a0 : Nat) (x1 : Int32) (x2 : Int32) (h : pz_H) (Q : Int32 → pz_H → Prop) (hf : F_X5_about a0 x1 x2 h Q) : pz_Call X M_X5_about (d + 1) 0 0 [.ref a0, .int x1, .int x2] h (pq_qI Q) := by
  refine pz_call_of (by decide +kernel) (Nat.le_of_ble_eq_true rfl) ?_
  unfold F_X5_about at hf
  refine pz_aload_n dX5_about_0 rfl ?_
  refine pz_iload_n dX5_about_1 rfl ?_
  obtain ⟨_, hO, hf⟩ := hf
  refine pz_callV1 (rc := 0) (rs := 0) (mc := 0) (ms := 0) dX5_about_2 (k_X5_has X d _ _ _ _ hf) (Nat.le_of_ble_eq_true rfl) mf_X5_has ml_X5_85 hO rfl mi_X5_has ms_X5_has (fun _ h9 hq => ?_)
  obtain ⟨_, rfl, hf⟩ := hq
  obtain ⟨ha, hb⟩ := hf
  refine pz_if_ne dX5_about_5 (tgt := 11) (by decide) (fun cc => ?_) (fun cc => ?_)
  · have hf := hb cc
    refine pz_iload_n dX5_about_11 rfl ?_
    refine pz_table [52, 59, 66, 73, 80, 87] dX5_about_12 hf (tgt := 107) (by decide) (by decide) (by decide) (fun hf => ?_) (fun k9 hk9 hf => ?_)
    · refine pz_bipush (v := (-102 : Int32)) dX5_about_107 (by decide) ?_
      exact pz_ireturn dX5_about_109 rfl rfl ⟨_, rfl, hf⟩
    · match k9, hk9, hf with
      | 0, _, hf =>
        refine pz_aload_n dX5_about_52 rfl ?_
        obtain ⟨_, b3, h1, h2, hf⟩ := hf
        refine pz_get dX5_about_53 fl_X5_7 h1 h2 ?_
        refine pz_iload_n dX5_about_56 rfl ?_
        obtain ⟨_, _, h1, h2, hf⟩ := hf
        refine pz_iald dX5_about_57 h1 h2 ?_
        exact pz_ireturn dX5_about_58 rfl rfl ⟨_, rfl, hf⟩
      | 1, _, hf =>
        refine pz_aload_n dX5_about_59 rfl ?_
        obtain ⟨_, b5, h1, h2, hf⟩ := hf
        refine pz_get dX5_about_60 fl_X5_13 h1 h2 ?_
        refine pz_iload_n dX5_about_63 rfl ?_
        obtain ⟨_, _, h1, h2, hf⟩ := hf
        refine pz_iald dX5_about_64 h1 h2 ?_
        exact pz_ireturn dX5_about_65 rfl rfl ⟨_, rfl, hf⟩
      | 2, _, hf =>
        refine pz_aload_n dX5_about_66 rfl ?_
        obtain ⟨_, b7, h1, h2, hf⟩ := hf
        refine pz_get dX5_about_67 fl_X5_22 h1 h2 ?_
        refine pz_iload_n dX5_about_70 rfl ?_
        obtain ⟨_, _, h1, h2, hf⟩ := hf
        refine pz_iald dX5_about_71 h1 h2 ?_
        exact pz_ireturn dX5_about_72 rfl rfl ⟨_, rfl, hf⟩
      | 3, _, hf =>
        refine pz_aload_n dX5_about_73 rfl ?_
        refine pz_iload_n dX5_about_74 rfl ?_
        refine pz_iconst (v := (1 : Int32)) dX5_about_75 (by decide) ?_
        obtain ⟨_, hO, hf⟩ := hf
        refine pz_callV2 (rc := 0) (rs := 0) (mc := 0) (ms := 0) dX5_about_76 (k_X5_marked X d _ _ _ _ _ hf) (Nat.le_of_ble_eq_true rfl) mf_X5_marked ml_X5_104 hO rfl mi_X5_marked ms_X5_marked (fun _ h9 hq => ?_)
        obtain ⟨_, rfl, hf⟩ := hq
        exact pz_ireturn dX5_about_79 rfl rfl ⟨_, rfl, hf⟩
      | 4, _, hf =>
        refine pz_aload_n dX5_about_80 rfl ?_
        refine pz_iload_n dX5_about_81 rfl ?_
        refine pz_iconst (v := (2 : Int32)) dX5_about_82 (by decide) ?_
        obtain ⟨_, hO, hf⟩ := hf
        refine pz_callV2 (rc := 0) (rs := 0) (mc := 0) (ms := 0) dX5_about_83 (k_X5_marked X d _ _ _ _ _ hf) (Nat.le_of_ble_eq_true rfl) mf_X5_marked ml_X5_104 hO rfl mi_X5_marked ms_X5_marked (fun _ h9 hq => ?_)
        obtain ⟨_, rfl, hf⟩ := hq
        exact pz_ireturn dX5_about_86 rfl rfl ⟨_, rfl, hf⟩
      | 5, _, hf =>
        refine pz_aload_n dX5_about_87 rfl ?_
        obtain ⟨_, b13, h1, h2, hf⟩ := hf
        refine pz_get dX5_about_88 fl_X5_7 h1 h2 ?_
        refine pz_iload_n dX5_about_91 rfl ?_
        obtain ⟨_, _, h1, h2, hf⟩ := hf
        refine pz_iald dX5_about_92 h1 h2 ?_
        refine pz_iconst (v := (1 : Int32)) dX5_about_93 (by decide) ?_
        obtain ⟨ha, hb⟩ := hf
        refine pz_icmp_ne dX5_about_94 (tgt := 105) (by decide) (fun cc => ?_) (fun cc => ?_)
        · have hf := hb cc
          refine pz_iconst (v := (0 : Int32)) dX5_about_105 (by decide) ?_
          exact pz_drop (pz_part_of [] rfl) (kB_X5_about_106 X d _ _ _  hf)
        · have hf := ha cc
          refine pz_aload_n dX5_about_97 rfl ?_
          refine pz_iload_n dX5_about_98 rfl ?_
          obtain ⟨_, hO, hf⟩ := hf
          refine pz_callV1 (rc := 0) (rs := 0) (mc := 0) (ms := 0) dX5_about_99 (k_X5_uneven X d _ _ _ _ hf) (Nat.le_of_ble_eq_true rfl) mf_X5_uneven ml_X5_107 hO rfl mi_X5_uneven ms_X5_uneven (fun _ h9 hq => ?_)
          obtain ⟨_, rfl, hf⟩ := hq
          refine pz_goto dX5_about_102 (tgt := 106) (by decide) ?_
          exact pz_drop (pz_part_of [] rfl) (kB_X5_about_106 X d _ _ _  hf)
      | k9 + 6, hk9, _ => exact absurd hk9 (by simp)
  · have hf := ha cc
    refine pz_bipush (v := (-101 : Int32)) dX5_about_8 (by decide) ?_
    exact pz_ireturn dX5_about_10 rfl rfl ⟨_, rfl, hf⟩
def B_X5_begins_47 (a0 : Nat) (x1 : Int32) (x2 : Int32) (x4 : Int32) (xs0 : Int32) (xs1 : Int32) (k5 : Int32 → Int32 → pz_H → Prop) (Q : Int32 → pz_H → Prop) (h : pz_H) : Prop := (k5 (xs0 + xs1) (x4 + (1 : Int32)) h)
set_option maxHeartbeats 4000000 in
set_option maxRecDepth 100000 in
theorem kB_X5_begins_47 (X : pz_X) (d : Nat) (a0 : Nat) (x1 : Int32) (x2 : Int32) (x4 : Int32) (xs0 : Int32) (xs1 : Int32)  (k5 : Int32 → Int32 → pz_H → Prop) (Q : Int32 → pz_H → Prop) (h : pz_H) (hk5 : ∀ (x3 : Int32) (x4 : Int32) (h : pz_H), k5 x3 x4 h → pz_W (fun _ => True) X M_X5_begins (d + 0) 5 [(0, .ref a0), (1, .int x1), (2, .int x2), (3, .int x3), (4, .int x4)] [] h 0 0 (pq_qI Q)) (hf : B_X5_begins_47 a0 x1 x2 x4 xs0 xs1 k5 Q h) : pz_W (fun _ => True) X M_X5_begins (d + 0) 47 [(0, .ref a0), (1, .int x1), (2, .int x2), (4, .int x4)] [.int xs1, .int xs0] h 0 0 (pq_qI Q) := by
  unfold B_X5_begins_47 at hf
  refine pz_iadd dX5_begins_47 ?_
  refine pz_istore_n dX5_begins_48 rfl (by decide) rfl ?_
  refine pz_iinc dX5_begins_49 rfl (by rfl) (by decide) rfl ?_
  refine pz_goto dX5_begins_52 (tgt := 5) (by decide) ?_
  exact pz_drop (pz_part_of [0, 1, 2, 3, 4] rfl) (hk5 _ _ _ hf)
def L_X5_begins_5 (a0 : Nat) (x1 : Int32) (x2 : Int32)  (Q : Int32 → pz_H → Prop) : Nat → Int32 → Int32 → pz_H → Prop
  | 0, _, _, _ => False
  | n + 1, x3, x4, h => (pq_br (x2 ≤ x4) (Q x3 h) (pq_ne (2 : Int32) (pq_br ((x4 - x4 / (2 : Int32) * (2 : Int32)) = 0) (pq_gA h a0 5 6 (fun b3 => (pq_aI h b3 (((9 : Int32) * x1) + x4) (fun v4 => (B_X5_begins_47 a0 x1 x2 x4 x3 v4 (fun z0 z1 hz => L_X5_begins_5 a0 x1 x2 Q n z0 z1 hz) Q h))))) (pq_gA h a0 5 6 (fun b1 => (pq_aI h b1 (((9 : Int32) * x1) + x4) (fun v2 => (B_X5_begins_47 a0 x1 x2 x4 x3 (-v2) (fun z0 z1 hz => L_X5_begins_5 a0 x1 x2 Q n z0 z1 hz) Q h))))))))
set_option maxHeartbeats 4000000 in
set_option maxRecDepth 100000 in
theorem kL_X5_begins_5 (X : pz_X) (d : Nat) (a0 : Nat) (x1 : Int32) (x2 : Int32)   (Q : Int32 → pz_H → Prop)  : ∀ (n : Nat) (x3 : Int32) (x4 : Int32) (h : pz_H), L_X5_begins_5 a0 x1 x2  Q n x3 x4 h → pz_W (fun _ => True) X M_X5_begins (d + 0) 5 [(0, .ref a0), (1, .int x1), (2, .int x2), (3, .int x3), (4, .int x4)] [] h 0 0 (pq_qI Q) := by
  intro n
  induction n with
  | zero =>
    intro _ _ _ hf
    exact False.elim hf
  | succ n ih =>
    intro x3 x4 h hf
    unfold L_X5_begins_5 at hf
    refine pz_iload dX5_begins_5 rfl ?_
    refine pz_iload_n dX5_begins_7 rfl ?_
    obtain ⟨ha, hb⟩ := hf
    refine pz_icmp_ge dX5_begins_8 (tgt := 55) (by decide) (fun cc => ?_) (fun cc => ?_)
    · have hf := ha cc
      refine pz_iload_n dX5_begins_55 rfl ?_
      exact pz_ireturn dX5_begins_56 rfl rfl ⟨_, rfl, hf⟩
    · have hf := hb cc
      refine pz_iload_n dX5_begins_11 rfl ?_
      refine pz_iload dX5_begins_12 rfl ?_
      refine pz_iconst (v := (2 : Int32)) dX5_begins_14 (by decide) ?_
      obtain ⟨hne, hf⟩ := hf
      refine pz_irem dX5_begins_15 hne ?_
      obtain ⟨ha, hb⟩ := hf
      refine pz_if_ne dX5_begins_16 (tgt := 34) (by decide) (fun cc => ?_) (fun cc => ?_)
      · have hf := hb cc
        refine pz_aload_n dX5_begins_34 rfl ?_
        obtain ⟨_, b1, h1, h2, hf⟩ := hf
        refine pz_get dX5_begins_35 fl_X5_25 h1 h2 ?_
        refine pz_bipush (v := (9 : Int32)) dX5_begins_38 (by decide) ?_
        refine pz_iload_n dX5_begins_40 rfl ?_
        refine pz_imul dX5_begins_41 ?_
        refine pz_iload dX5_begins_42 rfl ?_
        refine pz_iadd dX5_begins_44 ?_
        obtain ⟨_, _, h1, h2, hf⟩ := hf
        refine pz_iald dX5_begins_45 h1 h2 ?_
        refine pz_ineg dX5_begins_46 ?_
        exact pz_drop (pz_part_of [0, 1, 2, 4] rfl) (kB_X5_begins_47 X d _ _ _ _ _ _ _ _ _ ih hf)
      · have hf := ha cc
        refine pz_aload_n dX5_begins_19 rfl ?_
        obtain ⟨_, b3, h1, h2, hf⟩ := hf
        refine pz_get dX5_begins_20 fl_X5_25 h1 h2 ?_
        refine pz_bipush (v := (9 : Int32)) dX5_begins_23 (by decide) ?_
        refine pz_iload_n dX5_begins_25 rfl ?_
        refine pz_imul dX5_begins_26 ?_
        refine pz_iload dX5_begins_27 rfl ?_
        refine pz_iadd dX5_begins_29 ?_
        obtain ⟨_, _, h1, h2, hf⟩ := hf
        refine pz_iald dX5_begins_30 h1 h2 ?_
        refine pz_goto dX5_begins_31 (tgt := 47) (by decide) ?_
        exact pz_drop (pz_part_of [0, 1, 2, 4] rfl) (kB_X5_begins_47 X d _ _ _ _ _ _ _ _ _ ih hf)
def F_X5_begins (a0 : Nat) (x1 : Int32) (x2 : Int32) (h : pz_H) (Q : Int32 → pz_H → Prop) : Prop := (pq_ex (fun m5 => L_X5_begins_5 a0 x1 x2 Q m5 (0 : Int32) (0 : Int32) h))
set_option maxHeartbeats 4000000 in
set_option maxRecDepth 100000 in
theorem k_X5_begins (X : pz_X) (d : Nat) (a0 : Nat) (x1 : Int32) (x2 : Int32) (h : pz_H) (Q : Int32 → pz_H → Prop) (hf : F_X5_begins a0 x1 x2 h Q) : pz_Call X M_X5_begins (d + 0) 0 0 [.ref a0, .int x1, .int x2] h (pq_qI Q) := by
  refine pz_call_of (by decide +kernel) (Nat.le_of_ble_eq_true rfl) ?_
  unfold F_X5_begins at hf
  refine pz_iconst (v := (0 : Int32)) dX5_begins_0 (by decide) ?_
  refine pz_istore_n dX5_begins_1 rfl (by decide) rfl ?_
  refine pz_iconst (v := (0 : Int32)) dX5_begins_2 (by decide) ?_
  refine pz_istore dX5_begins_3 (by decide) rfl ?_
  obtain ⟨n9, hf⟩ := hf
  exact pz_drop (pz_part_of [0, 1, 2, 3, 4] rfl) (kL_X5_begins_5 X d _ _ _ _  n9 _ _ _ hf)
def B_X5_placeOf_100 (xs0 : Int32)  (Q : Int32 → pz_H → Prop) (h : pz_H) : Prop := (Q xs0 h)
set_option maxHeartbeats 4000000 in
set_option maxRecDepth 100000 in
theorem kB_X5_placeOf_100 (X : pz_X) (d : Nat) (xs0 : Int32)   (Q : Int32 → pz_H → Prop) (h : pz_H)  (hf : B_X5_placeOf_100 xs0  Q h) : pz_W (fun _ => True) X M_X5_placeOf (d + 1) 100 [] [.int xs0] h 0 0 (pq_qI Q) := by
  unfold B_X5_placeOf_100 at hf
  exact pz_ireturn dX5_placeOf_100 rfl rfl ⟨_, rfl, hf⟩
def B_X5_placeOf_94 (x5 : Int32)  (Q : Int32 → pz_H → Prop) (h : pz_H) : Prop := (pq_ne (2 : Int32) (B_X5_placeOf_100 ((2 : Int32) + (x5 - x5 / (2 : Int32) * (2 : Int32))) Q h))
set_option maxHeartbeats 4000000 in
set_option maxRecDepth 100000 in
theorem kB_X5_placeOf_94 (X : pz_X) (d : Nat) (x5 : Int32)   (Q : Int32 → pz_H → Prop) (h : pz_H)  (hf : B_X5_placeOf_94 x5  Q h) : pz_W (fun _ => True) X M_X5_placeOf (d + 1) 94 [(5, .int x5)] [] h 0 0 (pq_qI Q) := by
  unfold B_X5_placeOf_94 at hf
  refine pz_iconst (v := (2 : Int32)) dX5_placeOf_94 (by decide) ?_
  refine pz_iload dX5_placeOf_95 rfl ?_
  refine pz_iconst (v := (2 : Int32)) dX5_placeOf_97 (by decide) ?_
  obtain ⟨hne, hf⟩ := hf
  refine pz_irem dX5_placeOf_98 hne ?_
  refine pz_iadd dX5_placeOf_99 ?_
  exact pz_drop (pz_part_of [] rfl) (kB_X5_placeOf_100 X d _ _ _  hf)
def F_X5_placeOf (a0 : Nat) (x1 : Int32) (x2 : Int32) (h : pz_H) (Q : Int32 → pz_H → Prop) : Prop := (pq_gA h a0 5 7 (fun b1 => (pq_aI h b1 (((12 : Int32) * x1) + x2) (fun v2 => (pq_gA h a0 5 1 (fun b3 => (pq_aI h b3 x1 (fun v4 => (pq_br (v4 = (2 : Int32)) (pq_gA h a0 5 4 (fun b5 => (pq_aI h b5 x1 (fun v6 => (pq_ne v6 (pq_gA h a0 5 4 (fun b7 => (pq_aI h b7 x1 (fun v8 => (pq_ne v8 (pq_gA h a0 5 8 (fun b9 => (pq_aI h b9 (((12 : Int32) * x1) + x2) (fun v10 => (pq_br (v10 = (v2 + (1 : Int32))) (pq_gA h a0 5 3 (fun b11 => (pq_aI h b11 x1 (fun v12 => (pq_gA h a0 5 4 (fun b13 => (pq_aI h b13 x1 (fun v14 => (pq_br ((v12 * (v14 - (1 : Int32))) ≤ x2) (B_X5_placeOf_94 (v2 / v8) Q h) (pq_ne (2 : Int32) (B_X5_placeOf_100 ((v2 - v2 / v6 * v6) - (v2 - v2 / v6 * v6) / (2 : Int32) * (2 : Int32)) Q h))))))))))) (B_X5_placeOf_94 (v2 / v8) Q h)))))))))))))))) (pq_o h a0 5 (F_X5_begins a0 x1 (v2 + (1 : Int32)) h (fun v16 h15 => (Q v16 h15)))))))))))))
set_option maxHeartbeats 4000000 in
set_option maxRecDepth 100000 in
theorem k_X5_placeOf (X : pz_X) (d : Nat) (a0 : Nat) (x1 : Int32) (x2 : Int32) (h : pz_H) (Q : Int32 → pz_H → Prop) (hf : F_X5_placeOf a0 x1 x2 h Q) : pz_Call X M_X5_placeOf (d + 1) 0 0 [.ref a0, .int x1, .int x2] h (pq_qI Q) := by
  refine pz_call_of (by decide +kernel) (Nat.le_of_ble_eq_true rfl) ?_
  unfold F_X5_placeOf at hf
  refine pz_aload_n dX5_placeOf_0 rfl ?_
  obtain ⟨_, b1, h1, h2, hf⟩ := hf
  refine pz_get dX5_placeOf_1 fl_X5_28 h1 h2 ?_
  refine pz_bipush (v := (12 : Int32)) dX5_placeOf_4 (by decide) ?_
  refine pz_iload_n dX5_placeOf_6 rfl ?_
  refine pz_imul dX5_placeOf_7 ?_
  refine pz_iload_n dX5_placeOf_8 rfl ?_
  refine pz_iadd dX5_placeOf_9 ?_
  obtain ⟨_, _, h1, h2, hf⟩ := hf
  refine pz_iald dX5_placeOf_10 h1 h2 ?_
  refine pz_istore_n dX5_placeOf_11 rfl (by decide) rfl ?_
  refine pz_aload_n dX5_placeOf_12 rfl ?_
  obtain ⟨_, b3, h1, h2, hf⟩ := hf
  refine pz_get dX5_placeOf_13 fl_X5_7 h1 h2 ?_
  refine pz_iload_n dX5_placeOf_16 rfl ?_
  obtain ⟨_, _, h1, h2, hf⟩ := hf
  refine pz_iald dX5_placeOf_17 h1 h2 ?_
  refine pz_iconst (v := (2 : Int32)) dX5_placeOf_18 (by decide) ?_
  obtain ⟨ha, hb⟩ := hf
  refine pz_icmp_eq dX5_placeOf_19 (tgt := 31) (by decide) (fun cc => ?_) (fun cc => ?_)
  · have hf := ha cc
    refine pz_iload_n dX5_placeOf_31 rfl ?_
    refine pz_aload_n dX5_placeOf_32 rfl ?_
    obtain ⟨_, b5, h1, h2, hf⟩ := hf
    refine pz_get dX5_placeOf_33 fl_X5_19 h1 h2 ?_
    refine pz_iload_n dX5_placeOf_36 rfl ?_
    obtain ⟨_, _, h1, h2, hf⟩ := hf
    refine pz_iald dX5_placeOf_37 h1 h2 ?_
    obtain ⟨hne, hf⟩ := hf
    refine pz_irem dX5_placeOf_38 hne ?_
    refine pz_istore dX5_placeOf_39 (by decide) rfl ?_
    refine pz_iload_n dX5_placeOf_41 rfl ?_
    refine pz_aload_n dX5_placeOf_42 rfl ?_
    obtain ⟨_, b7, h1, h2, hf⟩ := hf
    refine pz_get dX5_placeOf_43 fl_X5_19 h1 h2 ?_
    refine pz_iload_n dX5_placeOf_46 rfl ?_
    obtain ⟨_, _, h1, h2, hf⟩ := hf
    refine pz_iald dX5_placeOf_47 h1 h2 ?_
    obtain ⟨hne, hf⟩ := hf
    refine pz_idiv dX5_placeOf_48 hne ?_
    refine pz_istore dX5_placeOf_49 (by decide) rfl ?_
    refine pz_aload_n dX5_placeOf_51 rfl ?_
    obtain ⟨_, b9, h1, h2, hf⟩ := hf
    refine pz_get dX5_placeOf_52 fl_X5_31 h1 h2 ?_
    refine pz_bipush (v := (12 : Int32)) dX5_placeOf_55 (by decide) ?_
    refine pz_iload_n dX5_placeOf_57 rfl ?_
    refine pz_imul dX5_placeOf_58 ?_
    refine pz_iload_n dX5_placeOf_59 rfl ?_
    refine pz_iadd dX5_placeOf_60 ?_
    obtain ⟨_, _, h1, h2, hf⟩ := hf
    refine pz_iald dX5_placeOf_61 h1 h2 ?_
    refine pz_iload_n dX5_placeOf_62 rfl ?_
    refine pz_iconst (v := (1 : Int32)) dX5_placeOf_63 (by decide) ?_
    refine pz_iadd dX5_placeOf_64 ?_
    obtain ⟨ha, hb⟩ := hf
    refine pz_icmp_ne dX5_placeOf_65 (tgt := 94) (by decide) (fun cc => ?_) (fun cc => ?_)
    · have hf := hb cc
      exact pz_drop (pz_part_of [5] rfl) (kB_X5_placeOf_94 X d _ _ _  hf)
    · have hf := ha cc
      refine pz_iload_n dX5_placeOf_68 rfl ?_
      refine pz_aload_n dX5_placeOf_69 rfl ?_
      obtain ⟨_, b11, h1, h2, hf⟩ := hf
      refine pz_get dX5_placeOf_70 fl_X5_16 h1 h2 ?_
      refine pz_iload_n dX5_placeOf_73 rfl ?_
      obtain ⟨_, _, h1, h2, hf⟩ := hf
      refine pz_iald dX5_placeOf_74 h1 h2 ?_
      refine pz_aload_n dX5_placeOf_75 rfl ?_
      obtain ⟨_, b13, h1, h2, hf⟩ := hf
      refine pz_get dX5_placeOf_76 fl_X5_19 h1 h2 ?_
      refine pz_iload_n dX5_placeOf_79 rfl ?_
      obtain ⟨_, _, h1, h2, hf⟩ := hf
      refine pz_iald dX5_placeOf_80 h1 h2 ?_
      refine pz_iconst (v := (1 : Int32)) dX5_placeOf_81 (by decide) ?_
      refine pz_isub dX5_placeOf_82 ?_
      refine pz_imul dX5_placeOf_83 ?_
      obtain ⟨ha, hb⟩ := hf
      refine pz_icmp_ge dX5_placeOf_84 (tgt := 94) (by decide) (fun cc => ?_) (fun cc => ?_)
      · have hf := ha cc
        exact pz_drop (pz_part_of [5] rfl) (kB_X5_placeOf_94 X d _ _ _  hf)
      · have hf := hb cc
        refine pz_iload dX5_placeOf_87 rfl ?_
        refine pz_iconst (v := (2 : Int32)) dX5_placeOf_89 (by decide) ?_
        obtain ⟨hne, hf⟩ := hf
        refine pz_irem dX5_placeOf_90 hne ?_
        refine pz_goto dX5_placeOf_91 (tgt := 100) (by decide) ?_
        exact pz_drop (pz_part_of [] rfl) (kB_X5_placeOf_100 X d _ _ _  hf)
  · have hf := hb cc
    refine pz_aload_n dX5_placeOf_22 rfl ?_
    refine pz_iload_n dX5_placeOf_23 rfl ?_
    refine pz_iload_n dX5_placeOf_24 rfl ?_
    refine pz_iconst (v := (1 : Int32)) dX5_placeOf_25 (by decide) ?_
    refine pz_iadd dX5_placeOf_26 ?_
    obtain ⟨_, hO, hf⟩ := hf
    refine pz_callV2 (rc := 0) (rs := 0) (mc := 0) (ms := 0) dX5_placeOf_27 (k_X5_begins X d _ _ _ _ _ hf) (Nat.le_of_ble_eq_true rfl) mf_X5_begins ml_X5_111 hO rfl mi_X5_begins ms_X5_begins (fun _ h9 hq => ?_)
    obtain ⟨_, rfl, hf⟩ := hq
    exact pz_ireturn dX5_placeOf_30 rfl rfl ⟨_, rfl, hf⟩
def B_X5_crease_80 (xs0 : Int32)  (Q : Int32 → pz_H → Prop) (h : pz_H) : Prop := (Q xs0 h)
set_option maxHeartbeats 4000000 in
set_option maxRecDepth 100000 in
theorem kB_X5_crease_80 (X : pz_X) (d : Nat) (xs0 : Int32)   (Q : Int32 → pz_H → Prop) (h : pz_H)  (hf : B_X5_crease_80 xs0  Q h) : pz_W (fun _ => True) X M_X5_crease (d + 2) 80 [] [.int xs0] h 0 0 (pq_qI Q) := by
  unfold B_X5_crease_80 at hf
  exact pz_ireturn dX5_crease_80 rfl rfl ⟨_, rfl, hf⟩
def F_X5_crease (a0 : Nat) (x1 : Int32) (x2 : Int32) (x3 : Int32) (h : pz_H) (Q : Int32 → pz_H → Prop) : Prop := (pq_o h a0 5 (F_X5_hasCrease a0 x1 x2 h (fun v2 h1 => (pq_br (v2 = 0) (Q (-101 : Int32) h1) (pq_br (x3 = 0) (pq_gA h1 a0 5 7 (fun b9 => (pq_aI h1 b9 (((12 : Int32) * x1) + x2) (fun v10 => (B_X5_crease_80 v10 Q h1))))) (pq_br (x3 = (1 : Int32)) (pq_gA h1 a0 5 8 (fun b7 => (pq_aI h1 b7 (((12 : Int32) * x1) + x2) (fun v8 => (B_X5_crease_80 v8 Q h1))))) (pq_br (x3 = (2 : Int32)) (pq_gA h1 a0 5 9 (fun b5 => (pq_aI h1 b5 (((12 : Int32) * x1) + x2) (fun v6 => (B_X5_crease_80 v6 Q h1))))) (pq_br (x3 = (3 : Int32)) (pq_o h1 a0 5 (F_X5_placeOf a0 x1 x2 h1 (fun v4 h3 => (B_X5_crease_80 v4 Q h3)))) (B_X5_crease_80 (-102 : Int32) Q h1)))))))))
set_option maxHeartbeats 4000000 in
set_option maxRecDepth 100000 in
theorem k_X5_crease (X : pz_X) (d : Nat) (a0 : Nat) (x1 : Int32) (x2 : Int32) (x3 : Int32) (h : pz_H) (Q : Int32 → pz_H → Prop) (hf : F_X5_crease a0 x1 x2 x3 h Q) : pz_Call X M_X5_crease (d + 2) 0 0 [.ref a0, .int x1, .int x2, .int x3] h (pq_qI Q) := by
  refine pz_call_of (by decide +kernel) (Nat.le_of_ble_eq_true rfl) ?_
  unfold F_X5_crease at hf
  refine pz_aload_n dX5_crease_0 rfl ?_
  refine pz_iload_n dX5_crease_1 rfl ?_
  refine pz_iload_n dX5_crease_2 rfl ?_
  obtain ⟨_, hO, hf⟩ := hf
  refine pz_callV2 (rc := 0) (rs := 0) (mc := 0) (ms := 0) dX5_crease_3 (k_X5_hasCrease X d _ _ _ _ _ hf) (Nat.le_of_ble_eq_true rfl) mf_X5_hasCrease ml_X5_101 hO rfl mi_X5_hasCrease ms_X5_hasCrease (fun _ h9 hq => ?_)
  obtain ⟨_, rfl, hf⟩ := hq
  obtain ⟨ha, hb⟩ := hf
  refine pz_if_ne dX5_crease_6 (tgt := 12) (by decide) (fun cc => ?_) (fun cc => ?_)
  · have hf := hb cc
    refine pz_bipush (v := (12 : Int32)) dX5_crease_12 (by decide) ?_
    refine pz_iload_n dX5_crease_14 rfl ?_
    refine pz_imul dX5_crease_15 ?_
    refine pz_iload_n dX5_crease_16 rfl ?_
    refine pz_iadd dX5_crease_17 ?_
    refine pz_istore dX5_crease_18 (by decide) rfl ?_
    refine pz_iload_n dX5_crease_20 rfl ?_
    obtain ⟨ha, hb⟩ := hf
    refine pz_if_ne dX5_crease_21 (tgt := 34) (by decide) (fun cc => ?_) (fun cc => ?_)
    · have hf := hb cc
      refine pz_iload_n dX5_crease_34 rfl ?_
      refine pz_iconst (v := (1 : Int32)) dX5_crease_35 (by decide) ?_
      obtain ⟨ha, hb⟩ := hf
      refine pz_icmp_ne dX5_crease_36 (tgt := 49) (by decide) (fun cc => ?_) (fun cc => ?_)
      · have hf := hb cc
        refine pz_iload_n dX5_crease_49 rfl ?_
        refine pz_iconst (v := (2 : Int32)) dX5_crease_50 (by decide) ?_
        obtain ⟨ha, hb⟩ := hf
        refine pz_icmp_ne dX5_crease_51 (tgt := 64) (by decide) (fun cc => ?_) (fun cc => ?_)
        · have hf := hb cc
          refine pz_iload_n dX5_crease_64 rfl ?_
          refine pz_iconst (v := (3 : Int32)) dX5_crease_65 (by decide) ?_
          obtain ⟨ha, hb⟩ := hf
          refine pz_icmp_ne dX5_crease_66 (tgt := 78) (by decide) (fun cc => ?_) (fun cc => ?_)
          · have hf := hb cc
            refine pz_bipush (v := (-102 : Int32)) dX5_crease_78 (by decide) ?_
            exact pz_drop (pz_part_of [] rfl) (kB_X5_crease_80 X d _ _ _  hf)
          · have hf := ha cc
            refine pz_aload_n dX5_crease_69 rfl ?_
            refine pz_iload_n dX5_crease_70 rfl ?_
            refine pz_iload_n dX5_crease_71 rfl ?_
            obtain ⟨_, hO, hf⟩ := hf
            refine pz_callV2 (rc := 0) (rs := 0) (mc := 0) (ms := 0) dX5_crease_72 (k_X5_placeOf X d _ _ _ _ _ hf) (Nat.le_of_ble_eq_true rfl) mf_X5_placeOf ml_X5_114 hO rfl mi_X5_placeOf ms_X5_placeOf (fun _ h9 hq => ?_)
            obtain ⟨_, rfl, hf⟩ := hq
            refine pz_goto dX5_crease_75 (tgt := 80) (by decide) ?_
            exact pz_drop (pz_part_of [] rfl) (kB_X5_crease_80 X d _ _ _  hf)
        · have hf := ha cc
          refine pz_aload_n dX5_crease_54 rfl ?_
          obtain ⟨_, b5, h1, h2, hf⟩ := hf
          refine pz_get dX5_crease_55 fl_X5_34 h1 h2 ?_
          refine pz_iload dX5_crease_58 rfl ?_
          obtain ⟨_, _, h1, h2, hf⟩ := hf
          refine pz_iald dX5_crease_60 h1 h2 ?_
          refine pz_goto dX5_crease_61 (tgt := 80) (by decide) ?_
          exact pz_drop (pz_part_of [] rfl) (kB_X5_crease_80 X d _ _ _  hf)
      · have hf := ha cc
        refine pz_aload_n dX5_crease_39 rfl ?_
        obtain ⟨_, b7, h1, h2, hf⟩ := hf
        refine pz_get dX5_crease_40 fl_X5_31 h1 h2 ?_
        refine pz_iload dX5_crease_43 rfl ?_
        obtain ⟨_, _, h1, h2, hf⟩ := hf
        refine pz_iald dX5_crease_45 h1 h2 ?_
        refine pz_goto dX5_crease_46 (tgt := 80) (by decide) ?_
        exact pz_drop (pz_part_of [] rfl) (kB_X5_crease_80 X d _ _ _  hf)
    · have hf := ha cc
      refine pz_aload_n dX5_crease_24 rfl ?_
      obtain ⟨_, b9, h1, h2, hf⟩ := hf
      refine pz_get dX5_crease_25 fl_X5_28 h1 h2 ?_
      refine pz_iload dX5_crease_28 rfl ?_
      obtain ⟨_, _, h1, h2, hf⟩ := hf
      refine pz_iald dX5_crease_30 h1 h2 ?_
      refine pz_goto dX5_crease_31 (tgt := 80) (by decide) ?_
      exact pz_drop (pz_part_of [] rfl) (kB_X5_crease_80 X d _ _ _  hf)
  · have hf := ha cc
    refine pz_bipush (v := (-101 : Int32)) dX5_crease_9 (by decide) ?_
    exact pz_ireturn dX5_crease_11 rfl rfl ⟨_, rfl, hf⟩
