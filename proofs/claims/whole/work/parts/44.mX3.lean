def F_X3_init (a0 : Nat) (h : pz_H) (Q : pz_H → Prop) : Prop := (pq_n h (.inl (0, 256, .inl (fun _ => 0))) (fun q1 h2 => (pq_p h2 a0 3 0 (.ref q1) (fun h3 => (pq_n h3 (.inl (0, 256, .inl (fun _ => 0))) (fun q4 h5 => (pq_p h5 a0 3 1 (.ref q4) (fun h6 => (pq_n h6 (.inl (0, 256, .inl (fun _ => 0))) (fun q7 h8 => (pq_p h8 a0 3 2 (.ref q7) (fun h9 => (Q h9)))))))))))))
set_option maxHeartbeats 4000000 in
set_option maxRecDepth 100000 in
theorem k_X3_init (X : pz_X) (d : Nat) (a0 : Nat) (h : pz_H) (Q : pz_H → Prop) (hf : F_X3_init a0 h Q) : pz_Call X M_X3_init (d + 1) 3 768 [.ref a0] h (pq_qV Q) := by
  refine pz_call_of (by decide +kernel) (Nat.le_of_ble_eq_true rfl) ?_
  unfold F_X3_init at hf
  refine pz_aload_n dX3_init_0 rfl ?_
  refine pz_objInit dX3_init_1 ml_X3_3 mi_obj mc_obj (Nat.le_of_ble_eq_true rfl) ?_
  refine pz_aload_n dX3_init_4 rfl ?_
  refine pz_sipush (v := (256 : Int32)) dX3_init_5 (by decide) ?_
  refine pz_newa (t := 0) (N := 256) (rc := 2) (rs := 512) dX3_init_8 rfl (fun _ _ h => h) ca_int (fun cA => pq_z0 cA 256) (by decide) (by decide +kernel) (by decide) (fun hfr => ?_)
  have hf := hf hfr
  obtain ⟨_, h1, h2, hf⟩ := hf
  refine pz_putF dX3_init_10 fp_X3_9 rfl h1 rfl rfl h2 ?_
  refine pz_aload_n dX3_init_13 rfl ?_
  refine pz_sipush (v := (256 : Int32)) dX3_init_14 (by decide) ?_
  refine pz_newa (t := 0) (N := 256) (rc := 1) (rs := 256) dX3_init_17 rfl (fun _ _ h => h) ca_int (fun cA => pq_z0 cA 256) (by decide) (by decide +kernel) (by decide) (fun hfr => ?_)
  have hf := hf hfr
  obtain ⟨_, h1, h2, hf⟩ := hf
  refine pz_putF dX3_init_19 fp_X3_15 rfl h1 rfl rfl h2 ?_
  refine pz_aload_n dX3_init_22 rfl ?_
  refine pz_sipush (v := (256 : Int32)) dX3_init_23 (by decide) ?_
  refine pz_newa (t := 0) (N := 256) (rc := 0) (rs := 0) dX3_init_26 rfl (fun _ _ h => h) ca_int (fun cA => pq_z0 cA 256) (by decide) (by decide +kernel) (by decide) (fun hfr => ?_)
  have hf := hf hfr
  obtain ⟨_, h1, h2, hf⟩ := hf
  refine pz_putF dX3_init_28 fp_X3_18 rfl h1 rfl rfl h2 ?_
  exact pz_return dX3_init_31 rfl ⟨rfl, hf⟩
def B_X3_tryStep_33   (Q : pz_H → Prop) (h : pz_H) : Prop := (Q h)
set_option maxHeartbeats 4000000 in
set_option maxRecDepth 100000 in
theorem kB_X3_tryStep_33 (X : pz_X) (d : Nat)    (Q : pz_H → Prop) (h : pz_H)  (hf : B_X3_tryStep_33   Q h) : pz_W (fun _ => True) X M_X3_tryStep (d + 4) 33 [] [] h 0 0 (pq_qV Q) := by
  unfold B_X3_tryStep_33 at hf
  exact pz_return dX3_tryStep_33 rfl ⟨rfl, hf⟩
def B_X3_tryStep_100   (Q : pz_H → Prop) (h : pz_H) : Prop := (Q h)
set_option maxHeartbeats 4000000 in
set_option maxRecDepth 100000 in
theorem kB_X3_tryStep_100 (X : pz_X) (d : Nat)    (Q : pz_H → Prop) (h : pz_H)  (hf : B_X3_tryStep_100   Q h) : pz_W (fun _ => True) X M_X3_tryStep (d + 4) 100 [] [] h 0 0 (pq_qV Q) := by
  unfold B_X3_tryStep_100 at hf
  exact pz_return dX3_tryStep_100 rfl ⟨rfl, hf⟩
def B_X3_tryStep_77 (a0 : Nat) (x2 : Int32) (x3 : Int32) (x6 : Int32) (x7 : Int32)  (Q : pz_H → Prop) (h : pz_H) : Prop := (pq_gA h a0 3 0 (fun b1 => (pq_sI h b1 x3 x7 (fun h2 => (pq_gA h2 a0 3 1 (fun b3 => (pq_sI h2 b3 x3 x2 (fun h4 => (pq_gA h4 a0 3 2 (fun b5 => (pq_sI h4 b5 x3 x6 (fun h6 => (B_X3_tryStep_100 Q h6)))))))))))))
set_option maxHeartbeats 4000000 in
set_option maxRecDepth 100000 in
theorem kB_X3_tryStep_77 (X : pz_X) (d : Nat) (a0 : Nat) (x2 : Int32) (x3 : Int32) (x6 : Int32) (x7 : Int32)   (Q : pz_H → Prop) (h : pz_H)  (hf : B_X3_tryStep_77 a0 x2 x3 x6 x7  Q h) : pz_W (fun _ => True) X M_X3_tryStep (d + 4) 77 [(0, .ref a0), (2, .int x2), (3, .int x3), (6, .int x6), (7, .int x7)] [] h 0 0 (pq_qV Q) := by
  unfold B_X3_tryStep_77 at hf
  refine pz_aload_n dX3_tryStep_77 rfl ?_
  obtain ⟨_, b1, h1, h2, hf⟩ := hf
  refine pz_get dX3_tryStep_78 fl_X3_9 h1 h2 ?_
  refine pz_iload_n dX3_tryStep_81 rfl ?_
  refine pz_iload dX3_tryStep_82 rfl ?_
  obtain ⟨_, _, h1, h2, hf⟩ := hf
  refine pz_iast dX3_tryStep_84 h1 h2 ?_
  refine pz_aload_n dX3_tryStep_85 rfl ?_
  obtain ⟨_, b3, h1, h2, hf⟩ := hf
  refine pz_get dX3_tryStep_86 fl_X3_15 h1 h2 ?_
  refine pz_iload_n dX3_tryStep_89 rfl ?_
  refine pz_iload_n dX3_tryStep_90 rfl ?_
  obtain ⟨_, _, h1, h2, hf⟩ := hf
  refine pz_iast dX3_tryStep_91 h1 h2 ?_
  refine pz_aload_n dX3_tryStep_92 rfl ?_
  obtain ⟨_, b5, h1, h2, hf⟩ := hf
  refine pz_get dX3_tryStep_93 fl_X3_18 h1 h2 ?_
  refine pz_iload_n dX3_tryStep_96 rfl ?_
  refine pz_iload dX3_tryStep_97 rfl ?_
  obtain ⟨_, _, h1, h2, hf⟩ := hf
  refine pz_iast dX3_tryStep_99 h1 h2 ?_
  exact pz_drop (pz_part_of [] rfl) (kB_X3_tryStep_100 X d _ _  hf)
def F_X3_tryStep (a0 : Nat) (a1 : Nat) (x2 : Int32) (x3 : Int32) (a4 : Nat) (h : pz_H) (Q : pz_H → Prop) : Prop := (pq_o h a4 0 (F_X0_linesFoldedBy a4 a1 x2 h (fun v8 h7 => (pq_br (v8 = 0) (B_X3_tryStep_33 Q h7) (pq_gA h7 a0 3 0 (fun b9 => (pq_aI h7 b9 (x3 ||| v8) (fun v10 => (pq_br (v10 = (1000 : Int32)) (B_X3_tryStep_33 Q h7) (pq_gA h7 a0 3 0 (fun b11 => (pq_aI h7 b11 (x3 ||| v8) (fun v12 => (pq_gA h7 a0 3 0 (fun b13 => (pq_aI h7 b13 x3 (fun v14 => (pq_br ((v12 + (1 : Int32)) < v14) (B_X3_tryStep_77 a0 x2 x3 (x3 ||| v8) (v12 + (1 : Int32)) Q h7) (pq_gA h7 a0 3 0 (fun b15 => (pq_aI h7 b15 x3 (fun v16 => (pq_br ((v12 + (1 : Int32)) = v16) (pq_gA h7 a0 3 1 (fun b17 => (pq_aI h7 b17 x3 (fun v18 => (pq_br (v18 ≤ x2) (B_X3_tryStep_100 Q h7) (B_X3_tryStep_77 a0 x2 x3 (x3 ||| v8) (v12 + (1 : Int32)) Q h7)))))) (B_X3_tryStep_100 Q h7))))))))))))))))))))))))
set_option maxHeartbeats 4000000 in
set_option maxRecDepth 100000 in
theorem k_X3_tryStep (X : pz_X) (d : Nat) (a0 : Nat) (a1 : Nat) (x2 : Int32) (x3 : Int32) (a4 : Nat) (h : pz_H) (Q : pz_H → Prop) (hf : F_X3_tryStep a0 a1 x2 x3 a4 h Q) : pz_Call X M_X3_tryStep (d + 4) 0 0 [.ref a0, .ref a1, .int x2, .int x3, .ref a4] h (pq_qV Q) := by
  refine pz_call_of (by decide +kernel) (Nat.le_of_ble_eq_true rfl) ?_
  unfold F_X3_tryStep at hf
  refine pz_aload dX3_tryStep_0 rfl ?_
  refine pz_aload_n dX3_tryStep_2 rfl ?_
  refine pz_iload_n dX3_tryStep_3 rfl ?_
  obtain ⟨_, hO, hf⟩ := hf
  refine pz_callV2 (rc := 0) (rs := 0) (mc := 0) (ms := 0) dX3_tryStep_4 (k_X0_linesFoldedBy X d _ _ _ _ _ hf) (Nat.le_of_ble_eq_true rfl) mf_X0_linesFoldedBy ml_X3_62 hO rfl mi_X0_linesFoldedBy ms_X0_linesFoldedBy (fun _ h9 hq => ?_)
  obtain ⟨_, rfl, hf⟩ := hq
  refine pz_istore dX3_tryStep_7 (by decide) rfl ?_
  refine pz_iload_n dX3_tryStep_9 rfl ?_
  refine pz_iload dX3_tryStep_10 rfl ?_
  refine pz_ior dX3_tryStep_12 ?_
  refine pz_istore dX3_tryStep_13 (by decide) rfl ?_
  refine pz_iload dX3_tryStep_15 rfl ?_
  obtain ⟨ha, hb⟩ := hf
  refine pz_if_eq dX3_tryStep_17 (tgt := 33) (by decide) (fun cc => ?_) (fun cc => ?_)
  · have hf := ha cc
    exact pz_drop (pz_part_of [] rfl) (kB_X3_tryStep_33 X d _ _  hf)
  · have hf := hb cc
    refine pz_aload_n dX3_tryStep_20 rfl ?_
    obtain ⟨_, b9, h1, h2, hf⟩ := hf
    refine pz_get dX3_tryStep_21 fl_X3_9 h1 h2 ?_
    refine pz_iload dX3_tryStep_24 rfl ?_
    obtain ⟨_, _, h1, h2, hf⟩ := hf
    refine pz_iald dX3_tryStep_26 h1 h2 ?_
    refine pz_sipush (v := (1000 : Int32)) dX3_tryStep_27 (by decide) ?_
    obtain ⟨ha, hb⟩ := hf
    refine pz_icmp_ne dX3_tryStep_30 (tgt := 34) (by decide) (fun cc => ?_) (fun cc => ?_)
    · have hf := hb cc
      refine pz_aload_n dX3_tryStep_34 rfl ?_
      obtain ⟨_, b11, h1, h2, hf⟩ := hf
      refine pz_get dX3_tryStep_35 fl_X3_9 h1 h2 ?_
      refine pz_iload dX3_tryStep_38 rfl ?_
      obtain ⟨_, _, h1, h2, hf⟩ := hf
      refine pz_iald dX3_tryStep_40 h1 h2 ?_
      refine pz_iconst (v := (1 : Int32)) dX3_tryStep_41 (by decide) ?_
      refine pz_iadd dX3_tryStep_42 ?_
      refine pz_istore dX3_tryStep_43 (by decide) rfl ?_
      refine pz_iload dX3_tryStep_45 rfl ?_
      refine pz_aload_n dX3_tryStep_47 rfl ?_
      obtain ⟨_, b13, h1, h2, hf⟩ := hf
      refine pz_get dX3_tryStep_48 fl_X3_9 h1 h2 ?_
      refine pz_iload_n dX3_tryStep_51 rfl ?_
      obtain ⟨_, _, h1, h2, hf⟩ := hf
      refine pz_iald dX3_tryStep_52 h1 h2 ?_
      obtain ⟨ha, hb⟩ := hf
      refine pz_icmp_lt dX3_tryStep_53 (tgt := 77) (by decide) (fun cc => ?_) (fun cc => ?_)
      · have hf := ha cc
        exact pz_drop (pz_part_of [0, 2, 3, 6, 7] rfl) (kB_X3_tryStep_77 X d _ _ _ _ _ _ _  hf)
      · have hf := hb cc
        refine pz_iload dX3_tryStep_56 rfl ?_
        refine pz_aload_n dX3_tryStep_58 rfl ?_
        obtain ⟨_, b15, h1, h2, hf⟩ := hf
        refine pz_get dX3_tryStep_59 fl_X3_9 h1 h2 ?_
        refine pz_iload_n dX3_tryStep_62 rfl ?_
        obtain ⟨_, _, h1, h2, hf⟩ := hf
        refine pz_iald dX3_tryStep_63 h1 h2 ?_
        obtain ⟨ha, hb⟩ := hf
        refine pz_icmp_ne dX3_tryStep_64 (tgt := 100) (by decide) (fun cc => ?_) (fun cc => ?_)
        · have hf := hb cc
          exact pz_drop (pz_part_of [] rfl) (kB_X3_tryStep_100 X d _ _  hf)
        · have hf := ha cc
          refine pz_iload_n dX3_tryStep_67 rfl ?_
          refine pz_aload_n dX3_tryStep_68 rfl ?_
          obtain ⟨_, b17, h1, h2, hf⟩ := hf
          refine pz_get dX3_tryStep_69 fl_X3_15 h1 h2 ?_
          refine pz_iload_n dX3_tryStep_72 rfl ?_
          obtain ⟨_, _, h1, h2, hf⟩ := hf
          refine pz_iald dX3_tryStep_73 h1 h2 ?_
          obtain ⟨ha, hb⟩ := hf
          refine pz_icmp_ge dX3_tryStep_74 (tgt := 100) (by decide) (fun cc => ?_) (fun cc => ?_)
          · have hf := ha cc
            exact pz_drop (pz_part_of [] rfl) (kB_X3_tryStep_100 X d _ _  hf)
          · have hf := hb cc
            exact pz_drop (pz_part_of [0, 2, 3, 6, 7] rfl) (kB_X3_tryStep_77 X d _ _ _ _ _ _ _  hf)
    · have hf := ha cc
      exact pz_drop (pz_part_of [] rfl) (kB_X3_tryStep_33 X d _ _  hf)
def B_X3_tryLines_75 (a0 : Nat) (a1 : Nat) (x2 : Int32) (x3 : Int32) (a4 : Nat) (x5 : Int32) (k3 : Int32 → pz_H → Prop) (Q : pz_H → Prop) (h : pz_H) : Prop := (k3 (x5 + (1 : Int32)) h)
set_option maxHeartbeats 4000000 in
set_option maxRecDepth 100000 in
theorem kB_X3_tryLines_75 (X : pz_X) (d : Nat) (a0 : Nat) (a1 : Nat) (x2 : Int32) (x3 : Int32) (a4 : Nat) (x5 : Int32)  (k3 : Int32 → pz_H → Prop) (Q : pz_H → Prop) (h : pz_H) (hk3 : ∀ (x5 : Int32) (h : pz_H), k3 x5 h → pz_W (fun _ => True) X M_X3_tryLines (d + 5) 3 [(0, .ref a0), (1, .ref a1), (2, .int x2), (3, .int x3), (4, .ref a4), (5, .int x5)] [] h 0 0 (pq_qV Q)) (hf : B_X3_tryLines_75 a0 a1 x2 x3 a4 x5 k3 Q h) : pz_W (fun _ => True) X M_X3_tryLines (d + 5) 75 [(0, .ref a0), (1, .ref a1), (2, .int x2), (3, .int x3), (4, .ref a4), (5, .int x5)] [] h 0 0 (pq_qV Q) := by
  unfold B_X3_tryLines_75 at hf
  refine pz_iinc dX3_tryLines_75 rfl (by rfl) (by decide) rfl ?_
  refine pz_goto dX3_tryLines_78 (tgt := 3) (by decide) ?_
  exact pz_drop (pz_part_of [0, 1, 2, 3, 4, 5] rfl) (hk3 _ _ hf)
def L_X3_tryLines_3 (a0 : Nat) (a1 : Nat) (x2 : Int32) (x3 : Int32) (a4 : Nat)  (Q : pz_H → Prop) : Nat → Int32 → pz_H → Prop
  | 0, _, _ => False
  | n + 1, x5, h => (pq_o h a4 0 (F_X0_bands a4 a1 x2 h (fun v2 h1 => (pq_br ((v2 - (1 : Int32)) ≤ x5) (Q h1) (pq_o h1 a4 0 (F_X0_lineBehind a4 a1 x2 x5 h1 (fun v4 h3 => (F_X4_has x3 v4 h3 (fun v6 h5 => (pq_br (v6 = 0) (pq_gA h5 a4 0 1 (fun b7 => (pq_aA h5 b7 x2 (fun b8 => (pq_aI h5 b8 (x5 + (1 : Int32)) (fun v9 => (pq_o h5 a0 3 (F_X3_tryStep a0 a1 (((4 : Int32) * v9) + ((2 : Int32) * x2)) x3 a4 h5 (fun h10 => (pq_o h10 a0 3 (F_X3_tryStep a0 a1 ((((4 : Int32) * v9) + ((2 : Int32) * x2)) + (1 : Int32)) x3 a4 h10 (fun h11 => (B_X3_tryLines_75 a0 a1 x2 x3 a4 x5 (fun z0 hz => L_X3_tryLines_3 a0 a1 x2 x3 a4 Q n z0 hz) Q h11))))))))))))) (B_X3_tryLines_75 a0 a1 x2 x3 a4 x5 (fun z0 hz => L_X3_tryLines_3 a0 a1 x2 x3 a4 Q n z0 hz) Q h5)))))))))))
set_option maxHeartbeats 4000000 in
set_option maxRecDepth 100000 in
theorem kL_X3_tryLines_3 (X : pz_X) (d : Nat) (a0 : Nat) (a1 : Nat) (x2 : Int32) (x3 : Int32) (a4 : Nat)   (Q : pz_H → Prop)  : ∀ (n : Nat) (x5 : Int32) (h : pz_H), L_X3_tryLines_3 a0 a1 x2 x3 a4  Q n x5 h → pz_W (fun _ => True) X M_X3_tryLines (d + 5) 3 [(0, .ref a0), (1, .ref a1), (2, .int x2), (3, .int x3), (4, .ref a4), (5, .int x5)] [] h 0 0 (pq_qV Q) := by
  intro n
  induction n with
  | zero =>
    intro _ _ hf
    exact False.elim hf
  | succ n ih =>
    intro x5 h hf
    unfold L_X3_tryLines_3 at hf
    refine pz_iload dX3_tryLines_3 rfl ?_
    refine pz_aload dX3_tryLines_5 rfl ?_
    refine pz_aload_n dX3_tryLines_7 rfl ?_
    refine pz_iload_n dX3_tryLines_8 rfl ?_
    obtain ⟨_, hO, hf⟩ := hf
    refine pz_callV2 (rc := 0) (rs := 0) (mc := 0) (ms := 0) dX3_tryLines_9 (k_X0_bands X (d + 4) _ _ _ _ _ hf) (Nat.le_of_ble_eq_true rfl) mf_X0_bands ml_X3_43 hO rfl mi_X0_bands ms_X0_bands (fun _ h9 hq => ?_)
    obtain ⟨_, rfl, hf⟩ := hq
    refine pz_iconst (v := (1 : Int32)) dX3_tryLines_12 (by decide) ?_
    refine pz_isub dX3_tryLines_13 ?_
    obtain ⟨ha, hb⟩ := hf
    refine pz_icmp_ge dX3_tryLines_14 (tgt := 81) (by decide) (fun cc => ?_) (fun cc => ?_)
    · have hf := ha cc
      exact pz_return dX3_tryLines_81 rfl ⟨rfl, hf⟩
    · have hf := hb cc
      refine pz_iload_n dX3_tryLines_17 rfl ?_
      refine pz_aload dX3_tryLines_18 rfl ?_
      refine pz_aload_n dX3_tryLines_20 rfl ?_
      refine pz_iload_n dX3_tryLines_21 rfl ?_
      refine pz_iload dX3_tryLines_22 rfl ?_
      obtain ⟨_, hO, hf⟩ := hf
      refine pz_callV3 (rc := 0) (rs := 0) (mc := 0) (ms := 0) dX3_tryLines_24 (k_X0_lineBehind X (d + 4) _ _ _ _ _ _ hf) (Nat.le_of_ble_eq_true rfl) mf_X0_lineBehind ml_X3_47 hO rfl mi_X0_lineBehind ms_X0_lineBehind (fun _ h9 hq => ?_)
      obtain ⟨_, rfl, hf⟩ := hq
      refine pz_callSN2 (rc := 0) (rs := 0) (mc := 0) (ms := 0) dX3_tryLines_27 (k_X4_has X (d + 4) _ _ _ _ hf) (Nat.le_of_ble_eq_true rfl) mf_X4_has ml_X3_51 mt_X4_has (fun _ h9 hq => ?_)
      obtain ⟨_, rfl, hf⟩ := hq
      obtain ⟨ha, hb⟩ := hf
      refine pz_if_ne dX3_tryLines_30 (tgt := 75) (by decide) (fun cc => ?_) (fun cc => ?_)
      · have hf := hb cc
        exact pz_drop (pz_part_of [0, 1, 2, 3, 4, 5] rfl) (kB_X3_tryLines_75 X d _ _ _ _ _ _ _ _ _ ih hf)
      · have hf := ha cc
        refine pz_iconst (v := (4 : Int32)) dX3_tryLines_33 (by decide) ?_
        refine pz_aload dX3_tryLines_34 rfl ?_
        obtain ⟨_, b7, h1, h2, hf⟩ := hf
        refine pz_get dX3_tryLines_36 fl_X3_55 h1 h2 ?_
        refine pz_iload_n dX3_tryLines_39 rfl ?_
        obtain ⟨_, _, b8, h1, h2, h3, hf⟩ := hf
        refine pz_aald2 dX3_tryLines_40 h1 h2 ?_
        rw [h3]
        refine pz_iload dX3_tryLines_41 rfl ?_
        refine pz_iconst (v := (1 : Int32)) dX3_tryLines_43 (by decide) ?_
        refine pz_iadd dX3_tryLines_44 ?_
        obtain ⟨_, _, h1, h2, hf⟩ := hf
        refine pz_iald dX3_tryLines_45 h1 h2 ?_
        refine pz_imul dX3_tryLines_46 ?_
        refine pz_iconst (v := (2 : Int32)) dX3_tryLines_47 (by decide) ?_
        refine pz_iload_n dX3_tryLines_48 rfl ?_
        refine pz_imul dX3_tryLines_49 ?_
        refine pz_iadd dX3_tryLines_50 ?_
        refine pz_istore dX3_tryLines_51 (by decide) rfl ?_
        refine pz_aload_n dX3_tryLines_53 rfl ?_
        refine pz_aload_n dX3_tryLines_54 rfl ?_
        refine pz_iload dX3_tryLines_55 rfl ?_
        refine pz_iload_n dX3_tryLines_57 rfl ?_
        refine pz_aload dX3_tryLines_58 rfl ?_
        obtain ⟨_, hO, hf⟩ := hf
        refine pz_callV4 (rc := 0) (rs := 0) (mc := 0) (ms := 0) dX3_tryLines_60 (k_X3_tryStep X d _ _ _ _ _ _ _ hf) (Nat.le_of_ble_eq_true rfl) mf_X3_tryStep ml_X3_59 hO rfl mi_X3_tryStep ms_X3_tryStep (fun _ h9 hq => ?_)
        obtain ⟨rfl, hf⟩ := hq
        refine pz_aload_n dX3_tryLines_63 rfl ?_
        refine pz_aload_n dX3_tryLines_64 rfl ?_
        refine pz_iload dX3_tryLines_65 rfl ?_
        refine pz_iconst (v := (1 : Int32)) dX3_tryLines_67 (by decide) ?_
        refine pz_iadd dX3_tryLines_68 ?_
        refine pz_iload_n dX3_tryLines_69 rfl ?_
        refine pz_aload dX3_tryLines_70 rfl ?_
        obtain ⟨_, hO, hf⟩ := hf
        refine pz_callV4 (rc := 0) (rs := 0) (mc := 0) (ms := 0) dX3_tryLines_72 (k_X3_tryStep X d _ _ _ _ _ _ _ hf) (Nat.le_of_ble_eq_true rfl) mf_X3_tryStep ml_X3_59 hO rfl mi_X3_tryStep ms_X3_tryStep (fun _ h9 hq => ?_)
        obtain ⟨rfl, hf⟩ := hq
        exact pz_drop (pz_part_of [0, 1, 2, 3, 4, 5] rfl) (kB_X3_tryLines_75 X d _ _ _ _ _ _ _ _ _ ih hf)
def F_X3_tryLines (a0 : Nat) (a1 : Nat) (x2 : Int32) (x3 : Int32) (a4 : Nat) (h : pz_H) (Q : pz_H → Prop) : Prop := (pq_ex (fun m3 => L_X3_tryLines_3 a0 a1 x2 x3 a4 Q m3 (0 : Int32) h))
set_option maxHeartbeats 4000000 in
set_option maxRecDepth 100000 in
theorem k_X3_tryLines (X : pz_X) (d : Nat) (a0 : Nat) (a1 : Nat) (x2 : Int32) (x3 : Int32) (a4 : Nat) (h : pz_H) (Q : pz_H → Prop) (hf : F_X3_tryLines a0 a1 x2 x3 a4 h Q) : pz_Call X M_X3_tryLines (d + 5) 0 0 [.ref a0, .ref a1, .int x2, .int x3, .ref a4] h (pq_qV Q) := by
  refine pz_call_of (by decide +kernel) (Nat.le_of_ble_eq_true rfl) ?_
  unfold F_X3_tryLines at hf
  refine pz_iconst (v := (0 : Int32)) dX3_tryLines_0 (by decide) ?_
  refine pz_istore dX3_tryLines_1 (by decide) rfl ?_
  obtain ⟨n9, hf⟩ := hf
  exact pz_drop (pz_part_of [0, 1, 2, 3, 4, 5] rfl) (kL_X3_tryLines_3 X d _ _ _ _ _ _  n9 _ _ hf)
def L_X3_explore_27 (a0 : Nat) (a1 : Nat) (a2 : Nat)  (Q : pz_H → Prop) : Nat → Int32 → pz_H → Prop
  | 0, _, _ => False
  | n + 1, x4, h => (pq_br (x4 < 0) (Q h) (pq_gA h a0 3 0 (fun b1 => (pq_sI h b1 x4 (1000 : Int32) (fun h2 => (pq_o h2 a2 0 (F_X0_put a2 a1 x4 h2 (fun h3 => (pq_o h3 a0 3 (F_X3_tryLines a0 a1 (0 : Int32) x4 a2 h3 (fun h4 => (pq_o h4 a0 3 (F_X3_tryLines a0 a1 (1 : Int32) x4 a2 h4 (fun h5 => (L_X3_explore_27 a0 a1 a2 Q n (x4 + (-1 : Int32)) h5)))))))))))))))
set_option maxHeartbeats 4000000 in
set_option maxRecDepth 100000 in
theorem kL_X3_explore_27 (X : pz_X) (d : Nat) (a0 : Nat) (a1 : Nat) (a2 : Nat)   (Q : pz_H → Prop)  : ∀ (n : Nat) (x4 : Int32) (h : pz_H), L_X3_explore_27 a0 a1 a2  Q n x4 h → pz_W (fun _ => True) X M_X3_explore (d + 6) 27 [(0, .ref a0), (1, .ref a1), (2, .ref a2), (4, .int x4)] [] h 0 0 (pq_qV Q) := by
  intro n
  induction n with
  | zero =>
    intro _ _ hf
    exact False.elim hf
  | succ n ih =>
    intro x4 h hf
    unfold L_X3_explore_27 at hf
    refine pz_iload dX3_explore_27 rfl ?_
    obtain ⟨ha, hb⟩ := hf
    refine pz_if_lt dX3_explore_29 (tgt := 73) (by decide) (fun cc => ?_) (fun cc => ?_)
    · have hf := ha cc
      exact pz_return dX3_explore_73 rfl ⟨rfl, hf⟩
    · have hf := hb cc
      refine pz_aload_n dX3_explore_32 rfl ?_
      obtain ⟨_, b1, h1, h2, hf⟩ := hf
      refine pz_get dX3_explore_33 fl_X3_9 h1 h2 ?_
      refine pz_iload dX3_explore_36 rfl ?_
      refine pz_sipush (v := (1000 : Int32)) dX3_explore_38 (by decide) ?_
      obtain ⟨_, _, h1, h2, hf⟩ := hf
      refine pz_iast dX3_explore_41 h1 h2 ?_
      refine pz_aload_n dX3_explore_42 rfl ?_
      refine pz_aload_n dX3_explore_43 rfl ?_
      refine pz_iload dX3_explore_44 rfl ?_
      obtain ⟨_, hO, hf⟩ := hf
      refine pz_callV2 (rc := 0) (rs := 0) (mc := 0) (ms := 0) dX3_explore_46 (k_X0_put X (d + 4) _ _ _ _ _ hf) (Nat.le_of_ble_eq_true rfl) mf_X0_put ml_X3_33 hO rfl mi_X0_put ms_X0_put (fun _ h9 hq => ?_)
      obtain ⟨rfl, hf⟩ := hq
      refine pz_aload_n dX3_explore_49 rfl ?_
      refine pz_aload_n dX3_explore_50 rfl ?_
      refine pz_iconst (v := (0 : Int32)) dX3_explore_51 (by decide) ?_
      refine pz_iload dX3_explore_52 rfl ?_
      refine pz_aload_n dX3_explore_54 rfl ?_
      obtain ⟨_, hO, hf⟩ := hf
      refine pz_callV4 (rc := 0) (rs := 0) (mc := 0) (ms := 0) dX3_explore_55 (k_X3_tryLines X d _ _ _ _ _ _ _ hf) (Nat.le_of_ble_eq_true rfl) mf_X3_tryLines ml_X3_39 hO rfl mi_X3_tryLines ms_X3_tryLines (fun _ h9 hq => ?_)
      obtain ⟨rfl, hf⟩ := hq
      refine pz_aload_n dX3_explore_58 rfl ?_
      refine pz_aload_n dX3_explore_59 rfl ?_
      refine pz_iconst (v := (1 : Int32)) dX3_explore_60 (by decide) ?_
      refine pz_iload dX3_explore_61 rfl ?_
      refine pz_aload_n dX3_explore_63 rfl ?_
      obtain ⟨_, hO, hf⟩ := hf
      refine pz_callV4 (rc := 0) (rs := 0) (mc := 0) (ms := 0) dX3_explore_64 (k_X3_tryLines X d _ _ _ _ _ _ _ hf) (Nat.le_of_ble_eq_true rfl) mf_X3_tryLines ml_X3_39 hO rfl mi_X3_tryLines ms_X3_tryLines (fun _ h9 hq => ?_)
      obtain ⟨rfl, hf⟩ := hq
      refine pz_iinc dX3_explore_67 rfl (by rfl) (by decide) rfl ?_
      refine pz_goto dX3_explore_70 (tgt := 27) (by decide) ?_
      exact pz_drop (pz_part_of [0, 1, 2, 4] rfl) (ih _ _ hf)
def F_X3_explore (a0 : Nat) (a1 : Nat) (a2 : Nat) (h : pz_H) (Q : pz_H → Prop) : Prop := (pq_o h a1 1 (F_X1_allLines a1 h (fun v7 h6 => (pq_gA h6 a0 3 0 (fun b8 => (pq_len h6 b8 (fun v9 => (pq_gA h6 a0 3 0 (fun b10 => (pq_sI h6 b10 (if (v9 - (1 : Int32)) < v7 then (v9 - (1 : Int32)) else v7) (0 : Int32) (fun h11 => (pq_ex (fun m27 => L_X3_explore_27 a0 a1 a2 Q m27 ((if (v9 - (1 : Int32)) < v7 then (v9 - (1 : Int32)) else v7) - (1 : Int32)) h11)))))))))))))
set_option maxHeartbeats 4000000 in
set_option maxRecDepth 100000 in
theorem k_X3_explore (X : pz_X) (d : Nat) (a0 : Nat) (a1 : Nat) (a2 : Nat) (h : pz_H) (Q : pz_H → Prop) (hf : F_X3_explore a0 a1 a2 h Q) : pz_Call X M_X3_explore (d + 6) 0 0 [.ref a0, .ref a1, .ref a2] h (pq_qV Q) := by
  refine pz_call_of (by decide +kernel) (Nat.le_of_ble_eq_true rfl) ?_
  unfold F_X3_explore at hf
  refine pz_aload_n dX3_explore_0 rfl ?_
  obtain ⟨_, hO, hf⟩ := hf
  refine pz_callV0 (rc := 0) (rs := 0) (mc := 0) (ms := 0) dX3_explore_1 (k_X1_allLines X (d + 5) _ _ _ hf) (Nat.le_of_ble_eq_true rfl) mf_X1_allLines ml_X3_21 hO rfl mi_X1_allLines ms_X1_allLines (fun _ h9 hq => ?_)
  obtain ⟨_, rfl, hf⟩ := hq
  refine pz_aload_n dX3_explore_4 rfl ?_
  obtain ⟨_, b8, h1, h2, hf⟩ := hf
  refine pz_get dX3_explore_5 fl_X3_9 h1 h2 ?_
  obtain ⟨_, _, _, h1, h2, hf⟩ := hf
  refine pz_alen dX3_explore_8 h1 h2 rfl ?_
  refine pz_iconst (v := (1 : Int32)) dX3_explore_9 (by decide) ?_
  refine pz_isub dX3_explore_10 ?_
  refine pz_mmin dX3_explore_11 ml_X3_27 mt_J9_min_7cf53 cz_J9 mm_min (Nat.le_of_ble_eq_true rfl) ?_
  refine pz_istore_n dX3_explore_14 rfl (by decide) rfl ?_
  refine pz_aload_n dX3_explore_15 rfl ?_
  obtain ⟨_, b10, h1, h2, hf⟩ := hf
  refine pz_get dX3_explore_16 fl_X3_9 h1 h2 ?_
  refine pz_iload_n dX3_explore_19 rfl ?_
  refine pz_iconst (v := (0 : Int32)) dX3_explore_20 (by decide) ?_
  obtain ⟨_, _, h1, h2, hf⟩ := hf
  refine pz_iast dX3_explore_21 h1 h2 ?_
  refine pz_iload_n dX3_explore_22 rfl ?_
  refine pz_iconst (v := (1 : Int32)) dX3_explore_23 (by decide) ?_
  refine pz_isub dX3_explore_24 ?_
  refine pz_istore dX3_explore_25 (by decide) rfl ?_
  obtain ⟨n9, hf⟩ := hf
  exact pz_drop (pz_part_of [0, 1, 2, 4] rfl) (kL_X3_explore_27 X d _ _ _ _  n9 _ _ hf)
def B_X3_trace_42 (x3 : Int32)  (Q : Int32 → pz_H → Prop) (h : pz_H) : Prop := (Q x3 h)
set_option maxHeartbeats 4000000 in
set_option maxRecDepth 100000 in
theorem kB_X3_trace_42 (X : pz_X) (d : Nat) (x3 : Int32)   (Q : Int32 → pz_H → Prop) (h : pz_H)  (hf : B_X3_trace_42 x3  Q h) : pz_W (fun _ => True) X M_X3_trace (d + 0) 42 [(3, .int x3)] [] h 0 0 (pq_qI Q) := by
  unfold B_X3_trace_42 at hf
  refine pz_iload_n dX3_trace_42 rfl ?_
  exact pz_ireturn dX3_trace_43 rfl rfl ⟨_, rfl, hf⟩
def L_X3_trace_5 (a0 : Nat) (x1 : Int32) (a2 : Nat)  (Q : Int32 → pz_H → Prop) : Nat → Int32 → Int32 → pz_H → Prop
  | 0, _, _, _ => False
  | n + 1, x3, x4, h => (pq_br (x4 = x1) (B_X3_trace_42 x3 Q h) (pq_len h a2 (fun v1 => (pq_br (v1 ≤ x3) (B_X3_trace_42 x3 Q h) (pq_gA h a0 3 1 (fun b2 => (pq_aI h b2 x4 (fun v3 => (pq_sI h a2 x3 v3 (fun h4 => (pq_gA h4 a0 3 2 (fun b5 => (pq_aI h4 b5 x4 (fun v6 => (L_X3_trace_5 a0 x1 a2 Q n (x3 + (1 : Int32)) v6 h4)))))))))))))))
set_option maxHeartbeats 4000000 in
set_option maxRecDepth 100000 in
theorem kL_X3_trace_5 (X : pz_X) (d : Nat) (a0 : Nat) (x1 : Int32) (a2 : Nat)   (Q : Int32 → pz_H → Prop)  : ∀ (n : Nat) (x3 : Int32) (x4 : Int32) (h : pz_H), L_X3_trace_5 a0 x1 a2  Q n x3 x4 h → pz_W (fun _ => True) X M_X3_trace (d + 0) 5 [(0, .ref a0), (1, .int x1), (2, .ref a2), (3, .int x3), (4, .int x4)] [] h 0 0 (pq_qI Q) := by
  intro n
  induction n with
  | zero =>
    intro _ _ _ hf
    exact False.elim hf
  | succ n ih =>
    intro x3 x4 h hf
    unfold L_X3_trace_5 at hf
    refine pz_iload dX3_trace_5 rfl ?_
    refine pz_iload_n dX3_trace_7 rfl ?_
    obtain ⟨ha, hb⟩ := hf
    refine pz_icmp_eq dX3_trace_8 (tgt := 42) (by decide) (fun cc => ?_) (fun cc => ?_)
    · have hf := ha cc
      exact pz_drop (pz_part_of [3] rfl) (kB_X3_trace_42 X d _ _ _  hf)
    · have hf := hb cc
      refine pz_iload_n dX3_trace_11 rfl ?_
      refine pz_aload_n dX3_trace_12 rfl ?_
      obtain ⟨_, _, _, h1, h2, hf⟩ := hf
      refine pz_alen dX3_trace_13 h1 h2 rfl ?_
      obtain ⟨ha, hb⟩ := hf
      refine pz_icmp_ge dX3_trace_14 (tgt := 42) (by decide) (fun cc => ?_) (fun cc => ?_)
      · have hf := ha cc
        exact pz_drop (pz_part_of [3] rfl) (kB_X3_trace_42 X d _ _ _  hf)
      · have hf := hb cc
        refine pz_aload_n dX3_trace_17 rfl ?_
        refine pz_iload_n dX3_trace_18 rfl ?_
        refine pz_aload_n dX3_trace_19 rfl ?_
        obtain ⟨_, b2, h1, h2, hf⟩ := hf
        refine pz_get dX3_trace_20 fl_X3_15 h1 h2 ?_
        refine pz_iload dX3_trace_23 rfl ?_
        obtain ⟨_, _, h1, h2, hf⟩ := hf
        refine pz_iald dX3_trace_25 h1 h2 ?_
        obtain ⟨_, _, h1, h2, hf⟩ := hf
        refine pz_iast dX3_trace_26 h1 h2 ?_
        refine pz_iinc dX3_trace_27 rfl (by rfl) (by decide) rfl ?_
        refine pz_aload_n dX3_trace_30 rfl ?_
        obtain ⟨_, b5, h1, h2, hf⟩ := hf
        refine pz_get dX3_trace_31 fl_X3_18 h1 h2 ?_
        refine pz_iload dX3_trace_34 rfl ?_
        obtain ⟨_, _, h1, h2, hf⟩ := hf
        refine pz_iald dX3_trace_36 h1 h2 ?_
        refine pz_istore dX3_trace_37 (by decide) rfl ?_
        refine pz_goto dX3_trace_39 (tgt := 5) (by decide) ?_
        exact pz_drop (pz_part_of [0, 1, 2, 3, 4] rfl) (ih _ _ _ hf)
def F_X3_trace (a0 : Nat) (x1 : Int32) (a2 : Nat) (h : pz_H) (Q : Int32 → pz_H → Prop) : Prop := (pq_ex (fun m5 => L_X3_trace_5 a0 x1 a2 Q m5 (0 : Int32) (0 : Int32) h))
set_option maxHeartbeats 4000000 in
set_option maxRecDepth 100000 in
theorem k_X3_trace (X : pz_X) (d : Nat) (a0 : Nat) (x1 : Int32) (a2 : Nat) (h : pz_H) (Q : Int32 → pz_H → Prop) (hf : F_X3_trace a0 x1 a2 h Q) : pz_Call X M_X3_trace (d + 0) 0 0 [.ref a0, .int x1, .ref a2] h (pq_qI Q) := by
  refine pz_call_of (by decide +kernel) (Nat.le_of_ble_eq_true rfl) ?_
  unfold F_X3_trace at hf
  refine pz_iconst (v := (0 : Int32)) dX3_trace_0 (by decide) ?_
  refine pz_istore_n dX3_trace_1 rfl (by decide) rfl ?_
  refine pz_iconst (v := (0 : Int32)) dX3_trace_2 (by decide) ?_
  refine pz_istore dX3_trace_3 (by decide) rfl ?_
  obtain ⟨n9, hf⟩ := hf
  exact pz_drop (pz_part_of [0, 1, 2, 3, 4] rfl) (kL_X3_trace_5 X d _ _ _ _  n9 _ _ _ hf)
