def F_X2_init (a0 : Nat) (h : pz_H) (Q : pz_H → Prop) : Prop := (pq_p h a0 2 0 .null (fun h1 => (pq_n h1 (.inl (0, 9, .inl (fun _ => 0))) (fun q2 h3 => (pq_p h3 a0 2 1 (.ref q2) (fun h4 => (pq_n h4 (.inl (0, 9, .inl (fun _ => 0))) (fun q5 h6 => (pq_p h6 a0 2 2 (.ref q5) (fun h7 => (pq_p h7 a0 2 3 (.int (0 : Int32)) (fun h8 => (pq_p h8 a0 2 4 (.int (0 : Int32)) (fun h9 => (pq_n h9 (.inl (0, 9, .inl (fun _ => 0))) (fun q10 h11 => (pq_p h11 a0 2 5 (.ref q10) (fun h12 => (pq_p h12 a0 2 6 (.int (0 : Int32)) (fun h13 => (pq_n h13 (.inl (0, 10, .inl (fun _ => 0))) (fun q14 h15 => (pq_p h15 a0 2 7 (.ref q14) (fun h16 => (pq_n h16 (.inl (0, 10, .inl (fun _ => 0))) (fun q17 h18 => (pq_p h18 a0 2 8 (.ref q17) (fun h19 => (pq_p h19 a0 2 9 (.int (0 : Int32)) (fun h20 => (Q h20)))))))))))))))))))))))))))))))
set_option maxHeartbeats 4000000 in
set_option maxRecDepth 100000 in
theorem k_X2_init (X : pz_X) (d : Nat) (a0 : Nat) (h : pz_H) (Q : pz_H → Prop) (hf : F_X2_init a0 h Q) : pz_Call X M_X2_init (d + 1) 5 47 [.ref a0] h (pq_qV Q) := by
  refine pz_call_of (by decide +kernel) (Nat.le_of_ble_eq_true rfl) ?_
  unfold F_X2_init at hf
  refine pz_aload_n dX2_init_0 rfl ?_
  refine pz_objInit dX2_init_1 ml_X2_3 mi_obj mc_obj (Nat.le_of_ble_eq_true rfl) ?_
  refine pz_aload_n dX2_init_4 rfl ?_
  refine pz_null dX2_init_5 ?_
  obtain ⟨_, h1, h2, hf⟩ := hf
  refine pz_put dX2_init_6 fp_X2_9 h1 rfl rfl h2 ?_
  refine pz_aload_n dX2_init_9 rfl ?_
  refine pz_bipush (v := (9 : Int32)) dX2_init_10 (by decide) ?_
  refine pz_newa (t := 0) (N := 9) (rc := 4) (rs := 38) dX2_init_12 rfl (fun _ _ h => h) ca_int (fun cA => pq_z0 cA 9) (by decide) (by decide +kernel) (by decide) (fun hfr => ?_)
  have hf := hf hfr
  obtain ⟨_, h1, h2, hf⟩ := hf
  refine pz_putF dX2_init_14 fp_X2_15 rfl h1 rfl rfl h2 ?_
  refine pz_aload_n dX2_init_17 rfl ?_
  refine pz_bipush (v := (9 : Int32)) dX2_init_18 (by decide) ?_
  refine pz_newa (t := 0) (N := 9) (rc := 3) (rs := 29) dX2_init_20 rfl (fun _ _ h => h) ca_int (fun cA => pq_z0 cA 9) (by decide) (by decide +kernel) (by decide) (fun hfr => ?_)
  have hf := hf hfr
  obtain ⟨_, h1, h2, hf⟩ := hf
  refine pz_putF dX2_init_22 fp_X2_19 rfl h1 rfl rfl h2 ?_
  refine pz_aload_n dX2_init_25 rfl ?_
  refine pz_iconst (v := (0 : Int32)) dX2_init_26 (by decide) ?_
  obtain ⟨_, h1, h2, hf⟩ := hf
  refine pz_put dX2_init_27 fp_X2_22 h1 rfl rfl h2 ?_
  refine pz_aload_n dX2_init_30 rfl ?_
  refine pz_iconst (v := (0 : Int32)) dX2_init_31 (by decide) ?_
  obtain ⟨_, h1, h2, hf⟩ := hf
  refine pz_put dX2_init_32 fp_X2_26 h1 rfl rfl h2 ?_
  refine pz_aload_n dX2_init_35 rfl ?_
  refine pz_bipush (v := (9 : Int32)) dX2_init_36 (by decide) ?_
  refine pz_newa (t := 0) (N := 9) (rc := 2) (rs := 20) dX2_init_38 rfl (fun _ _ h => h) ca_int (fun cA => pq_z0 cA 9) (by decide) (by decide +kernel) (by decide) (fun hfr => ?_)
  have hf := hf hfr
  obtain ⟨_, h1, h2, hf⟩ := hf
  refine pz_putF dX2_init_40 fp_X2_29 rfl h1 rfl rfl h2 ?_
  refine pz_aload_n dX2_init_43 rfl ?_
  refine pz_iconst (v := (0 : Int32)) dX2_init_44 (by decide) ?_
  obtain ⟨_, h1, h2, hf⟩ := hf
  refine pz_put dX2_init_45 fp_X2_32 h1 rfl rfl h2 ?_
  refine pz_aload_n dX2_init_48 rfl ?_
  refine pz_bipush (v := (10 : Int32)) dX2_init_49 (by decide) ?_
  refine pz_newa (t := 0) (N := 10) (rc := 1) (rs := 10) dX2_init_51 rfl (fun _ _ h => h) ca_int (fun cA => pq_z0 cA 10) (by decide) (by decide +kernel) (by decide) (fun hfr => ?_)
  have hf := hf hfr
  obtain ⟨_, h1, h2, hf⟩ := hf
  refine pz_putF dX2_init_53 fp_X2_35 rfl h1 rfl rfl h2 ?_
  refine pz_aload_n dX2_init_56 rfl ?_
  refine pz_bipush (v := (10 : Int32)) dX2_init_57 (by decide) ?_
  refine pz_newa (t := 0) (N := 10) (rc := 0) (rs := 0) dX2_init_59 rfl (fun _ _ h => h) ca_int (fun cA => pq_z0 cA 10) (by decide) (by decide +kernel) (by decide) (fun hfr => ?_)
  have hf := hf hfr
  obtain ⟨_, h1, h2, hf⟩ := hf
  refine pz_putF dX2_init_61 fp_X2_38 rfl h1 rfl rfl h2 ?_
  refine pz_aload_n dX2_init_64 rfl ?_
  refine pz_iconst (v := (0 : Int32)) dX2_init_65 (by decide) ?_
  obtain ⟨_, h1, h2, hf⟩ := hf
  refine pz_put dX2_init_66 fp_X2_41 h1 rfl rfl h2 ?_
  exact pz_return dX2_init_69 rfl ⟨rfl, hf⟩
def B_X2_demandBelow_53   (Q : pz_H → Prop) (h : pz_H) : Prop := (Q h)
set_option maxHeartbeats 4000000 in
set_option maxRecDepth 100000 in
theorem kB_X2_demandBelow_53 (X : pz_X) (d : Nat)    (Q : pz_H → Prop) (h : pz_H)  (hf : B_X2_demandBelow_53   Q h) : pz_W (fun _ => True) X M_X2_demandBelow (d + 1) 53 [] [] h 0 0 (pq_qV Q) := by
  unfold B_X2_demandBelow_53 at hf
  exact pz_return dX2_demandBelow_53 rfl ⟨rfl, hf⟩
def F_X2_demandBelow (a0 : Nat) (x1 : Int32) (x2 : Int32) (h : pz_H) (Q : pz_H → Prop) : Prop := (pq_gN h a0 2 0 (fun r1 => pq_sw r1 (B_X2_demandBelow_53 Q h) (fun w2 => (pq_gN h a0 2 0 (fun r3 => pq_sw r3 False (fun w4 => (pq_o h w4 1 (F_X1_hasFace w4 x1 h (fun v6 h5 => (pq_br (v6 = 0) (B_X2_demandBelow_53 Q h5) (pq_gN h5 a0 2 0 (fun r7 => pq_sw r7 False (fun w8 => (pq_o h5 w8 1 (F_X1_hasFace w8 x2 h5 (fun v10 h9 => (pq_br (v10 = 0) (B_X2_demandBelow_53 Q h9) (pq_gA h9 a0 2 5 (fun b11 => (pq_aI h9 b11 x2 (fun v12 => (pq_sI h9 b11 x2 (v12 ||| ((1 : Int32) <<< (x1 &&& 31))) (fun h13 => (pq_gI h13 a0 2 6 (fun v14 => (pq_p h13 a0 2 6 (.int (v14 ||| ((1 : Int32) <<< (x2 &&& 31)))) (fun h15 => (B_X2_demandBelow_53 Q h15))))))))))))))))))))))))))))
set_option maxHeartbeats 4000000 in
set_option maxRecDepth 100000 in
theorem k_X2_demandBelow (X : pz_X) (d : Nat) (a0 : Nat) (x1 : Int32) (x2 : Int32) (h : pz_H) (Q : pz_H → Prop) (hf : F_X2_demandBelow a0 x1 x2 h Q) : pz_Call X M_X2_demandBelow (d + 1) 0 0 [.ref a0, .int x1, .int x2] h (pq_qV Q) := by
  refine pz_call_of (by decide +kernel) (Nat.le_of_ble_eq_true rfl) ?_
  unfold F_X2_demandBelow at hf
  refine pz_aload_n dX2_demandBelow_0 rfl ?_
  obtain ⟨_, r1, h1, h2, hf⟩ := hf
  refine pz_get dX2_demandBelow_1 fl_X2_9 h1 h2 ?_
  rcases r1 with _ | w2
  · refine pz_ifnullN dX2_demandBelow_4 (tgt := 53) (by decide) ?_
    exact pz_drop (pz_part_of [] rfl) (kB_X2_demandBelow_53 X d _ _  hf)
  · refine pz_ifnull dX2_demandBelow_4 ?_
    refine pz_aload_n dX2_demandBelow_7 rfl ?_
    obtain ⟨_, r3, h1, h2, hf⟩ := hf
    refine pz_get dX2_demandBelow_8 fl_X2_9 h1 h2 ?_
    rcases r3 with _ | w4
    · refine pz_iload_n dX2_demandBelow_11 rfl ?_
      exact False.elim hf
    · refine pz_iload_n dX2_demandBelow_11 rfl ?_
      obtain ⟨_, hO, hf⟩ := hf
      refine pz_callV1 (rc := 0) (rs := 0) (mc := 0) (ms := 0) dX2_demandBelow_12 (k_X1_hasFace X d _ _ _ _ hf) (Nat.le_of_ble_eq_true rfl) mf_X1_hasFace ml_X2_87 hO rfl mi_X1_hasFace ms_X1_hasFace (fun _ h9 hq => ?_)
      obtain ⟨_, rfl, hf⟩ := hq
      obtain ⟨ha, hb⟩ := hf
      refine pz_if_eq dX2_demandBelow_15 (tgt := 53) (by decide) (fun cc => ?_) (fun cc => ?_)
      · have hf := ha cc
        exact pz_drop (pz_part_of [] rfl) (kB_X2_demandBelow_53 X d _ _  hf)
      · have hf := hb cc
        refine pz_aload_n dX2_demandBelow_18 rfl ?_
        obtain ⟨_, r7, h1, h2, hf⟩ := hf
        refine pz_get dX2_demandBelow_19 fl_X2_9 h1 h2 ?_
        rcases r7 with _ | w8
        · refine pz_iload_n dX2_demandBelow_22 rfl ?_
          exact False.elim hf
        · refine pz_iload_n dX2_demandBelow_22 rfl ?_
          obtain ⟨_, hO, hf⟩ := hf
          refine pz_callV1 (rc := 0) (rs := 0) (mc := 0) (ms := 0) dX2_demandBelow_23 (k_X1_hasFace X d _ _ _ _ hf) (Nat.le_of_ble_eq_true rfl) mf_X1_hasFace ml_X2_87 hO rfl mi_X1_hasFace ms_X1_hasFace (fun _ h9 hq => ?_)
          obtain ⟨_, rfl, hf⟩ := hq
          obtain ⟨ha, hb⟩ := hf
          refine pz_if_eq dX2_demandBelow_26 (tgt := 53) (by decide) (fun cc => ?_) (fun cc => ?_)
          · have hf := ha cc
            exact pz_drop (pz_part_of [] rfl) (kB_X2_demandBelow_53 X d _ _  hf)
          · have hf := hb cc
            refine pz_aload_n dX2_demandBelow_29 rfl ?_
            obtain ⟨_, b11, h1, h2, hf⟩ := hf
            refine pz_get dX2_demandBelow_30 fl_X2_29 h1 h2 ?_
            refine pz_iload_n dX2_demandBelow_33 rfl ?_
            refine pz_dup2 dX2_demandBelow_34 rfl rfl ?_
            obtain ⟨_, _, h1, h2, hf⟩ := hf
            refine pz_iald dX2_demandBelow_35 h1 h2 ?_
            refine pz_iconst (v := (1 : Int32)) dX2_demandBelow_36 (by decide) ?_
            refine pz_iload_n dX2_demandBelow_37 rfl ?_
            refine pz_ishl dX2_demandBelow_38 ?_
            refine pz_ior dX2_demandBelow_39 ?_
            obtain ⟨_, _, h1, h2, hf⟩ := hf
            refine pz_iast dX2_demandBelow_40 h1 h2 ?_
            refine pz_aload_n dX2_demandBelow_41 rfl ?_
            refine pz_dup dX2_demandBelow_42 rfl ?_
            obtain ⟨_, v14, h1, h2, hf⟩ := hf
            refine pz_get dX2_demandBelow_43 fl_X2_32 h1 h2 ?_
            refine pz_iconst (v := (1 : Int32)) dX2_demandBelow_46 (by decide) ?_
            refine pz_iload_n dX2_demandBelow_47 rfl ?_
            refine pz_ishl dX2_demandBelow_48 ?_
            refine pz_ior dX2_demandBelow_49 ?_
            obtain ⟨_, h1, h2, hf⟩ := hf
            refine pz_put dX2_demandBelow_50 fp_X2_32 h1 rfl rfl h2 ?_
            exact pz_drop (pz_part_of [] rfl) (kB_X2_demandBelow_53 X d _ _  hf)
def B_X2_demandTurn_17   (Q : pz_H → Prop) (h : pz_H) : Prop := (Q h)
set_option maxHeartbeats 4000000 in
set_option maxRecDepth 100000 in
theorem kB_X2_demandTurn_17 (X : pz_X) (d : Nat)    (Q : pz_H → Prop) (h : pz_H)  (hf : B_X2_demandTurn_17   Q h) : pz_W (fun _ => True) X M_X2_demandTurn (d + 2) 17 [] [] h 0 0 (pq_qV Q) := by
  unfold B_X2_demandTurn_17 at hf
  exact pz_return dX2_demandTurn_17 rfl ⟨rfl, hf⟩
def B_X2_demandTurn_72   (Q : pz_H → Prop) (h : pz_H) : Prop := (Q h)
set_option maxHeartbeats 4000000 in
set_option maxRecDepth 100000 in
theorem kB_X2_demandTurn_72 (X : pz_X) (d : Nat)    (Q : pz_H → Prop) (h : pz_H)  (hf : B_X2_demandTurn_72   Q h) : pz_W (fun _ => True) X M_X2_demandTurn (d + 2) 72 [] [] h 0 0 (pq_qV Q) := by
  unfold B_X2_demandTurn_72 at hf
  exact pz_return dX2_demandTurn_72 rfl ⟨rfl, hf⟩
def B_X2_demandTurn_50 (a0 : Nat) (x4 : Int32) (x5 : Int32) (xs0 : Int32) (xs1 : Int32)  (Q : pz_H → Prop) (h : pz_H) : Prop := (pq_br (xs0 = xs1) (pq_o h a0 2 (F_X2_demandBelow a0 x4 x5 h (fun h2 => (B_X2_demandTurn_72 Q h2)))) (pq_o h a0 2 (F_X2_demandBelow a0 x5 x4 h (fun h1 => (B_X2_demandTurn_72 Q h1)))))
set_option maxHeartbeats 4000000 in
set_option maxRecDepth 100000 in
theorem kB_X2_demandTurn_50 (X : pz_X) (d : Nat) (a0 : Nat) (x4 : Int32) (x5 : Int32) (xs0 : Int32) (xs1 : Int32)   (Q : pz_H → Prop) (h : pz_H)  (hf : B_X2_demandTurn_50 a0 x4 x5 xs0 xs1  Q h) : pz_W (fun _ => True) X M_X2_demandTurn (d + 2) 50 [(0, .ref a0), (4, .int x4), (5, .int x5)] [.int xs1, .int xs0] h 0 0 (pq_qV Q) := by
  unfold B_X2_demandTurn_50 at hf
  obtain ⟨ha, hb⟩ := hf
  refine pz_icmp_ne dX2_demandTurn_50 (tgt := 64) (by decide) (fun cc => ?_) (fun cc => ?_)
  · have hf := hb cc
    refine pz_aload_n dX2_demandTurn_64 rfl ?_
    refine pz_iload dX2_demandTurn_65 rfl ?_
    refine pz_iload dX2_demandTurn_67 rfl ?_
    obtain ⟨_, hO, hf⟩ := hf
    refine pz_callV2 (rc := 0) (rs := 0) (mc := 0) (ms := 0) dX2_demandTurn_69 (k_X2_demandBelow X d _ _ _ _ _ hf) (Nat.le_of_ble_eq_true rfl) mf_X2_demandBelow ml_X2_84 hO rfl mi_X2_demandBelow ms_X2_demandBelow (fun _ h9 hq => ?_)
    obtain ⟨rfl, hf⟩ := hq
    exact pz_drop (pz_part_of [] rfl) (kB_X2_demandTurn_72 X d _ _  hf)
  · have hf := ha cc
    refine pz_aload_n dX2_demandTurn_53 rfl ?_
    refine pz_iload dX2_demandTurn_54 rfl ?_
    refine pz_iload dX2_demandTurn_56 rfl ?_
    obtain ⟨_, hO, hf⟩ := hf
    refine pz_callV2 (rc := 0) (rs := 0) (mc := 0) (ms := 0) dX2_demandTurn_58 (k_X2_demandBelow X d _ _ _ _ _ hf) (Nat.le_of_ble_eq_true rfl) mf_X2_demandBelow ml_X2_84 hO rfl mi_X2_demandBelow ms_X2_demandBelow (fun _ h9 hq => ?_)
    obtain ⟨rfl, hf⟩ := hq
    refine pz_goto dX2_demandTurn_61 (tgt := 72) (by decide) ?_
    exact pz_drop (pz_part_of [] rfl) (kB_X2_demandTurn_72 X d _ _  hf)
def F_X2_demandTurn (a0 : Nat) (x1 : Int32) (x2 : Int32) (h : pz_H) (Q : pz_H → Prop) : Prop := (pq_gN h a0 2 0 (fun r3 => pq_sw r3 (B_X2_demandTurn_17 Q h) (fun w4 => (pq_o h w4 1 (F_X1_hasCrease w4 x1 h (fun v6 h5 => (pq_br (v6 = 0) (B_X2_demandTurn_17 Q h5) (pq_gA h5 w4 1 9 (fun b7 => (pq_aI h5 b7 x1 (fun v8 => (pq_gA h5 w4 1 10 (fun b9 => (pq_aI h5 b9 x1 (fun v10 => (pq_o h5 w4 1 (F_X1_isFrontUp w4 v8 h5 (fun v12 h11 => (pq_br (x2 = (2 : Int32)) (B_X2_demandTurn_50 a0 v8 v10 v12 (1 : Int32) Q h11) (B_X2_demandTurn_50 a0 v8 v10 v12 (0 : Int32) Q h11))))))))))))))))))))
set_option maxHeartbeats 4000000 in
set_option maxRecDepth 100000 in
theorem k_X2_demandTurn (X : pz_X) (d : Nat) (a0 : Nat) (x1 : Int32) (x2 : Int32) (h : pz_H) (Q : pz_H → Prop) (hf : F_X2_demandTurn a0 x1 x2 h Q) : pz_Call X M_X2_demandTurn (d + 2) 0 0 [.ref a0, .int x1, .int x2] h (pq_qV Q) := by
  refine pz_call_of (by decide +kernel) (Nat.le_of_ble_eq_true rfl) ?_
  unfold F_X2_demandTurn at hf
  refine pz_aload_n dX2_demandTurn_0 rfl ?_
  obtain ⟨_, r3, h1, h2, hf⟩ := hf
  refine pz_get dX2_demandTurn_1 fl_X2_9 h1 h2 ?_
  rcases r3 with _ | w4
  · refine pz_astore_nN dX2_demandTurn_4 rfl (by decide) rfl ?_
    refine pz_aload_nN dX2_demandTurn_5 rfl ?_
    refine pz_ifnullN dX2_demandTurn_6 (tgt := 17) (by decide) ?_
    exact pz_drop (pz_part_of [] rfl) (kB_X2_demandTurn_17 X d _ _  hf)
  · refine pz_astore_n dX2_demandTurn_4 rfl (by decide) rfl ?_
    refine pz_aload_n dX2_demandTurn_5 rfl ?_
    refine pz_ifnull dX2_demandTurn_6 ?_
    refine pz_aload_n dX2_demandTurn_9 rfl ?_
    refine pz_iload_n dX2_demandTurn_10 rfl ?_
    obtain ⟨_, hO, hf⟩ := hf
    refine pz_callV1 (rc := 0) (rs := 0) (mc := 0) (ms := 0) dX2_demandTurn_11 (k_X1_hasCrease X (d + 1) _ _ _ _ hf) (Nat.le_of_ble_eq_true rfl) mf_X1_hasCrease ml_X2_71 hO rfl mi_X1_hasCrease ms_X1_hasCrease (fun _ h9 hq => ?_)
    obtain ⟨_, rfl, hf⟩ := hq
    obtain ⟨ha, hb⟩ := hf
    refine pz_if_ne dX2_demandTurn_14 (tgt := 18) (by decide) (fun cc => ?_) (fun cc => ?_)
    · have hf := hb cc
      refine pz_aload_n dX2_demandTurn_18 rfl ?_
      obtain ⟨_, b7, h1, h2, hf⟩ := hf
      refine pz_get dX2_demandTurn_19 fl_X2_75 h1 h2 ?_
      refine pz_iload_n dX2_demandTurn_22 rfl ?_
      obtain ⟨_, _, h1, h2, hf⟩ := hf
      refine pz_iald dX2_demandTurn_23 h1 h2 ?_
      refine pz_istore dX2_demandTurn_24 (by decide) rfl ?_
      refine pz_aload_n dX2_demandTurn_26 rfl ?_
      obtain ⟨_, b9, h1, h2, hf⟩ := hf
      refine pz_get dX2_demandTurn_27 fl_X2_78 h1 h2 ?_
      refine pz_iload_n dX2_demandTurn_30 rfl ?_
      obtain ⟨_, _, h1, h2, hf⟩ := hf
      refine pz_iald dX2_demandTurn_31 h1 h2 ?_
      refine pz_istore dX2_demandTurn_32 (by decide) rfl ?_
      refine pz_aload_n dX2_demandTurn_34 rfl ?_
      refine pz_iload dX2_demandTurn_35 rfl ?_
      obtain ⟨_, hO, hf⟩ := hf
      refine pz_callV1 (rc := 0) (rs := 0) (mc := 0) (ms := 0) dX2_demandTurn_37 (k_X1_isFrontUp X (d + 1) _ _ _ _ hf) (Nat.le_of_ble_eq_true rfl) mf_X1_isFrontUp ml_X2_81 hO rfl mi_X1_isFrontUp ms_X1_isFrontUp (fun _ h9 hq => ?_)
      obtain ⟨_, rfl, hf⟩ := hq
      refine pz_iload_n dX2_demandTurn_40 rfl ?_
      refine pz_iconst (v := (2 : Int32)) dX2_demandTurn_41 (by decide) ?_
      obtain ⟨ha, hb⟩ := hf
      refine pz_icmp_ne dX2_demandTurn_42 (tgt := 49) (by decide) (fun cc => ?_) (fun cc => ?_)
      · have hf := hb cc
        refine pz_iconst (v := (0 : Int32)) dX2_demandTurn_49 (by decide) ?_
        exact pz_drop (pz_part_of [0, 4, 5] rfl) (kB_X2_demandTurn_50 X d _ _ _ _ _ _ _  hf)
      · have hf := ha cc
        refine pz_iconst (v := (1 : Int32)) dX2_demandTurn_45 (by decide) ?_
        refine pz_goto dX2_demandTurn_46 (tgt := 50) (by decide) ?_
        exact pz_drop (pz_part_of [0, 4, 5] rfl) (kB_X2_demandTurn_50 X d _ _ _ _ _ _ _  hf)
    · have hf := ha cc
      exact pz_drop (pz_part_of [] rfl) (kB_X2_demandTurn_17 X d _ _  hf)
def B_X2_beginWith_78 (a0 : Nat) (a1 : Nat) (x2 : Int32) (x3 : Int32) (k42 : Int32 → pz_H → Prop) (Q : pz_H → Prop) (h : pz_H) : Prop := (k42 (x3 + (1 : Int32)) h)
set_option maxHeartbeats 4000000 in
set_option maxRecDepth 100000 in
theorem kB_X2_beginWith_78 (X : pz_X) (d : Nat) (a0 : Nat) (a1 : Nat) (x2 : Int32) (x3 : Int32)  (k42 : Int32 → pz_H → Prop) (Q : pz_H → Prop) (h : pz_H) (hk42 : ∀ (x3 : Int32) (h : pz_H), k42 x3 h → pz_W (fun _ => True) X M_X2_beginWith (d + 3) 42 [(0, .ref a0), (1, .ref a1), (2, .int x2), (3, .int x3)] [] h 0 0 (pq_qV Q)) (hf : B_X2_beginWith_78 a0 a1 x2 x3 k42 Q h) : pz_W (fun _ => True) X M_X2_beginWith (d + 3) 78 [(0, .ref a0), (1, .ref a1), (2, .int x2), (3, .int x3)] [] h 0 0 (pq_qV Q) := by
  unfold B_X2_beginWith_78 at hf
  refine pz_iinc dX2_beginWith_78 rfl (by rfl) (by decide) rfl ?_
  refine pz_goto dX2_beginWith_81 (tgt := 42) (by decide) ?_
  exact pz_drop (pz_part_of [0, 1, 2, 3] rfl) (hk42 _ _ hf)
def L_X2_beginWith_42 (a0 : Nat) (a1 : Nat) (x2 : Int32)  (Q : pz_H → Prop) : Nat → Int32 → pz_H → Prop
  | 0, _, _ => False
  | n + 1, x3, h => (pq_gI h a1 1 4 (fun v1 => (pq_br (v1 ≤ x3) (Q h) (F_X4_has x2 x3 h (fun v3 h2 => (pq_br (v3 = 0) (B_X2_beginWith_78 a0 a1 x2 x3 (fun z0 hz => L_X2_beginWith_42 a0 a1 x2 Q n z0 hz) Q h2) (pq_gA h2 a1 1 12 (fun b4 => (pq_aI h2 b4 x3 (fun v5 => (pq_br (v5 = 0) (B_X2_beginWith_78 a0 a1 x2 x3 (fun z0 hz => L_X2_beginWith_42 a0 a1 x2 Q n z0 hz) Q h2) (pq_gA h2 a1 1 12 (fun b6 => (pq_aI h2 b6 x3 (fun v7 => (pq_o h2 a0 2 (F_X2_demandTurn a0 x3 v7 h2 (fun h8 => (B_X2_beginWith_78 a0 a1 x2 x3 (fun z0 hz => L_X2_beginWith_42 a0 a1 x2 Q n z0 hz) Q h8)))))))))))))))))))
set_option maxHeartbeats 4000000 in
set_option maxRecDepth 100000 in
theorem kL_X2_beginWith_42 (X : pz_X) (d : Nat) (a0 : Nat) (a1 : Nat) (x2 : Int32)   (Q : pz_H → Prop)  : ∀ (n : Nat) (x3 : Int32) (h : pz_H), L_X2_beginWith_42 a0 a1 x2  Q n x3 h → pz_W (fun _ => True) X M_X2_beginWith (d + 3) 42 [(0, .ref a0), (1, .ref a1), (2, .int x2), (3, .int x3)] [] h 0 0 (pq_qV Q) := by
  intro n
  induction n with
  | zero =>
    intro _ _ hf
    exact False.elim hf
  | succ n ih =>
    intro x3 h hf
    unfold L_X2_beginWith_42 at hf
    refine pz_iload_n dX2_beginWith_42 rfl ?_
    refine pz_aload_n dX2_beginWith_43 rfl ?_
    obtain ⟨_, v1, h1, h2, hf⟩ := hf
    refine pz_get dX2_beginWith_44 fl_X2_55 h1 h2 ?_
    obtain ⟨ha, hb⟩ := hf
    refine pz_icmp_ge dX2_beginWith_47 (tgt := 84) (by decide) (fun cc => ?_) (fun cc => ?_)
    · have hf := ha cc
      exact pz_return dX2_beginWith_84 rfl ⟨rfl, hf⟩
    · have hf := hb cc
      refine pz_iload_n dX2_beginWith_50 rfl ?_
      refine pz_iload_n dX2_beginWith_51 rfl ?_
      refine pz_callSN2 (rc := 0) (rs := 0) (mc := 0) (ms := 0) dX2_beginWith_52 (k_X4_has X (d + 2) _ _ _ _ hf) (Nat.le_of_ble_eq_true rfl) mf_X4_has ml_X2_60 mt_X4_has (fun _ h9 hq => ?_)
      obtain ⟨_, rfl, hf⟩ := hq
      obtain ⟨ha, hb⟩ := hf
      refine pz_if_eq dX2_beginWith_55 (tgt := 78) (by decide) (fun cc => ?_) (fun cc => ?_)
      · have hf := ha cc
        exact pz_drop (pz_part_of [0, 1, 2, 3] rfl) (kB_X2_beginWith_78 X d _ _ _ _ _ _ _ ih hf)
      · have hf := hb cc
        refine pz_aload_n dX2_beginWith_58 rfl ?_
        obtain ⟨_, b4, h1, h2, hf⟩ := hf
        refine pz_get dX2_beginWith_59 fl_X2_64 h1 h2 ?_
        refine pz_iload_n dX2_beginWith_62 rfl ?_
        obtain ⟨_, _, h1, h2, hf⟩ := hf
        refine pz_iald dX2_beginWith_63 h1 h2 ?_
        obtain ⟨ha, hb⟩ := hf
        refine pz_if_eq dX2_beginWith_64 (tgt := 78) (by decide) (fun cc => ?_) (fun cc => ?_)
        · have hf := ha cc
          exact pz_drop (pz_part_of [0, 1, 2, 3] rfl) (kB_X2_beginWith_78 X d _ _ _ _ _ _ _ ih hf)
        · have hf := hb cc
          refine pz_aload_n dX2_beginWith_67 rfl ?_
          refine pz_iload_n dX2_beginWith_68 rfl ?_
          refine pz_aload_n dX2_beginWith_69 rfl ?_
          obtain ⟨_, b6, h1, h2, hf⟩ := hf
          refine pz_get dX2_beginWith_70 fl_X2_64 h1 h2 ?_
          refine pz_iload_n dX2_beginWith_73 rfl ?_
          obtain ⟨_, _, h1, h2, hf⟩ := hf
          refine pz_iald dX2_beginWith_74 h1 h2 ?_
          obtain ⟨_, hO, hf⟩ := hf
          refine pz_callV2 (rc := 0) (rs := 0) (mc := 0) (ms := 0) dX2_beginWith_75 (k_X2_demandTurn X d _ _ _ _ _ hf) (Nat.le_of_ble_eq_true rfl) mf_X2_demandTurn ml_X2_67 hO rfl mi_X2_demandTurn ms_X2_demandTurn (fun _ h9 hq => ?_)
          obtain ⟨rfl, hf⟩ := hq
          exact pz_drop (pz_part_of [0, 1, 2, 3] rfl) (kB_X2_beginWith_78 X d _ _ _ _ _ _ _ ih hf)
def F_X2_beginWith (a0 : Nat) (a1 : Nat) (x2 : Int32) (h : pz_H) (Q : pz_H → Prop) : Prop := (pq_p h a0 2 0 (.ref a1) (fun h9 => (pq_p h9 a0 2 3 (.int (0 : Int32)) (fun h10 => (pq_p h10 a0 2 4 (.int (0 : Int32)) (fun h11 => (pq_gA h11 a0 2 7 (fun b12 => (pq_sI h11 b12 (0 : Int32) (0 : Int32) (fun h13 => (pq_p h13 a0 2 9 (.int (0 : Int32)) (fun h14 => (pq_gA h14 a0 2 5 (fun b15 => (F_J7_fill_53178 b15 (0 : Int32) h14 (fun h16 => (pq_p h16 a0 2 6 (.int (0 : Int32)) (fun h17 => (pq_ex (fun m42 => L_X2_beginWith_42 a0 a1 x2 Q m42 (0 : Int32) h17))))))))))))))))))))
set_option maxHeartbeats 4000000 in
set_option maxRecDepth 100000 in
theorem k_X2_beginWith (X : pz_X) (d : Nat) (a0 : Nat) (a1 : Nat) (x2 : Int32) (h : pz_H) (Q : pz_H → Prop) (hf : F_X2_beginWith a0 a1 x2 h Q) : pz_Call X M_X2_beginWith (d + 3) 0 0 [.ref a0, .ref a1, .int x2] h (pq_qV Q) := by
  refine pz_call_of (by decide +kernel) (Nat.le_of_ble_eq_true rfl) ?_
  unfold F_X2_beginWith at hf
  refine pz_aload_n dX2_beginWith_0 rfl ?_
  refine pz_aload_n dX2_beginWith_1 rfl ?_
  obtain ⟨_, h1, h2, hf⟩ := hf
  refine pz_put dX2_beginWith_2 fp_X2_9 h1 rfl rfl h2 ?_
  refine pz_aload_n dX2_beginWith_5 rfl ?_
  refine pz_iconst (v := (0 : Int32)) dX2_beginWith_6 (by decide) ?_
  obtain ⟨_, h1, h2, hf⟩ := hf
  refine pz_put dX2_beginWith_7 fp_X2_22 h1 rfl rfl h2 ?_
  refine pz_aload_n dX2_beginWith_10 rfl ?_
  refine pz_iconst (v := (0 : Int32)) dX2_beginWith_11 (by decide) ?_
  obtain ⟨_, h1, h2, hf⟩ := hf
  refine pz_put dX2_beginWith_12 fp_X2_26 h1 rfl rfl h2 ?_
  refine pz_aload_n dX2_beginWith_15 rfl ?_
  obtain ⟨_, b12, h1, h2, hf⟩ := hf
  refine pz_get dX2_beginWith_16 fl_X2_35 h1 h2 ?_
  refine pz_iconst (v := (0 : Int32)) dX2_beginWith_19 (by decide) ?_
  refine pz_iconst (v := (0 : Int32)) dX2_beginWith_20 (by decide) ?_
  obtain ⟨_, _, h1, h2, hf⟩ := hf
  refine pz_iast dX2_beginWith_21 h1 h2 ?_
  refine pz_aload_n dX2_beginWith_22 rfl ?_
  refine pz_iconst (v := (0 : Int32)) dX2_beginWith_23 (by decide) ?_
  obtain ⟨_, h1, h2, hf⟩ := hf
  refine pz_put dX2_beginWith_24 fp_X2_41 h1 rfl rfl h2 ?_
  refine pz_aload_n dX2_beginWith_27 rfl ?_
  obtain ⟨_, b15, h1, h2, hf⟩ := hf
  refine pz_get dX2_beginWith_28 fl_X2_29 h1 h2 ?_
  refine pz_iconst (v := (0 : Int32)) dX2_beginWith_31 (by decide) ?_
  refine pz_callS2 (rc := 0) (rs := 0) (mc := 0) (ms := 0) dX2_beginWith_32 (k_J7_fill_53178 X (d + 2) _ _ _ _ hf) (Nat.le_of_ble_eq_true rfl) mf_J7_fill_53178 ml_X2_49 mt_J7_fill_53178 (fun _ h9 hq => ?_)
  obtain ⟨rfl, hf⟩ := hq
  refine pz_aload_n dX2_beginWith_35 rfl ?_
  refine pz_iconst (v := (0 : Int32)) dX2_beginWith_36 (by decide) ?_
  obtain ⟨_, h1, h2, hf⟩ := hf
  refine pz_put dX2_beginWith_37 fp_X2_32 h1 rfl rfl h2 ?_
  refine pz_iconst (v := (0 : Int32)) dX2_beginWith_40 (by decide) ?_
  refine pz_istore_n dX2_beginWith_41 rfl (by decide) rfl ?_
  obtain ⟨n9, hf⟩ := hf
  exact pz_drop (pz_part_of [0, 1, 2, 3] rfl) (kL_X2_beginWith_42 X d _ _ _ _  n9 _ _ hf)
def F_X2_begin (a0 : Nat) (a1 : Nat) (h : pz_H) (Q : pz_H → Prop) : Prop := (pq_o h a0 2 (F_X2_beginWith a0 a1 (-1 : Int32) h (fun h1 => (Q h1))))
set_option maxHeartbeats 4000000 in
set_option maxRecDepth 100000 in
theorem k_X2_begin (X : pz_X) (d : Nat) (a0 : Nat) (a1 : Nat) (h : pz_H) (Q : pz_H → Prop) (hf : F_X2_begin a0 a1 h Q) : pz_Call X M_X2_begin (d + 4) 0 0 [.ref a0, .ref a1] h (pq_qV Q) := by
  refine pz_call_of (by decide +kernel) (Nat.le_of_ble_eq_true rfl) ?_
  unfold F_X2_begin at hf
  refine pz_aload_n dX2_begin_0 rfl ?_
  refine pz_aload_n dX2_begin_1 rfl ?_
  refine pz_iconst (v := (-1 : Int32)) dX2_begin_2 (by decide) ?_
  obtain ⟨_, hO, hf⟩ := hf
  refine pz_callV2 (rc := 0) (rs := 0) (mc := 0) (ms := 0) dX2_begin_3 (k_X2_beginWith X d _ _ _ _ _ hf) (Nat.le_of_ble_eq_true rfl) mf_X2_beginWith ml_X2_45 hO rfl mi_X2_beginWith ms_X2_beginWith (fun _ h9 hq => ?_)
  obtain ⟨rfl, hf⟩ := hq
  exact pz_return dX2_begin_6 rfl ⟨rfl, hf⟩
def L_X2_demandsClash_62 (a0 : Nat) (a1 : Nat)  (Q : Int32 → pz_H → Prop) : Nat → Int32 → pz_H → Prop
  | 0, _, _ => False
  | n + 1, x2, h => (pq_gI h a1 1 3 (fun v12 => (pq_br (v12 ≤ x2) (Q (0 : Int32) h) (pq_gA h a0 2 5 (fun b13 => (pq_aI h b13 x2 (fun v14 => (F_X4_has v14 x2 h (fun v16 h15 => (pq_br (v16 = 0) (L_X2_demandsClash_62 a0 a1 Q n (x2 + (1 : Int32)) h15) (Q (1 : Int32) h15)))))))))))
set_option maxHeartbeats 4000000 in
set_option maxRecDepth 100000 in
theorem kL_X2_demandsClash_62 (X : pz_X) (d : Nat) (a0 : Nat) (a1 : Nat)   (Q : Int32 → pz_H → Prop)  : ∀ (n : Nat) (x2 : Int32) (h : pz_H), L_X2_demandsClash_62 a0 a1  Q n x2 h → pz_W (fun _ => True) X M_X2_demandsClash (d + 1) 62 [(0, .ref a0), (1, .ref a1), (2, .int x2)] [] h 0 0 (pq_qI Q) := by
  intro n
  induction n with
  | zero =>
    intro _ _ hf
    exact False.elim hf
  | succ n ih =>
    intro x2 h hf
    unfold L_X2_demandsClash_62 at hf
    refine pz_iload_n dX2_demandsClash_62 rfl ?_
    refine pz_aload_n dX2_demandsClash_63 rfl ?_
    obtain ⟨_, v12, h1, h2, hf⟩ := hf
    refine pz_get dX2_demandsClash_64 fl_X2_110 h1 h2 ?_
    obtain ⟨ha, hb⟩ := hf
    refine pz_icmp_ge dX2_demandsClash_67 (tgt := 91) (by decide) (fun cc => ?_) (fun cc => ?_)
    · have hf := ha cc
      refine pz_iconst (v := (0 : Int32)) dX2_demandsClash_91 (by decide) ?_
      exact pz_ireturn dX2_demandsClash_92 rfl rfl ⟨_, rfl, hf⟩
    · have hf := hb cc
      refine pz_aload_n dX2_demandsClash_70 rfl ?_
      obtain ⟨_, b13, h1, h2, hf⟩ := hf
      refine pz_get dX2_demandsClash_71 fl_X2_29 h1 h2 ?_
      refine pz_iload_n dX2_demandsClash_74 rfl ?_
      obtain ⟨_, _, h1, h2, hf⟩ := hf
      refine pz_iald dX2_demandsClash_75 h1 h2 ?_
      refine pz_iload_n dX2_demandsClash_76 rfl ?_
      refine pz_callSN2 (rc := 0) (rs := 0) (mc := 0) (ms := 0) dX2_demandsClash_77 (k_X4_has X d _ _ _ _ hf) (Nat.le_of_ble_eq_true rfl) mf_X4_has ml_X2_60 mt_X4_has (fun _ h9 hq => ?_)
      obtain ⟨_, rfl, hf⟩ := hq
      obtain ⟨ha, hb⟩ := hf
      refine pz_if_eq dX2_demandsClash_80 (tgt := 85) (by decide) (fun cc => ?_) (fun cc => ?_)
      · have hf := ha cc
        refine pz_iinc dX2_demandsClash_85 rfl (by rfl) (by decide) rfl ?_
        refine pz_goto dX2_demandsClash_88 (tgt := 62) (by decide) ?_
        exact pz_drop (pz_part_of [0, 1, 2] rfl) (ih _ _ hf)
      · have hf := hb cc
        refine pz_iconst (v := (1 : Int32)) dX2_demandsClash_83 (by decide) ?_
        exact pz_ireturn dX2_demandsClash_84 rfl rfl ⟨_, rfl, hf⟩
def B_X2_demandsClash_48 (a0 : Nat) (a1 : Nat) (x2 : Int32) (x3 : Int32) (k2 : Int32 → pz_H → Prop) (k12 : Int32 → pz_H → Prop) (Q : Int32 → pz_H → Prop) (h : pz_H) : Prop := (k12 (x3 + (1 : Int32)) h)
set_option maxHeartbeats 4000000 in
set_option maxRecDepth 100000 in
theorem kB_X2_demandsClash_48 (X : pz_X) (d : Nat) (a0 : Nat) (a1 : Nat) (x2 : Int32) (x3 : Int32)  (k2 : Int32 → pz_H → Prop) (k12 : Int32 → pz_H → Prop) (Q : Int32 → pz_H → Prop) (h : pz_H) (hk2 : ∀ (x2 : Int32) (h : pz_H), k2 x2 h → pz_W (fun _ => True) X M_X2_demandsClash (d + 1) 2 [(0, .ref a0), (1, .ref a1), (2, .int x2)] [] h 0 0 (pq_qI Q)) (hk12 : ∀ (x3 : Int32) (h : pz_H), k12 x3 h → pz_W (fun _ => True) X M_X2_demandsClash (d + 1) 12 [(0, .ref a0), (1, .ref a1), (2, .int x2), (3, .int x3)] [] h 0 0 (pq_qI Q)) (hf : B_X2_demandsClash_48 a0 a1 x2 x3 k2 k12 Q h) : pz_W (fun _ => True) X M_X2_demandsClash (d + 1) 48 [(0, .ref a0), (1, .ref a1), (2, .int x2), (3, .int x3)] [] h 0 0 (pq_qI Q) := by
  unfold B_X2_demandsClash_48 at hf
  refine pz_iinc dX2_demandsClash_48 rfl (by rfl) (by decide) rfl ?_
  refine pz_goto dX2_demandsClash_51 (tgt := 12) (by decide) ?_
  exact pz_drop (pz_part_of [0, 1, 2, 3] rfl) (hk12 _ _ hf)
def L_X2_demandsClash_12 (a0 : Nat) (a1 : Nat) (x2 : Int32) (k2 : Int32 → pz_H → Prop) (Q : Int32 → pz_H → Prop) : Nat → Int32 → pz_H → Prop
  | 0, _, _ => False
  | n + 1, x3, h => (pq_gI h a1 1 3 (fun v2 => (pq_br (v2 ≤ x3) (k2 (x2 + (1 : Int32)) h) (pq_gA h a0 2 5 (fun b3 => (pq_aI h b3 x3 (fun v4 => (F_X4_has v4 x2 h (fun v6 h5 => (pq_br (v6 = 0) (B_X2_demandsClash_48 a0 a1 x2 x3 k2 (fun z0 hz => L_X2_demandsClash_12 a0 a1 x2 k2 Q n z0 hz) Q h5) (pq_gA h5 a0 2 5 (fun b7 => (pq_aI h5 b7 x3 (fun v8 => (pq_gA h5 a0 2 5 (fun b9 => (pq_aI h5 b9 x2 (fun v10 => (pq_sI h5 b7 x3 (v8 ||| v10) (fun h11 => (B_X2_demandsClash_48 a0 a1 x2 x3 k2 (fun z0 hz => L_X2_demandsClash_12 a0 a1 x2 k2 Q n z0 hz) Q h11)))))))))))))))))))))
set_option maxHeartbeats 4000000 in
set_option maxRecDepth 100000 in
theorem kL_X2_demandsClash_12 (X : pz_X) (d : Nat) (a0 : Nat) (a1 : Nat) (x2 : Int32)  (k2 : Int32 → pz_H → Prop) (Q : Int32 → pz_H → Prop) (hk2 : ∀ (x2 : Int32) (h : pz_H), k2 x2 h → pz_W (fun _ => True) X M_X2_demandsClash (d + 1) 2 [(0, .ref a0), (1, .ref a1), (2, .int x2)] [] h 0 0 (pq_qI Q)) : ∀ (n : Nat) (x3 : Int32) (h : pz_H), L_X2_demandsClash_12 a0 a1 x2 k2 Q n x3 h → pz_W (fun _ => True) X M_X2_demandsClash (d + 1) 12 [(0, .ref a0), (1, .ref a1), (2, .int x2), (3, .int x3)] [] h 0 0 (pq_qI Q) := by
  intro n
  induction n with
  | zero =>
    intro _ _ hf
    exact False.elim hf
  | succ n ih =>
    intro x3 h hf
    unfold L_X2_demandsClash_12 at hf
    refine pz_iload_n dX2_demandsClash_12 rfl ?_
    refine pz_aload_n dX2_demandsClash_13 rfl ?_
    obtain ⟨_, v2, h1, h2, hf⟩ := hf
    refine pz_get dX2_demandsClash_14 fl_X2_110 h1 h2 ?_
    obtain ⟨ha, hb⟩ := hf
    refine pz_icmp_ge dX2_demandsClash_17 (tgt := 54) (by decide) (fun cc => ?_) (fun cc => ?_)
    · have hf := ha cc
      refine pz_iinc dX2_demandsClash_54 rfl (by rfl) (by decide) rfl ?_
      refine pz_goto dX2_demandsClash_57 (tgt := 2) (by decide) ?_
      exact pz_drop (pz_part_of [0, 1, 2] rfl) (hk2 _ _ hf)
    · have hf := hb cc
      refine pz_aload_n dX2_demandsClash_20 rfl ?_
      obtain ⟨_, b3, h1, h2, hf⟩ := hf
      refine pz_get dX2_demandsClash_21 fl_X2_29 h1 h2 ?_
      refine pz_iload_n dX2_demandsClash_24 rfl ?_
      obtain ⟨_, _, h1, h2, hf⟩ := hf
      refine pz_iald dX2_demandsClash_25 h1 h2 ?_
      refine pz_iload_n dX2_demandsClash_26 rfl ?_
      refine pz_callSN2 (rc := 0) (rs := 0) (mc := 0) (ms := 0) dX2_demandsClash_27 (k_X4_has X d _ _ _ _ hf) (Nat.le_of_ble_eq_true rfl) mf_X4_has ml_X2_60 mt_X4_has (fun _ h9 hq => ?_)
      obtain ⟨_, rfl, hf⟩ := hq
      obtain ⟨ha, hb⟩ := hf
      refine pz_if_eq dX2_demandsClash_30 (tgt := 48) (by decide) (fun cc => ?_) (fun cc => ?_)
      · have hf := ha cc
        exact pz_drop (pz_part_of [0, 1, 2, 3] rfl) (kB_X2_demandsClash_48 X d _ _ _ _ _ _ _ _ hk2 ih hf)
      · have hf := hb cc
        refine pz_aload_n dX2_demandsClash_33 rfl ?_
        obtain ⟨_, b7, h1, h2, hf⟩ := hf
        refine pz_get dX2_demandsClash_34 fl_X2_29 h1 h2 ?_
        refine pz_iload_n dX2_demandsClash_37 rfl ?_
        refine pz_dup2 dX2_demandsClash_38 rfl rfl ?_
        obtain ⟨_, _, h1, h2, hf⟩ := hf
        refine pz_iald dX2_demandsClash_39 h1 h2 ?_
        refine pz_aload_n dX2_demandsClash_40 rfl ?_
        obtain ⟨_, b9, h1, h2, hf⟩ := hf
        refine pz_get dX2_demandsClash_41 fl_X2_29 h1 h2 ?_
        refine pz_iload_n dX2_demandsClash_44 rfl ?_
        obtain ⟨_, _, h1, h2, hf⟩ := hf
        refine pz_iald dX2_demandsClash_45 h1 h2 ?_
        refine pz_ior dX2_demandsClash_46 ?_
        obtain ⟨_, _, h1, h2, hf⟩ := hf
        refine pz_iast dX2_demandsClash_47 h1 h2 ?_
        exact pz_drop (pz_part_of [0, 1, 2, 3] rfl) (kB_X2_demandsClash_48 X d _ _ _ _ _ _ _ _ hk2 ih hf)
def L_X2_demandsClash_2 (a0 : Nat) (a1 : Nat)  (Q : Int32 → pz_H → Prop) : Nat → Int32 → pz_H → Prop
  | 0, _, _ => False
  | n + 1, x2, h => (pq_gI h a1 1 3 (fun v1 => (pq_br (v1 ≤ x2) (pq_ex (fun m62 => L_X2_demandsClash_62 a0 a1 Q m62 (0 : Int32) h)) (pq_ex (fun m12 => L_X2_demandsClash_12 a0 a1 x2 (fun z0 hz => L_X2_demandsClash_2 a0 a1 Q n z0 hz) Q m12 (0 : Int32) h)))))
set_option maxHeartbeats 4000000 in
set_option maxRecDepth 100000 in
theorem kL_X2_demandsClash_2 (X : pz_X) (d : Nat) (a0 : Nat) (a1 : Nat)   (Q : Int32 → pz_H → Prop)  : ∀ (n : Nat) (x2 : Int32) (h : pz_H), L_X2_demandsClash_2 a0 a1  Q n x2 h → pz_W (fun _ => True) X M_X2_demandsClash (d + 1) 2 [(0, .ref a0), (1, .ref a1), (2, .int x2)] [] h 0 0 (pq_qI Q) := by
  intro n
  induction n with
  | zero =>
    intro _ _ hf
    exact False.elim hf
  | succ n ih =>
    intro x2 h hf
    unfold L_X2_demandsClash_2 at hf
    refine pz_iload_n dX2_demandsClash_2 rfl ?_
    refine pz_aload_n dX2_demandsClash_3 rfl ?_
    obtain ⟨_, v1, h1, h2, hf⟩ := hf
    refine pz_get dX2_demandsClash_4 fl_X2_110 h1 h2 ?_
    obtain ⟨ha, hb⟩ := hf
    refine pz_icmp_ge dX2_demandsClash_7 (tgt := 60) (by decide) (fun cc => ?_) (fun cc => ?_)
    · have hf := ha cc
      refine pz_iconst (v := (0 : Int32)) dX2_demandsClash_60 (by decide) ?_
      refine pz_istore_n dX2_demandsClash_61 rfl (by decide) rfl ?_
      obtain ⟨n9, hf⟩ := hf
      exact pz_drop (pz_part_of [0, 1, 2] rfl) (kL_X2_demandsClash_62 X d _ _ _  n9 _ _ hf)
    · have hf := hb cc
      refine pz_iconst (v := (0 : Int32)) dX2_demandsClash_10 (by decide) ?_
      refine pz_istore_n dX2_demandsClash_11 rfl (by decide) rfl ?_
      obtain ⟨n9, hf⟩ := hf
      exact pz_drop (pz_part_of [0, 1, 2, 3] rfl) (kL_X2_demandsClash_12 X d _ _ _ _ _ ih n9 _ _ hf)
def F_X2_demandsClash (a0 : Nat) (a1 : Nat) (h : pz_H) (Q : Int32 → pz_H → Prop) : Prop := (pq_ex (fun m2 => L_X2_demandsClash_2 a0 a1 Q m2 (0 : Int32) h))
set_option maxHeartbeats 4000000 in
set_option maxRecDepth 100000 in
theorem k_X2_demandsClash (X : pz_X) (d : Nat) (a0 : Nat) (a1 : Nat) (h : pz_H) (Q : Int32 → pz_H → Prop) (hf : F_X2_demandsClash a0 a1 h Q) : pz_Call X M_X2_demandsClash (d + 1) 0 0 [.ref a0, .ref a1] h (pq_qI Q) := by
  refine pz_call_of (by decide +kernel) (Nat.le_of_ble_eq_true rfl) ?_
  unfold F_X2_demandsClash at hf
  refine pz_iconst (v := (0 : Int32)) dX2_demandsClash_0 (by decide) ?_
  refine pz_istore_n dX2_demandsClash_1 rfl (by decide) rfl ?_
  obtain ⟨n9, hf⟩ := hf
  exact pz_drop (pz_part_of [0, 1, 2] rfl) (kL_X2_demandsClash_2 X d _ _ _  n9 _ _ hf)
def B_X2_barredFromClosing_104 (xs0 : Int32)  (Q : Int32 → pz_H → Prop) (h : pz_H) : Prop := (Q xs0 h)
set_option maxHeartbeats 4000000 in
set_option maxRecDepth 100000 in
theorem kB_X2_barredFromClosing_104 (X : pz_X) (d : Nat) (xs0 : Int32)   (Q : Int32 → pz_H → Prop) (h : pz_H)  (hf : B_X2_barredFromClosing_104 xs0  Q h) : pz_W (fun _ => True) X M_X2_barredFromClosing (d + 1) 104 [] [.int xs0] h 0 0 (pq_qI Q) := by
  unfold B_X2_barredFromClosing_104 at hf
  exact pz_ireturn dX2_barredFromClosing_104 rfl rfl ⟨_, rfl, hf⟩
def B_X2_barredFromClosing_54 (a0 : Nat) (a1 : Nat) (x2 : Int32) (x4 : Int32) (xs0 : Int32)  (Q : Int32 → pz_H → Prop) (h : pz_H) : Prop := (pq_gA h a0 2 7 (fun b5 => (pq_gI h a0 2 3 (fun v6 => (pq_aI h b5 v6 (fun v7 => (pq_gA h a0 2 7 (fun b8 => (pq_gA h a0 2 2 (fun b9 => (pq_aI h b9 x4 (fun v10 => (pq_aI h b8 (v10 + (1 : Int32)) (fun v11 => (pq_gA h a1 1 15 (fun b12 => (pq_aI h b12 x2 (fun v13 => (pq_br (((v7 &&& (v11 ^^^ (-1 : Int32))) &&& v13) = 0) (B_X2_barredFromClosing_104 (0 : Int32) Q h) (B_X2_barredFromClosing_104 ((1 : Int32) <<< (xs0 &&& 31)) Q h))))))))))))))))))))
set_option maxHeartbeats 4000000 in
set_option maxRecDepth 100000 in
theorem kB_X2_barredFromClosing_54 (X : pz_X) (d : Nat) (a0 : Nat) (a1 : Nat) (x2 : Int32) (x4 : Int32) (xs0 : Int32)   (Q : Int32 → pz_H → Prop) (h : pz_H)  (hf : B_X2_barredFromClosing_54 a0 a1 x2 x4 xs0  Q h) : pz_W (fun _ => True) X M_X2_barredFromClosing (d + 1) 54 [(0, .ref a0), (1, .ref a1), (2, .int x2), (4, .int x4)] [.int xs0] h 0 0 (pq_qI Q) := by
  unfold B_X2_barredFromClosing_54 at hf
  refine pz_istore dX2_barredFromClosing_54 (by decide) rfl ?_
  refine pz_aload_n dX2_barredFromClosing_56 rfl ?_
  obtain ⟨_, b5, h1, h2, hf⟩ := hf
  refine pz_get dX2_barredFromClosing_57 fl_X2_35 h1 h2 ?_
  refine pz_aload_n dX2_barredFromClosing_60 rfl ?_
  obtain ⟨_, v6, h1, h2, hf⟩ := hf
  refine pz_get dX2_barredFromClosing_61 fl_X2_22 h1 h2 ?_
  obtain ⟨_, _, h1, h2, hf⟩ := hf
  refine pz_iald dX2_barredFromClosing_64 h1 h2 ?_
  refine pz_aload_n dX2_barredFromClosing_65 rfl ?_
  obtain ⟨_, b8, h1, h2, hf⟩ := hf
  refine pz_get dX2_barredFromClosing_66 fl_X2_35 h1 h2 ?_
  refine pz_aload_n dX2_barredFromClosing_69 rfl ?_
  obtain ⟨_, b9, h1, h2, hf⟩ := hf
  refine pz_get dX2_barredFromClosing_70 fl_X2_19 h1 h2 ?_
  refine pz_iload dX2_barredFromClosing_73 rfl ?_
  obtain ⟨_, _, h1, h2, hf⟩ := hf
  refine pz_iald dX2_barredFromClosing_75 h1 h2 ?_
  refine pz_iconst (v := (1 : Int32)) dX2_barredFromClosing_76 (by decide) ?_
  refine pz_iadd dX2_barredFromClosing_77 ?_
  obtain ⟨_, _, h1, h2, hf⟩ := hf
  refine pz_iald dX2_barredFromClosing_78 h1 h2 ?_
  refine pz_iconst (v := (-1 : Int32)) dX2_barredFromClosing_79 (by decide) ?_
  refine pz_ixor dX2_barredFromClosing_80 ?_
  refine pz_iand dX2_barredFromClosing_81 ?_
  refine pz_istore dX2_barredFromClosing_82 (by decide) rfl ?_
  refine pz_iload dX2_barredFromClosing_84 rfl ?_
  refine pz_aload_n dX2_barredFromClosing_86 rfl ?_
  obtain ⟨_, b12, h1, h2, hf⟩ := hf
  refine pz_get dX2_barredFromClosing_87 fl_X2_124 h1 h2 ?_
  refine pz_iload_n dX2_barredFromClosing_90 rfl ?_
  obtain ⟨_, _, h1, h2, hf⟩ := hf
  refine pz_iald dX2_barredFromClosing_91 h1 h2 ?_
  refine pz_iand dX2_barredFromClosing_92 ?_
  obtain ⟨ha, hb⟩ := hf
  refine pz_if_eq dX2_barredFromClosing_93 (tgt := 103) (by decide) (fun cc => ?_) (fun cc => ?_)
  · have hf := ha cc
    refine pz_iconst (v := (0 : Int32)) dX2_barredFromClosing_103 (by decide) ?_
    exact pz_drop (pz_part_of [] rfl) (kB_X2_barredFromClosing_104 X d _ _ _  hf)
  · have hf := hb cc
    refine pz_iconst (v := (1 : Int32)) dX2_barredFromClosing_96 (by decide) ?_
    refine pz_iload dX2_barredFromClosing_97 rfl ?_
    refine pz_ishl dX2_barredFromClosing_99 ?_
    refine pz_goto dX2_barredFromClosing_100 (tgt := 104) (by decide) ?_
    exact pz_drop (pz_part_of [] rfl) (kB_X2_barredFromClosing_104 X d _ _ _  hf)
def B_X2_barredFromClosing_33 (a0 : Nat) (a1 : Nat) (x2 : Int32) (x3 : Int32) (xs0 : Int32)  (Q : Int32 → pz_H → Prop) (h : pz_H) : Prop := (pq_br (x3 = 0) (pq_gA h a1 1 9 (fun b1 => (pq_aI h b1 x2 (fun v2 => (B_X2_barredFromClosing_54 a0 a1 x2 xs0 v2 Q h))))) (pq_gA h a1 1 10 (fun b3 => (pq_aI h b3 x2 (fun v4 => (B_X2_barredFromClosing_54 a0 a1 x2 xs0 v4 Q h))))))
set_option maxHeartbeats 4000000 in
set_option maxRecDepth 100000 in
theorem kB_X2_barredFromClosing_33 (X : pz_X) (d : Nat) (a0 : Nat) (a1 : Nat) (x2 : Int32) (x3 : Int32) (xs0 : Int32)   (Q : Int32 → pz_H → Prop) (h : pz_H)  (hf : B_X2_barredFromClosing_33 a0 a1 x2 x3 xs0  Q h) : pz_W (fun _ => True) X M_X2_barredFromClosing (d + 1) 33 [(0, .ref a0), (1, .ref a1), (2, .int x2), (3, .int x3)] [.int xs0] h 0 0 (pq_qI Q) := by
  unfold B_X2_barredFromClosing_33 at hf
  refine pz_istore dX2_barredFromClosing_33 (by decide) rfl ?_
  refine pz_iload_n dX2_barredFromClosing_35 rfl ?_
  obtain ⟨ha, hb⟩ := hf
  refine pz_if_eq dX2_barredFromClosing_36 (tgt := 48) (by decide) (fun cc => ?_) (fun cc => ?_)
  · have hf := ha cc
    refine pz_aload_n dX2_barredFromClosing_48 rfl ?_
    obtain ⟨_, b1, h1, h2, hf⟩ := hf
    refine pz_get dX2_barredFromClosing_49 fl_X2_75 h1 h2 ?_
    refine pz_iload_n dX2_barredFromClosing_52 rfl ?_
    obtain ⟨_, _, h1, h2, hf⟩ := hf
    refine pz_iald dX2_barredFromClosing_53 h1 h2 ?_
    exact pz_drop (pz_part_of [0, 1, 2, 4] rfl) (kB_X2_barredFromClosing_54 X d _ _ _ _ _ _ _  hf)
  · have hf := hb cc
    refine pz_aload_n dX2_barredFromClosing_39 rfl ?_
    obtain ⟨_, b3, h1, h2, hf⟩ := hf
    refine pz_get dX2_barredFromClosing_40 fl_X2_78 h1 h2 ?_
    refine pz_iload_n dX2_barredFromClosing_43 rfl ?_
    obtain ⟨_, _, h1, h2, hf⟩ := hf
    refine pz_iald dX2_barredFromClosing_44 h1 h2 ?_
    refine pz_goto dX2_barredFromClosing_45 (tgt := 54) (by decide) ?_
    exact pz_drop (pz_part_of [0, 1, 2, 4] rfl) (kB_X2_barredFromClosing_54 X d _ _ _ _ _ _ _  hf)
def F_X2_barredFromClosing (a0 : Nat) (a1 : Nat) (x2 : Int32) (h : pz_H) (Q : Int32 → pz_H → Prop) : Prop := (pq_gI h a0 2 4 (fun v14 => (pq_gA h a1 1 9 (fun b15 => (pq_aI h b15 x2 (fun v16 => (F_X4_has v14 v16 h (fun v18 h17 => (pq_br (v18 = 0) (pq_gA h17 a1 1 10 (fun b19 => (pq_aI h17 b19 x2 (fun v20 => (B_X2_barredFromClosing_33 a0 a1 x2 v18 v20 Q h17))))) (pq_gA h17 a1 1 9 (fun b21 => (pq_aI h17 b21 x2 (fun v22 => (B_X2_barredFromClosing_33 a0 a1 x2 v18 v22 Q h17))))))))))))))
set_option maxHeartbeats 4000000 in
set_option maxRecDepth 100000 in
theorem k_X2_barredFromClosing (X : pz_X) (d : Nat) (a0 : Nat) (a1 : Nat) (x2 : Int32) (h : pz_H) (Q : Int32 → pz_H → Prop) (hf : F_X2_barredFromClosing a0 a1 x2 h Q) : pz_Call X M_X2_barredFromClosing (d + 1) 0 0 [.ref a0, .ref a1, .int x2] h (pq_qI Q) := by
  refine pz_call_of (by decide +kernel) (Nat.le_of_ble_eq_true rfl) ?_
  unfold F_X2_barredFromClosing at hf
  refine pz_aload_n dX2_barredFromClosing_0 rfl ?_
  obtain ⟨_, v14, h1, h2, hf⟩ := hf
  refine pz_get dX2_barredFromClosing_1 fl_X2_26 h1 h2 ?_
  refine pz_aload_n dX2_barredFromClosing_4 rfl ?_
  obtain ⟨_, b15, h1, h2, hf⟩ := hf
  refine pz_get dX2_barredFromClosing_5 fl_X2_75 h1 h2 ?_
  refine pz_iload_n dX2_barredFromClosing_8 rfl ?_
  obtain ⟨_, _, h1, h2, hf⟩ := hf
  refine pz_iald dX2_barredFromClosing_9 h1 h2 ?_
  refine pz_callSN2 (rc := 0) (rs := 0) (mc := 0) (ms := 0) dX2_barredFromClosing_10 (k_X4_has X d _ _ _ _ hf) (Nat.le_of_ble_eq_true rfl) mf_X4_has ml_X2_60 mt_X4_has (fun _ h9 hq => ?_)
  obtain ⟨_, rfl, hf⟩ := hq
  refine pz_istore_n dX2_barredFromClosing_13 rfl (by decide) rfl ?_
  refine pz_iload_n dX2_barredFromClosing_14 rfl ?_
  obtain ⟨ha, hb⟩ := hf
  refine pz_if_eq dX2_barredFromClosing_15 (tgt := 27) (by decide) (fun cc => ?_) (fun cc => ?_)
  · have hf := ha cc
    refine pz_aload_n dX2_barredFromClosing_27 rfl ?_
    obtain ⟨_, b19, h1, h2, hf⟩ := hf
    refine pz_get dX2_barredFromClosing_28 fl_X2_78 h1 h2 ?_
    refine pz_iload_n dX2_barredFromClosing_31 rfl ?_
    obtain ⟨_, _, h1, h2, hf⟩ := hf
    refine pz_iald dX2_barredFromClosing_32 h1 h2 ?_
    exact pz_drop (pz_part_of [0, 1, 2, 3] rfl) (kB_X2_barredFromClosing_33 X d _ _ _ _ _ _ _  hf)
  · have hf := hb cc
    refine pz_aload_n dX2_barredFromClosing_18 rfl ?_
    obtain ⟨_, b21, h1, h2, hf⟩ := hf
    refine pz_get dX2_barredFromClosing_19 fl_X2_75 h1 h2 ?_
    refine pz_iload_n dX2_barredFromClosing_22 rfl ?_
    obtain ⟨_, _, h1, h2, hf⟩ := hf
    refine pz_iald dX2_barredFromClosing_23 h1 h2 ?_
    refine pz_goto dX2_barredFromClosing_24 (tgt := 33) (by decide) ?_
    exact pz_drop (pz_part_of [0, 1, 2, 3] rfl) (kB_X2_barredFromClosing_33 X d _ _ _ _ _ _ _  hf)
def B_X2_readyAmong_47 (a0 : Nat) (a1 : Nat) (x2 : Int32) (x3 : Int32) (x4 : Int32) (k5 : Int32 → Int32 → pz_H → Prop) (Q : Int32 → pz_H → Prop) (h : pz_H) : Prop := (k5 x3 (x4 + (1 : Int32)) h)
set_option maxHeartbeats 4000000 in
set_option maxRecDepth 100000 in
theorem kB_X2_readyAmong_47 (X : pz_X) (d : Nat) (a0 : Nat) (a1 : Nat) (x2 : Int32) (x3 : Int32) (x4 : Int32)  (k5 : Int32 → Int32 → pz_H → Prop) (Q : Int32 → pz_H → Prop) (h : pz_H) (hk5 : ∀ (x3 : Int32) (x4 : Int32) (h : pz_H), k5 x3 x4 h → pz_W (fun _ => True) X M_X2_readyAmong (d + 1) 5 [(0, .ref a0), (1, .ref a1), (2, .int x2), (3, .int x3), (4, .int x4)] [] h 0 0 (pq_qI Q)) (hf : B_X2_readyAmong_47 a0 a1 x2 x3 x4 k5 Q h) : pz_W (fun _ => True) X M_X2_readyAmong (d + 1) 47 [(0, .ref a0), (1, .ref a1), (2, .int x2), (3, .int x3), (4, .int x4)] [] h 0 0 (pq_qI Q) := by
  unfold B_X2_readyAmong_47 at hf
  refine pz_iinc dX2_readyAmong_47 rfl (by rfl) (by decide) rfl ?_
  refine pz_goto dX2_readyAmong_50 (tgt := 5) (by decide) ?_
  exact pz_drop (pz_part_of [0, 1, 2, 3, 4] rfl) (hk5 _ _ _ hf)
def L_X2_readyAmong_5 (a0 : Nat) (a1 : Nat) (x2 : Int32)  (Q : Int32 → pz_H → Prop) : Nat → Int32 → Int32 → pz_H → Prop
  | 0, _, _, _ => False
  | n + 1, x3, x4, h => (pq_gI h a1 1 3 (fun v1 => (pq_br (v1 ≤ x4) (Q x3 h) (F_X4_has x2 x4 h (fun v3 h2 => (pq_br (v3 = 0) (B_X2_readyAmong_47 a0 a1 x2 x3 x4 (fun z0 z1 hz => L_X2_readyAmong_5 a0 a1 x2 Q n z0 z1 hz) Q h2) (pq_gA h2 a0 2 5 (fun b4 => (pq_aI h2 b4 x4 (fun v5 => (pq_gI h2 a0 2 4 (fun v6 => (pq_br ((v5 &&& (v6 ^^^ (-1 : Int32))) = 0) (B_X2_readyAmong_47 a0 a1 x2 (x3 ||| ((1 : Int32) <<< (x4 &&& 31))) x4 (fun z0 z1 hz => L_X2_readyAmong_5 a0 a1 x2 Q n z0 z1 hz) Q h2) (B_X2_readyAmong_47 a0 a1 x2 x3 x4 (fun z0 z1 hz => L_X2_readyAmong_5 a0 a1 x2 Q n z0 z1 hz) Q h2))))))))))))))
set_option maxHeartbeats 4000000 in
set_option maxRecDepth 100000 in
theorem kL_X2_readyAmong_5 (X : pz_X) (d : Nat) (a0 : Nat) (a1 : Nat) (x2 : Int32)   (Q : Int32 → pz_H → Prop)  : ∀ (n : Nat) (x3 : Int32) (x4 : Int32) (h : pz_H), L_X2_readyAmong_5 a0 a1 x2  Q n x3 x4 h → pz_W (fun _ => True) X M_X2_readyAmong (d + 1) 5 [(0, .ref a0), (1, .ref a1), (2, .int x2), (3, .int x3), (4, .int x4)] [] h 0 0 (pq_qI Q) := by
  intro n
  induction n with
  | zero =>
    intro _ _ _ hf
    exact False.elim hf
  | succ n ih =>
    intro x3 x4 h hf
    unfold L_X2_readyAmong_5 at hf
    refine pz_iload dX2_readyAmong_5 rfl ?_
    refine pz_aload_n dX2_readyAmong_7 rfl ?_
    obtain ⟨_, v1, h1, h2, hf⟩ := hf
    refine pz_get dX2_readyAmong_8 fl_X2_110 h1 h2 ?_
    obtain ⟨ha, hb⟩ := hf
    refine pz_icmp_ge dX2_readyAmong_11 (tgt := 53) (by decide) (fun cc => ?_) (fun cc => ?_)
    · have hf := ha cc
      refine pz_iload_n dX2_readyAmong_53 rfl ?_
      exact pz_ireturn dX2_readyAmong_54 rfl rfl ⟨_, rfl, hf⟩
    · have hf := hb cc
      refine pz_iload_n dX2_readyAmong_14 rfl ?_
      refine pz_iload dX2_readyAmong_15 rfl ?_
      refine pz_callSN2 (rc := 0) (rs := 0) (mc := 0) (ms := 0) dX2_readyAmong_17 (k_X4_has X d _ _ _ _ hf) (Nat.le_of_ble_eq_true rfl) mf_X4_has ml_X2_60 mt_X4_has (fun _ h9 hq => ?_)
      obtain ⟨_, rfl, hf⟩ := hq
      obtain ⟨ha, hb⟩ := hf
      refine pz_if_eq dX2_readyAmong_20 (tgt := 47) (by decide) (fun cc => ?_) (fun cc => ?_)
      · have hf := ha cc
        exact pz_drop (pz_part_of [0, 1, 2, 3, 4] rfl) (kB_X2_readyAmong_47 X d _ _ _ _ _ _ _ _ ih hf)
      · have hf := hb cc
        refine pz_aload_n dX2_readyAmong_23 rfl ?_
        obtain ⟨_, b4, h1, h2, hf⟩ := hf
        refine pz_get dX2_readyAmong_24 fl_X2_29 h1 h2 ?_
        refine pz_iload dX2_readyAmong_27 rfl ?_
        obtain ⟨_, _, h1, h2, hf⟩ := hf
        refine pz_iald dX2_readyAmong_29 h1 h2 ?_
        refine pz_aload_n dX2_readyAmong_30 rfl ?_
        obtain ⟨_, v6, h1, h2, hf⟩ := hf
        refine pz_get dX2_readyAmong_31 fl_X2_26 h1 h2 ?_
        refine pz_iconst (v := (-1 : Int32)) dX2_readyAmong_34 (by decide) ?_
        refine pz_ixor dX2_readyAmong_35 ?_
        refine pz_iand dX2_readyAmong_36 ?_
        obtain ⟨ha, hb⟩ := hf
        refine pz_if_ne dX2_readyAmong_37 (tgt := 47) (by decide) (fun cc => ?_) (fun cc => ?_)
        · have hf := hb cc
          exact pz_drop (pz_part_of [0, 1, 2, 3, 4] rfl) (kB_X2_readyAmong_47 X d _ _ _ _ _ _ _ _ ih hf)
        · have hf := ha cc
          refine pz_iload_n dX2_readyAmong_40 rfl ?_
          refine pz_iconst (v := (1 : Int32)) dX2_readyAmong_41 (by decide) ?_
          refine pz_iload dX2_readyAmong_42 rfl ?_
          refine pz_ishl dX2_readyAmong_44 ?_
          refine pz_ior dX2_readyAmong_45 ?_
          refine pz_istore_n dX2_readyAmong_46 rfl (by decide) rfl ?_
          exact pz_drop (pz_part_of [0, 1, 2, 3, 4] rfl) (kB_X2_readyAmong_47 X d _ _ _ _ _ _ _ _ ih hf)
def F_X2_readyAmong (a0 : Nat) (a1 : Nat) (x2 : Int32) (h : pz_H) (Q : Int32 → pz_H → Prop) : Prop := (pq_ex (fun m5 => L_X2_readyAmong_5 a0 a1 x2 Q m5 (0 : Int32) (0 : Int32) h))
set_option maxHeartbeats 4000000 in
set_option maxRecDepth 100000 in
theorem k_X2_readyAmong (X : pz_X) (d : Nat) (a0 : Nat) (a1 : Nat) (x2 : Int32) (h : pz_H) (Q : Int32 → pz_H → Prop) (hf : F_X2_readyAmong a0 a1 x2 h Q) : pz_Call X M_X2_readyAmong (d + 1) 0 0 [.ref a0, .ref a1, .int x2] h (pq_qI Q) := by
  refine pz_call_of (by decide +kernel) (Nat.le_of_ble_eq_true rfl) ?_
  unfold F_X2_readyAmong at hf
  refine pz_iconst (v := (0 : Int32)) dX2_readyAmong_0 (by decide) ?_
  refine pz_istore_n dX2_readyAmong_1 rfl (by decide) rfl ?_
  refine pz_iconst (v := (0 : Int32)) dX2_readyAmong_2 (by decide) ?_
  refine pz_istore dX2_readyAmong_3 (by decide) rfl ?_
  obtain ⟨n9, hf⟩ := hf
  exact pz_drop (pz_part_of [0, 1, 2, 3, 4] rfl) (kL_X2_readyAmong_5 X d _ _ _ _  n9 _ _ _ hf)
def B_X2_candidates_110 (xs0 : Int32)  (Q : Int32 → pz_H → Prop) (h : pz_H) : Prop := (Q xs0 h)
set_option maxHeartbeats 4000000 in
set_option maxRecDepth 100000 in
theorem kB_X2_candidates_110 (X : pz_X) (d : Nat) (xs0 : Int32)   (Q : Int32 → pz_H → Prop) (h : pz_H)  (hf : B_X2_candidates_110 xs0  Q h) : pz_W (fun _ => True) X M_X2_candidates (d + 2) 110 [] [.int xs0] h 0 0 (pq_qI Q) := by
  unfold B_X2_candidates_110 at hf
  exact pz_ireturn dX2_candidates_110 rfl rfl ⟨_, rfl, hf⟩
def B_X2_candidates_68 (a0 : Nat) (a1 : Nat) (x2 : Int32) (x3 : Int32) (x4 : Int32) (k18 : Int32 → Int32 → pz_H → Prop) (Q : Int32 → pz_H → Prop) (h : pz_H) : Prop := (k18 x2 (x4 + (1 : Int32)) h)
set_option maxHeartbeats 4000000 in
set_option maxRecDepth 100000 in
theorem kB_X2_candidates_68 (X : pz_X) (d : Nat) (a0 : Nat) (a1 : Nat) (x2 : Int32) (x3 : Int32) (x4 : Int32)  (k18 : Int32 → Int32 → pz_H → Prop) (Q : Int32 → pz_H → Prop) (h : pz_H) (hk18 : ∀ (x2 : Int32) (x4 : Int32) (h : pz_H), k18 x2 x4 h → pz_W (fun _ => True) X M_X2_candidates (d + 2) 18 [(0, .ref a0), (1, .ref a1), (2, .int x2), (3, .int x3), (4, .int x4)] [] h 0 0 (pq_qI Q)) (hf : B_X2_candidates_68 a0 a1 x2 x3 x4 k18 Q h) : pz_W (fun _ => True) X M_X2_candidates (d + 2) 68 [(0, .ref a0), (1, .ref a1), (2, .int x2), (3, .int x3), (4, .int x4)] [] h 0 0 (pq_qI Q) := by
  unfold B_X2_candidates_68 at hf
  refine pz_iinc dX2_candidates_68 rfl (by rfl) (by decide) rfl ?_
  refine pz_goto dX2_candidates_71 (tgt := 18) (by decide) ?_
  exact pz_drop (pz_part_of [0, 1, 2, 3, 4] rfl) (hk18 _ _ _ hf)
def L_X2_candidates_18 (a0 : Nat) (a1 : Nat) (x3 : Int32)  (Q : Int32 → pz_H → Prop) : Nat → Int32 → Int32 → pz_H → Prop
  | 0, _, _, _ => False
  | n + 1, x2, x4, h => (pq_gI h a1 1 4 (fun v1 => (pq_br (v1 ≤ x4) (pq_gI h a1 1 3 (fun v2 => (pq_gI h a0 2 6 (fun v3 => (pq_br ((((((1 : Int32) <<< (v2 &&& 31)) - (1 : Int32)) &&& (x2 ^^^ (-1 : Int32))) &&& v3) = 0) (B_X2_candidates_110 ((((1 : Int32) <<< (v2 &&& 31)) - (1 : Int32)) &&& (x2 ^^^ (-1 : Int32))) Q h) (pq_o h a0 2 (F_X2_readyAmong a0 a1 ((((1 : Int32) <<< (v2 &&& 31)) - (1 : Int32)) &&& (x2 ^^^ (-1 : Int32))) h (fun v5 h4 => (B_X2_candidates_110 v5 Q h4))))))))) (pq_br (((x3 >>> (x4 &&& 31)) &&& (1 : Int32)) = 0) (B_X2_candidates_68 a0 a1 x2 x3 x4 (fun z0 z1 hz => L_X2_candidates_18 a0 a1 x3 Q n z0 z1 hz) Q h) (pq_gA h a1 1 14 (fun b6 => (pq_aI h b6 x4 (fun v7 => (pq_gA h a1 1 15 (fun b8 => (pq_aI h b8 x4 (fun v9 => (pq_br ((x3 &&& v9) = 0) (B_X2_candidates_68 a0 a1 (x2 ||| v7) x3 x4 (fun z0 z1 hz => L_X2_candidates_18 a0 a1 x3 Q n z0 z1 hz) Q h) (pq_o h a0 2 (F_X2_barredFromClosing a0 a1 x4 h (fun v11 h10 => (B_X2_candidates_68 a0 a1 ((x2 ||| v7) ||| v11) x3 x4 (fun z0 z1 hz => L_X2_candidates_18 a0 a1 x3 Q n z0 z1 hz) Q h10)))))))))))))))))
set_option maxHeartbeats 4000000 in
set_option maxRecDepth 100000 in
theorem kL_X2_candidates_18 (X : pz_X) (d : Nat) (a0 : Nat) (a1 : Nat) (x3 : Int32)   (Q : Int32 → pz_H → Prop)  : ∀ (n : Nat) (x2 : Int32) (x4 : Int32) (h : pz_H), L_X2_candidates_18 a0 a1 x3  Q n x2 x4 h → pz_W (fun _ => True) X M_X2_candidates (d + 2) 18 [(0, .ref a0), (1, .ref a1), (2, .int x2), (3, .int x3), (4, .int x4)] [] h 0 0 (pq_qI Q) := by
  intro n
  induction n with
  | zero =>
    intro _ _ _ hf
    exact False.elim hf
  | succ n ih =>
    intro x2 x4 h hf
    unfold L_X2_candidates_18 at hf
    refine pz_iload dX2_candidates_18 rfl ?_
    refine pz_aload_n dX2_candidates_20 rfl ?_
    obtain ⟨_, v1, h1, h2, hf⟩ := hf
    refine pz_get dX2_candidates_21 fl_X2_55 h1 h2 ?_
    obtain ⟨ha, hb⟩ := hf
    refine pz_icmp_ge dX2_candidates_24 (tgt := 74) (by decide) (fun cc => ?_) (fun cc => ?_)
    · have hf := ha cc
      refine pz_iconst (v := (1 : Int32)) dX2_candidates_74 (by decide) ?_
      refine pz_aload_n dX2_candidates_75 rfl ?_
      obtain ⟨_, v2, h1, h2, hf⟩ := hf
      refine pz_get dX2_candidates_76 fl_X2_110 h1 h2 ?_
      refine pz_ishl dX2_candidates_79 ?_
      refine pz_iconst (v := (1 : Int32)) dX2_candidates_80 (by decide) ?_
      refine pz_isub dX2_candidates_81 ?_
      refine pz_iload_n dX2_candidates_82 rfl ?_
      refine pz_iconst (v := (-1 : Int32)) dX2_candidates_83 (by decide) ?_
      refine pz_ixor dX2_candidates_84 ?_
      refine pz_iand dX2_candidates_85 ?_
      refine pz_istore dX2_candidates_86 (by decide) rfl ?_
      refine pz_iload dX2_candidates_88 rfl ?_
      refine pz_aload_n dX2_candidates_90 rfl ?_
      obtain ⟨_, v3, h1, h2, hf⟩ := hf
      refine pz_get dX2_candidates_91 fl_X2_32 h1 h2 ?_
      refine pz_iand dX2_candidates_94 ?_
      obtain ⟨ha, hb⟩ := hf
      refine pz_if_ne dX2_candidates_95 (tgt := 103) (by decide) (fun cc => ?_) (fun cc => ?_)
      · have hf := hb cc
        refine pz_aload_n dX2_candidates_103 rfl ?_
        refine pz_aload_n dX2_candidates_104 rfl ?_
        refine pz_iload dX2_candidates_105 rfl ?_
        obtain ⟨_, hO, hf⟩ := hf
        refine pz_callV2 (rc := 0) (rs := 0) (mc := 0) (ms := 0) dX2_candidates_107 (k_X2_readyAmong X d _ _ _ _ _ hf) (Nat.le_of_ble_eq_true rfl) mf_X2_readyAmong ml_X2_131 hO rfl mi_X2_readyAmong ms_X2_readyAmong (fun _ h9 hq => ?_)
        obtain ⟨_, rfl, hf⟩ := hq
        exact pz_drop (pz_part_of [] rfl) (kB_X2_candidates_110 X d _ _ _  hf)
      · have hf := ha cc
        refine pz_iload dX2_candidates_98 rfl ?_
        refine pz_goto dX2_candidates_100 (tgt := 110) (by decide) ?_
        exact pz_drop (pz_part_of [] rfl) (kB_X2_candidates_110 X d _ _ _  hf)
    · have hf := hb cc
      refine pz_iload_n dX2_candidates_27 rfl ?_
      refine pz_iload dX2_candidates_28 rfl ?_
      refine pz_ishr dX2_candidates_30 ?_
      refine pz_iconst (v := (1 : Int32)) dX2_candidates_31 (by decide) ?_
      refine pz_iand dX2_candidates_32 ?_
      obtain ⟨ha, hb⟩ := hf
      refine pz_if_eq dX2_candidates_33 (tgt := 68) (by decide) (fun cc => ?_) (fun cc => ?_)
      · have hf := ha cc
        exact pz_drop (pz_part_of [0, 1, 2, 3, 4] rfl) (kB_X2_candidates_68 X d _ _ _ _ _ _ _ _ ih hf)
      · have hf := hb cc
        refine pz_iload_n dX2_candidates_36 rfl ?_
        refine pz_aload_n dX2_candidates_37 rfl ?_
        obtain ⟨_, b6, h1, h2, hf⟩ := hf
        refine pz_get dX2_candidates_38 fl_X2_121 h1 h2 ?_
        refine pz_iload dX2_candidates_41 rfl ?_
        obtain ⟨_, _, h1, h2, hf⟩ := hf
        refine pz_iald dX2_candidates_43 h1 h2 ?_
        refine pz_ior dX2_candidates_44 ?_
        refine pz_istore_n dX2_candidates_45 rfl (by decide) rfl ?_
        refine pz_iload_n dX2_candidates_46 rfl ?_
        refine pz_aload_n dX2_candidates_47 rfl ?_
        obtain ⟨_, b8, h1, h2, hf⟩ := hf
        refine pz_get dX2_candidates_48 fl_X2_124 h1 h2 ?_
        refine pz_iload dX2_candidates_51 rfl ?_
        obtain ⟨_, _, h1, h2, hf⟩ := hf
        refine pz_iald dX2_candidates_53 h1 h2 ?_
        refine pz_iand dX2_candidates_54 ?_
        obtain ⟨ha, hb⟩ := hf
        refine pz_if_eq dX2_candidates_55 (tgt := 68) (by decide) (fun cc => ?_) (fun cc => ?_)
        · have hf := ha cc
          exact pz_drop (pz_part_of [0, 1, 2, 3, 4] rfl) (kB_X2_candidates_68 X d _ _ _ _ _ _ _ _ ih hf)
        · have hf := hb cc
          refine pz_iload_n dX2_candidates_58 rfl ?_
          refine pz_aload_n dX2_candidates_59 rfl ?_
          refine pz_aload_n dX2_candidates_60 rfl ?_
          refine pz_iload dX2_candidates_61 rfl ?_
          obtain ⟨_, hO, hf⟩ := hf
          refine pz_callV2 (rc := 0) (rs := 0) (mc := 0) (ms := 0) dX2_candidates_63 (k_X2_barredFromClosing X d _ _ _ _ _ hf) (Nat.le_of_ble_eq_true rfl) mf_X2_barredFromClosing ml_X2_127 hO rfl mi_X2_barredFromClosing ms_X2_barredFromClosing (fun _ h9 hq => ?_)
          obtain ⟨_, rfl, hf⟩ := hq
          refine pz_ior dX2_candidates_66 ?_
          refine pz_istore_n dX2_candidates_67 rfl (by decide) rfl ?_
          exact pz_drop (pz_part_of [0, 1, 2, 3, 4] rfl) (kB_X2_candidates_68 X d _ _ _ _ _ _ _ _ ih hf)
def F_X2_candidates (a0 : Nat) (a1 : Nat) (h : pz_H) (Q : Int32 → pz_H → Prop) : Prop := (pq_gI h a0 2 4 (fun v12 => (pq_gA h a0 2 7 (fun b13 => (pq_gI h a0 2 3 (fun v14 => (pq_aI h b13 v14 (fun v15 => (pq_ex (fun m18 => L_X2_candidates_18 a0 a1 v15 Q m18 v12 (0 : Int32) h))))))))))
set_option maxHeartbeats 4000000 in
set_option maxRecDepth 100000 in
theorem k_X2_candidates (X : pz_X) (d : Nat) (a0 : Nat) (a1 : Nat) (h : pz_H) (Q : Int32 → pz_H → Prop) (hf : F_X2_candidates a0 a1 h Q) : pz_Call X M_X2_candidates (d + 2) 0 0 [.ref a0, .ref a1] h (pq_qI Q) := by
  refine pz_call_of (by decide +kernel) (Nat.le_of_ble_eq_true rfl) ?_
  unfold F_X2_candidates at hf
  refine pz_aload_n dX2_candidates_0 rfl ?_
  obtain ⟨_, v12, h1, h2, hf⟩ := hf
  refine pz_get dX2_candidates_1 fl_X2_26 h1 h2 ?_
  refine pz_istore_n dX2_candidates_4 rfl (by decide) rfl ?_
  refine pz_aload_n dX2_candidates_5 rfl ?_
  obtain ⟨_, b13, h1, h2, hf⟩ := hf
  refine pz_get dX2_candidates_6 fl_X2_35 h1 h2 ?_
  refine pz_aload_n dX2_candidates_9 rfl ?_
  obtain ⟨_, v14, h1, h2, hf⟩ := hf
  refine pz_get dX2_candidates_10 fl_X2_22 h1 h2 ?_
  obtain ⟨_, _, h1, h2, hf⟩ := hf
  refine pz_iald dX2_candidates_13 h1 h2 ?_
  refine pz_istore_n dX2_candidates_14 rfl (by decide) rfl ?_
  refine pz_iconst (v := (0 : Int32)) dX2_candidates_15 (by decide) ?_
  refine pz_istore dX2_candidates_16 (by decide) rfl ?_
  obtain ⟨n9, hf⟩ := hf
  exact pz_drop (pz_part_of [0, 1, 2, 3, 4] rfl) (kL_X2_candidates_18 X d _ _ _ _  n9 _ _ _ hf)
def B_X2_leastUntried_30 (x1 : Int32)  (Q : Int32 → pz_H → Prop) (h : pz_H) : Prop := (Q x1 h)
set_option maxHeartbeats 4000000 in
set_option maxRecDepth 100000 in
theorem kB_X2_leastUntried_30 (X : pz_X) (d : Nat) (x1 : Int32)   (Q : Int32 → pz_H → Prop) (h : pz_H)  (hf : B_X2_leastUntried_30 x1  Q h) : pz_W (fun _ => True) X M_X2_leastUntried (d + 1) 30 [(1, .int x1)] [] h 0 0 (pq_qI Q) := by
  unfold B_X2_leastUntried_30 at hf
  refine pz_iload_n dX2_leastUntried_30 rfl ?_
  exact pz_ireturn dX2_leastUntried_31 rfl rfl ⟨_, rfl, hf⟩
def L_X2_leastUntried_2 (a0 : Nat)  (Q : Int32 → pz_H → Prop) : Nat → Int32 → pz_H → Prop
  | 0, _, _ => False
  | n + 1, x1, h => (pq_br ((8 : Int32) ≤ x1) (B_X2_leastUntried_30 x1 Q h) (pq_gA h a0 2 8 (fun b1 => (pq_gI h a0 2 3 (fun v2 => (pq_aI h b1 v2 (fun v3 => (F_X4_has v3 x1 h (fun v5 h4 => (pq_br (v5 = 0) (L_X2_leastUntried_2 a0 Q n (x1 + (1 : Int32)) h4) (B_X2_leastUntried_30 x1 Q h4)))))))))))
set_option maxHeartbeats 4000000 in
set_option maxRecDepth 100000 in
theorem kL_X2_leastUntried_2 (X : pz_X) (d : Nat) (a0 : Nat)   (Q : Int32 → pz_H → Prop)  : ∀ (n : Nat) (x1 : Int32) (h : pz_H), L_X2_leastUntried_2 a0  Q n x1 h → pz_W (fun _ => True) X M_X2_leastUntried (d + 1) 2 [(0, .ref a0), (1, .int x1)] [] h 0 0 (pq_qI Q) := by
  intro n
  induction n with
  | zero =>
    intro _ _ hf
    exact False.elim hf
  | succ n ih =>
    intro x1 h hf
    unfold L_X2_leastUntried_2 at hf
    refine pz_iload_n dX2_leastUntried_2 rfl ?_
    refine pz_bipush (v := (8 : Int32)) dX2_leastUntried_3 (by decide) ?_
    obtain ⟨ha, hb⟩ := hf
    refine pz_icmp_ge dX2_leastUntried_5 (tgt := 30) (by decide) (fun cc => ?_) (fun cc => ?_)
    · have hf := ha cc
      exact pz_drop (pz_part_of [1] rfl) (kB_X2_leastUntried_30 X d _ _ _  hf)
    · have hf := hb cc
      refine pz_aload_n dX2_leastUntried_8 rfl ?_
      obtain ⟨_, b1, h1, h2, hf⟩ := hf
      refine pz_get dX2_leastUntried_9 fl_X2_38 h1 h2 ?_
      refine pz_aload_n dX2_leastUntried_12 rfl ?_
      obtain ⟨_, v2, h1, h2, hf⟩ := hf
      refine pz_get dX2_leastUntried_13 fl_X2_22 h1 h2 ?_
      obtain ⟨_, _, h1, h2, hf⟩ := hf
      refine pz_iald dX2_leastUntried_16 h1 h2 ?_
      refine pz_iload_n dX2_leastUntried_17 rfl ?_
      refine pz_callSN2 (rc := 0) (rs := 0) (mc := 0) (ms := 0) dX2_leastUntried_18 (k_X4_has X d _ _ _ _ hf) (Nat.le_of_ble_eq_true rfl) mf_X4_has ml_X2_60 mt_X4_has (fun _ h9 hq => ?_)
      obtain ⟨_, rfl, hf⟩ := hq
      obtain ⟨ha, hb⟩ := hf
      refine pz_if_ne dX2_leastUntried_21 (tgt := 30) (by decide) (fun cc => ?_) (fun cc => ?_)
      · have hf := hb cc
        exact pz_drop (pz_part_of [1] rfl) (kB_X2_leastUntried_30 X d _ _ _  hf)
      · have hf := ha cc
        refine pz_iinc dX2_leastUntried_24 rfl (by rfl) (by decide) rfl ?_
        refine pz_goto dX2_leastUntried_27 (tgt := 2) (by decide) ?_
        exact pz_drop (pz_part_of [0, 1] rfl) (ih _ _ hf)
def F_X2_leastUntried (a0 : Nat) (h : pz_H) (Q : Int32 → pz_H → Prop) : Prop := (pq_ex (fun m2 => L_X2_leastUntried_2 a0 Q m2 (0 : Int32) h))
set_option maxHeartbeats 4000000 in
set_option maxRecDepth 100000 in
theorem k_X2_leastUntried (X : pz_X) (d : Nat) (a0 : Nat) (h : pz_H) (Q : Int32 → pz_H → Prop) (hf : F_X2_leastUntried a0 h Q) : pz_Call X M_X2_leastUntried (d + 1) 0 0 [.ref a0] h (pq_qI Q) := by
  refine pz_call_of (by decide +kernel) (Nat.le_of_ble_eq_true rfl) ?_
  unfold F_X2_leastUntried at hf
  refine pz_iconst (v := (0 : Int32)) dX2_leastUntried_0 (by decide) ?_
  refine pz_istore_n dX2_leastUntried_1 rfl (by decide) rfl ?_
  obtain ⟨n9, hf⟩ := hf
  exact pz_drop (pz_part_of [0, 1] rfl) (kL_X2_leastUntried_2 X d _ _  n9 _ _ hf)
def B_X2_put_114 (as0 : Nat) (xs1 : Int32) (xs2 : Int32)  (Q : pz_H → Prop) (h : pz_H) : Prop := (pq_sI h as0 xs1 xs2 (fun h1 => (Q h1)))
set_option maxHeartbeats 4000000 in
set_option maxRecDepth 100000 in
theorem kB_X2_put_114 (X : pz_X) (d : Nat) (as0 : Nat) (xs1 : Int32) (xs2 : Int32)   (Q : pz_H → Prop) (h : pz_H)  (hf : B_X2_put_114 as0 xs1 xs2  Q h) : pz_W (fun _ => True) X M_X2_put (d + 3) 114 [] [.int xs2, .int xs1, .ref as0] h 0 0 (pq_qV Q) := by
  unfold B_X2_put_114 at hf
  obtain ⟨_, _, h1, h2, hf⟩ := hf
  refine pz_iast dX2_put_114 h1 h2 ?_
  exact pz_return dX2_put_115 rfl ⟨rfl, hf⟩
def F_X2_put (a0 : Nat) (a1 : Nat) (x2 : Int32) (h : pz_H) (Q : pz_H → Prop) : Prop := (pq_gA h a0 2 8 (fun b2 => (pq_gI h a0 2 3 (fun v3 => (pq_aI h b2 v3 (fun v4 => (pq_sI h b2 v3 (v4 &&& (((1 : Int32) <<< (x2 &&& 31)) ^^^ (-1 : Int32))) (fun h5 => (pq_gA h5 a0 2 1 (fun b6 => (pq_gI h5 a0 2 3 (fun v7 => (pq_sI h5 b6 v7 x2 (fun h8 => (pq_gA h8 a0 2 2 (fun b9 => (pq_gI h8 a0 2 3 (fun v10 => (pq_sI h8 b9 x2 v10 (fun h11 => (pq_gI h11 a0 2 4 (fun v12 => (pq_p h11 a0 2 4 (.int (v12 ||| ((1 : Int32) <<< (x2 &&& 31)))) (fun h13 => (pq_gA h13 a0 2 7 (fun b14 => (pq_gI h13 a0 2 3 (fun v15 => (pq_gA h13 a0 2 7 (fun b16 => (pq_gI h13 a0 2 3 (fun v17 => (pq_aI h13 b16 v17 (fun v18 => (pq_gA h13 a1 1 16 (fun b19 => (pq_aI h13 b19 x2 (fun v20 => (pq_sI h13 b14 (v15 + (1 : Int32)) (v18 ^^^ v20) (fun h21 => (pq_gI h21 a0 2 3 (fun v22 => (pq_p h21 a0 2 3 (.int (v22 + (1 : Int32))) (fun h23 => (pq_gA h23 a0 2 8 (fun b24 => (pq_gI h23 a0 2 3 (fun v25 => (pq_gI h23 a0 2 3 (fun v26 => (pq_gI h23 a1 1 3 (fun v27 => (pq_br (v27 ≤ v26) (B_X2_put_114 b24 v25 (0 : Int32) Q h23) (pq_o h23 a0 2 (F_X2_candidates a0 a1 h23 (fun v29 h28 => (B_X2_put_114 b24 v25 v29 Q h28)))))))))))))))))))))))))))))))))))))))))))))))))))))))))
set_option maxHeartbeats 4000000 in
set_option maxRecDepth 100000 in
theorem k_X2_put (X : pz_X) (d : Nat) (a0 : Nat) (a1 : Nat) (x2 : Int32) (h : pz_H) (Q : pz_H → Prop) (hf : F_X2_put a0 a1 x2 h Q) : pz_Call X M_X2_put (d + 3) 0 0 [.ref a0, .ref a1, .int x2] h (pq_qV Q) := by
  refine pz_call_of (by decide +kernel) (Nat.le_of_ble_eq_true rfl) ?_
  unfold F_X2_put at hf
  refine pz_aload_n dX2_put_0 rfl ?_
  obtain ⟨_, b2, h1, h2, hf⟩ := hf
  refine pz_get dX2_put_1 fl_X2_38 h1 h2 ?_
  refine pz_aload_n dX2_put_4 rfl ?_
  obtain ⟨_, v3, h1, h2, hf⟩ := hf
  refine pz_get dX2_put_5 fl_X2_22 h1 h2 ?_
  refine pz_dup2 dX2_put_8 rfl rfl ?_
  obtain ⟨_, _, h1, h2, hf⟩ := hf
  refine pz_iald dX2_put_9 h1 h2 ?_
  refine pz_iconst (v := (1 : Int32)) dX2_put_10 (by decide) ?_
  refine pz_iload_n dX2_put_11 rfl ?_
  refine pz_ishl dX2_put_12 ?_
  refine pz_iconst (v := (-1 : Int32)) dX2_put_13 (by decide) ?_
  refine pz_ixor dX2_put_14 ?_
  refine pz_iand dX2_put_15 ?_
  obtain ⟨_, _, h1, h2, hf⟩ := hf
  refine pz_iast dX2_put_16 h1 h2 ?_
  refine pz_aload_n dX2_put_17 rfl ?_
  obtain ⟨_, b6, h1, h2, hf⟩ := hf
  refine pz_get dX2_put_18 fl_X2_15 h1 h2 ?_
  refine pz_aload_n dX2_put_21 rfl ?_
  obtain ⟨_, v7, h1, h2, hf⟩ := hf
  refine pz_get dX2_put_22 fl_X2_22 h1 h2 ?_
  refine pz_iload_n dX2_put_25 rfl ?_
  obtain ⟨_, _, h1, h2, hf⟩ := hf
  refine pz_iast dX2_put_26 h1 h2 ?_
  refine pz_aload_n dX2_put_27 rfl ?_
  obtain ⟨_, b9, h1, h2, hf⟩ := hf
  refine pz_get dX2_put_28 fl_X2_19 h1 h2 ?_
  refine pz_iload_n dX2_put_31 rfl ?_
  refine pz_aload_n dX2_put_32 rfl ?_
  obtain ⟨_, v10, h1, h2, hf⟩ := hf
  refine pz_get dX2_put_33 fl_X2_22 h1 h2 ?_
  obtain ⟨_, _, h1, h2, hf⟩ := hf
  refine pz_iast dX2_put_36 h1 h2 ?_
  refine pz_aload_n dX2_put_37 rfl ?_
  refine pz_dup dX2_put_38 rfl ?_
  obtain ⟨_, v12, h1, h2, hf⟩ := hf
  refine pz_get dX2_put_39 fl_X2_26 h1 h2 ?_
  refine pz_iconst (v := (1 : Int32)) dX2_put_42 (by decide) ?_
  refine pz_iload_n dX2_put_43 rfl ?_
  refine pz_ishl dX2_put_44 ?_
  refine pz_ior dX2_put_45 ?_
  obtain ⟨_, h1, h2, hf⟩ := hf
  refine pz_put dX2_put_46 fp_X2_26 h1 rfl rfl h2 ?_
  refine pz_aload_n dX2_put_49 rfl ?_
  obtain ⟨_, b14, h1, h2, hf⟩ := hf
  refine pz_get dX2_put_50 fl_X2_35 h1 h2 ?_
  refine pz_aload_n dX2_put_53 rfl ?_
  obtain ⟨_, v15, h1, h2, hf⟩ := hf
  refine pz_get dX2_put_54 fl_X2_22 h1 h2 ?_
  refine pz_iconst (v := (1 : Int32)) dX2_put_57 (by decide) ?_
  refine pz_iadd dX2_put_58 ?_
  refine pz_aload_n dX2_put_59 rfl ?_
  obtain ⟨_, b16, h1, h2, hf⟩ := hf
  refine pz_get dX2_put_60 fl_X2_35 h1 h2 ?_
  refine pz_aload_n dX2_put_63 rfl ?_
  obtain ⟨_, v17, h1, h2, hf⟩ := hf
  refine pz_get dX2_put_64 fl_X2_22 h1 h2 ?_
  obtain ⟨_, _, h1, h2, hf⟩ := hf
  refine pz_iald dX2_put_67 h1 h2 ?_
  refine pz_aload_n dX2_put_68 rfl ?_
  obtain ⟨_, b19, h1, h2, hf⟩ := hf
  refine pz_get dX2_put_69 fl_X2_118 h1 h2 ?_
  refine pz_iload_n dX2_put_72 rfl ?_
  obtain ⟨_, _, h1, h2, hf⟩ := hf
  refine pz_iald dX2_put_73 h1 h2 ?_
  refine pz_ixor dX2_put_74 ?_
  obtain ⟨_, _, h1, h2, hf⟩ := hf
  refine pz_iast dX2_put_75 h1 h2 ?_
  refine pz_aload_n dX2_put_76 rfl ?_
  refine pz_dup dX2_put_77 rfl ?_
  obtain ⟨_, v22, h1, h2, hf⟩ := hf
  refine pz_get dX2_put_78 fl_X2_22 h1 h2 ?_
  refine pz_iconst (v := (1 : Int32)) dX2_put_81 (by decide) ?_
  refine pz_iadd dX2_put_82 ?_
  obtain ⟨_, h1, h2, hf⟩ := hf
  refine pz_put dX2_put_83 fp_X2_22 h1 rfl rfl h2 ?_
  refine pz_aload_n dX2_put_86 rfl ?_
  obtain ⟨_, b24, h1, h2, hf⟩ := hf
  refine pz_get dX2_put_87 fl_X2_38 h1 h2 ?_
  refine pz_aload_n dX2_put_90 rfl ?_
  obtain ⟨_, v25, h1, h2, hf⟩ := hf
  refine pz_get dX2_put_91 fl_X2_22 h1 h2 ?_
  refine pz_aload_n dX2_put_94 rfl ?_
  obtain ⟨_, v26, h1, h2, hf⟩ := hf
  refine pz_get dX2_put_95 fl_X2_22 h1 h2 ?_
  refine pz_aload_n dX2_put_98 rfl ?_
  obtain ⟨_, v27, h1, h2, hf⟩ := hf
  refine pz_get dX2_put_99 fl_X2_110 h1 h2 ?_
  obtain ⟨ha, hb⟩ := hf
  refine pz_icmp_ge dX2_put_102 (tgt := 113) (by decide) (fun cc => ?_) (fun cc => ?_)
  · have hf := ha cc
    refine pz_iconst (v := (0 : Int32)) dX2_put_113 (by decide) ?_
    exact pz_drop (pz_part_of [] rfl) (kB_X2_put_114 X d _ _ _ _ _  hf)
  · have hf := hb cc
    refine pz_aload_n dX2_put_105 rfl ?_
    refine pz_aload_n dX2_put_106 rfl ?_
    obtain ⟨_, hO, hf⟩ := hf
    refine pz_callV1 (rc := 0) (rs := 0) (mc := 0) (ms := 0) dX2_put_107 (k_X2_candidates X d _ _ _ _ hf) (Nat.le_of_ble_eq_true rfl) mf_X2_candidates ml_X2_98 hO rfl mi_X2_candidates ms_X2_candidates (fun _ h9 hq => ?_)
    obtain ⟨_, rfl, hf⟩ := hq
    refine pz_goto dX2_put_110 (tgt := 114) (by decide) ?_
    exact pz_drop (pz_part_of [] rfl) (kB_X2_put_114 X d _ _ _ _ _  hf)
def F_X2_takeOff (a0 : Nat) (h : pz_H) (Q : pz_H → Prop) : Prop := (pq_gI h a0 2 3 (fun v1 => (pq_p h a0 2 3 (.int (v1 - (1 : Int32))) (fun h2 => (pq_gI h2 a0 2 4 (fun v3 => (pq_gA h2 a0 2 1 (fun b4 => (pq_gI h2 a0 2 3 (fun v5 => (pq_aI h2 b4 v5 (fun v6 => (pq_p h2 a0 2 4 (.int (v3 &&& (((1 : Int32) <<< (v6 &&& 31)) ^^^ (-1 : Int32)))) (fun h7 => (Q h7)))))))))))))))
set_option maxHeartbeats 4000000 in
set_option maxRecDepth 100000 in
theorem k_X2_takeOff (X : pz_X) (d : Nat) (a0 : Nat) (h : pz_H) (Q : pz_H → Prop) (hf : F_X2_takeOff a0 h Q) : pz_Call X M_X2_takeOff (d + 0) 0 0 [.ref a0] h (pq_qV Q) := by
  refine pz_call_of (by decide +kernel) (Nat.le_of_ble_eq_true rfl) ?_
  unfold F_X2_takeOff at hf
  refine pz_aload_n dX2_takeOff_0 rfl ?_
  refine pz_dup dX2_takeOff_1 rfl ?_
  obtain ⟨_, v1, h1, h2, hf⟩ := hf
  refine pz_get dX2_takeOff_2 fl_X2_22 h1 h2 ?_
  refine pz_iconst (v := (1 : Int32)) dX2_takeOff_5 (by decide) ?_
  refine pz_isub dX2_takeOff_6 ?_
  obtain ⟨_, h1, h2, hf⟩ := hf
  refine pz_put dX2_takeOff_7 fp_X2_22 h1 rfl rfl h2 ?_
  refine pz_aload_n dX2_takeOff_10 rfl ?_
  refine pz_dup dX2_takeOff_11 rfl ?_
  obtain ⟨_, v3, h1, h2, hf⟩ := hf
  refine pz_get dX2_takeOff_12 fl_X2_26 h1 h2 ?_
  refine pz_iconst (v := (1 : Int32)) dX2_takeOff_15 (by decide) ?_
  refine pz_aload_n dX2_takeOff_16 rfl ?_
  obtain ⟨_, b4, h1, h2, hf⟩ := hf
  refine pz_get dX2_takeOff_17 fl_X2_15 h1 h2 ?_
  refine pz_aload_n dX2_takeOff_20 rfl ?_
  obtain ⟨_, v5, h1, h2, hf⟩ := hf
  refine pz_get dX2_takeOff_21 fl_X2_22 h1 h2 ?_
  obtain ⟨_, _, h1, h2, hf⟩ := hf
  refine pz_iald dX2_takeOff_24 h1 h2 ?_
  refine pz_ishl dX2_takeOff_25 ?_
  refine pz_iconst (v := (-1 : Int32)) dX2_takeOff_26 (by decide) ?_
  refine pz_ixor dX2_takeOff_27 ?_
  refine pz_iand dX2_takeOff_28 ?_
  obtain ⟨_, h1, h2, hf⟩ := hf
  refine pz_put dX2_takeOff_29 fp_X2_26 h1 rfl rfl h2 ?_
  exact pz_return dX2_takeOff_32 rfl ⟨rfl, hf⟩
def B_X2_next_111 (a0 : Nat) (a1 : Nat) (x2 : Int32) (k55 : Int32 → pz_H → Prop) (Q : Int32 → pz_H → Prop) (h : pz_H) : Prop := (k55 (x2 + (1 : Int32)) h)
set_option maxHeartbeats 4000000 in
set_option maxRecDepth 100000 in
theorem kB_X2_next_111 (X : pz_X) (d : Nat) (a0 : Nat) (a1 : Nat) (x2 : Int32)  (k55 : Int32 → pz_H → Prop) (Q : Int32 → pz_H → Prop) (h : pz_H) (hk55 : ∀ (x2 : Int32) (h : pz_H), k55 x2 h → pz_W (fun _ => True) X M_X2_next (d + 4) 55 [(0, .ref a0), (1, .ref a1), (2, .int x2)] [] h 0 0 (pq_qI Q)) (hf : B_X2_next_111 a0 a1 x2 k55 Q h) : pz_W (fun _ => True) X M_X2_next (d + 4) 111 [(0, .ref a0), (1, .ref a1), (2, .int x2)] [] h 0 0 (pq_qI Q) := by
  unfold B_X2_next_111 at hf
  refine pz_iinc dX2_next_111 rfl (by rfl) (by decide) rfl ?_
  refine pz_goto dX2_next_114 (tgt := 55) (by decide) ?_
  exact pz_drop (pz_part_of [0, 1, 2] rfl) (hk55 _ _ hf)
def L_X2_next_55 (a0 : Nat) (a1 : Nat)  (Q : Int32 → pz_H → Prop) : Nat → Int32 → pz_H → Prop
  | 0, _, _ => False
  | n + 1, x2, h => (pq_br ((2000000 : Int32) ≤ x2) (Q (0 : Int32) h) (pq_gA h a0 2 8 (fun b2 => (pq_gI h a0 2 3 (fun v3 => (pq_aI h b2 v3 (fun v4 => (pq_br (v4 = 0) (pq_gI h a0 2 3 (fun v5 => (pq_br (v5 ≤ 0) (Q (0 : Int32) h) (pq_o h a0 2 (F_X2_takeOff a0 h (fun h6 => (B_X2_next_111 a0 a1 x2 (fun z0 hz => L_X2_next_55 a0 a1 Q n z0 hz) Q h6))))))) (pq_o h a0 2 (F_X2_leastUntried a0 h (fun v8 h7 => (pq_o h7 a0 2 (F_X2_put a0 a1 v8 h7 (fun h9 => (pq_gI h9 a0 2 3 (fun v10 => (pq_gI h9 a1 1 3 (fun v11 => (pq_br (v10 = v11) (Q (1 : Int32) h9) (B_X2_next_111 a0 a1 x2 (fun z0 hz => L_X2_next_55 a0 a1 Q n z0 hz) Q h9))))))))))))))))))))
set_option maxHeartbeats 4000000 in
set_option maxRecDepth 100000 in
theorem kL_X2_next_55 (X : pz_X) (d : Nat) (a0 : Nat) (a1 : Nat)   (Q : Int32 → pz_H → Prop)  : ∀ (n : Nat) (x2 : Int32) (h : pz_H), L_X2_next_55 a0 a1  Q n x2 h → pz_W (fun _ => True) X M_X2_next (d + 4) 55 [(0, .ref a0), (1, .ref a1), (2, .int x2)] [] h 0 0 (pq_qI Q) := by
  intro n
  induction n with
  | zero =>
    intro _ _ hf
    exact False.elim hf
  | succ n ih =>
    intro x2 h hf
    unfold L_X2_next_55 at hf
    refine pz_iload_n dX2_next_55 rfl ?_
    refine pz_ldc dX2_next_56 cn_X2_102 ?_
    obtain ⟨ha, hb⟩ := hf
    refine pz_icmp_ge dX2_next_58 (tgt := 117) (by decide) (fun cc => ?_) (fun cc => ?_)
    · have hf := ha cc
      refine pz_iconst (v := (0 : Int32)) dX2_next_117 (by decide) ?_
      exact pz_ireturn dX2_next_118 rfl rfl ⟨_, rfl, hf⟩
    · have hf := hb cc
      refine pz_aload_n dX2_next_61 rfl ?_
      obtain ⟨_, b2, h1, h2, hf⟩ := hf
      refine pz_get dX2_next_62 fl_X2_38 h1 h2 ?_
      refine pz_aload_n dX2_next_65 rfl ?_
      obtain ⟨_, v3, h1, h2, hf⟩ := hf
      refine pz_get dX2_next_66 fl_X2_22 h1 h2 ?_
      obtain ⟨_, _, h1, h2, hf⟩ := hf
      refine pz_iald dX2_next_69 h1 h2 ?_
      obtain ⟨ha, hb⟩ := hf
      refine pz_if_eq dX2_next_70 (tgt := 95) (by decide) (fun cc => ?_) (fun cc => ?_)
      · have hf := ha cc
        refine pz_aload_n dX2_next_95 rfl ?_
        obtain ⟨_, v5, h1, h2, hf⟩ := hf
        refine pz_get dX2_next_96 fl_X2_22 h1 h2 ?_
        obtain ⟨ha, hb⟩ := hf
        refine pz_if_le dX2_next_99 (tgt := 109) (by decide) (fun cc => ?_) (fun cc => ?_)
        · have hf := ha cc
          refine pz_iconst (v := (0 : Int32)) dX2_next_109 (by decide) ?_
          exact pz_ireturn dX2_next_110 rfl rfl ⟨_, rfl, hf⟩
        · have hf := hb cc
          refine pz_aload_n dX2_next_102 rfl ?_
          obtain ⟨_, hO, hf⟩ := hf
          refine pz_callV0 (rc := 0) (rs := 0) (mc := 0) (ms := 0) dX2_next_103 (k_X2_takeOff X (d + 3) _ _ _ hf) (Nat.le_of_ble_eq_true rfl) mf_X2_takeOff ml_X2_113 hO rfl mi_X2_takeOff ms_X2_takeOff (fun _ h9 hq => ?_)
          obtain ⟨rfl, hf⟩ := hq
          refine pz_goto dX2_next_106 (tgt := 111) (by decide) ?_
          exact pz_drop (pz_part_of [0, 1, 2] rfl) (kB_X2_next_111 X d _ _ _ _ _ _ ih hf)
      · have hf := hb cc
        refine pz_aload_n dX2_next_73 rfl ?_
        refine pz_aload_n dX2_next_74 rfl ?_
        refine pz_aload_n dX2_next_75 rfl ?_
        obtain ⟨_, hO, hf⟩ := hf
        refine pz_callV0 (rc := 0) (rs := 0) (mc := 0) (ms := 0) dX2_next_76 (k_X2_leastUntried X (d + 2) _ _ _ hf) (Nat.le_of_ble_eq_true rfl) mf_X2_leastUntried ml_X2_103 hO rfl mi_X2_leastUntried ms_X2_leastUntried (fun _ h9 hq => ?_)
        obtain ⟨_, rfl, hf⟩ := hq
        obtain ⟨_, hO, hf⟩ := hf
        refine pz_callV2 (rc := 0) (rs := 0) (mc := 0) (ms := 0) dX2_next_79 (k_X2_put X d _ _ _ _ _ hf) (Nat.le_of_ble_eq_true rfl) mf_X2_put ml_X2_107 hO rfl mi_X2_put ms_X2_put (fun _ h9 hq => ?_)
        obtain ⟨rfl, hf⟩ := hq
        refine pz_aload_n dX2_next_82 rfl ?_
        obtain ⟨_, v10, h1, h2, hf⟩ := hf
        refine pz_get dX2_next_83 fl_X2_22 h1 h2 ?_
        refine pz_aload_n dX2_next_86 rfl ?_
        obtain ⟨_, v11, h1, h2, hf⟩ := hf
        refine pz_get dX2_next_87 fl_X2_110 h1 h2 ?_
        obtain ⟨ha, hb⟩ := hf
        refine pz_icmp_ne dX2_next_90 (tgt := 111) (by decide) (fun cc => ?_) (fun cc => ?_)
        · have hf := hb cc
          exact pz_drop (pz_part_of [0, 1, 2] rfl) (kB_X2_next_111 X d _ _ _ _ _ _ ih hf)
        · have hf := ha cc
          refine pz_iconst (v := (1 : Int32)) dX2_next_93 (by decide) ?_
          exact pz_ireturn dX2_next_94 rfl rfl ⟨_, rfl, hf⟩
def B_X2_next_53 (a0 : Nat) (a1 : Nat)  (Q : Int32 → pz_H → Prop) (h : pz_H) : Prop := (pq_ex (fun m55 => L_X2_next_55 a0 a1 Q m55 (0 : Int32) h))
set_option maxHeartbeats 4000000 in
set_option maxRecDepth 100000 in
theorem kB_X2_next_53 (X : pz_X) (d : Nat) (a0 : Nat) (a1 : Nat)   (Q : Int32 → pz_H → Prop) (h : pz_H)  (hf : B_X2_next_53 a0 a1  Q h) : pz_W (fun _ => True) X M_X2_next (d + 4) 53 [(0, .ref a0), (1, .ref a1)] [] h 0 0 (pq_qI Q) := by
  unfold B_X2_next_53 at hf
  refine pz_iconst (v := (0 : Int32)) dX2_next_53 (by decide) ?_
  refine pz_istore_n dX2_next_54 rfl (by decide) rfl ?_
  obtain ⟨n9, hf⟩ := hf
  exact pz_drop (pz_part_of [0, 1, 2] rfl) (kL_X2_next_55 X d _ _ _  n9 _ _ hf)
def B_X2_next_52 (a0 : Nat) (a1 : Nat) (as0 : Nat) (xs1 : Int32) (xs2 : Int32)  (Q : Int32 → pz_H → Prop) (h : pz_H) : Prop := (pq_sI h as0 xs1 xs2 (fun h1 => (B_X2_next_53 a0 a1 Q h1)))
set_option maxHeartbeats 4000000 in
set_option maxRecDepth 100000 in
theorem kB_X2_next_52 (X : pz_X) (d : Nat) (a0 : Nat) (a1 : Nat) (as0 : Nat) (xs1 : Int32) (xs2 : Int32)   (Q : Int32 → pz_H → Prop) (h : pz_H)  (hf : B_X2_next_52 a0 a1 as0 xs1 xs2  Q h) : pz_W (fun _ => True) X M_X2_next (d + 4) 52 [(0, .ref a0), (1, .ref a1)] [.int xs2, .int xs1, .ref as0] h 0 0 (pq_qI Q) := by
  unfold B_X2_next_52 at hf
  obtain ⟨_, _, h1, h2, hf⟩ := hf
  refine pz_iast dX2_next_52 h1 h2 ?_
  exact pz_drop (pz_part_of [0, 1] rfl) (kB_X2_next_53 X d _ _ _ _  hf)
def B_X2_next_43 (a0 : Nat) (a1 : Nat) (as0 : Nat) (xs1 : Int32)  (Q : Int32 → pz_H → Prop) (h : pz_H) : Prop := (B_X2_next_52 a0 a1 as0 xs1 (0 : Int32) Q h)
set_option maxHeartbeats 4000000 in
set_option maxRecDepth 100000 in
theorem kB_X2_next_43 (X : pz_X) (d : Nat) (a0 : Nat) (a1 : Nat) (as0 : Nat) (xs1 : Int32)   (Q : Int32 → pz_H → Prop) (h : pz_H)  (hf : B_X2_next_43 a0 a1 as0 xs1  Q h) : pz_W (fun _ => True) X M_X2_next (d + 4) 43 [(0, .ref a0), (1, .ref a1)] [.int xs1, .ref as0] h 0 0 (pq_qI Q) := by
  unfold B_X2_next_43 at hf
  refine pz_iconst (v := (0 : Int32)) dX2_next_43 (by decide) ?_
  refine pz_goto dX2_next_44 (tgt := 52) (by decide) ?_
  exact pz_drop (pz_part_of [0, 1] rfl) (kB_X2_next_52 X d _ _ _ _ _ _ _  hf)
def F_X2_next (a0 : Nat) (h : pz_H) (Q : Int32 → pz_H → Prop) : Prop := (pq_gN h a0 2 0 (fun r12 => pq_sw r12 (Q (0 : Int32) h) (fun w13 => (pq_gI h a0 2 9 (fun v14 => (pq_br (v14 = 0) (pq_p h a0 2 9 (.int (1 : Int32)) (fun h15 => (pq_gA h15 a0 2 8 (fun b16 => (pq_o h15 w13 1 (F_X1_isUneven w13 h15 (fun v18 h17 => (pq_br (v18 = 0) (pq_o h17 a0 2 (F_X2_demandsClash a0 w13 h17 (fun v20 h19 => (pq_br (v20 = 0) (pq_o h19 a0 2 (F_X2_candidates a0 w13 h19 (fun v22 h21 => (B_X2_next_52 a0 w13 b16 (0 : Int32) v22 Q h21)))) (B_X2_next_43 a0 w13 b16 (0 : Int32) Q h19))))) (B_X2_next_43 a0 w13 b16 (0 : Int32) Q h17))))))))) (B_X2_next_53 a0 w13 Q h)))))))
set_option maxHeartbeats 4000000 in
set_option maxRecDepth 100000 in
theorem k_X2_next (X : pz_X) (d : Nat) (a0 : Nat) (h : pz_H) (Q : Int32 → pz_H → Prop) (hf : F_X2_next a0 h Q) : pz_Call X M_X2_next (d + 4) 0 0 [.ref a0] h (pq_qI Q) := by
  refine pz_call_of (by decide +kernel) (Nat.le_of_ble_eq_true rfl) ?_
  unfold F_X2_next at hf
  refine pz_aload_n dX2_next_0 rfl ?_
  obtain ⟨_, r12, h1, h2, hf⟩ := hf
  refine pz_get dX2_next_1 fl_X2_9 h1 h2 ?_
  rcases r12 with _ | w13
  · refine pz_astore_nN dX2_next_4 rfl (by decide) rfl ?_
    refine pz_aload_nN dX2_next_5 rfl ?_
    refine pz_ifnonnullN dX2_next_6 ?_
    refine pz_iconst (v := (0 : Int32)) dX2_next_9 (by decide) ?_
    exact pz_ireturn dX2_next_10 rfl rfl ⟨_, rfl, hf⟩
  · refine pz_astore_n dX2_next_4 rfl (by decide) rfl ?_
    refine pz_aload_n dX2_next_5 rfl ?_
    refine pz_ifnonnull dX2_next_6 (tgt := 11) (by decide) ?_
    refine pz_aload_n dX2_next_11 rfl ?_
    obtain ⟨_, v14, h1, h2, hf⟩ := hf
    refine pz_get dX2_next_12 fl_X2_41 h1 h2 ?_
    obtain ⟨ha, hb⟩ := hf
    refine pz_if_ne dX2_next_15 (tgt := 53) (by decide) (fun cc => ?_) (fun cc => ?_)
    · have hf := hb cc
      exact pz_drop (pz_part_of [0, 1] rfl) (kB_X2_next_53 X d _ _ _ _  hf)
    · have hf := ha cc
      refine pz_aload_n dX2_next_18 rfl ?_
      refine pz_iconst (v := (1 : Int32)) dX2_next_19 (by decide) ?_
      obtain ⟨_, h1, h2, hf⟩ := hf
      refine pz_put dX2_next_20 fp_X2_41 h1 rfl rfl h2 ?_
      refine pz_aload_n dX2_next_23 rfl ?_
      obtain ⟨_, b16, h1, h2, hf⟩ := hf
      refine pz_get dX2_next_24 fl_X2_38 h1 h2 ?_
      refine pz_iconst (v := (0 : Int32)) dX2_next_27 (by decide) ?_
      refine pz_aload_n dX2_next_28 rfl ?_
      obtain ⟨_, hO, hf⟩ := hf
      refine pz_callV0 (rc := 0) (rs := 0) (mc := 0) (ms := 0) dX2_next_29 (k_X1_isUneven X (d + 3) _ _ _ hf) (Nat.le_of_ble_eq_true rfl) mf_X1_isUneven ml_X2_90 hO rfl mi_X1_isUneven ms_X1_isUneven (fun _ h9 hq => ?_)
      obtain ⟨_, rfl, hf⟩ := hq
      obtain ⟨ha, hb⟩ := hf
      refine pz_if_ne dX2_next_32 (tgt := 43) (by decide) (fun cc => ?_) (fun cc => ?_)
      · have hf := hb cc
        exact pz_drop (pz_part_of [0, 1] rfl) (kB_X2_next_43 X d _ _ _ _ _ _  hf)
      · have hf := ha cc
        refine pz_aload_n dX2_next_35 rfl ?_
        refine pz_aload_n dX2_next_36 rfl ?_
        obtain ⟨_, hO, hf⟩ := hf
        refine pz_callV1 (rc := 0) (rs := 0) (mc := 0) (ms := 0) dX2_next_37 (k_X2_demandsClash X (d + 2) _ _ _ _ hf) (Nat.le_of_ble_eq_true rfl) mf_X2_demandsClash ml_X2_94 hO rfl mi_X2_demandsClash ms_X2_demandsClash (fun _ h9 hq => ?_)
        obtain ⟨_, rfl, hf⟩ := hq
        obtain ⟨ha, hb⟩ := hf
        refine pz_if_eq dX2_next_40 (tgt := 47) (by decide) (fun cc => ?_) (fun cc => ?_)
        · have hf := ha cc
          refine pz_aload_n dX2_next_47 rfl ?_
          refine pz_aload_n dX2_next_48 rfl ?_
          obtain ⟨_, hO, hf⟩ := hf
          refine pz_callV1 (rc := 0) (rs := 0) (mc := 0) (ms := 0) dX2_next_49 (k_X2_candidates X (d + 1) _ _ _ _ hf) (Nat.le_of_ble_eq_true rfl) mf_X2_candidates ml_X2_98 hO rfl mi_X2_candidates ms_X2_candidates (fun _ h9 hq => ?_)
          obtain ⟨_, rfl, hf⟩ := hq
          exact pz_drop (pz_part_of [0, 1] rfl) (kB_X2_next_52 X d _ _ _ _ _ _ _  hf)
        · have hf := hb cc
          exact pz_drop (pz_part_of [0, 1] rfl) (kB_X2_next_43 X d _ _ _ _ _ _  hf)
def L_X2_asNumber_9 (a0 : Nat)  (Q : Int64 → pz_H → Prop) : Nat → Int64 → Int32 → pz_H → Prop
  | 0, _, _, _ => False
  | n + 1, y1, x3, h => (pq_br (x3 < 0) (Q y1 h) (pq_gA h a0 2 1 (fun b1 => (pq_aI h b1 x3 (fun v2 => (L_X2_asNumber_9 a0 Q n ((y1 * (10 : Int64)) + (Int32.toInt64 v2)) (x3 + (-1 : Int32)) h))))))
set_option maxHeartbeats 4000000 in
set_option maxRecDepth 100000 in
theorem kL_X2_asNumber_9 (X : pz_X) (d : Nat) (a0 : Nat)   (Q : Int64 → pz_H → Prop)  : ∀ (n : Nat) (y1 : Int64) (x3 : Int32) (h : pz_H), L_X2_asNumber_9 a0  Q n y1 x3 h → pz_W (fun _ => True) X M_X2_asNumber (d + 0) 9 [(0, .ref a0), (1, .long y1), (3, .int x3)] [] h 0 0 (pq_qJ Q) := by
  intro n
  induction n with
  | zero =>
    intro _ _ _ hf
    exact False.elim hf
  | succ n ih =>
    intro y1 x3 h hf
    unfold L_X2_asNumber_9 at hf
    refine pz_iload_n dX2_asNumber_9 rfl ?_
    obtain ⟨ha, hb⟩ := hf
    refine pz_if_lt dX2_asNumber_10 (tgt := 33) (by decide) (fun cc => ?_) (fun cc => ?_)
    · have hf := ha cc
      refine pz_lload_n dX2_asNumber_33 rfl ?_
      exact pz_lreturn dX2_asNumber_34 rfl ⟨_, rfl, hf⟩
    · have hf := hb cc
      refine pz_lload_n dX2_asNumber_13 rfl ?_
      refine pz_ldc2 dX2_asNumber_14 cn_X2_116 ?_
      refine pz_lmul dX2_asNumber_17 ?_
      refine pz_aload_n dX2_asNumber_18 rfl ?_
      obtain ⟨_, b1, h1, h2, hf⟩ := hf
      refine pz_get dX2_asNumber_19 fl_X2_15 h1 h2 ?_
      refine pz_iload_n dX2_asNumber_22 rfl ?_
      obtain ⟨_, _, h1, h2, hf⟩ := hf
      refine pz_iald dX2_asNumber_23 h1 h2 ?_
      refine pz_i2l dX2_asNumber_24 ?_
      refine pz_ladd dX2_asNumber_25 ?_
      refine pz_lstore_n dX2_asNumber_26 rfl (by decide) rfl ?_
      refine pz_iinc dX2_asNumber_27 rfl (by rfl) (by decide) rfl ?_
      refine pz_goto dX2_asNumber_30 (tgt := 9) (by decide) ?_
      exact pz_drop (pz_part_of [0, 1, 3] rfl) (ih _ _ _ hf)
def F_X2_asNumber (a0 : Nat) (h : pz_H) (Q : Int64 → pz_H → Prop) : Prop := (pq_gI h a0 2 3 (fun v3 => (pq_ex (fun m9 => L_X2_asNumber_9 a0 Q m9 (0 : Int64) (v3 - (1 : Int32)) h))))
set_option maxHeartbeats 4000000 in
set_option maxRecDepth 100000 in
theorem k_X2_asNumber (X : pz_X) (d : Nat) (a0 : Nat) (h : pz_H) (Q : Int64 → pz_H → Prop) (hf : F_X2_asNumber a0 h Q) : pz_Call X M_X2_asNumber (d + 0) 0 0 [.ref a0] h (pq_qJ Q) := by
  refine pz_call_of (by decide +kernel) (Nat.le_of_ble_eq_true rfl) ?_
  unfold F_X2_asNumber at hf
  refine pz_lconst (v := (0 : Int64)) dX2_asNumber_0 (by decide) ?_
  refine pz_lstore_n dX2_asNumber_1 rfl (by decide) rfl ?_
  refine pz_aload_n dX2_asNumber_2 rfl ?_
  obtain ⟨_, v3, h1, h2, hf⟩ := hf
  refine pz_get dX2_asNumber_3 fl_X2_22 h1 h2 ?_
  refine pz_iconst (v := (1 : Int32)) dX2_asNumber_6 (by decide) ?_
  refine pz_isub dX2_asNumber_7 ?_
  refine pz_istore_n dX2_asNumber_8 rfl (by decide) rfl ?_
  obtain ⟨n9, hf⟩ := hf
  exact pz_drop (pz_part_of [0, 1, 3] rfl) (kL_X2_asNumber_9 X d _ _  n9 _ _ _ hf)
