def F_X1_join (a0 : Nat) (x1 : Int32) (x2 : Int32) (x3 : Int32) (h : pz_H) (Q : pz_H → Prop) : Prop := (pq_gI h a0 1 4 (fun v1 => (pq_br (v1 < (12 : Int32)) (pq_gA h a0 1 9 (fun b2 => (pq_gI h a0 1 4 (fun v3 => (pq_sI h b2 v3 x1 (fun h4 => (pq_gA h4 a0 1 10 (fun b5 => (pq_gI h4 a0 1 4 (fun v6 => (pq_sI h4 b5 v6 x2 (fun h7 => (pq_gA h7 a0 1 11 (fun b8 => (pq_gI h7 a0 1 4 (fun v9 => (pq_sI h7 b8 v9 x3 (fun h10 => (pq_gA h10 a0 1 16 (fun b11 => (pq_aI h10 b11 x1 (fun v12 => (pq_gI h10 a0 1 4 (fun v13 => (pq_sI h10 b11 x1 (v12 ||| ((1 : Int32) <<< (v13 &&& 31))) (fun h14 => (pq_gA h14 a0 1 16 (fun b15 => (pq_aI h14 b15 x2 (fun v16 => (pq_gI h14 a0 1 4 (fun v17 => (pq_sI h14 b15 x2 (v16 ||| ((1 : Int32) <<< (v17 &&& 31))) (fun h18 => (pq_gI h18 a0 1 4 (fun v19 => (pq_p h18 a0 1 4 (.int (v19 + (1 : Int32))) (fun h20 => (Q h20))))))))))))))))))))))))))))))))))))))) (Q h))))
set_option maxHeartbeats 4000000 in
set_option maxRecDepth 100000 in
theorem k_X1_join (X : pz_X) (d : Nat) (a0 : Nat) (x1 : Int32) (x2 : Int32) (x3 : Int32) (h : pz_H) (Q : pz_H → Prop) (hf : F_X1_join a0 x1 x2 x3 h Q) : pz_Call X M_X1_join (d + 0) 0 0 [.ref a0, .int x1, .int x2, .int x3] h (pq_qV Q) := by
  refine pz_call_of (by decide +kernel) (Nat.le_of_ble_eq_true rfl) ?_
  unfold F_X1_join at hf
  refine pz_aload_n dX1_join_0 rfl ?_
  obtain ⟨_, v1, h1, h2, hf⟩ := hf
  refine pz_get dX1_join_1 fl_X1_9 h1 h2 ?_
  refine pz_bipush (v := (12 : Int32)) dX1_join_4 (by decide) ?_
  obtain ⟨ha, hb⟩ := hf
  refine pz_icmp_lt dX1_join_6 (tgt := 10) (by decide) (fun cc => ?_) (fun cc => ?_)
  · have hf := ha cc
    refine pz_aload_n dX1_join_10 rfl ?_
    obtain ⟨_, b2, h1, h2, hf⟩ := hf
    refine pz_get dX1_join_11 fl_X1_28 h1 h2 ?_
    refine pz_aload_n dX1_join_14 rfl ?_
    obtain ⟨_, v3, h1, h2, hf⟩ := hf
    refine pz_get dX1_join_15 fl_X1_9 h1 h2 ?_
    refine pz_iload_n dX1_join_18 rfl ?_
    obtain ⟨_, _, h1, h2, hf⟩ := hf
    refine pz_iast dX1_join_19 h1 h2 ?_
    refine pz_aload_n dX1_join_20 rfl ?_
    obtain ⟨_, b5, h1, h2, hf⟩ := hf
    refine pz_get dX1_join_21 fl_X1_31 h1 h2 ?_
    refine pz_aload_n dX1_join_24 rfl ?_
    obtain ⟨_, v6, h1, h2, hf⟩ := hf
    refine pz_get dX1_join_25 fl_X1_9 h1 h2 ?_
    refine pz_iload_n dX1_join_28 rfl ?_
    obtain ⟨_, _, h1, h2, hf⟩ := hf
    refine pz_iast dX1_join_29 h1 h2 ?_
    refine pz_aload_n dX1_join_30 rfl ?_
    obtain ⟨_, b8, h1, h2, hf⟩ := hf
    refine pz_get dX1_join_31 fl_X1_34 h1 h2 ?_
    refine pz_aload_n dX1_join_34 rfl ?_
    obtain ⟨_, v9, h1, h2, hf⟩ := hf
    refine pz_get dX1_join_35 fl_X1_9 h1 h2 ?_
    refine pz_iload_n dX1_join_38 rfl ?_
    obtain ⟨_, _, h1, h2, hf⟩ := hf
    refine pz_iast dX1_join_39 h1 h2 ?_
    refine pz_aload_n dX1_join_40 rfl ?_
    obtain ⟨_, b11, h1, h2, hf⟩ := hf
    refine pz_get dX1_join_41 fl_X1_49 h1 h2 ?_
    refine pz_iload_n dX1_join_44 rfl ?_
    refine pz_dup2 dX1_join_45 rfl rfl ?_
    obtain ⟨_, _, h1, h2, hf⟩ := hf
    refine pz_iald dX1_join_46 h1 h2 ?_
    refine pz_iconst (v := (1 : Int32)) dX1_join_47 (by decide) ?_
    refine pz_aload_n dX1_join_48 rfl ?_
    obtain ⟨_, v13, h1, h2, hf⟩ := hf
    refine pz_get dX1_join_49 fl_X1_9 h1 h2 ?_
    refine pz_ishl dX1_join_52 ?_
    refine pz_ior dX1_join_53 ?_
    obtain ⟨_, _, h1, h2, hf⟩ := hf
    refine pz_iast dX1_join_54 h1 h2 ?_
    refine pz_aload_n dX1_join_55 rfl ?_
    obtain ⟨_, b15, h1, h2, hf⟩ := hf
    refine pz_get dX1_join_56 fl_X1_49 h1 h2 ?_
    refine pz_iload_n dX1_join_59 rfl ?_
    refine pz_dup2 dX1_join_60 rfl rfl ?_
    obtain ⟨_, _, h1, h2, hf⟩ := hf
    refine pz_iald dX1_join_61 h1 h2 ?_
    refine pz_iconst (v := (1 : Int32)) dX1_join_62 (by decide) ?_
    refine pz_aload_n dX1_join_63 rfl ?_
    obtain ⟨_, v17, h1, h2, hf⟩ := hf
    refine pz_get dX1_join_64 fl_X1_9 h1 h2 ?_
    refine pz_ishl dX1_join_67 ?_
    refine pz_ior dX1_join_68 ?_
    obtain ⟨_, _, h1, h2, hf⟩ := hf
    refine pz_iast dX1_join_69 h1 h2 ?_
    refine pz_aload_n dX1_join_70 rfl ?_
    refine pz_dup dX1_join_71 rfl ?_
    obtain ⟨_, v19, h1, h2, hf⟩ := hf
    refine pz_get dX1_join_72 fl_X1_9 h1 h2 ?_
    refine pz_iconst (v := (1 : Int32)) dX1_join_75 (by decide) ?_
    refine pz_iadd dX1_join_76 ?_
    obtain ⟨_, h1, h2, hf⟩ := hf
    refine pz_put dX1_join_77 fp_X1_9 h1 rfl rfl h2 ?_
    exact pz_return dX1_join_80 rfl ⟨rfl, hf⟩
  · have hf := hb cc
    exact pz_return dX1_join_9 rfl ⟨rfl, hf⟩
def B_X1_joinFaces_125   (Q : pz_H → Prop) (h : pz_H) : Prop := (Q h)
set_option maxHeartbeats 4000000 in
set_option maxRecDepth 100000 in
theorem kB_X1_joinFaces_125 (X : pz_X) (d : Nat)    (Q : pz_H → Prop) (h : pz_H)  (hf : B_X1_joinFaces_125   Q h) : pz_W (fun _ => True) X M_X1_joinFaces (d + 1) 125 [] [] h 0 0 (pq_qV Q) := by
  unfold B_X1_joinFaces_125 at hf
  exact pz_return dX1_joinFaces_125 rfl ⟨rfl, hf⟩
def B_X1_joinFaces_94 (a0 : Nat) (x1 : Int32) (k47 : Int32 → pz_H → Prop) (Q : pz_H → Prop) (h : pz_H) : Prop := (k47 (x1 + (1 : Int32)) h)
set_option maxHeartbeats 4000000 in
set_option maxRecDepth 100000 in
theorem kB_X1_joinFaces_94 (X : pz_X) (d : Nat) (a0 : Nat) (x1 : Int32)  (k47 : Int32 → pz_H → Prop) (Q : pz_H → Prop) (h : pz_H) (hk47 : ∀ (x1 : Int32) (h : pz_H), k47 x1 h → pz_W (fun _ => True) X M_X1_joinFaces (d + 1) 47 [(0, .ref a0), (1, .int x1)] [] h 0 0 (pq_qV Q)) (hf : B_X1_joinFaces_94 a0 x1 k47 Q h) : pz_W (fun _ => True) X M_X1_joinFaces (d + 1) 94 [(0, .ref a0), (1, .int x1)] [] h 0 0 (pq_qV Q) := by
  unfold B_X1_joinFaces_94 at hf
  refine pz_iinc dX1_joinFaces_94 rfl (by rfl) (by decide) rfl ?_
  refine pz_goto dX1_joinFaces_97 (tgt := 47) (by decide) ?_
  exact pz_drop (pz_part_of [0, 1] rfl) (hk47 _ _ hf)
def L_X1_joinFaces_47 (a0 : Nat)  (Q : pz_H → Prop) : Nat → Int32 → pz_H → Prop
  | 0, _, _ => False
  | n + 1, x1, h => (pq_gI h a0 1 3 (fun v8 => (pq_br (v8 ≤ x1) (pq_gI h a0 1 0 (fun v9 => (pq_br (v9 = (1 : Int32)) (pq_gI h a0 1 3 (fun v10 => (pq_gI h a0 1 2 (fun v11 => (pq_o h a0 1 (F_X1_join a0 (v10 - (1 : Int32)) (0 : Int32) (v11 - (1 : Int32)) h (fun h12 => (B_X1_joinFaces_125 Q h12)))))))) (B_X1_joinFaces_125 Q h)))) (pq_gA h a0 1 5 (fun b13 => (pq_aI h b13 x1 (fun v14 => (pq_gI h a0 1 1 (fun v15 => (pq_br (v15 ≤ (v14 + (1 : Int32))) (B_X1_joinFaces_94 a0 x1 (fun z0 hz => L_X1_joinFaces_47 a0 Q n z0 hz) Q h) (pq_gI h a0 1 2 (fun v16 => (pq_gI h a0 1 2 (fun v17 => (pq_gA h a0 1 5 (fun b18 => (pq_aI h b18 x1 (fun v19 => (pq_o h a0 1 (F_X1_join a0 x1 (x1 + v16) ((v17 - (1 : Int32)) + v19) h (fun h20 => (B_X1_joinFaces_94 a0 x1 (fun z0 hz => L_X1_joinFaces_47 a0 Q n z0 hz) Q h20))))))))))))))))))))))
set_option maxHeartbeats 4000000 in
set_option maxRecDepth 100000 in
theorem kL_X1_joinFaces_47 (X : pz_X) (d : Nat) (a0 : Nat)   (Q : pz_H → Prop)  : ∀ (n : Nat) (x1 : Int32) (h : pz_H), L_X1_joinFaces_47 a0  Q n x1 h → pz_W (fun _ => True) X M_X1_joinFaces (d + 1) 47 [(0, .ref a0), (1, .int x1)] [] h 0 0 (pq_qV Q) := by
  intro n
  induction n with
  | zero =>
    intro _ _ hf
    exact False.elim hf
  | succ n ih =>
    intro x1 h hf
    unfold L_X1_joinFaces_47 at hf
    refine pz_iload_n dX1_joinFaces_47 rfl ?_
    refine pz_aload_n dX1_joinFaces_48 rfl ?_
    obtain ⟨_, v8, h1, h2, hf⟩ := hf
    refine pz_get dX1_joinFaces_49 fl_X1_64 h1 h2 ?_
    obtain ⟨ha, hb⟩ := hf
    refine pz_icmp_ge dX1_joinFaces_52 (tgt := 100) (by decide) (fun cc => ?_) (fun cc => ?_)
    · have hf := ha cc
      refine pz_aload_n dX1_joinFaces_100 rfl ?_
      obtain ⟨_, v9, h1, h2, hf⟩ := hf
      refine pz_get dX1_joinFaces_101 fl_X1_55 h1 h2 ?_
      refine pz_iconst (v := (1 : Int32)) dX1_joinFaces_104 (by decide) ?_
      obtain ⟨ha, hb⟩ := hf
      refine pz_icmp_ne dX1_joinFaces_105 (tgt := 125) (by decide) (fun cc => ?_) (fun cc => ?_)
      · have hf := hb cc
        exact pz_drop (pz_part_of [] rfl) (kB_X1_joinFaces_125 X d _ _  hf)
      · have hf := ha cc
        refine pz_aload_n dX1_joinFaces_108 rfl ?_
        refine pz_aload_n dX1_joinFaces_109 rfl ?_
        obtain ⟨_, v10, h1, h2, hf⟩ := hf
        refine pz_get dX1_joinFaces_110 fl_X1_64 h1 h2 ?_
        refine pz_iconst (v := (1 : Int32)) dX1_joinFaces_113 (by decide) ?_
        refine pz_isub dX1_joinFaces_114 ?_
        refine pz_iconst (v := (0 : Int32)) dX1_joinFaces_115 (by decide) ?_
        refine pz_aload_n dX1_joinFaces_116 rfl ?_
        obtain ⟨_, v11, h1, h2, hf⟩ := hf
        refine pz_get dX1_joinFaces_117 fl_X1_61 h1 h2 ?_
        refine pz_iconst (v := (1 : Int32)) dX1_joinFaces_120 (by decide) ?_
        refine pz_isub dX1_joinFaces_121 ?_
        obtain ⟨_, hO, hf⟩ := hf
        refine pz_callV3 (rc := 0) (rs := 0) (mc := 0) (ms := 0) dX1_joinFaces_122 (k_X1_join X d _ _ _ _ _ _ hf) (Nat.le_of_ble_eq_true rfl) mf_X1_join ml_X1_79 hO rfl mi_X1_join ms_X1_join (fun _ h9 hq => ?_)
        obtain ⟨rfl, hf⟩ := hq
        exact pz_drop (pz_part_of [] rfl) (kB_X1_joinFaces_125 X d _ _  hf)
    · have hf := hb cc
      refine pz_aload_n dX1_joinFaces_55 rfl ?_
      obtain ⟨_, b13, h1, h2, hf⟩ := hf
      refine pz_get dX1_joinFaces_56 fl_X1_15 h1 h2 ?_
      refine pz_iload_n dX1_joinFaces_59 rfl ?_
      obtain ⟨_, _, h1, h2, hf⟩ := hf
      refine pz_iald dX1_joinFaces_60 h1 h2 ?_
      refine pz_iconst (v := (1 : Int32)) dX1_joinFaces_61 (by decide) ?_
      refine pz_iadd dX1_joinFaces_62 ?_
      refine pz_aload_n dX1_joinFaces_63 rfl ?_
      obtain ⟨_, v15, h1, h2, hf⟩ := hf
      refine pz_get dX1_joinFaces_64 fl_X1_58 h1 h2 ?_
      obtain ⟨ha, hb⟩ := hf
      refine pz_icmp_ge dX1_joinFaces_67 (tgt := 94) (by decide) (fun cc => ?_) (fun cc => ?_)
      · have hf := ha cc
        exact pz_drop (pz_part_of [0, 1] rfl) (kB_X1_joinFaces_94 X d _ _ _ _ _ ih hf)
      · have hf := hb cc
        refine pz_aload_n dX1_joinFaces_70 rfl ?_
        refine pz_iload_n dX1_joinFaces_71 rfl ?_
        refine pz_iload_n dX1_joinFaces_72 rfl ?_
        refine pz_aload_n dX1_joinFaces_73 rfl ?_
        obtain ⟨_, v16, h1, h2, hf⟩ := hf
        refine pz_get dX1_joinFaces_74 fl_X1_61 h1 h2 ?_
        refine pz_iadd dX1_joinFaces_77 ?_
        refine pz_aload_n dX1_joinFaces_78 rfl ?_
        obtain ⟨_, v17, h1, h2, hf⟩ := hf
        refine pz_get dX1_joinFaces_79 fl_X1_61 h1 h2 ?_
        refine pz_iconst (v := (1 : Int32)) dX1_joinFaces_82 (by decide) ?_
        refine pz_isub dX1_joinFaces_83 ?_
        refine pz_aload_n dX1_joinFaces_84 rfl ?_
        obtain ⟨_, b18, h1, h2, hf⟩ := hf
        refine pz_get dX1_joinFaces_85 fl_X1_15 h1 h2 ?_
        refine pz_iload_n dX1_joinFaces_88 rfl ?_
        obtain ⟨_, _, h1, h2, hf⟩ := hf
        refine pz_iald dX1_joinFaces_89 h1 h2 ?_
        refine pz_iadd dX1_joinFaces_90 ?_
        obtain ⟨_, hO, hf⟩ := hf
        refine pz_callV3 (rc := 0) (rs := 0) (mc := 0) (ms := 0) dX1_joinFaces_91 (k_X1_join X d _ _ _ _ _ _ hf) (Nat.le_of_ble_eq_true rfl) mf_X1_join ml_X1_79 hO rfl mi_X1_join ms_X1_join (fun _ h9 hq => ?_)
        obtain ⟨rfl, hf⟩ := hq
        exact pz_drop (pz_part_of [0, 1] rfl) (kB_X1_joinFaces_94 X d _ _ _ _ _ ih hf)
def B_X1_joinFaces_39 (a0 : Nat) (x1 : Int32) (k2 : Int32 → pz_H → Prop) (Q : pz_H → Prop) (h : pz_H) : Prop := (k2 (x1 + (1 : Int32)) h)
set_option maxHeartbeats 4000000 in
set_option maxRecDepth 100000 in
theorem kB_X1_joinFaces_39 (X : pz_X) (d : Nat) (a0 : Nat) (x1 : Int32)  (k2 : Int32 → pz_H → Prop) (Q : pz_H → Prop) (h : pz_H) (hk2 : ∀ (x1 : Int32) (h : pz_H), k2 x1 h → pz_W (fun _ => True) X M_X1_joinFaces (d + 1) 2 [(0, .ref a0), (1, .int x1)] [] h 0 0 (pq_qV Q)) (hf : B_X1_joinFaces_39 a0 x1 k2 Q h) : pz_W (fun _ => True) X M_X1_joinFaces (d + 1) 39 [(0, .ref a0), (1, .int x1)] [] h 0 0 (pq_qV Q) := by
  unfold B_X1_joinFaces_39 at hf
  refine pz_iinc dX1_joinFaces_39 rfl (by rfl) (by decide) rfl ?_
  refine pz_goto dX1_joinFaces_42 (tgt := 2) (by decide) ?_
  exact pz_drop (pz_part_of [0, 1] rfl) (hk2 _ _ hf)
def L_X1_joinFaces_2 (a0 : Nat)  (Q : pz_H → Prop) : Nat → Int32 → pz_H → Prop
  | 0, _, _ => False
  | n + 1, x1, h => (pq_gI h a0 1 3 (fun v1 => (pq_br (v1 ≤ x1) (pq_ex (fun m47 => L_X1_joinFaces_47 a0 Q m47 (0 : Int32) h)) (pq_gA h a0 1 6 (fun b2 => (pq_aI h b2 x1 (fun v3 => (pq_gI h a0 1 2 (fun v4 => (pq_br (v4 ≤ (v3 + (1 : Int32))) (B_X1_joinFaces_39 a0 x1 (fun z0 hz => L_X1_joinFaces_2 a0 Q n z0 hz) Q h) (pq_gA h a0 1 6 (fun b5 => (pq_aI h b5 x1 (fun v6 => (pq_o h a0 1 (F_X1_join a0 x1 (x1 + (1 : Int32)) v6 h (fun h7 => (B_X1_joinFaces_39 a0 x1 (fun z0 hz => L_X1_joinFaces_2 a0 Q n z0 hz) Q h7))))))))))))))))))
set_option maxHeartbeats 4000000 in
set_option maxRecDepth 100000 in
theorem kL_X1_joinFaces_2 (X : pz_X) (d : Nat) (a0 : Nat)   (Q : pz_H → Prop)  : ∀ (n : Nat) (x1 : Int32) (h : pz_H), L_X1_joinFaces_2 a0  Q n x1 h → pz_W (fun _ => True) X M_X1_joinFaces (d + 1) 2 [(0, .ref a0), (1, .int x1)] [] h 0 0 (pq_qV Q) := by
  intro n
  induction n with
  | zero =>
    intro _ _ hf
    exact False.elim hf
  | succ n ih =>
    intro x1 h hf
    unfold L_X1_joinFaces_2 at hf
    refine pz_iload_n dX1_joinFaces_2 rfl ?_
    refine pz_aload_n dX1_joinFaces_3 rfl ?_
    obtain ⟨_, v1, h1, h2, hf⟩ := hf
    refine pz_get dX1_joinFaces_4 fl_X1_64 h1 h2 ?_
    obtain ⟨ha, hb⟩ := hf
    refine pz_icmp_ge dX1_joinFaces_7 (tgt := 45) (by decide) (fun cc => ?_) (fun cc => ?_)
    · have hf := ha cc
      refine pz_iconst (v := (0 : Int32)) dX1_joinFaces_45 (by decide) ?_
      refine pz_istore_n dX1_joinFaces_46 rfl (by decide) rfl ?_
      obtain ⟨n9, hf⟩ := hf
      exact pz_drop (pz_part_of [0, 1] rfl) (kL_X1_joinFaces_47 X d _ _  n9 _ _ hf)
    · have hf := hb cc
      refine pz_aload_n dX1_joinFaces_10 rfl ?_
      obtain ⟨_, b2, h1, h2, hf⟩ := hf
      refine pz_get dX1_joinFaces_11 fl_X1_19 h1 h2 ?_
      refine pz_iload_n dX1_joinFaces_14 rfl ?_
      obtain ⟨_, _, h1, h2, hf⟩ := hf
      refine pz_iald dX1_joinFaces_15 h1 h2 ?_
      refine pz_iconst (v := (1 : Int32)) dX1_joinFaces_16 (by decide) ?_
      refine pz_iadd dX1_joinFaces_17 ?_
      refine pz_aload_n dX1_joinFaces_18 rfl ?_
      obtain ⟨_, v4, h1, h2, hf⟩ := hf
      refine pz_get dX1_joinFaces_19 fl_X1_61 h1 h2 ?_
      obtain ⟨ha, hb⟩ := hf
      refine pz_icmp_ge dX1_joinFaces_22 (tgt := 39) (by decide) (fun cc => ?_) (fun cc => ?_)
      · have hf := ha cc
        exact pz_drop (pz_part_of [0, 1] rfl) (kB_X1_joinFaces_39 X d _ _ _ _ _ ih hf)
      · have hf := hb cc
        refine pz_aload_n dX1_joinFaces_25 rfl ?_
        refine pz_iload_n dX1_joinFaces_26 rfl ?_
        refine pz_iload_n dX1_joinFaces_27 rfl ?_
        refine pz_iconst (v := (1 : Int32)) dX1_joinFaces_28 (by decide) ?_
        refine pz_iadd dX1_joinFaces_29 ?_
        refine pz_aload_n dX1_joinFaces_30 rfl ?_
        obtain ⟨_, b5, h1, h2, hf⟩ := hf
        refine pz_get dX1_joinFaces_31 fl_X1_19 h1 h2 ?_
        refine pz_iload_n dX1_joinFaces_34 rfl ?_
        obtain ⟨_, _, h1, h2, hf⟩ := hf
        refine pz_iald dX1_joinFaces_35 h1 h2 ?_
        obtain ⟨_, hO, hf⟩ := hf
        refine pz_callV3 (rc := 0) (rs := 0) (mc := 0) (ms := 0) dX1_joinFaces_36 (k_X1_join X d _ _ _ _ _ _ hf) (Nat.le_of_ble_eq_true rfl) mf_X1_join ml_X1_79 hO rfl mi_X1_join ms_X1_join (fun _ h9 hq => ?_)
        obtain ⟨rfl, hf⟩ := hq
        exact pz_drop (pz_part_of [0, 1] rfl) (kB_X1_joinFaces_39 X d _ _ _ _ _ ih hf)
def F_X1_joinFaces (a0 : Nat) (h : pz_H) (Q : pz_H → Prop) : Prop := (pq_ex (fun m2 => L_X1_joinFaces_2 a0 Q m2 (0 : Int32) h))
set_option maxHeartbeats 4000000 in
set_option maxRecDepth 100000 in
theorem k_X1_joinFaces (X : pz_X) (d : Nat) (a0 : Nat) (h : pz_H) (Q : pz_H → Prop) (hf : F_X1_joinFaces a0 h Q) : pz_Call X M_X1_joinFaces (d + 1) 0 0 [.ref a0] h (pq_qV Q) := by
  refine pz_call_of (by decide +kernel) (Nat.le_of_ble_eq_true rfl) ?_
  unfold F_X1_joinFaces at hf
  refine pz_iconst (v := (0 : Int32)) dX1_joinFaces_0 (by decide) ?_
  refine pz_istore_n dX1_joinFaces_1 rfl (by decide) rfl ?_
  obtain ⟨n9, hf⟩ := hf
  exact pz_drop (pz_part_of [0, 1] rfl) (kL_X1_joinFaces_2 X d _ _  n9 _ _ hf)
def B_X1_isFrontUp_23 (xs0 : Int32)  (Q : Int32 → pz_H → Prop) (h : pz_H) : Prop := (pq_z xs0 (Q xs0 h))
set_option maxHeartbeats 4000000 in
set_option maxRecDepth 100000 in
theorem kB_X1_isFrontUp_23 (X : pz_X) (d : Nat) (xs0 : Int32)   (Q : Int32 → pz_H → Prop) (h : pz_H)  (hf : B_X1_isFrontUp_23 xs0  Q h) : pz_W (fun _ => True) X M_X1_isFrontUp (d + 0) 23 [] [.int xs0] h 0 0 (pq_qI Q) := by
  unfold B_X1_isFrontUp_23 at hf
  obtain ⟨hz, hf⟩ := hf
  exact pz_ireturn dX1_isFrontUp_23 rfl hz ⟨_, rfl, hf⟩
def F_X1_isFrontUp (a0 : Nat) (x1 : Int32) (h : pz_H) (Q : Int32 → pz_H → Prop) : Prop := (pq_gA h a0 1 5 (fun b1 => (pq_aI h b1 x1 (fun v2 => (pq_gA h a0 1 6 (fun b3 => (pq_aI h b3 x1 (fun v4 => (pq_ne (2 : Int32) (pq_br (((v2 + v4) - (v2 + v4) / (2 : Int32) * (2 : Int32)) = 0) (B_X1_isFrontUp_23 (1 : Int32) Q h) (B_X1_isFrontUp_23 (0 : Int32) Q h)))))))))))
set_option maxHeartbeats 4000000 in
set_option maxRecDepth 100000 in
theorem k_X1_isFrontUp (X : pz_X) (d : Nat) (a0 : Nat) (x1 : Int32) (h : pz_H) (Q : Int32 → pz_H → Prop) (hf : F_X1_isFrontUp a0 x1 h Q) : pz_Call X M_X1_isFrontUp (d + 0) 0 0 [.ref a0, .int x1] h (pq_qI Q) := by
  refine pz_call_of (by decide +kernel) (Nat.le_of_ble_eq_true rfl) ?_
  unfold F_X1_isFrontUp at hf
  refine pz_aload_n dX1_isFrontUp_0 rfl ?_
  obtain ⟨_, b1, h1, h2, hf⟩ := hf
  refine pz_get dX1_isFrontUp_1 fl_X1_15 h1 h2 ?_
  refine pz_iload_n dX1_isFrontUp_4 rfl ?_
  obtain ⟨_, _, h1, h2, hf⟩ := hf
  refine pz_iald dX1_isFrontUp_5 h1 h2 ?_
  refine pz_aload_n dX1_isFrontUp_6 rfl ?_
  obtain ⟨_, b3, h1, h2, hf⟩ := hf
  refine pz_get dX1_isFrontUp_7 fl_X1_19 h1 h2 ?_
  refine pz_iload_n dX1_isFrontUp_10 rfl ?_
  obtain ⟨_, _, h1, h2, hf⟩ := hf
  refine pz_iald dX1_isFrontUp_11 h1 h2 ?_
  refine pz_iadd dX1_isFrontUp_12 ?_
  refine pz_iconst (v := (2 : Int32)) dX1_isFrontUp_13 (by decide) ?_
  obtain ⟨hne, hf⟩ := hf
  refine pz_irem dX1_isFrontUp_14 hne ?_
  obtain ⟨ha, hb⟩ := hf
  refine pz_if_ne dX1_isFrontUp_15 (tgt := 22) (by decide) (fun cc => ?_) (fun cc => ?_)
  · have hf := hb cc
    refine pz_iconst (v := (0 : Int32)) dX1_isFrontUp_22 (by decide) ?_
    exact pz_drop (pz_part_of [] rfl) (kB_X1_isFrontUp_23 X d _ _ _  hf)
  · have hf := ha cc
    refine pz_iconst (v := (1 : Int32)) dX1_isFrontUp_18 (by decide) ?_
    refine pz_goto dX1_isFrontUp_19 (tgt := 23) (by decide) ?_
    exact pz_drop (pz_part_of [] rfl) (kB_X1_isFrontUp_23 X d _ _ _  hf)
def B_X1_sideOf_58 (xs0 : Int32)  (Q : Int32 → pz_H → Prop) (h : pz_H) : Prop := (Q xs0 h)
set_option maxHeartbeats 4000000 in
set_option maxRecDepth 100000 in
theorem kB_X1_sideOf_58 (X : pz_X) (d : Nat) (xs0 : Int32)   (Q : Int32 → pz_H → Prop) (h : pz_H)  (hf : B_X1_sideOf_58 xs0  Q h) : pz_W (fun _ => True) X M_X1_sideOf (d + 0) 58 [] [.int xs0] h 0 0 (pq_qI Q) := by
  unfold B_X1_sideOf_58 at hf
  exact pz_ireturn dX1_sideOf_58 rfl rfl ⟨_, rfl, hf⟩
def B_X1_sideOf_32 (a0 : Nat) (x2 : Int32) (xs0 : Int32)  (Q : Int32 → pz_H → Prop) (h : pz_H) : Prop := (pq_br (xs0 = 0) (pq_gA h a0 1 5 (fun b1 => (pq_aI h b1 x2 (fun v2 => (pq_ne (2 : Int32) (B_X1_sideOf_58 ((2 : Int32) + (v2 - v2 / (2 : Int32) * (2 : Int32))) Q h)))))) (pq_gA h a0 1 6 (fun b3 => (pq_aI h b3 x2 (fun v4 => (pq_ne (2 : Int32) (B_X1_sideOf_58 (v4 - v4 / (2 : Int32) * (2 : Int32)) Q h)))))))
set_option maxHeartbeats 4000000 in
set_option maxRecDepth 100000 in
theorem kB_X1_sideOf_32 (X : pz_X) (d : Nat) (a0 : Nat) (x2 : Int32) (xs0 : Int32)   (Q : Int32 → pz_H → Prop) (h : pz_H)  (hf : B_X1_sideOf_32 a0 x2 xs0  Q h) : pz_W (fun _ => True) X M_X1_sideOf (d + 0) 32 [(0, .ref a0), (2, .int x2)] [.int xs0] h 0 0 (pq_qI Q) := by
  unfold B_X1_sideOf_32 at hf
  refine pz_istore_n dX1_sideOf_32 rfl (by decide) rfl ?_
  refine pz_iload_n dX1_sideOf_33 rfl ?_
  obtain ⟨ha, hb⟩ := hf
  refine pz_if_eq dX1_sideOf_34 (tgt := 48) (by decide) (fun cc => ?_) (fun cc => ?_)
  · have hf := ha cc
    refine pz_iconst (v := (2 : Int32)) dX1_sideOf_48 (by decide) ?_
    refine pz_aload_n dX1_sideOf_49 rfl ?_
    obtain ⟨_, b1, h1, h2, hf⟩ := hf
    refine pz_get dX1_sideOf_50 fl_X1_15 h1 h2 ?_
    refine pz_iload_n dX1_sideOf_53 rfl ?_
    obtain ⟨_, _, h1, h2, hf⟩ := hf
    refine pz_iald dX1_sideOf_54 h1 h2 ?_
    refine pz_iconst (v := (2 : Int32)) dX1_sideOf_55 (by decide) ?_
    obtain ⟨hne, hf⟩ := hf
    refine pz_irem dX1_sideOf_56 hne ?_
    refine pz_iadd dX1_sideOf_57 ?_
    exact pz_drop (pz_part_of [] rfl) (kB_X1_sideOf_58 X d _ _ _  hf)
  · have hf := hb cc
    refine pz_aload_n dX1_sideOf_37 rfl ?_
    obtain ⟨_, b3, h1, h2, hf⟩ := hf
    refine pz_get dX1_sideOf_38 fl_X1_19 h1 h2 ?_
    refine pz_iload_n dX1_sideOf_41 rfl ?_
    obtain ⟨_, _, h1, h2, hf⟩ := hf
    refine pz_iald dX1_sideOf_42 h1 h2 ?_
    refine pz_iconst (v := (2 : Int32)) dX1_sideOf_43 (by decide) ?_
    obtain ⟨hne, hf⟩ := hf
    refine pz_irem dX1_sideOf_44 hne ?_
    refine pz_goto dX1_sideOf_45 (tgt := 58) (by decide) ?_
    exact pz_drop (pz_part_of [] rfl) (kB_X1_sideOf_58 X d _ _ _  hf)
def F_X1_sideOf (a0 : Nat) (x1 : Int32) (h : pz_H) (Q : Int32 → pz_H → Prop) : Prop := (pq_gA h a0 1 9 (fun b5 => (pq_aI h b5 x1 (fun v6 => (pq_gA h a0 1 5 (fun b7 => (pq_aI h b7 v6 (fun v8 => (pq_gA h a0 1 5 (fun b9 => (pq_gA h a0 1 10 (fun b10 => (pq_aI h b10 x1 (fun v11 => (pq_aI h b9 v11 (fun v12 => (pq_br (v8 = v12) (B_X1_sideOf_32 a0 v6 (1 : Int32) Q h) (B_X1_sideOf_32 a0 v6 (0 : Int32) Q h))))))))))))))))))
set_option maxHeartbeats 4000000 in
set_option maxRecDepth 100000 in
theorem k_X1_sideOf (X : pz_X) (d : Nat) (a0 : Nat) (x1 : Int32) (h : pz_H) (Q : Int32 → pz_H → Prop) (hf : F_X1_sideOf a0 x1 h Q) : pz_Call X M_X1_sideOf (d + 0) 0 0 [.ref a0, .int x1] h (pq_qI Q) := by
  refine pz_call_of (by decide +kernel) (Nat.le_of_ble_eq_true rfl) ?_
  unfold F_X1_sideOf at hf
  refine pz_aload_n dX1_sideOf_0 rfl ?_
  obtain ⟨_, b5, h1, h2, hf⟩ := hf
  refine pz_get dX1_sideOf_1 fl_X1_28 h1 h2 ?_
  refine pz_iload_n dX1_sideOf_4 rfl ?_
  obtain ⟨_, _, h1, h2, hf⟩ := hf
  refine pz_iald dX1_sideOf_5 h1 h2 ?_
  refine pz_istore_n dX1_sideOf_6 rfl (by decide) rfl ?_
  refine pz_aload_n dX1_sideOf_7 rfl ?_
  obtain ⟨_, b7, h1, h2, hf⟩ := hf
  refine pz_get dX1_sideOf_8 fl_X1_15 h1 h2 ?_
  refine pz_iload_n dX1_sideOf_11 rfl ?_
  obtain ⟨_, _, h1, h2, hf⟩ := hf
  refine pz_iald dX1_sideOf_12 h1 h2 ?_
  refine pz_aload_n dX1_sideOf_13 rfl ?_
  obtain ⟨_, b9, h1, h2, hf⟩ := hf
  refine pz_get dX1_sideOf_14 fl_X1_15 h1 h2 ?_
  refine pz_aload_n dX1_sideOf_17 rfl ?_
  obtain ⟨_, b10, h1, h2, hf⟩ := hf
  refine pz_get dX1_sideOf_18 fl_X1_31 h1 h2 ?_
  refine pz_iload_n dX1_sideOf_21 rfl ?_
  obtain ⟨_, _, h1, h2, hf⟩ := hf
  refine pz_iald dX1_sideOf_22 h1 h2 ?_
  obtain ⟨_, _, h1, h2, hf⟩ := hf
  refine pz_iald dX1_sideOf_23 h1 h2 ?_
  obtain ⟨ha, hb⟩ := hf
  refine pz_icmp_ne dX1_sideOf_24 (tgt := 31) (by decide) (fun cc => ?_) (fun cc => ?_)
  · have hf := hb cc
    refine pz_iconst (v := (0 : Int32)) dX1_sideOf_31 (by decide) ?_
    exact pz_drop (pz_part_of [0, 2] rfl) (kB_X1_sideOf_32 X d _ _ _ _ _  hf)
  · have hf := ha cc
    refine pz_iconst (v := (1 : Int32)) dX1_sideOf_27 (by decide) ?_
    refine pz_goto dX1_sideOf_28 (tgt := 32) (by decide) ?_
    exact pz_drop (pz_part_of [0, 2] rfl) (kB_X1_sideOf_32 X d _ _ _ _ _  hf)
def B_X1_isBetween_23 (xs0 : Int32)  (Q : Int32 → pz_H → Prop) (h : pz_H) : Prop := (pq_z xs0 (Q xs0 h))
set_option maxHeartbeats 4000000 in
set_option maxRecDepth 100000 in
theorem kB_X1_isBetween_23 (X : pz_X) (d : Nat) (xs0 : Int32)   (Q : Int32 → pz_H → Prop) (h : pz_H)  (hf : B_X1_isBetween_23 xs0  Q h) : pz_W (fun _ => True) X M_X1_isBetween (d + 1) 23 [] [.int xs0] h 0 0 (pq_qI Q) := by
  unfold B_X1_isBetween_23 at hf
  obtain ⟨hz, hf⟩ := hf
  exact pz_ireturn dX1_isBetween_23 rfl hz ⟨_, rfl, hf⟩
def B_X1_isBetween_22   (Q : Int32 → pz_H → Prop) (h : pz_H) : Prop := (B_X1_isBetween_23 (0 : Int32) Q h)
set_option maxHeartbeats 4000000 in
set_option maxRecDepth 100000 in
theorem kB_X1_isBetween_22 (X : pz_X) (d : Nat)    (Q : Int32 → pz_H → Prop) (h : pz_H)  (hf : B_X1_isBetween_22   Q h) : pz_W (fun _ => True) X M_X1_isBetween (d + 1) 22 [] [] h 0 0 (pq_qI Q) := by
  unfold B_X1_isBetween_22 at hf
  refine pz_iconst (v := (0 : Int32)) dX1_isBetween_22 (by decide) ?_
  exact pz_drop (pz_part_of [] rfl) (kB_X1_isBetween_23 X d _ _ _  hf)
def F_X1_isBetween (x0 : Int32) (x1 : Int32) (x2 : Int32) (h : pz_H) (Q : Int32 → pz_H → Prop) : Prop := (pq_br (x0 ≤ (if x2 < x1 then x2 else x1)) (B_X1_isBetween_22 Q h) (pq_br ((if x1 < x2 then x2 else x1) ≤ x0) (B_X1_isBetween_22 Q h) (B_X1_isBetween_23 (1 : Int32) Q h)))
set_option maxHeartbeats 4000000 in
set_option maxRecDepth 100000 in
theorem k_X1_isBetween (X : pz_X) (d : Nat) (x0 : Int32) (x1 : Int32) (x2 : Int32) (h : pz_H) (Q : Int32 → pz_H → Prop) (hf : F_X1_isBetween x0 x1 x2 h Q) : pz_Call X M_X1_isBetween (d + 1) 0 0 [.int x0, .int x1, .int x2] h (pq_qI Q) := by
  refine pz_call_of (by decide +kernel) (Nat.le_of_ble_eq_true rfl) ?_
  unfold F_X1_isBetween at hf
  refine pz_iload_n dX1_isBetween_0 rfl ?_
  refine pz_iload_n dX1_isBetween_1 rfl ?_
  refine pz_iload_n dX1_isBetween_2 rfl ?_
  refine pz_mmin dX1_isBetween_3 ml_X1_119 mt_J9_min_7cf53 cz_J9 mm_min (Nat.le_of_ble_eq_true rfl) ?_
  obtain ⟨ha, hb⟩ := hf
  refine pz_icmp_le dX1_isBetween_6 (tgt := 22) (by decide) (fun cc => ?_) (fun cc => ?_)
  · have hf := ha cc
    exact pz_drop (pz_part_of [] rfl) (kB_X1_isBetween_22 X d _ _  hf)
  · have hf := hb cc
    refine pz_iload_n dX1_isBetween_9 rfl ?_
    refine pz_iload_n dX1_isBetween_10 rfl ?_
    refine pz_iload_n dX1_isBetween_11 rfl ?_
    refine pz_mmax dX1_isBetween_12 ml_X1_125 mt_J9_max_7cf53 cz_J9 mm_max (Nat.le_of_ble_eq_true rfl) ?_
    obtain ⟨ha, hb⟩ := hf
    refine pz_icmp_ge dX1_isBetween_15 (tgt := 22) (by decide) (fun cc => ?_) (fun cc => ?_)
    · have hf := ha cc
      exact pz_drop (pz_part_of [] rfl) (kB_X1_isBetween_22 X d _ _  hf)
    · have hf := hb cc
      refine pz_iconst (v := (1 : Int32)) dX1_isBetween_18 (by decide) ?_
      refine pz_goto dX1_isBetween_19 (tgt := 23) (by decide) ?_
      exact pz_drop (pz_part_of [] rfl) (kB_X1_isBetween_23 X d _ _ _  hf)
def B_X1_facesOver_76 (a0 : Nat) (x1 : Int32) (x2 : Int32) (x3 : Int32) (k4 : Int32 → Int32 → pz_H → Prop) (Q : Int32 → pz_H → Prop) (h : pz_H) : Prop := (k4 x2 (x3 + (1 : Int32)) h)
set_option maxHeartbeats 4000000 in
set_option maxRecDepth 100000 in
theorem kB_X1_facesOver_76 (X : pz_X) (d : Nat) (a0 : Nat) (x1 : Int32) (x2 : Int32) (x3 : Int32)  (k4 : Int32 → Int32 → pz_H → Prop) (Q : Int32 → pz_H → Prop) (h : pz_H) (hk4 : ∀ (x2 : Int32) (x3 : Int32) (h : pz_H), k4 x2 x3 h → pz_W (fun _ => True) X M_X1_facesOver (d + 2) 4 [(0, .ref a0), (1, .int x1), (2, .int x2), (3, .int x3)] [] h 0 0 (pq_qI Q)) (hf : B_X1_facesOver_76 a0 x1 x2 x3 k4 Q h) : pz_W (fun _ => True) X M_X1_facesOver (d + 2) 76 [(0, .ref a0), (1, .int x1), (2, .int x2), (3, .int x3)] [] h 0 0 (pq_qI Q) := by
  unfold B_X1_facesOver_76 at hf
  refine pz_iinc dX1_facesOver_76 rfl (by rfl) (by decide) rfl ?_
  refine pz_goto dX1_facesOver_79 (tgt := 4) (by decide) ?_
  exact pz_drop (pz_part_of [0, 1, 2, 3] rfl) (hk4 _ _ _ hf)
def B_X1_facesOver_37 (a0 : Nat) (x1 : Int32) (x2 : Int32) (x3 : Int32) (xs0 : Int32) (k4 : Int32 → Int32 → pz_H → Prop) (Q : Int32 → pz_H → Prop) (h : pz_H) : Prop := (pq_br (xs0 = 0) (B_X1_facesOver_76 a0 x1 x2 x3 k4 Q h) (pq_gA h a0 1 13 (fun b6 => (pq_aI h b6 x1 (fun v7 => (pq_gA h a0 1 8 (fun b8 => (pq_aI h b8 x3 (fun v9 => (pq_gA h a0 1 8 (fun b10 => (pq_aI h b10 (x3 + (1 : Int32)) (fun v11 => (F_X1_isBetween v7 v9 v11 h (fun v13 h12 => (pq_br (v13 = 0) (B_X1_facesOver_76 a0 x1 x2 x3 k4 Q h12) (B_X1_facesOver_76 a0 x1 (x2 ||| ((1 : Int32) <<< (x3 &&& 31))) x3 k4 Q h12)))))))))))))))))
set_option maxHeartbeats 4000000 in
set_option maxRecDepth 100000 in
theorem kB_X1_facesOver_37 (X : pz_X) (d : Nat) (a0 : Nat) (x1 : Int32) (x2 : Int32) (x3 : Int32) (xs0 : Int32)  (k4 : Int32 → Int32 → pz_H → Prop) (Q : Int32 → pz_H → Prop) (h : pz_H) (hk4 : ∀ (x2 : Int32) (x3 : Int32) (h : pz_H), k4 x2 x3 h → pz_W (fun _ => True) X M_X1_facesOver (d + 2) 4 [(0, .ref a0), (1, .int x1), (2, .int x2), (3, .int x3)] [] h 0 0 (pq_qI Q)) (hf : B_X1_facesOver_37 a0 x1 x2 x3 xs0 k4 Q h) : pz_W (fun _ => True) X M_X1_facesOver (d + 2) 37 [(0, .ref a0), (1, .int x1), (2, .int x2), (3, .int x3)] [.int xs0] h 0 0 (pq_qI Q) := by
  unfold B_X1_facesOver_37 at hf
  refine pz_istore dX1_facesOver_37 (by decide) rfl ?_
  refine pz_iload dX1_facesOver_39 rfl ?_
  obtain ⟨ha, hb⟩ := hf
  refine pz_if_eq dX1_facesOver_41 (tgt := 76) (by decide) (fun cc => ?_) (fun cc => ?_)
  · have hf := ha cc
    exact pz_drop (pz_part_of [0, 1, 2, 3] rfl) (kB_X1_facesOver_76 X d _ _ _ _ _ _ _ hk4 hf)
  · have hf := hb cc
    refine pz_aload_n dX1_facesOver_44 rfl ?_
    obtain ⟨_, b6, h1, h2, hf⟩ := hf
    refine pz_get dX1_facesOver_45 fl_X1_40 h1 h2 ?_
    refine pz_iload_n dX1_facesOver_48 rfl ?_
    obtain ⟨_, _, h1, h2, hf⟩ := hf
    refine pz_iald dX1_facesOver_49 h1 h2 ?_
    refine pz_aload_n dX1_facesOver_50 rfl ?_
    obtain ⟨_, b8, h1, h2, hf⟩ := hf
    refine pz_get dX1_facesOver_51 fl_X1_25 h1 h2 ?_
    refine pz_iload_n dX1_facesOver_54 rfl ?_
    obtain ⟨_, _, h1, h2, hf⟩ := hf
    refine pz_iald dX1_facesOver_55 h1 h2 ?_
    refine pz_aload_n dX1_facesOver_56 rfl ?_
    obtain ⟨_, b10, h1, h2, hf⟩ := hf
    refine pz_get dX1_facesOver_57 fl_X1_25 h1 h2 ?_
    refine pz_iload_n dX1_facesOver_60 rfl ?_
    refine pz_iconst (v := (1 : Int32)) dX1_facesOver_61 (by decide) ?_
    refine pz_iadd dX1_facesOver_62 ?_
    obtain ⟨_, _, h1, h2, hf⟩ := hf
    refine pz_iald dX1_facesOver_63 h1 h2 ?_
    refine pz_callS3 (rc := 0) (rs := 0) (mc := 0) (ms := 0) dX1_facesOver_64 (k_X1_isBetween X d _ _ _ _ _ hf) (Nat.le_of_ble_eq_true rfl) mf_X1_isBetween ml_X1_97 mt_X1_isBetween (fun _ h9 hq => ?_)
    obtain ⟨_, rfl, hf⟩ := hq
    obtain ⟨ha, hb⟩ := hf
    refine pz_if_eq dX1_facesOver_67 (tgt := 76) (by decide) (fun cc => ?_) (fun cc => ?_)
    · have hf := ha cc
      exact pz_drop (pz_part_of [0, 1, 2, 3] rfl) (kB_X1_facesOver_76 X d _ _ _ _ _ _ _ hk4 hf)
    · have hf := hb cc
      refine pz_iload_n dX1_facesOver_70 rfl ?_
      refine pz_iconst (v := (1 : Int32)) dX1_facesOver_71 (by decide) ?_
      refine pz_iload_n dX1_facesOver_72 rfl ?_
      refine pz_ishl dX1_facesOver_73 ?_
      refine pz_ior dX1_facesOver_74 ?_
      refine pz_istore_n dX1_facesOver_75 rfl (by decide) rfl ?_
      exact pz_drop (pz_part_of [0, 1, 2, 3] rfl) (kB_X1_facesOver_76 X d _ _ _ _ _ _ _ hk4 hf)
def B_X1_facesOver_36 (a0 : Nat) (x1 : Int32) (x2 : Int32) (x3 : Int32) (k4 : Int32 → Int32 → pz_H → Prop) (Q : Int32 → pz_H → Prop) (h : pz_H) : Prop := (B_X1_facesOver_37 a0 x1 x2 x3 (0 : Int32) k4 Q h)
set_option maxHeartbeats 4000000 in
set_option maxRecDepth 100000 in
theorem kB_X1_facesOver_36 (X : pz_X) (d : Nat) (a0 : Nat) (x1 : Int32) (x2 : Int32) (x3 : Int32)  (k4 : Int32 → Int32 → pz_H → Prop) (Q : Int32 → pz_H → Prop) (h : pz_H) (hk4 : ∀ (x2 : Int32) (x3 : Int32) (h : pz_H), k4 x2 x3 h → pz_W (fun _ => True) X M_X1_facesOver (d + 2) 4 [(0, .ref a0), (1, .int x1), (2, .int x2), (3, .int x3)] [] h 0 0 (pq_qI Q)) (hf : B_X1_facesOver_36 a0 x1 x2 x3 k4 Q h) : pz_W (fun _ => True) X M_X1_facesOver (d + 2) 36 [(0, .ref a0), (1, .int x1), (2, .int x2), (3, .int x3)] [] h 0 0 (pq_qI Q) := by
  unfold B_X1_facesOver_36 at hf
  refine pz_iconst (v := (0 : Int32)) dX1_facesOver_36 (by decide) ?_
  exact pz_drop (pz_part_of [0, 1, 2, 3] rfl) (kB_X1_facesOver_37 X d _ _ _ _ _ _ _ _ hk4 hf)
def L_X1_facesOver_4 (a0 : Nat) (x1 : Int32)  (Q : Int32 → pz_H → Prop) : Nat → Int32 → Int32 → pz_H → Prop
  | 0, _, _, _ => False
  | n + 1, x2, x3, h => (pq_gI h a0 1 3 (fun v1 => (pq_br (v1 ≤ x3) (Q x2 h) (pq_gA h a0 1 9 (fun b2 => (pq_aI h b2 x1 (fun v3 => (pq_br (x3 = v3) (B_X1_facesOver_36 a0 x1 x2 x3 (fun z0 z1 hz => L_X1_facesOver_4 a0 x1 Q n z0 z1 hz) Q h) (pq_gA h a0 1 10 (fun b4 => (pq_aI h b4 x1 (fun v5 => (pq_br (x3 = v5) (B_X1_facesOver_36 a0 x1 x2 x3 (fun z0 z1 hz => L_X1_facesOver_4 a0 x1 Q n z0 z1 hz) Q h) (B_X1_facesOver_37 a0 x1 x2 x3 (1 : Int32) (fun z0 z1 hz => L_X1_facesOver_4 a0 x1 Q n z0 z1 hz) Q h))))))))))))))
set_option maxHeartbeats 4000000 in
set_option maxRecDepth 100000 in
theorem kL_X1_facesOver_4 (X : pz_X) (d : Nat) (a0 : Nat) (x1 : Int32)   (Q : Int32 → pz_H → Prop)  : ∀ (n : Nat) (x2 : Int32) (x3 : Int32) (h : pz_H), L_X1_facesOver_4 a0 x1  Q n x2 x3 h → pz_W (fun _ => True) X M_X1_facesOver (d + 2) 4 [(0, .ref a0), (1, .int x1), (2, .int x2), (3, .int x3)] [] h 0 0 (pq_qI Q) := by
  intro n
  induction n with
  | zero =>
    intro _ _ _ hf
    exact False.elim hf
  | succ n ih =>
    intro x2 x3 h hf
    unfold L_X1_facesOver_4 at hf
    refine pz_iload_n dX1_facesOver_4 rfl ?_
    refine pz_aload_n dX1_facesOver_5 rfl ?_
    obtain ⟨_, v1, h1, h2, hf⟩ := hf
    refine pz_get dX1_facesOver_6 fl_X1_64 h1 h2 ?_
    obtain ⟨ha, hb⟩ := hf
    refine pz_icmp_ge dX1_facesOver_9 (tgt := 82) (by decide) (fun cc => ?_) (fun cc => ?_)
    · have hf := ha cc
      refine pz_iload_n dX1_facesOver_82 rfl ?_
      exact pz_ireturn dX1_facesOver_83 rfl rfl ⟨_, rfl, hf⟩
    · have hf := hb cc
      refine pz_iload_n dX1_facesOver_12 rfl ?_
      refine pz_aload_n dX1_facesOver_13 rfl ?_
      obtain ⟨_, b2, h1, h2, hf⟩ := hf
      refine pz_get dX1_facesOver_14 fl_X1_28 h1 h2 ?_
      refine pz_iload_n dX1_facesOver_17 rfl ?_
      obtain ⟨_, _, h1, h2, hf⟩ := hf
      refine pz_iald dX1_facesOver_18 h1 h2 ?_
      obtain ⟨ha, hb⟩ := hf
      refine pz_icmp_eq dX1_facesOver_19 (tgt := 36) (by decide) (fun cc => ?_) (fun cc => ?_)
      · have hf := ha cc
        exact pz_drop (pz_part_of [0, 1, 2, 3] rfl) (kB_X1_facesOver_36 X d _ _ _ _ _ _ _ ih hf)
      · have hf := hb cc
        refine pz_iload_n dX1_facesOver_22 rfl ?_
        refine pz_aload_n dX1_facesOver_23 rfl ?_
        obtain ⟨_, b4, h1, h2, hf⟩ := hf
        refine pz_get dX1_facesOver_24 fl_X1_31 h1 h2 ?_
        refine pz_iload_n dX1_facesOver_27 rfl ?_
        obtain ⟨_, _, h1, h2, hf⟩ := hf
        refine pz_iald dX1_facesOver_28 h1 h2 ?_
        obtain ⟨ha, hb⟩ := hf
        refine pz_icmp_eq dX1_facesOver_29 (tgt := 36) (by decide) (fun cc => ?_) (fun cc => ?_)
        · have hf := ha cc
          exact pz_drop (pz_part_of [0, 1, 2, 3] rfl) (kB_X1_facesOver_36 X d _ _ _ _ _ _ _ ih hf)
        · have hf := hb cc
          refine pz_iconst (v := (1 : Int32)) dX1_facesOver_32 (by decide) ?_
          refine pz_goto dX1_facesOver_33 (tgt := 37) (by decide) ?_
          exact pz_drop (pz_part_of [0, 1, 2, 3] rfl) (kB_X1_facesOver_37 X d _ _ _ _ _ _ _ _ ih hf)
def F_X1_facesOver (a0 : Nat) (x1 : Int32) (h : pz_H) (Q : Int32 → pz_H → Prop) : Prop := (pq_ex (fun m4 => L_X1_facesOver_4 a0 x1 Q m4 (0 : Int32) (0 : Int32) h))
set_option maxHeartbeats 4000000 in
set_option maxRecDepth 100000 in
theorem k_X1_facesOver (X : pz_X) (d : Nat) (a0 : Nat) (x1 : Int32) (h : pz_H) (Q : Int32 → pz_H → Prop) (hf : F_X1_facesOver a0 x1 h Q) : pz_Call X M_X1_facesOver (d + 2) 0 0 [.ref a0, .int x1] h (pq_qI Q) := by
  refine pz_call_of (by decide +kernel) (Nat.le_of_ble_eq_true rfl) ?_
  unfold F_X1_facesOver at hf
  refine pz_iconst (v := (0 : Int32)) dX1_facesOver_0 (by decide) ?_
  refine pz_istore_n dX1_facesOver_1 rfl (by decide) rfl ?_
  refine pz_iconst (v := (0 : Int32)) dX1_facesOver_2 (by decide) ?_
  refine pz_istore_n dX1_facesOver_3 rfl (by decide) rfl ?_
  obtain ⟨n9, hf⟩ := hf
  exact pz_drop (pz_part_of [0, 1, 2, 3] rfl) (kL_X1_facesOver_4 X d _ _ _  n9 _ _ _ hf)
def B_X1_onOneSide_36 (xs0 : Int32)  (Q : Int32 → pz_H → Prop) (h : pz_H) : Prop := (pq_z xs0 (Q xs0 h))
set_option maxHeartbeats 4000000 in
set_option maxRecDepth 100000 in
theorem kB_X1_onOneSide_36 (X : pz_X) (d : Nat) (xs0 : Int32)   (Q : Int32 → pz_H → Prop) (h : pz_H)  (hf : B_X1_onOneSide_36 xs0  Q h) : pz_W (fun _ => True) X M_X1_onOneSide (d + 1) 36 [] [.int xs0] h 0 0 (pq_qI Q) := by
  unfold B_X1_onOneSide_36 at hf
  obtain ⟨hz, hf⟩ := hf
  exact pz_ireturn dX1_onOneSide_36 rfl hz ⟨_, rfl, hf⟩
def B_X1_onOneSide_31   (Q : Int32 → pz_H → Prop) (h : pz_H) : Prop := (B_X1_onOneSide_36 (1 : Int32) Q h)
set_option maxHeartbeats 4000000 in
set_option maxRecDepth 100000 in
theorem kB_X1_onOneSide_31 (X : pz_X) (d : Nat)    (Q : Int32 → pz_H → Prop) (h : pz_H)  (hf : B_X1_onOneSide_31   Q h) : pz_W (fun _ => True) X M_X1_onOneSide (d + 1) 31 [] [] h 0 0 (pq_qI Q) := by
  unfold B_X1_onOneSide_31 at hf
  refine pz_iconst (v := (1 : Int32)) dX1_onOneSide_31 (by decide) ?_
  refine pz_goto dX1_onOneSide_32 (tgt := 36) (by decide) ?_
  exact pz_drop (pz_part_of [] rfl) (kB_X1_onOneSide_36 X d _ _ _  hf)
def F_X1_onOneSide (a0 : Nat) (x1 : Int32) (x2 : Int32) (h : pz_H) (Q : Int32 → pz_H → Prop) : Prop := (pq_gI h a0 1 0 (fun v1 => (pq_br (v1 = (2 : Int32)) (B_X1_onOneSide_31 Q h) (pq_gA h a0 1 9 (fun b2 => (pq_aI h b2 x1 (fun v3 => (pq_o h a0 1 (F_X1_isFrontUp a0 v3 h (fun v5 h4 => (pq_gA h4 a0 1 9 (fun b6 => (pq_aI h4 b6 x2 (fun v7 => (pq_o h4 a0 1 (F_X1_isFrontUp a0 v7 h4 (fun v9 h8 => (pq_br (v5 = v9) (B_X1_onOneSide_31 Q h8) (B_X1_onOneSide_36 (0 : Int32) Q h8)))))))))))))))))))
set_option maxHeartbeats 4000000 in
set_option maxRecDepth 100000 in
theorem k_X1_onOneSide (X : pz_X) (d : Nat) (a0 : Nat) (x1 : Int32) (x2 : Int32) (h : pz_H) (Q : Int32 → pz_H → Prop) (hf : F_X1_onOneSide a0 x1 x2 h Q) : pz_Call X M_X1_onOneSide (d + 1) 0 0 [.ref a0, .int x1, .int x2] h (pq_qI Q) := by
  refine pz_call_of (by decide +kernel) (Nat.le_of_ble_eq_true rfl) ?_
  unfold F_X1_onOneSide at hf
  refine pz_aload_n dX1_onOneSide_0 rfl ?_
  obtain ⟨_, v1, h1, h2, hf⟩ := hf
  refine pz_get dX1_onOneSide_1 fl_X1_55 h1 h2 ?_
  refine pz_iconst (v := (2 : Int32)) dX1_onOneSide_4 (by decide) ?_
  obtain ⟨ha, hb⟩ := hf
  refine pz_icmp_eq dX1_onOneSide_5 (tgt := 31) (by decide) (fun cc => ?_) (fun cc => ?_)
  · have hf := ha cc
    exact pz_drop (pz_part_of [] rfl) (kB_X1_onOneSide_31 X d _ _  hf)
  · have hf := hb cc
    refine pz_aload_n dX1_onOneSide_8 rfl ?_
    refine pz_aload_n dX1_onOneSide_9 rfl ?_
    obtain ⟨_, b2, h1, h2, hf⟩ := hf
    refine pz_get dX1_onOneSide_10 fl_X1_28 h1 h2 ?_
    refine pz_iload_n dX1_onOneSide_13 rfl ?_
    obtain ⟨_, _, h1, h2, hf⟩ := hf
    refine pz_iald dX1_onOneSide_14 h1 h2 ?_
    obtain ⟨_, hO, hf⟩ := hf
    refine pz_callV1 (rc := 0) (rs := 0) (mc := 0) (ms := 0) dX1_onOneSide_15 (k_X1_isFrontUp X d _ _ _ _ hf) (Nat.le_of_ble_eq_true rfl) mf_X1_isFrontUp ml_X1_83 hO rfl mi_X1_isFrontUp ms_X1_isFrontUp (fun _ h9 hq => ?_)
    obtain ⟨_, rfl, hf⟩ := hq
    refine pz_aload_n dX1_onOneSide_18 rfl ?_
    refine pz_aload_n dX1_onOneSide_19 rfl ?_
    obtain ⟨_, b6, h1, h2, hf⟩ := hf
    refine pz_get dX1_onOneSide_20 fl_X1_28 h1 h2 ?_
    refine pz_iload_n dX1_onOneSide_23 rfl ?_
    obtain ⟨_, _, h1, h2, hf⟩ := hf
    refine pz_iald dX1_onOneSide_24 h1 h2 ?_
    obtain ⟨_, hO, hf⟩ := hf
    refine pz_callV1 (rc := 0) (rs := 0) (mc := 0) (ms := 0) dX1_onOneSide_25 (k_X1_isFrontUp X d _ _ _ _ hf) (Nat.le_of_ble_eq_true rfl) mf_X1_isFrontUp ml_X1_83 hO rfl mi_X1_isFrontUp ms_X1_isFrontUp (fun _ h9 hq => ?_)
    obtain ⟨_, rfl, hf⟩ := hq
    obtain ⟨ha, hb⟩ := hf
    refine pz_icmp_ne dX1_onOneSide_28 (tgt := 35) (by decide) (fun cc => ?_) (fun cc => ?_)
    · have hf := hb cc
      refine pz_iconst (v := (0 : Int32)) dX1_onOneSide_35 (by decide) ?_
      exact pz_drop (pz_part_of [] rfl) (kB_X1_onOneSide_36 X d _ _ _  hf)
    · have hf := ha cc
      exact pz_drop (pz_part_of [] rfl) (kB_X1_onOneSide_31 X d _ _  hf)
def B_X1_haveFourFaces_75 (xs0 : Int32)  (Q : Int32 → pz_H → Prop) (h : pz_H) : Prop := (pq_z xs0 (Q xs0 h))
set_option maxHeartbeats 4000000 in
set_option maxRecDepth 100000 in
theorem kB_X1_haveFourFaces_75 (X : pz_X) (d : Nat) (xs0 : Int32)   (Q : Int32 → pz_H → Prop) (h : pz_H)  (hf : B_X1_haveFourFaces_75 xs0  Q h) : pz_W (fun _ => True) X M_X1_haveFourFaces (d + 0) 75 [] [.int xs0] h 0 0 (pq_qI Q) := by
  unfold B_X1_haveFourFaces_75 at hf
  obtain ⟨hz, hf⟩ := hf
  exact pz_ireturn dX1_haveFourFaces_75 rfl hz ⟨_, rfl, hf⟩
def B_X1_haveFourFaces_74   (Q : Int32 → pz_H → Prop) (h : pz_H) : Prop := (B_X1_haveFourFaces_75 (0 : Int32) Q h)
set_option maxHeartbeats 4000000 in
set_option maxRecDepth 100000 in
theorem kB_X1_haveFourFaces_74 (X : pz_X) (d : Nat)    (Q : Int32 → pz_H → Prop) (h : pz_H)  (hf : B_X1_haveFourFaces_74   Q h) : pz_W (fun _ => True) X M_X1_haveFourFaces (d + 0) 74 [] [] h 0 0 (pq_qI Q) := by
  unfold B_X1_haveFourFaces_74 at hf
  refine pz_iconst (v := (0 : Int32)) dX1_haveFourFaces_74 (by decide) ?_
  exact pz_drop (pz_part_of [] rfl) (kB_X1_haveFourFaces_75 X d _ _ _  hf)
def B_X1_haveFourFaces_35 (a0 : Nat) (x1 : Int32) (x2 : Int32) (xs0 : Int32)  (Q : Int32 → pz_H → Prop) (h : pz_H) : Prop := (pq_br (xs0 = 0) (B_X1_haveFourFaces_74 Q h) (pq_gA h a0 1 10 (fun b1 => (pq_aI h b1 x1 (fun v2 => (pq_gA h a0 1 9 (fun b3 => (pq_aI h b3 x2 (fun v4 => (pq_br (v2 = v4) (B_X1_haveFourFaces_74 Q h) (pq_gA h a0 1 10 (fun b5 => (pq_aI h b5 x1 (fun v6 => (pq_gA h a0 1 10 (fun b7 => (pq_aI h b7 x2 (fun v8 => (pq_br (v6 = v8) (B_X1_haveFourFaces_74 Q h) (B_X1_haveFourFaces_75 (1 : Int32) Q h))))))))))))))))))))
set_option maxHeartbeats 4000000 in
set_option maxRecDepth 100000 in
theorem kB_X1_haveFourFaces_35 (X : pz_X) (d : Nat) (a0 : Nat) (x1 : Int32) (x2 : Int32) (xs0 : Int32)   (Q : Int32 → pz_H → Prop) (h : pz_H)  (hf : B_X1_haveFourFaces_35 a0 x1 x2 xs0  Q h) : pz_W (fun _ => True) X M_X1_haveFourFaces (d + 0) 35 [(0, .ref a0), (1, .int x1), (2, .int x2)] [.int xs0] h 0 0 (pq_qI Q) := by
  unfold B_X1_haveFourFaces_35 at hf
  refine pz_istore_n dX1_haveFourFaces_35 rfl (by decide) rfl ?_
  refine pz_iload_n dX1_haveFourFaces_36 rfl ?_
  obtain ⟨ha, hb⟩ := hf
  refine pz_if_eq dX1_haveFourFaces_37 (tgt := 74) (by decide) (fun cc => ?_) (fun cc => ?_)
  · have hf := ha cc
    exact pz_drop (pz_part_of [] rfl) (kB_X1_haveFourFaces_74 X d _ _  hf)
  · have hf := hb cc
    refine pz_aload_n dX1_haveFourFaces_40 rfl ?_
    obtain ⟨_, b1, h1, h2, hf⟩ := hf
    refine pz_get dX1_haveFourFaces_41 fl_X1_31 h1 h2 ?_
    refine pz_iload_n dX1_haveFourFaces_44 rfl ?_
    obtain ⟨_, _, h1, h2, hf⟩ := hf
    refine pz_iald dX1_haveFourFaces_45 h1 h2 ?_
    refine pz_aload_n dX1_haveFourFaces_46 rfl ?_
    obtain ⟨_, b3, h1, h2, hf⟩ := hf
    refine pz_get dX1_haveFourFaces_47 fl_X1_28 h1 h2 ?_
    refine pz_iload_n dX1_haveFourFaces_50 rfl ?_
    obtain ⟨_, _, h1, h2, hf⟩ := hf
    refine pz_iald dX1_haveFourFaces_51 h1 h2 ?_
    obtain ⟨ha, hb⟩ := hf
    refine pz_icmp_eq dX1_haveFourFaces_52 (tgt := 74) (by decide) (fun cc => ?_) (fun cc => ?_)
    · have hf := ha cc
      exact pz_drop (pz_part_of [] rfl) (kB_X1_haveFourFaces_74 X d _ _  hf)
    · have hf := hb cc
      refine pz_aload_n dX1_haveFourFaces_55 rfl ?_
      obtain ⟨_, b5, h1, h2, hf⟩ := hf
      refine pz_get dX1_haveFourFaces_56 fl_X1_31 h1 h2 ?_
      refine pz_iload_n dX1_haveFourFaces_59 rfl ?_
      obtain ⟨_, _, h1, h2, hf⟩ := hf
      refine pz_iald dX1_haveFourFaces_60 h1 h2 ?_
      refine pz_aload_n dX1_haveFourFaces_61 rfl ?_
      obtain ⟨_, b7, h1, h2, hf⟩ := hf
      refine pz_get dX1_haveFourFaces_62 fl_X1_31 h1 h2 ?_
      refine pz_iload_n dX1_haveFourFaces_65 rfl ?_
      obtain ⟨_, _, h1, h2, hf⟩ := hf
      refine pz_iald dX1_haveFourFaces_66 h1 h2 ?_
      obtain ⟨ha, hb⟩ := hf
      refine pz_icmp_eq dX1_haveFourFaces_67 (tgt := 74) (by decide) (fun cc => ?_) (fun cc => ?_)
      · have hf := ha cc
        exact pz_drop (pz_part_of [] rfl) (kB_X1_haveFourFaces_74 X d _ _  hf)
      · have hf := hb cc
        refine pz_iconst (v := (1 : Int32)) dX1_haveFourFaces_70 (by decide) ?_
        refine pz_goto dX1_haveFourFaces_71 (tgt := 75) (by decide) ?_
        exact pz_drop (pz_part_of [] rfl) (kB_X1_haveFourFaces_75 X d _ _ _  hf)
def B_X1_haveFourFaces_34 (a0 : Nat) (x1 : Int32) (x2 : Int32)  (Q : Int32 → pz_H → Prop) (h : pz_H) : Prop := (B_X1_haveFourFaces_35 a0 x1 x2 (0 : Int32) Q h)
set_option maxHeartbeats 4000000 in
set_option maxRecDepth 100000 in
theorem kB_X1_haveFourFaces_34 (X : pz_X) (d : Nat) (a0 : Nat) (x1 : Int32) (x2 : Int32)   (Q : Int32 → pz_H → Prop) (h : pz_H)  (hf : B_X1_haveFourFaces_34 a0 x1 x2  Q h) : pz_W (fun _ => True) X M_X1_haveFourFaces (d + 0) 34 [(0, .ref a0), (1, .int x1), (2, .int x2)] [] h 0 0 (pq_qI Q) := by
  unfold B_X1_haveFourFaces_34 at hf
  refine pz_iconst (v := (0 : Int32)) dX1_haveFourFaces_34 (by decide) ?_
  exact pz_drop (pz_part_of [0, 1, 2] rfl) (kB_X1_haveFourFaces_35 X d _ _ _ _ _ _  hf)
def F_X1_haveFourFaces (a0 : Nat) (x1 : Int32) (x2 : Int32) (h : pz_H) (Q : Int32 → pz_H → Prop) : Prop := (pq_gA h a0 1 9 (fun b9 => (pq_aI h b9 x1 (fun v10 => (pq_gA h a0 1 9 (fun b11 => (pq_aI h b11 x2 (fun v12 => (pq_br (v10 = v12) (B_X1_haveFourFaces_34 a0 x1 x2 Q h) (pq_gA h a0 1 9 (fun b13 => (pq_aI h b13 x1 (fun v14 => (pq_gA h a0 1 10 (fun b15 => (pq_aI h b15 x2 (fun v16 => (pq_br (v14 = v16) (B_X1_haveFourFaces_34 a0 x1 x2 Q h) (B_X1_haveFourFaces_35 a0 x1 x2 (1 : Int32) Q h)))))))))))))))))))
set_option maxHeartbeats 4000000 in
set_option maxRecDepth 100000 in
theorem k_X1_haveFourFaces (X : pz_X) (d : Nat) (a0 : Nat) (x1 : Int32) (x2 : Int32) (h : pz_H) (Q : Int32 → pz_H → Prop) (hf : F_X1_haveFourFaces a0 x1 x2 h Q) : pz_Call X M_X1_haveFourFaces (d + 0) 0 0 [.ref a0, .int x1, .int x2] h (pq_qI Q) := by
  refine pz_call_of (by decide +kernel) (Nat.le_of_ble_eq_true rfl) ?_
  unfold F_X1_haveFourFaces at hf
  refine pz_aload_n dX1_haveFourFaces_0 rfl ?_
  obtain ⟨_, b9, h1, h2, hf⟩ := hf
  refine pz_get dX1_haveFourFaces_1 fl_X1_28 h1 h2 ?_
  refine pz_iload_n dX1_haveFourFaces_4 rfl ?_
  obtain ⟨_, _, h1, h2, hf⟩ := hf
  refine pz_iald dX1_haveFourFaces_5 h1 h2 ?_
  refine pz_aload_n dX1_haveFourFaces_6 rfl ?_
  obtain ⟨_, b11, h1, h2, hf⟩ := hf
  refine pz_get dX1_haveFourFaces_7 fl_X1_28 h1 h2 ?_
  refine pz_iload_n dX1_haveFourFaces_10 rfl ?_
  obtain ⟨_, _, h1, h2, hf⟩ := hf
  refine pz_iald dX1_haveFourFaces_11 h1 h2 ?_
  obtain ⟨ha, hb⟩ := hf
  refine pz_icmp_eq dX1_haveFourFaces_12 (tgt := 34) (by decide) (fun cc => ?_) (fun cc => ?_)
  · have hf := ha cc
    exact pz_drop (pz_part_of [0, 1, 2] rfl) (kB_X1_haveFourFaces_34 X d _ _ _ _ _  hf)
  · have hf := hb cc
    refine pz_aload_n dX1_haveFourFaces_15 rfl ?_
    obtain ⟨_, b13, h1, h2, hf⟩ := hf
    refine pz_get dX1_haveFourFaces_16 fl_X1_28 h1 h2 ?_
    refine pz_iload_n dX1_haveFourFaces_19 rfl ?_
    obtain ⟨_, _, h1, h2, hf⟩ := hf
    refine pz_iald dX1_haveFourFaces_20 h1 h2 ?_
    refine pz_aload_n dX1_haveFourFaces_21 rfl ?_
    obtain ⟨_, b15, h1, h2, hf⟩ := hf
    refine pz_get dX1_haveFourFaces_22 fl_X1_31 h1 h2 ?_
    refine pz_iload_n dX1_haveFourFaces_25 rfl ?_
    obtain ⟨_, _, h1, h2, hf⟩ := hf
    refine pz_iald dX1_haveFourFaces_26 h1 h2 ?_
    obtain ⟨ha, hb⟩ := hf
    refine pz_icmp_eq dX1_haveFourFaces_27 (tgt := 34) (by decide) (fun cc => ?_) (fun cc => ?_)
    · have hf := ha cc
      exact pz_drop (pz_part_of [0, 1, 2] rfl) (kB_X1_haveFourFaces_34 X d _ _ _ _ _  hf)
    · have hf := hb cc
      refine pz_iconst (v := (1 : Int32)) dX1_haveFourFaces_30 (by decide) ?_
      refine pz_goto dX1_haveFourFaces_31 (tgt := 35) (by decide) ?_
      exact pz_drop (pz_part_of [0, 1, 2] rfl) (kB_X1_haveFourFaces_35 X d _ _ _ _ _ _  hf)
def B_X1_rivalsOf_56 (a0 : Nat) (x1 : Int32) (x2 : Int32) (x3 : Int32) (k4 : Int32 → Int32 → pz_H → Prop) (Q : Int32 → pz_H → Prop) (h : pz_H) : Prop := (k4 x2 (x3 + (1 : Int32)) h)
set_option maxHeartbeats 4000000 in
set_option maxRecDepth 100000 in
theorem kB_X1_rivalsOf_56 (X : pz_X) (d : Nat) (a0 : Nat) (x1 : Int32) (x2 : Int32) (x3 : Int32)  (k4 : Int32 → Int32 → pz_H → Prop) (Q : Int32 → pz_H → Prop) (h : pz_H) (hk4 : ∀ (x2 : Int32) (x3 : Int32) (h : pz_H), k4 x2 x3 h → pz_W (fun _ => True) X M_X1_rivalsOf (d + 2) 4 [(0, .ref a0), (1, .int x1), (2, .int x2), (3, .int x3)] [] h 0 0 (pq_qI Q)) (hf : B_X1_rivalsOf_56 a0 x1 x2 x3 k4 Q h) : pz_W (fun _ => True) X M_X1_rivalsOf (d + 2) 56 [(0, .ref a0), (1, .int x1), (2, .int x2), (3, .int x3)] [] h 0 0 (pq_qI Q) := by
  unfold B_X1_rivalsOf_56 at hf
  refine pz_iinc dX1_rivalsOf_56 rfl (by rfl) (by decide) rfl ?_
  refine pz_goto dX1_rivalsOf_59 (tgt := 4) (by decide) ?_
  exact pz_drop (pz_part_of [0, 1, 2, 3] rfl) (hk4 _ _ _ hf)
def L_X1_rivalsOf_4 (a0 : Nat) (x1 : Int32)  (Q : Int32 → pz_H → Prop) : Nat → Int32 → Int32 → pz_H → Prop
  | 0, _, _, _ => False
  | n + 1, x2, x3, h => (pq_gI h a0 1 4 (fun v1 => (pq_br (v1 ≤ x3) (Q x2 h) (pq_br (x3 = x1) (B_X1_rivalsOf_56 a0 x1 x2 x3 (fun z0 z1 hz => L_X1_rivalsOf_4 a0 x1 Q n z0 z1 hz) Q h) (pq_gA h a0 1 13 (fun b2 => (pq_aI h b2 x3 (fun v3 => (pq_gA h a0 1 13 (fun b4 => (pq_aI h b4 x1 (fun v5 => (pq_br (v3 = v5) (pq_o h a0 1 (F_X1_onOneSide a0 x3 x1 h (fun v7 h6 => (pq_br (v7 = 0) (B_X1_rivalsOf_56 a0 x1 x2 x3 (fun z0 z1 hz => L_X1_rivalsOf_4 a0 x1 Q n z0 z1 hz) Q h6) (pq_o h6 a0 1 (F_X1_haveFourFaces a0 x3 x1 h6 (fun v9 h8 => (pq_br (v9 = 0) (B_X1_rivalsOf_56 a0 x1 x2 x3 (fun z0 z1 hz => L_X1_rivalsOf_4 a0 x1 Q n z0 z1 hz) Q h8) (B_X1_rivalsOf_56 a0 x1 (x2 ||| ((1 : Int32) <<< (x3 &&& 31))) x3 (fun z0 z1 hz => L_X1_rivalsOf_4 a0 x1 Q n z0 z1 hz) Q h8))))))))) (B_X1_rivalsOf_56 a0 x1 x2 x3 (fun z0 z1 hz => L_X1_rivalsOf_4 a0 x1 Q n z0 z1 hz) Q h))))))))))))))
set_option maxHeartbeats 4000000 in
set_option maxRecDepth 100000 in
theorem kL_X1_rivalsOf_4 (X : pz_X) (d : Nat) (a0 : Nat) (x1 : Int32)   (Q : Int32 → pz_H → Prop)  : ∀ (n : Nat) (x2 : Int32) (x3 : Int32) (h : pz_H), L_X1_rivalsOf_4 a0 x1  Q n x2 x3 h → pz_W (fun _ => True) X M_X1_rivalsOf (d + 2) 4 [(0, .ref a0), (1, .int x1), (2, .int x2), (3, .int x3)] [] h 0 0 (pq_qI Q) := by
  intro n
  induction n with
  | zero =>
    intro _ _ _ hf
    exact False.elim hf
  | succ n ih =>
    intro x2 x3 h hf
    unfold L_X1_rivalsOf_4 at hf
    refine pz_iload_n dX1_rivalsOf_4 rfl ?_
    refine pz_aload_n dX1_rivalsOf_5 rfl ?_
    obtain ⟨_, v1, h1, h2, hf⟩ := hf
    refine pz_get dX1_rivalsOf_6 fl_X1_9 h1 h2 ?_
    obtain ⟨ha, hb⟩ := hf
    refine pz_icmp_ge dX1_rivalsOf_9 (tgt := 62) (by decide) (fun cc => ?_) (fun cc => ?_)
    · have hf := ha cc
      refine pz_iload_n dX1_rivalsOf_62 rfl ?_
      exact pz_ireturn dX1_rivalsOf_63 rfl rfl ⟨_, rfl, hf⟩
    · have hf := hb cc
      refine pz_iload_n dX1_rivalsOf_12 rfl ?_
      refine pz_iload_n dX1_rivalsOf_13 rfl ?_
      obtain ⟨ha, hb⟩ := hf
      refine pz_icmp_eq dX1_rivalsOf_14 (tgt := 56) (by decide) (fun cc => ?_) (fun cc => ?_)
      · have hf := ha cc
        exact pz_drop (pz_part_of [0, 1, 2, 3] rfl) (kB_X1_rivalsOf_56 X d _ _ _ _ _ _ _ ih hf)
      · have hf := hb cc
        refine pz_aload_n dX1_rivalsOf_17 rfl ?_
        obtain ⟨_, b2, h1, h2, hf⟩ := hf
        refine pz_get dX1_rivalsOf_18 fl_X1_40 h1 h2 ?_
        refine pz_iload_n dX1_rivalsOf_21 rfl ?_
        obtain ⟨_, _, h1, h2, hf⟩ := hf
        refine pz_iald dX1_rivalsOf_22 h1 h2 ?_
        refine pz_aload_n dX1_rivalsOf_23 rfl ?_
        obtain ⟨_, b4, h1, h2, hf⟩ := hf
        refine pz_get dX1_rivalsOf_24 fl_X1_40 h1 h2 ?_
        refine pz_iload_n dX1_rivalsOf_27 rfl ?_
        obtain ⟨_, _, h1, h2, hf⟩ := hf
        refine pz_iald dX1_rivalsOf_28 h1 h2 ?_
        obtain ⟨ha, hb⟩ := hf
        refine pz_icmp_ne dX1_rivalsOf_29 (tgt := 56) (by decide) (fun cc => ?_) (fun cc => ?_)
        · have hf := hb cc
          exact pz_drop (pz_part_of [0, 1, 2, 3] rfl) (kB_X1_rivalsOf_56 X d _ _ _ _ _ _ _ ih hf)
        · have hf := ha cc
          refine pz_aload_n dX1_rivalsOf_32 rfl ?_
          refine pz_iload_n dX1_rivalsOf_33 rfl ?_
          refine pz_iload_n dX1_rivalsOf_34 rfl ?_
          obtain ⟨_, hO, hf⟩ := hf
          refine pz_callV2 (rc := 0) (rs := 0) (mc := 0) (ms := 0) dX1_rivalsOf_35 (k_X1_onOneSide X d _ _ _ _ _ hf) (Nat.le_of_ble_eq_true rfl) mf_X1_onOneSide ml_X1_101 hO rfl mi_X1_onOneSide ms_X1_onOneSide (fun _ h9 hq => ?_)
          obtain ⟨_, rfl, hf⟩ := hq
          obtain ⟨ha, hb⟩ := hf
          refine pz_if_eq dX1_rivalsOf_38 (tgt := 56) (by decide) (fun cc => ?_) (fun cc => ?_)
          · have hf := ha cc
            exact pz_drop (pz_part_of [0, 1, 2, 3] rfl) (kB_X1_rivalsOf_56 X d _ _ _ _ _ _ _ ih hf)
          · have hf := hb cc
            refine pz_aload_n dX1_rivalsOf_41 rfl ?_
            refine pz_iload_n dX1_rivalsOf_42 rfl ?_
            refine pz_iload_n dX1_rivalsOf_43 rfl ?_
            obtain ⟨_, hO, hf⟩ := hf
            refine pz_callV2 (rc := 0) (rs := 0) (mc := 0) (ms := 0) dX1_rivalsOf_44 (k_X1_haveFourFaces X (d + 1) _ _ _ _ _ hf) (Nat.le_of_ble_eq_true rfl) mf_X1_haveFourFaces ml_X1_105 hO rfl mi_X1_haveFourFaces ms_X1_haveFourFaces (fun _ h9 hq => ?_)
            obtain ⟨_, rfl, hf⟩ := hq
            obtain ⟨ha, hb⟩ := hf
            refine pz_if_eq dX1_rivalsOf_47 (tgt := 56) (by decide) (fun cc => ?_) (fun cc => ?_)
            · have hf := ha cc
              exact pz_drop (pz_part_of [0, 1, 2, 3] rfl) (kB_X1_rivalsOf_56 X d _ _ _ _ _ _ _ ih hf)
            · have hf := hb cc
              refine pz_iload_n dX1_rivalsOf_50 rfl ?_
              refine pz_iconst (v := (1 : Int32)) dX1_rivalsOf_51 (by decide) ?_
              refine pz_iload_n dX1_rivalsOf_52 rfl ?_
              refine pz_ishl dX1_rivalsOf_53 ?_
              refine pz_ior dX1_rivalsOf_54 ?_
              refine pz_istore_n dX1_rivalsOf_55 rfl (by decide) rfl ?_
              exact pz_drop (pz_part_of [0, 1, 2, 3] rfl) (kB_X1_rivalsOf_56 X d _ _ _ _ _ _ _ ih hf)
def F_X1_rivalsOf (a0 : Nat) (x1 : Int32) (h : pz_H) (Q : Int32 → pz_H → Prop) : Prop := (pq_ex (fun m4 => L_X1_rivalsOf_4 a0 x1 Q m4 (0 : Int32) (0 : Int32) h))
set_option maxHeartbeats 4000000 in
set_option maxRecDepth 100000 in
theorem k_X1_rivalsOf (X : pz_X) (d : Nat) (a0 : Nat) (x1 : Int32) (h : pz_H) (Q : Int32 → pz_H → Prop) (hf : F_X1_rivalsOf a0 x1 h Q) : pz_Call X M_X1_rivalsOf (d + 2) 0 0 [.ref a0, .int x1] h (pq_qI Q) := by
  refine pz_call_of (by decide +kernel) (Nat.le_of_ble_eq_true rfl) ?_
  unfold F_X1_rivalsOf at hf
  refine pz_iconst (v := (0 : Int32)) dX1_rivalsOf_0 (by decide) ?_
  refine pz_istore_n dX1_rivalsOf_1 rfl (by decide) rfl ?_
  refine pz_iconst (v := (0 : Int32)) dX1_rivalsOf_2 (by decide) ?_
  refine pz_istore_n dX1_rivalsOf_3 rfl (by decide) rfl ?_
  obtain ⟨n9, hf⟩ := hf
  exact pz_drop (pz_part_of [0, 1, 2, 3] rfl) (kL_X1_rivalsOf_4 X d _ _ _  n9 _ _ _ hf)
def B_X1_measure_138 (a0 : Nat) (x1 : Int32) (as0 : Nat) (xs1 : Int32) (xs2 : Int32) (k108 : Int32 → pz_H → Prop) (Q : pz_H → Prop) (h : pz_H) : Prop := (pq_sI h as0 xs1 xs2 (fun h27 => (pq_gA h27 a0 1 15 (fun b28 => (pq_o h27 a0 1 (F_X1_rivalsOf a0 x1 h27 (fun v30 h29 => (pq_sI h29 b28 x1 v30 (fun h31 => (k108 (x1 + (1 : Int32)) h31))))))))))
set_option maxHeartbeats 4000000 in
set_option maxRecDepth 100000 in
theorem kB_X1_measure_138 (X : pz_X) (d : Nat) (a0 : Nat) (x1 : Int32) (as0 : Nat) (xs1 : Int32) (xs2 : Int32)  (k108 : Int32 → pz_H → Prop) (Q : pz_H → Prop) (h : pz_H) (hk108 : ∀ (x1 : Int32) (h : pz_H), k108 x1 h → pz_W (fun _ => True) X M_X1_measure (d + 3) 108 [(0, .ref a0), (1, .int x1)] [] h 0 0 (pq_qV Q)) (hf : B_X1_measure_138 a0 x1 as0 xs1 xs2 k108 Q h) : pz_W (fun _ => True) X M_X1_measure (d + 3) 138 [(0, .ref a0), (1, .int x1)] [.int xs2, .int xs1, .ref as0] h 0 0 (pq_qV Q) := by
  unfold B_X1_measure_138 at hf
  obtain ⟨_, _, h1, h2, hf⟩ := hf
  refine pz_iast dX1_measure_138 h1 h2 ?_
  refine pz_aload_n dX1_measure_139 rfl ?_
  obtain ⟨_, b28, h1, h2, hf⟩ := hf
  refine pz_get dX1_measure_140 fl_X1_46 h1 h2 ?_
  refine pz_iload_n dX1_measure_143 rfl ?_
  refine pz_aload_n dX1_measure_144 rfl ?_
  refine pz_iload_n dX1_measure_145 rfl ?_
  obtain ⟨_, hO, hf⟩ := hf
  refine pz_callV1 (rc := 0) (rs := 0) (mc := 0) (ms := 0) dX1_measure_146 (k_X1_rivalsOf X d _ _ _ _ hf) (Nat.le_of_ble_eq_true rfl) mf_X1_rivalsOf ml_X1_94 hO rfl mi_X1_rivalsOf ms_X1_rivalsOf (fun _ h9 hq => ?_)
  obtain ⟨_, rfl, hf⟩ := hq
  obtain ⟨_, _, h1, h2, hf⟩ := hf
  refine pz_iast dX1_measure_149 h1 h2 ?_
  refine pz_iinc dX1_measure_150 rfl (by rfl) (by decide) rfl ?_
  refine pz_goto dX1_measure_153 (tgt := 108) (by decide) ?_
  exact pz_drop (pz_part_of [0, 1] rfl) (hk108 _ _ hf)
def L_X1_measure_108 (a0 : Nat)  (Q : pz_H → Prop) : Nat → Int32 → pz_H → Prop
  | 0, _, _ => False
  | n + 1, x1, h => (pq_gI h a0 1 4 (fun v22 => (pq_br (v22 ≤ x1) (Q h) (pq_gA h a0 1 14 (fun b23 => (pq_gI h a0 1 0 (fun v24 => (pq_br (v24 = (2 : Int32)) (B_X1_measure_138 a0 x1 b23 x1 (0 : Int32) (fun z0 hz => L_X1_measure_108 a0 Q n z0 hz) Q h) (pq_o h a0 1 (F_X1_facesOver a0 x1 h (fun v26 h25 => (B_X1_measure_138 a0 x1 b23 x1 v26 (fun z0 hz => L_X1_measure_108 a0 Q n z0 hz) Q h25))))))))))))
set_option maxHeartbeats 4000000 in
set_option maxRecDepth 100000 in
theorem kL_X1_measure_108 (X : pz_X) (d : Nat) (a0 : Nat)   (Q : pz_H → Prop)  : ∀ (n : Nat) (x1 : Int32) (h : pz_H), L_X1_measure_108 a0  Q n x1 h → pz_W (fun _ => True) X M_X1_measure (d + 3) 108 [(0, .ref a0), (1, .int x1)] [] h 0 0 (pq_qV Q) := by
  intro n
  induction n with
  | zero =>
    intro _ _ hf
    exact False.elim hf
  | succ n ih =>
    intro x1 h hf
    unfold L_X1_measure_108 at hf
    refine pz_iload_n dX1_measure_108 rfl ?_
    refine pz_aload_n dX1_measure_109 rfl ?_
    obtain ⟨_, v22, h1, h2, hf⟩ := hf
    refine pz_get dX1_measure_110 fl_X1_9 h1 h2 ?_
    obtain ⟨ha, hb⟩ := hf
    refine pz_icmp_ge dX1_measure_113 (tgt := 156) (by decide) (fun cc => ?_) (fun cc => ?_)
    · have hf := ha cc
      exact pz_return dX1_measure_156 rfl ⟨rfl, hf⟩
    · have hf := hb cc
      refine pz_aload_n dX1_measure_116 rfl ?_
      obtain ⟨_, b23, h1, h2, hf⟩ := hf
      refine pz_get dX1_measure_117 fl_X1_43 h1 h2 ?_
      refine pz_iload_n dX1_measure_120 rfl ?_
      refine pz_aload_n dX1_measure_121 rfl ?_
      obtain ⟨_, v24, h1, h2, hf⟩ := hf
      refine pz_get dX1_measure_122 fl_X1_55 h1 h2 ?_
      refine pz_iconst (v := (2 : Int32)) dX1_measure_125 (by decide) ?_
      obtain ⟨ha, hb⟩ := hf
      refine pz_icmp_ne dX1_measure_126 (tgt := 133) (by decide) (fun cc => ?_) (fun cc => ?_)
      · have hf := hb cc
        refine pz_aload_n dX1_measure_133 rfl ?_
        refine pz_iload_n dX1_measure_134 rfl ?_
        obtain ⟨_, hO, hf⟩ := hf
        refine pz_callV1 (rc := 0) (rs := 0) (mc := 0) (ms := 0) dX1_measure_135 (k_X1_facesOver X d _ _ _ _ hf) (Nat.le_of_ble_eq_true rfl) mf_X1_facesOver ml_X1_91 hO rfl mi_X1_facesOver ms_X1_facesOver (fun _ h9 hq => ?_)
        obtain ⟨_, rfl, hf⟩ := hq
        exact pz_drop (pz_part_of [0, 1] rfl) (kB_X1_measure_138 X d _ _ _ _ _ _ _ _ ih hf)
      · have hf := ha cc
        refine pz_iconst (v := (0 : Int32)) dX1_measure_129 (by decide) ?_
        refine pz_goto dX1_measure_130 (tgt := 138) (by decide) ?_
        exact pz_drop (pz_part_of [0, 1] rfl) (kB_X1_measure_138 X d _ _ _ _ _ _ _ _ ih hf)
def B_X1_measure_99 (a0 : Nat) (x1 : Int32) (as0 : Nat) (xs1 : Int32) (xs2 : Int32) (k57 : Int32 → pz_H → Prop) (Q : pz_H → Prop) (h : pz_H) : Prop := (pq_sI h as0 xs1 xs2 (fun h21 => (k57 (x1 + (1 : Int32)) h21)))
set_option maxHeartbeats 4000000 in
set_option maxRecDepth 100000 in
theorem kB_X1_measure_99 (X : pz_X) (d : Nat) (a0 : Nat) (x1 : Int32) (as0 : Nat) (xs1 : Int32) (xs2 : Int32)  (k57 : Int32 → pz_H → Prop) (Q : pz_H → Prop) (h : pz_H) (hk57 : ∀ (x1 : Int32) (h : pz_H), k57 x1 h → pz_W (fun _ => True) X M_X1_measure (d + 3) 57 [(0, .ref a0), (1, .int x1)] [] h 0 0 (pq_qV Q)) (hf : B_X1_measure_99 a0 x1 as0 xs1 xs2 k57 Q h) : pz_W (fun _ => True) X M_X1_measure (d + 3) 99 [(0, .ref a0), (1, .int x1)] [.int xs2, .int xs1, .ref as0] h 0 0 (pq_qV Q) := by
  unfold B_X1_measure_99 at hf
  obtain ⟨_, _, h1, h2, hf⟩ := hf
  refine pz_iast dX1_measure_99 h1 h2 ?_
  refine pz_iinc dX1_measure_100 rfl (by rfl) (by decide) rfl ?_
  refine pz_goto dX1_measure_103 (tgt := 57) (by decide) ?_
  exact pz_drop (pz_part_of [0, 1] rfl) (hk57 _ _ hf)
def L_X1_measure_57 (a0 : Nat)  (Q : pz_H → Prop) : Nat → Int32 → pz_H → Prop
  | 0, _, _ => False
  | n + 1, x1, h => (pq_gI h a0 1 4 (fun v12 => (pq_br (v12 ≤ x1) (pq_ex (fun m108 => L_X1_measure_108 a0 Q m108 (0 : Int32) h)) (pq_gA h a0 1 13 (fun b13 => (pq_gI h a0 1 0 (fun v14 => (pq_br (v14 = (2 : Int32)) (pq_o h a0 1 (F_X1_sideOf a0 x1 h (fun v20 h19 => (B_X1_measure_99 a0 x1 b13 x1 v20 (fun z0 hz => L_X1_measure_57 a0 Q n z0 hz) Q h19)))) (pq_gA h a0 1 8 (fun b15 => (pq_gA h a0 1 9 (fun b16 => (pq_aI h b16 x1 (fun v17 => (pq_aI h b15 (v17 + (1 : Int32)) (fun v18 => (B_X1_measure_99 a0 x1 b13 x1 v18 (fun z0 hz => L_X1_measure_57 a0 Q n z0 hz) Q h)))))))))))))))))
set_option maxHeartbeats 4000000 in
set_option maxRecDepth 100000 in
theorem kL_X1_measure_57 (X : pz_X) (d : Nat) (a0 : Nat)   (Q : pz_H → Prop)  : ∀ (n : Nat) (x1 : Int32) (h : pz_H), L_X1_measure_57 a0  Q n x1 h → pz_W (fun _ => True) X M_X1_measure (d + 3) 57 [(0, .ref a0), (1, .int x1)] [] h 0 0 (pq_qV Q) := by
  intro n
  induction n with
  | zero =>
    intro _ _ hf
    exact False.elim hf
  | succ n ih =>
    intro x1 h hf
    unfold L_X1_measure_57 at hf
    refine pz_iload_n dX1_measure_57 rfl ?_
    refine pz_aload_n dX1_measure_58 rfl ?_
    obtain ⟨_, v12, h1, h2, hf⟩ := hf
    refine pz_get dX1_measure_59 fl_X1_9 h1 h2 ?_
    obtain ⟨ha, hb⟩ := hf
    refine pz_icmp_ge dX1_measure_62 (tgt := 106) (by decide) (fun cc => ?_) (fun cc => ?_)
    · have hf := ha cc
      refine pz_iconst (v := (0 : Int32)) dX1_measure_106 (by decide) ?_
      refine pz_istore_n dX1_measure_107 rfl (by decide) rfl ?_
      obtain ⟨n9, hf⟩ := hf
      exact pz_drop (pz_part_of [0, 1] rfl) (kL_X1_measure_108 X d _ _  n9 _ _ hf)
    · have hf := hb cc
      refine pz_aload_n dX1_measure_65 rfl ?_
      obtain ⟨_, b13, h1, h2, hf⟩ := hf
      refine pz_get dX1_measure_66 fl_X1_40 h1 h2 ?_
      refine pz_iload_n dX1_measure_69 rfl ?_
      refine pz_aload_n dX1_measure_70 rfl ?_
      obtain ⟨_, v14, h1, h2, hf⟩ := hf
      refine pz_get dX1_measure_71 fl_X1_55 h1 h2 ?_
      refine pz_iconst (v := (2 : Int32)) dX1_measure_74 (by decide) ?_
      obtain ⟨ha, hb⟩ := hf
      refine pz_icmp_ne dX1_measure_75 (tgt := 86) (by decide) (fun cc => ?_) (fun cc => ?_)
      · have hf := hb cc
        refine pz_aload_n dX1_measure_86 rfl ?_
        obtain ⟨_, b15, h1, h2, hf⟩ := hf
        refine pz_get dX1_measure_87 fl_X1_25 h1 h2 ?_
        refine pz_aload_n dX1_measure_90 rfl ?_
        obtain ⟨_, b16, h1, h2, hf⟩ := hf
        refine pz_get dX1_measure_91 fl_X1_28 h1 h2 ?_
        refine pz_iload_n dX1_measure_94 rfl ?_
        obtain ⟨_, _, h1, h2, hf⟩ := hf
        refine pz_iald dX1_measure_95 h1 h2 ?_
        refine pz_iconst (v := (1 : Int32)) dX1_measure_96 (by decide) ?_
        refine pz_iadd dX1_measure_97 ?_
        obtain ⟨_, _, h1, h2, hf⟩ := hf
        refine pz_iald dX1_measure_98 h1 h2 ?_
        exact pz_drop (pz_part_of [0, 1] rfl) (kB_X1_measure_99 X d _ _ _ _ _ _ _ _ ih hf)
      · have hf := ha cc
        refine pz_aload_n dX1_measure_78 rfl ?_
        refine pz_iload_n dX1_measure_79 rfl ?_
        obtain ⟨_, hO, hf⟩ := hf
        refine pz_callV1 (rc := 0) (rs := 0) (mc := 0) (ms := 0) dX1_measure_80 (k_X1_sideOf X (d + 2) _ _ _ _ hf) (Nat.le_of_ble_eq_true rfl) mf_X1_sideOf ml_X1_87 hO rfl mi_X1_sideOf ms_X1_sideOf (fun _ h9 hq => ?_)
        obtain ⟨_, rfl, hf⟩ := hq
        refine pz_goto dX1_measure_83 (tgt := 99) (by decide) ?_
        exact pz_drop (pz_part_of [0, 1] rfl) (kB_X1_measure_99 X d _ _ _ _ _ _ _ _ ih hf)
def B_X1_measure_47 (a0 : Nat) (x1 : Int32) (as0 : Nat) (xs1 : Int32) (xs2 : Int32) (xs3 : Int32) (k2 : Int32 → pz_H → Prop) (Q : pz_H → Prop) (h : pz_H) : Prop := (pq_sI h as0 xs1 (xs2 + xs3) (fun h11 => (k2 (x1 + (1 : Int32)) h11)))
set_option maxHeartbeats 4000000 in
set_option maxRecDepth 100000 in
theorem kB_X1_measure_47 (X : pz_X) (d : Nat) (a0 : Nat) (x1 : Int32) (as0 : Nat) (xs1 : Int32) (xs2 : Int32) (xs3 : Int32)  (k2 : Int32 → pz_H → Prop) (Q : pz_H → Prop) (h : pz_H) (hk2 : ∀ (x1 : Int32) (h : pz_H), k2 x1 h → pz_W (fun _ => True) X M_X1_measure (d + 3) 2 [(0, .ref a0), (1, .int x1)] [] h 0 0 (pq_qV Q)) (hf : B_X1_measure_47 a0 x1 as0 xs1 xs2 xs3 k2 Q h) : pz_W (fun _ => True) X M_X1_measure (d + 3) 47 [(0, .ref a0), (1, .int x1)] [.int xs3, .int xs2, .int xs1, .ref as0] h 0 0 (pq_qV Q) := by
  unfold B_X1_measure_47 at hf
  refine pz_iadd dX1_measure_47 ?_
  obtain ⟨_, _, h1, h2, hf⟩ := hf
  refine pz_iast dX1_measure_48 h1 h2 ?_
  refine pz_iinc dX1_measure_49 rfl (by rfl) (by decide) rfl ?_
  refine pz_goto dX1_measure_52 (tgt := 2) (by decide) ?_
  exact pz_drop (pz_part_of [0, 1] rfl) (hk2 _ _ hf)
def L_X1_measure_2 (a0 : Nat)  (Q : pz_H → Prop) : Nat → Int32 → pz_H → Prop
  | 0, _, _ => False
  | n + 1, x1, h => (pq_gI h a0 1 3 (fun v1 => (pq_br (v1 ≤ x1) (pq_ex (fun m57 => L_X1_measure_57 a0 Q m57 (0 : Int32) h)) (pq_gA h a0 1 8 (fun b2 => (pq_gA h a0 1 8 (fun b3 => (pq_aI h b3 x1 (fun v4 => (pq_o h a0 1 (F_X1_isFrontUp a0 x1 h (fun v6 h5 => (pq_br (v6 = 0) (pq_gA h5 a0 1 7 (fun b7 => (pq_aI h5 b7 x1 (fun v8 => (B_X1_measure_47 a0 x1 b2 (x1 + (1 : Int32)) v4 (-v8) (fun z0 hz => L_X1_measure_2 a0 Q n z0 hz) Q h5))))) (pq_gA h5 a0 1 7 (fun b9 => (pq_aI h5 b9 x1 (fun v10 => (B_X1_measure_47 a0 x1 b2 (x1 + (1 : Int32)) v4 v10 (fun z0 hz => L_X1_measure_2 a0 Q n z0 hz) Q h5))))))))))))))))))
set_option maxHeartbeats 4000000 in
set_option maxRecDepth 100000 in
theorem kL_X1_measure_2 (X : pz_X) (d : Nat) (a0 : Nat)   (Q : pz_H → Prop)  : ∀ (n : Nat) (x1 : Int32) (h : pz_H), L_X1_measure_2 a0  Q n x1 h → pz_W (fun _ => True) X M_X1_measure (d + 3) 2 [(0, .ref a0), (1, .int x1)] [] h 0 0 (pq_qV Q) := by
  intro n
  induction n with
  | zero =>
    intro _ _ hf
    exact False.elim hf
  | succ n ih =>
    intro x1 h hf
    unfold L_X1_measure_2 at hf
    refine pz_iload_n dX1_measure_2 rfl ?_
    refine pz_aload_n dX1_measure_3 rfl ?_
    obtain ⟨_, v1, h1, h2, hf⟩ := hf
    refine pz_get dX1_measure_4 fl_X1_64 h1 h2 ?_
    obtain ⟨ha, hb⟩ := hf
    refine pz_icmp_ge dX1_measure_7 (tgt := 55) (by decide) (fun cc => ?_) (fun cc => ?_)
    · have hf := ha cc
      refine pz_iconst (v := (0 : Int32)) dX1_measure_55 (by decide) ?_
      refine pz_istore_n dX1_measure_56 rfl (by decide) rfl ?_
      obtain ⟨n9, hf⟩ := hf
      exact pz_drop (pz_part_of [0, 1] rfl) (kL_X1_measure_57 X d _ _  n9 _ _ hf)
    · have hf := hb cc
      refine pz_aload_n dX1_measure_10 rfl ?_
      obtain ⟨_, b2, h1, h2, hf⟩ := hf
      refine pz_get dX1_measure_11 fl_X1_25 h1 h2 ?_
      refine pz_iload_n dX1_measure_14 rfl ?_
      refine pz_iconst (v := (1 : Int32)) dX1_measure_15 (by decide) ?_
      refine pz_iadd dX1_measure_16 ?_
      refine pz_aload_n dX1_measure_17 rfl ?_
      obtain ⟨_, b3, h1, h2, hf⟩ := hf
      refine pz_get dX1_measure_18 fl_X1_25 h1 h2 ?_
      refine pz_iload_n dX1_measure_21 rfl ?_
      obtain ⟨_, _, h1, h2, hf⟩ := hf
      refine pz_iald dX1_measure_22 h1 h2 ?_
      refine pz_aload_n dX1_measure_23 rfl ?_
      refine pz_iload_n dX1_measure_24 rfl ?_
      obtain ⟨_, hO, hf⟩ := hf
      refine pz_callV1 (rc := 0) (rs := 0) (mc := 0) (ms := 0) dX1_measure_25 (k_X1_isFrontUp X (d + 2) _ _ _ _ hf) (Nat.le_of_ble_eq_true rfl) mf_X1_isFrontUp ml_X1_83 hO rfl mi_X1_isFrontUp ms_X1_isFrontUp (fun _ h9 hq => ?_)
      obtain ⟨_, rfl, hf⟩ := hq
      obtain ⟨ha, hb⟩ := hf
      refine pz_if_eq dX1_measure_28 (tgt := 40) (by decide) (fun cc => ?_) (fun cc => ?_)
      · have hf := ha cc
        refine pz_aload_n dX1_measure_40 rfl ?_
        obtain ⟨_, b7, h1, h2, hf⟩ := hf
        refine pz_get dX1_measure_41 fl_X1_22 h1 h2 ?_
        refine pz_iload_n dX1_measure_44 rfl ?_
        obtain ⟨_, _, h1, h2, hf⟩ := hf
        refine pz_iald dX1_measure_45 h1 h2 ?_
        refine pz_ineg dX1_measure_46 ?_
        exact pz_drop (pz_part_of [0, 1] rfl) (kB_X1_measure_47 X d _ _ _ _ _ _ _ _ _ ih hf)
      · have hf := hb cc
        refine pz_aload_n dX1_measure_31 rfl ?_
        obtain ⟨_, b9, h1, h2, hf⟩ := hf
        refine pz_get dX1_measure_32 fl_X1_22 h1 h2 ?_
        refine pz_iload_n dX1_measure_35 rfl ?_
        obtain ⟨_, _, h1, h2, hf⟩ := hf
        refine pz_iald dX1_measure_36 h1 h2 ?_
        refine pz_goto dX1_measure_37 (tgt := 47) (by decide) ?_
        exact pz_drop (pz_part_of [0, 1] rfl) (kB_X1_measure_47 X d _ _ _ _ _ _ _ _ _ ih hf)
def F_X1_measure (a0 : Nat) (h : pz_H) (Q : pz_H → Prop) : Prop := (pq_ex (fun m2 => L_X1_measure_2 a0 Q m2 (0 : Int32) h))
set_option maxHeartbeats 4000000 in
set_option maxRecDepth 100000 in
theorem k_X1_measure (X : pz_X) (d : Nat) (a0 : Nat) (h : pz_H) (Q : pz_H → Prop) (hf : F_X1_measure a0 h Q) : pz_Call X M_X1_measure (d + 3) 0 0 [.ref a0] h (pq_qV Q) := by
  refine pz_call_of (by decide +kernel) (Nat.le_of_ble_eq_true rfl) ?_
  unfold F_X1_measure at hf
  refine pz_iconst (v := (0 : Int32)) dX1_measure_0 (by decide) ?_
  refine pz_istore_n dX1_measure_1 rfl (by decide) rfl ?_
  obtain ⟨n9, hf⟩ := hf
  exact pz_drop (pz_part_of [0, 1] rfl) (kL_X1_measure_2 X d _ _  n9 _ _ hf)
def B_X1_init_195 (a0 : Nat) (x2 : Int32) (x3 : Int32) (x4 : Int32) (x5 : Int32) (k146 : Int32 → Int32 → pz_H → Prop) (Q : pz_H → Prop) (h : pz_H) : Prop := (k146 x4 (x5 + (1 : Int32)) h)
set_option maxHeartbeats 4000000 in
set_option maxRecDepth 100000 in
theorem kB_X1_init_195 (X : pz_X) (d : Nat) (a0 : Nat) (x2 : Int32) (x3 : Int32) (x4 : Int32) (x5 : Int32)  (k146 : Int32 → Int32 → pz_H → Prop) (Q : pz_H → Prop) (h : pz_H) (hk146 : ∀ (x4 : Int32) (x5 : Int32) (h : pz_H), k146 x4 x5 h → pz_W (fun _ => True) X M_X1_init (d + 4) 146 [(0, .ref a0), (2, .int x2), (3, .int x3), (4, .int x4), (5, .int x5)] [] h 0 0 (pq_qV Q)) (hf : B_X1_init_195 a0 x2 x3 x4 x5 k146 Q h) : pz_W (fun _ => True) X M_X1_init (d + 4) 195 [(0, .ref a0), (2, .int x2), (3, .int x3), (4, .int x4), (5, .int x5)] [] h 0 0 (pq_qV Q) := by
  unfold B_X1_init_195 at hf
  refine pz_iinc dX1_init_195 rfl (by rfl) (by decide) rfl ?_
  refine pz_goto dX1_init_198 (tgt := 146) (by decide) ?_
  exact pz_drop (pz_part_of [0, 2, 3, 4, 5] rfl) (hk146 _ _ _ hf)
def L_X1_init_155 (a0 : Nat) (x2 : Int32) (x3 : Int32) (x5 : Int32) (k146 : Int32 → Int32 → pz_H → Prop) (Q : pz_H → Prop) : Nat → Int32 → Int32 → pz_H → Prop
  | 0, _, _, _ => False
  | n + 1, x4, x6, h => (pq_br (x3 ≤ x6) (B_X1_init_195 a0 x2 x3 x4 x5 k146 Q h) (pq_br ((9 : Int32) ≤ x4) (B_X1_init_195 a0 x2 x3 x4 x5 k146 Q h) (pq_gA h a0 1 5 (fun b3 => (pq_sI h b3 x4 x5 (fun h4 => (pq_gA h4 a0 1 6 (fun b5 => (pq_sI h4 b5 x4 x6 (fun h6 => (L_X1_init_155 a0 x2 x3 x5 k146 Q n (x4 + (1 : Int32)) (x6 + (1 : Int32)) h6)))))))))))
set_option maxHeartbeats 4000000 in
set_option maxRecDepth 100000 in
theorem kL_X1_init_155 (X : pz_X) (d : Nat) (a0 : Nat) (x2 : Int32) (x3 : Int32) (x5 : Int32)  (k146 : Int32 → Int32 → pz_H → Prop) (Q : pz_H → Prop) (hk146 : ∀ (x4 : Int32) (x5 : Int32) (h : pz_H), k146 x4 x5 h → pz_W (fun _ => True) X M_X1_init (d + 4) 146 [(0, .ref a0), (2, .int x2), (3, .int x3), (4, .int x4), (5, .int x5)] [] h 0 0 (pq_qV Q)) : ∀ (n : Nat) (x4 : Int32) (x6 : Int32) (h : pz_H), L_X1_init_155 a0 x2 x3 x5 k146 Q n x4 x6 h → pz_W (fun _ => True) X M_X1_init (d + 4) 155 [(0, .ref a0), (2, .int x2), (3, .int x3), (4, .int x4), (5, .int x5), (6, .int x6)] [] h 0 0 (pq_qV Q) := by
  intro n
  induction n with
  | zero =>
    intro _ _ _ hf
    exact False.elim hf
  | succ n ih =>
    intro x4 x6 h hf
    unfold L_X1_init_155 at hf
    refine pz_iload dX1_init_155 rfl ?_
    refine pz_iload_n dX1_init_157 rfl ?_
    obtain ⟨ha, hb⟩ := hf
    refine pz_icmp_ge dX1_init_158 (tgt := 195) (by decide) (fun cc => ?_) (fun cc => ?_)
    · have hf := ha cc
      exact pz_drop (pz_part_of [0, 2, 3, 4, 5] rfl) (kB_X1_init_195 X d _ _ _ _ _ _ _ _ hk146 hf)
    · have hf := hb cc
      refine pz_iload dX1_init_161 rfl ?_
      refine pz_bipush (v := (9 : Int32)) dX1_init_163 (by decide) ?_
      obtain ⟨ha, hb⟩ := hf
      refine pz_icmp_ge dX1_init_165 (tgt := 195) (by decide) (fun cc => ?_) (fun cc => ?_)
      · have hf := ha cc
        exact pz_drop (pz_part_of [0, 2, 3, 4, 5] rfl) (kB_X1_init_195 X d _ _ _ _ _ _ _ _ hk146 hf)
      · have hf := hb cc
        refine pz_aload_n dX1_init_168 rfl ?_
        obtain ⟨_, b3, h1, h2, hf⟩ := hf
        refine pz_get dX1_init_169 fl_X1_15 h1 h2 ?_
        refine pz_iload dX1_init_172 rfl ?_
        refine pz_iload dX1_init_174 rfl ?_
        obtain ⟨_, _, h1, h2, hf⟩ := hf
        refine pz_iast dX1_init_176 h1 h2 ?_
        refine pz_aload_n dX1_init_177 rfl ?_
        obtain ⟨_, b5, h1, h2, hf⟩ := hf
        refine pz_get dX1_init_178 fl_X1_19 h1 h2 ?_
        refine pz_iload dX1_init_181 rfl ?_
        refine pz_iload dX1_init_183 rfl ?_
        obtain ⟨_, _, h1, h2, hf⟩ := hf
        refine pz_iast dX1_init_185 h1 h2 ?_
        refine pz_iinc dX1_init_186 rfl (by rfl) (by decide) rfl ?_
        refine pz_iinc dX1_init_189 rfl (by rfl) (by decide) rfl ?_
        refine pz_goto dX1_init_192 (tgt := 155) (by decide) ?_
        exact pz_drop (pz_part_of [0, 2, 3, 4, 5, 6] rfl) (ih _ _ _ hf)
def L_X1_init_146 (a0 : Nat) (x2 : Int32) (x3 : Int32)  (Q : pz_H → Prop) : Nat → Int32 → Int32 → pz_H → Prop
  | 0, _, _, _ => False
  | n + 1, x4, x5, h => (pq_br (x2 ≤ x5) (pq_o h a0 1 (F_X1_joinFaces a0 h (fun h1 => (pq_o h1 a0 1 (F_X1_measure a0 h1 (fun h2 => (Q h2))))))) (pq_ex (fun m155 => L_X1_init_155 a0 x2 x3 x5 (fun z0 z1 hz => L_X1_init_146 a0 x2 x3 Q n z0 z1 hz) Q m155 x4 (0 : Int32) h)))
set_option maxHeartbeats 4000000 in
set_option maxRecDepth 100000 in
theorem kL_X1_init_146 (X : pz_X) (d : Nat) (a0 : Nat) (x2 : Int32) (x3 : Int32)   (Q : pz_H → Prop)  : ∀ (n : Nat) (x4 : Int32) (x5 : Int32) (h : pz_H), L_X1_init_146 a0 x2 x3  Q n x4 x5 h → pz_W (fun _ => True) X M_X1_init (d + 4) 146 [(0, .ref a0), (2, .int x2), (3, .int x3), (4, .int x4), (5, .int x5)] [] h 0 0 (pq_qV Q) := by
  intro n
  induction n with
  | zero =>
    intro _ _ _ hf
    exact False.elim hf
  | succ n ih =>
    intro x4 x5 h hf
    unfold L_X1_init_146 at hf
    refine pz_iload dX1_init_146 rfl ?_
    refine pz_iload_n dX1_init_148 rfl ?_
    obtain ⟨ha, hb⟩ := hf
    refine pz_icmp_ge dX1_init_149 (tgt := 201) (by decide) (fun cc => ?_) (fun cc => ?_)
    · have hf := ha cc
      refine pz_aload_n dX1_init_201 rfl ?_
      obtain ⟨_, hO, hf⟩ := hf
      refine pz_callV0 (rc := 0) (rs := 0) (mc := 0) (ms := 0) dX1_init_202 (k_X1_joinFaces X (d + 2) _ _ _ hf) (Nat.le_of_ble_eq_true rfl) mf_X1_joinFaces ml_X1_73 hO rfl mi_X1_joinFaces ms_X1_joinFaces (fun _ h9 hq => ?_)
      obtain ⟨rfl, hf⟩ := hq
      refine pz_aload_n dX1_init_205 rfl ?_
      obtain ⟨_, hO, hf⟩ := hf
      refine pz_callV0 (rc := 0) (rs := 0) (mc := 0) (ms := 0) dX1_init_206 (k_X1_measure X d _ _ _ hf) (Nat.le_of_ble_eq_true rfl) mf_X1_measure ml_X1_76 hO rfl mi_X1_measure ms_X1_measure (fun _ h9 hq => ?_)
      obtain ⟨rfl, hf⟩ := hq
      exact pz_return dX1_init_209 rfl ⟨rfl, hf⟩
    · have hf := hb cc
      refine pz_iconst (v := (0 : Int32)) dX1_init_152 (by decide) ?_
      refine pz_istore dX1_init_153 (by decide) rfl ?_
      obtain ⟨n9, hf⟩ := hf
      exact pz_drop (pz_part_of [0, 2, 3, 4, 5, 6] rfl) (kL_X1_init_155 X d _ _ _ _ _ _ ih n9 _ _ _ hf)
def F_X1_init (a0 : Nat) (x1 : Int32) (x2 : Int32) (x3 : Int32) (h : pz_H) (Q : pz_H → Prop) : Prop := (pq_p h a0 1 4 (.int (0 : Int32)) (fun h7 => (pq_n h7 (.inl (0, 9, .inl (fun _ => 0))) (fun q8 h9 => (pq_p h9 a0 1 5 (.ref q8) (fun h10 => (pq_n h10 (.inl (0, 9, .inl (fun _ => 0))) (fun q11 h12 => (pq_p h12 a0 1 6 (.ref q11) (fun h13 => (pq_n h13 (.inl (0, 9, .inl (fun _ => 0))) (fun q14 h15 => (pq_p h15 a0 1 7 (.ref q14) (fun h16 => (pq_n h16 (.inl (0, 10, .inl (fun _ => 0))) (fun q17 h18 => (pq_p h18 a0 1 8 (.ref q17) (fun h19 => (pq_n h19 (.inl (0, 12, .inl (fun _ => 0))) (fun q20 h21 => (pq_p h21 a0 1 9 (.ref q20) (fun h22 => (pq_n h22 (.inl (0, 12, .inl (fun _ => 0))) (fun q23 h24 => (pq_p h24 a0 1 10 (.ref q23) (fun h25 => (pq_n h25 (.inl (0, 12, .inl (fun _ => 0))) (fun q26 h27 => (pq_p h27 a0 1 11 (.ref q26) (fun h28 => (pq_n h28 (.inl (0, 12, .inl (fun _ => 0))) (fun q29 h30 => (pq_p h30 a0 1 12 (.ref q29) (fun h31 => (pq_n h31 (.inl (0, 12, .inl (fun _ => 0))) (fun q32 h33 => (pq_p h33 a0 1 13 (.ref q32) (fun h34 => (pq_n h34 (.inl (0, 12, .inl (fun _ => 0))) (fun q35 h36 => (pq_p h36 a0 1 14 (.ref q35) (fun h37 => (pq_n h37 (.inl (0, 12, .inl (fun _ => 0))) (fun q38 h39 => (pq_p h39 a0 1 15 (.ref q38) (fun h40 => (pq_n h40 (.inl (0, 9, .inl (fun _ => 0))) (fun q41 h42 => (pq_p h42 a0 1 16 (.ref q41) (fun h43 => (pq_p h43 a0 1 17 (.int (0 : Int32)) (fun h44 => (pq_p h44 a0 1 0 (.int x1) (fun h45 => (pq_p h45 a0 1 1 (.int x2) (fun h46 => (pq_p h46 a0 1 2 (.int x3) (fun h47 => (pq_p h47 a0 1 3 (.int (x2 * x3)) (fun h48 => (pq_gA h48 a0 1 7 (fun b49 => (F_J7_fill_53178 b49 (1 : Int32) h48 (fun h50 => (pq_ex (fun m146 => L_X1_init_146 a0 x2 x3 Q m146 (0 : Int32) (0 : Int32) h50))))))))))))))))))))))))))))))))))))))))))))))))))))))))))))))))))
set_option maxHeartbeats 4000000 in
set_option maxRecDepth 100000 in
theorem k_X1_init (X : pz_X) (d : Nat) (a0 : Nat) (x1 : Int32) (x2 : Int32) (x3 : Int32) (h : pz_H) (Q : pz_H → Prop) (hf : F_X1_init a0 x1 x2 x3 h Q) : pz_Call X M_X1_init (d + 4) 12 130 [.ref a0, .int x1, .int x2, .int x3] h (pq_qV Q) := by
  refine pz_call_of (by decide +kernel) (Nat.le_of_ble_eq_true rfl) ?_
  unfold F_X1_init at hf
  refine pz_aload_n dX1_init_0 rfl ?_
  refine pz_objInit dX1_init_1 ml_X1_3 mi_obj mc_obj (Nat.le_of_ble_eq_true rfl) ?_
  refine pz_aload_n dX1_init_4 rfl ?_
  refine pz_iconst (v := (0 : Int32)) dX1_init_5 (by decide) ?_
  obtain ⟨_, h1, h2, hf⟩ := hf
  refine pz_put dX1_init_6 fp_X1_9 h1 rfl rfl h2 ?_
  refine pz_aload_n dX1_init_9 rfl ?_
  refine pz_bipush (v := (9 : Int32)) dX1_init_10 (by decide) ?_
  refine pz_newa (t := 0) (N := 9) (rc := 11) (rs := 121) dX1_init_12 rfl (fun _ _ h => h) ca_int (fun cA => pq_z0 cA 9) (by decide) (by decide +kernel) (by decide) (fun hfr => ?_)
  have hf := hf hfr
  obtain ⟨_, h1, h2, hf⟩ := hf
  refine pz_putF dX1_init_14 fp_X1_15 rfl h1 rfl rfl h2 ?_
  refine pz_aload_n dX1_init_17 rfl ?_
  refine pz_bipush (v := (9 : Int32)) dX1_init_18 (by decide) ?_
  refine pz_newa (t := 0) (N := 9) (rc := 10) (rs := 112) dX1_init_20 rfl (fun _ _ h => h) ca_int (fun cA => pq_z0 cA 9) (by decide) (by decide +kernel) (by decide) (fun hfr => ?_)
  have hf := hf hfr
  obtain ⟨_, h1, h2, hf⟩ := hf
  refine pz_putF dX1_init_22 fp_X1_19 rfl h1 rfl rfl h2 ?_
  refine pz_aload_n dX1_init_25 rfl ?_
  refine pz_bipush (v := (9 : Int32)) dX1_init_26 (by decide) ?_
  refine pz_newa (t := 0) (N := 9) (rc := 9) (rs := 103) dX1_init_28 rfl (fun _ _ h => h) ca_int (fun cA => pq_z0 cA 9) (by decide) (by decide +kernel) (by decide) (fun hfr => ?_)
  have hf := hf hfr
  obtain ⟨_, h1, h2, hf⟩ := hf
  refine pz_putF dX1_init_30 fp_X1_22 rfl h1 rfl rfl h2 ?_
  refine pz_aload_n dX1_init_33 rfl ?_
  refine pz_bipush (v := (10 : Int32)) dX1_init_34 (by decide) ?_
  refine pz_newa (t := 0) (N := 10) (rc := 8) (rs := 93) dX1_init_36 rfl (fun _ _ h => h) ca_int (fun cA => pq_z0 cA 10) (by decide) (by decide +kernel) (by decide) (fun hfr => ?_)
  have hf := hf hfr
  obtain ⟨_, h1, h2, hf⟩ := hf
  refine pz_putF dX1_init_38 fp_X1_25 rfl h1 rfl rfl h2 ?_
  refine pz_aload_n dX1_init_41 rfl ?_
  refine pz_bipush (v := (12 : Int32)) dX1_init_42 (by decide) ?_
  refine pz_newa (t := 0) (N := 12) (rc := 7) (rs := 81) dX1_init_44 rfl (fun _ _ h => h) ca_int (fun cA => pq_z0 cA 12) (by decide) (by decide +kernel) (by decide) (fun hfr => ?_)
  have hf := hf hfr
  obtain ⟨_, h1, h2, hf⟩ := hf
  refine pz_putF dX1_init_46 fp_X1_28 rfl h1 rfl rfl h2 ?_
  refine pz_aload_n dX1_init_49 rfl ?_
  refine pz_bipush (v := (12 : Int32)) dX1_init_50 (by decide) ?_
  refine pz_newa (t := 0) (N := 12) (rc := 6) (rs := 69) dX1_init_52 rfl (fun _ _ h => h) ca_int (fun cA => pq_z0 cA 12) (by decide) (by decide +kernel) (by decide) (fun hfr => ?_)
  have hf := hf hfr
  obtain ⟨_, h1, h2, hf⟩ := hf
  refine pz_putF dX1_init_54 fp_X1_31 rfl h1 rfl rfl h2 ?_
  refine pz_aload_n dX1_init_57 rfl ?_
  refine pz_bipush (v := (12 : Int32)) dX1_init_58 (by decide) ?_
  refine pz_newa (t := 0) (N := 12) (rc := 5) (rs := 57) dX1_init_60 rfl (fun _ _ h => h) ca_int (fun cA => pq_z0 cA 12) (by decide) (by decide +kernel) (by decide) (fun hfr => ?_)
  have hf := hf hfr
  obtain ⟨_, h1, h2, hf⟩ := hf
  refine pz_putF dX1_init_62 fp_X1_34 rfl h1 rfl rfl h2 ?_
  refine pz_aload_n dX1_init_65 rfl ?_
  refine pz_bipush (v := (12 : Int32)) dX1_init_66 (by decide) ?_
  refine pz_newa (t := 0) (N := 12) (rc := 4) (rs := 45) dX1_init_68 rfl (fun _ _ h => h) ca_int (fun cA => pq_z0 cA 12) (by decide) (by decide +kernel) (by decide) (fun hfr => ?_)
  have hf := hf hfr
  obtain ⟨_, h1, h2, hf⟩ := hf
  refine pz_putF dX1_init_70 fp_X1_37 rfl h1 rfl rfl h2 ?_
  refine pz_aload_n dX1_init_73 rfl ?_
  refine pz_bipush (v := (12 : Int32)) dX1_init_74 (by decide) ?_
  refine pz_newa (t := 0) (N := 12) (rc := 3) (rs := 33) dX1_init_76 rfl (fun _ _ h => h) ca_int (fun cA => pq_z0 cA 12) (by decide) (by decide +kernel) (by decide) (fun hfr => ?_)
  have hf := hf hfr
  obtain ⟨_, h1, h2, hf⟩ := hf
  refine pz_putF dX1_init_78 fp_X1_40 rfl h1 rfl rfl h2 ?_
  refine pz_aload_n dX1_init_81 rfl ?_
  refine pz_bipush (v := (12 : Int32)) dX1_init_82 (by decide) ?_
  refine pz_newa (t := 0) (N := 12) (rc := 2) (rs := 21) dX1_init_84 rfl (fun _ _ h => h) ca_int (fun cA => pq_z0 cA 12) (by decide) (by decide +kernel) (by decide) (fun hfr => ?_)
  have hf := hf hfr
  obtain ⟨_, h1, h2, hf⟩ := hf
  refine pz_putF dX1_init_86 fp_X1_43 rfl h1 rfl rfl h2 ?_
  refine pz_aload_n dX1_init_89 rfl ?_
  refine pz_bipush (v := (12 : Int32)) dX1_init_90 (by decide) ?_
  refine pz_newa (t := 0) (N := 12) (rc := 1) (rs := 9) dX1_init_92 rfl (fun _ _ h => h) ca_int (fun cA => pq_z0 cA 12) (by decide) (by decide +kernel) (by decide) (fun hfr => ?_)
  have hf := hf hfr
  obtain ⟨_, h1, h2, hf⟩ := hf
  refine pz_putF dX1_init_94 fp_X1_46 rfl h1 rfl rfl h2 ?_
  refine pz_aload_n dX1_init_97 rfl ?_
  refine pz_bipush (v := (9 : Int32)) dX1_init_98 (by decide) ?_
  refine pz_newa (t := 0) (N := 9) (rc := 0) (rs := 0) dX1_init_100 rfl (fun _ _ h => h) ca_int (fun cA => pq_z0 cA 9) (by decide) (by decide +kernel) (by decide) (fun hfr => ?_)
  have hf := hf hfr
  obtain ⟨_, h1, h2, hf⟩ := hf
  refine pz_putF dX1_init_102 fp_X1_49 rfl h1 rfl rfl h2 ?_
  refine pz_aload_n dX1_init_105 rfl ?_
  refine pz_iconst (v := (0 : Int32)) dX1_init_106 (by decide) ?_
  obtain ⟨_, h1, h2, hf⟩ := hf
  refine pz_put dX1_init_107 fp_X1_52 h1 rfl rfl h2 ?_
  refine pz_aload_n dX1_init_110 rfl ?_
  refine pz_iload_n dX1_init_111 rfl ?_
  obtain ⟨_, h1, h2, hf⟩ := hf
  refine pz_putF dX1_init_112 fp_X1_55 rfl h1 rfl rfl h2 ?_
  refine pz_aload_n dX1_init_115 rfl ?_
  refine pz_iload_n dX1_init_116 rfl ?_
  obtain ⟨_, h1, h2, hf⟩ := hf
  refine pz_putF dX1_init_117 fp_X1_58 rfl h1 rfl rfl h2 ?_
  refine pz_aload_n dX1_init_120 rfl ?_
  refine pz_iload_n dX1_init_121 rfl ?_
  obtain ⟨_, h1, h2, hf⟩ := hf
  refine pz_putF dX1_init_122 fp_X1_61 rfl h1 rfl rfl h2 ?_
  refine pz_aload_n dX1_init_125 rfl ?_
  refine pz_iload_n dX1_init_126 rfl ?_
  refine pz_iload_n dX1_init_127 rfl ?_
  refine pz_imul dX1_init_128 ?_
  obtain ⟨_, h1, h2, hf⟩ := hf
  refine pz_putF dX1_init_129 fp_X1_64 rfl h1 rfl rfl h2 ?_
  refine pz_aload_n dX1_init_132 rfl ?_
  obtain ⟨_, b49, h1, h2, hf⟩ := hf
  refine pz_get dX1_init_133 fl_X1_22 h1 h2 ?_
  refine pz_iconst (v := (1 : Int32)) dX1_init_136 (by decide) ?_
  refine pz_callS2 (rc := 0) (rs := 0) (mc := 0) (ms := 0) dX1_init_137 (k_J7_fill_53178 X (d + 3) _ _ _ _ hf) (Nat.le_of_ble_eq_true rfl) mf_J7_fill_53178 ml_X1_67 mt_J7_fill_53178 (fun _ h9 hq => ?_)
  obtain ⟨rfl, hf⟩ := hq
  refine pz_iconst (v := (0 : Int32)) dX1_init_140 (by decide) ?_
  refine pz_istore dX1_init_141 (by decide) rfl ?_
  refine pz_iconst (v := (0 : Int32)) dX1_init_143 (by decide) ?_
  refine pz_istore dX1_init_144 (by decide) rfl ?_
  obtain ⟨n9, hf⟩ := hf
  exact pz_drop (pz_part_of [0, 2, 3, 4, 5] rfl) (kL_X1_init_146 X d _ _ _ _  n9 _ _ _ hf)
def B_X1_hasFace_17 (xs0 : Int32)  (Q : Int32 → pz_H → Prop) (h : pz_H) : Prop := (pq_z xs0 (Q xs0 h))
set_option maxHeartbeats 4000000 in
set_option maxRecDepth 100000 in
theorem kB_X1_hasFace_17 (X : pz_X) (d : Nat) (xs0 : Int32)   (Q : Int32 → pz_H → Prop) (h : pz_H)  (hf : B_X1_hasFace_17 xs0  Q h) : pz_W (fun _ => True) X M_X1_hasFace (d + 0) 17 [] [.int xs0] h 0 0 (pq_qI Q) := by
  unfold B_X1_hasFace_17 at hf
  obtain ⟨hz, hf⟩ := hf
  exact pz_ireturn dX1_hasFace_17 rfl hz ⟨_, rfl, hf⟩
def B_X1_hasFace_16   (Q : Int32 → pz_H → Prop) (h : pz_H) : Prop := (B_X1_hasFace_17 (0 : Int32) Q h)
set_option maxHeartbeats 4000000 in
set_option maxRecDepth 100000 in
theorem kB_X1_hasFace_16 (X : pz_X) (d : Nat)    (Q : Int32 → pz_H → Prop) (h : pz_H)  (hf : B_X1_hasFace_16   Q h) : pz_W (fun _ => True) X M_X1_hasFace (d + 0) 16 [] [] h 0 0 (pq_qI Q) := by
  unfold B_X1_hasFace_16 at hf
  refine pz_iconst (v := (0 : Int32)) dX1_hasFace_16 (by decide) ?_
  exact pz_drop (pz_part_of [] rfl) (kB_X1_hasFace_17 X d _ _ _  hf)
def F_X1_hasFace (a0 : Nat) (x1 : Int32) (h : pz_H) (Q : Int32 → pz_H → Prop) : Prop := (pq_br (x1 < 0) (B_X1_hasFace_16 Q h) (pq_gI h a0 1 3 (fun v1 => (pq_br (v1 ≤ x1) (B_X1_hasFace_16 Q h) (B_X1_hasFace_17 (1 : Int32) Q h)))))
set_option maxHeartbeats 4000000 in
set_option maxRecDepth 100000 in
theorem k_X1_hasFace (X : pz_X) (d : Nat) (a0 : Nat) (x1 : Int32) (h : pz_H) (Q : Int32 → pz_H → Prop) (hf : F_X1_hasFace a0 x1 h Q) : pz_Call X M_X1_hasFace (d + 0) 0 0 [.ref a0, .int x1] h (pq_qI Q) := by
  refine pz_call_of (by decide +kernel) (Nat.le_of_ble_eq_true rfl) ?_
  unfold F_X1_hasFace at hf
  refine pz_iload_n dX1_hasFace_0 rfl ?_
  obtain ⟨ha, hb⟩ := hf
  refine pz_if_lt dX1_hasFace_1 (tgt := 16) (by decide) (fun cc => ?_) (fun cc => ?_)
  · have hf := ha cc
    exact pz_drop (pz_part_of [] rfl) (kB_X1_hasFace_16 X d _ _  hf)
  · have hf := hb cc
    refine pz_iload_n dX1_hasFace_4 rfl ?_
    refine pz_aload_n dX1_hasFace_5 rfl ?_
    obtain ⟨_, v1, h1, h2, hf⟩ := hf
    refine pz_get dX1_hasFace_6 fl_X1_64 h1 h2 ?_
    obtain ⟨ha, hb⟩ := hf
    refine pz_icmp_ge dX1_hasFace_9 (tgt := 16) (by decide) (fun cc => ?_) (fun cc => ?_)
    · have hf := ha cc
      exact pz_drop (pz_part_of [] rfl) (kB_X1_hasFace_16 X d _ _  hf)
    · have hf := hb cc
      refine pz_iconst (v := (1 : Int32)) dX1_hasFace_12 (by decide) ?_
      refine pz_goto dX1_hasFace_13 (tgt := 17) (by decide) ?_
      exact pz_drop (pz_part_of [] rfl) (kB_X1_hasFace_17 X d _ _ _  hf)
def B_X1_hasCrease_17 (xs0 : Int32)  (Q : Int32 → pz_H → Prop) (h : pz_H) : Prop := (pq_z xs0 (Q xs0 h))
set_option maxHeartbeats 4000000 in
set_option maxRecDepth 100000 in
theorem kB_X1_hasCrease_17 (X : pz_X) (d : Nat) (xs0 : Int32)   (Q : Int32 → pz_H → Prop) (h : pz_H)  (hf : B_X1_hasCrease_17 xs0  Q h) : pz_W (fun _ => True) X M_X1_hasCrease (d + 0) 17 [] [.int xs0] h 0 0 (pq_qI Q) := by
  unfold B_X1_hasCrease_17 at hf
  obtain ⟨hz, hf⟩ := hf
  exact pz_ireturn dX1_hasCrease_17 rfl hz ⟨_, rfl, hf⟩
def B_X1_hasCrease_16   (Q : Int32 → pz_H → Prop) (h : pz_H) : Prop := (B_X1_hasCrease_17 (0 : Int32) Q h)
set_option maxHeartbeats 4000000 in
set_option maxRecDepth 100000 in
theorem kB_X1_hasCrease_16 (X : pz_X) (d : Nat)    (Q : Int32 → pz_H → Prop) (h : pz_H)  (hf : B_X1_hasCrease_16   Q h) : pz_W (fun _ => True) X M_X1_hasCrease (d + 0) 16 [] [] h 0 0 (pq_qI Q) := by
  unfold B_X1_hasCrease_16 at hf
  refine pz_iconst (v := (0 : Int32)) dX1_hasCrease_16 (by decide) ?_
  exact pz_drop (pz_part_of [] rfl) (kB_X1_hasCrease_17 X d _ _ _  hf)
def F_X1_hasCrease (a0 : Nat) (x1 : Int32) (h : pz_H) (Q : Int32 → pz_H → Prop) : Prop := (pq_br (x1 < 0) (B_X1_hasCrease_16 Q h) (pq_gI h a0 1 4 (fun v1 => (pq_br (v1 ≤ x1) (B_X1_hasCrease_16 Q h) (B_X1_hasCrease_17 (1 : Int32) Q h)))))
set_option maxHeartbeats 4000000 in
set_option maxRecDepth 100000 in
theorem k_X1_hasCrease (X : pz_X) (d : Nat) (a0 : Nat) (x1 : Int32) (h : pz_H) (Q : Int32 → pz_H → Prop) (hf : F_X1_hasCrease a0 x1 h Q) : pz_Call X M_X1_hasCrease (d + 0) 0 0 [.ref a0, .int x1] h (pq_qI Q) := by
  refine pz_call_of (by decide +kernel) (Nat.le_of_ble_eq_true rfl) ?_
  unfold F_X1_hasCrease at hf
  refine pz_iload_n dX1_hasCrease_0 rfl ?_
  obtain ⟨ha, hb⟩ := hf
  refine pz_if_lt dX1_hasCrease_1 (tgt := 16) (by decide) (fun cc => ?_) (fun cc => ?_)
  · have hf := ha cc
    exact pz_drop (pz_part_of [] rfl) (kB_X1_hasCrease_16 X d _ _  hf)
  · have hf := hb cc
    refine pz_iload_n dX1_hasCrease_4 rfl ?_
    refine pz_aload_n dX1_hasCrease_5 rfl ?_
    obtain ⟨_, v1, h1, h2, hf⟩ := hf
    refine pz_get dX1_hasCrease_6 fl_X1_9 h1 h2 ?_
    obtain ⟨ha, hb⟩ := hf
    refine pz_icmp_ge dX1_hasCrease_9 (tgt := 16) (by decide) (fun cc => ?_) (fun cc => ?_)
    · have hf := ha cc
      exact pz_drop (pz_part_of [] rfl) (kB_X1_hasCrease_16 X d _ _  hf)
    · have hf := hb cc
      refine pz_iconst (v := (1 : Int32)) dX1_hasCrease_12 (by decide) ?_
      refine pz_goto dX1_hasCrease_13 (tgt := 17) (by decide) ?_
      exact pz_drop (pz_part_of [] rfl) (kB_X1_hasCrease_17 X d _ _ _  hf)
def B_X1_isUneven_34 (xs0 : Int32)  (Q : Int32 → pz_H → Prop) (h : pz_H) : Prop := (pq_z xs0 (Q xs0 h))
set_option maxHeartbeats 4000000 in
set_option maxRecDepth 100000 in
theorem kB_X1_isUneven_34 (X : pz_X) (d : Nat) (xs0 : Int32)   (Q : Int32 → pz_H → Prop) (h : pz_H)  (hf : B_X1_isUneven_34 xs0  Q h) : pz_W (fun _ => True) X M_X1_isUneven (d + 0) 34 [] [.int xs0] h 0 0 (pq_qI Q) := by
  unfold B_X1_isUneven_34 at hf
  obtain ⟨hz, hf⟩ := hf
  exact pz_ireturn dX1_isUneven_34 rfl hz ⟨_, rfl, hf⟩
def B_X1_isUneven_29   (Q : Int32 → pz_H → Prop) (h : pz_H) : Prop := (B_X1_isUneven_34 (1 : Int32) Q h)
set_option maxHeartbeats 4000000 in
set_option maxRecDepth 100000 in
theorem kB_X1_isUneven_29 (X : pz_X) (d : Nat)    (Q : Int32 → pz_H → Prop) (h : pz_H)  (hf : B_X1_isUneven_29   Q h) : pz_W (fun _ => True) X M_X1_isUneven (d + 0) 29 [] [] h 0 0 (pq_qI Q) := by
  unfold B_X1_isUneven_29 at hf
  refine pz_iconst (v := (1 : Int32)) dX1_isUneven_29 (by decide) ?_
  refine pz_goto dX1_isUneven_30 (tgt := 34) (by decide) ?_
  exact pz_drop (pz_part_of [] rfl) (kB_X1_isUneven_34 X d _ _ _  hf)
def B_X1_isUneven_33   (Q : Int32 → pz_H → Prop) (h : pz_H) : Prop := (B_X1_isUneven_34 (0 : Int32) Q h)
set_option maxHeartbeats 4000000 in
set_option maxRecDepth 100000 in
theorem kB_X1_isUneven_33 (X : pz_X) (d : Nat)    (Q : Int32 → pz_H → Prop) (h : pz_H)  (hf : B_X1_isUneven_33   Q h) : pz_W (fun _ => True) X M_X1_isUneven (d + 0) 33 [] [] h 0 0 (pq_qI Q) := by
  unfold B_X1_isUneven_33 at hf
  refine pz_iconst (v := (0 : Int32)) dX1_isUneven_33 (by decide) ?_
  exact pz_drop (pz_part_of [] rfl) (kB_X1_isUneven_34 X d _ _ _  hf)
def F_X1_isUneven (a0 : Nat) (h : pz_H) (Q : Int32 → pz_H → Prop) : Prop := (pq_gI h a0 1 0 (fun v1 => (pq_br (v1 = (1 : Int32)) (pq_gI h a0 1 3 (fun v2 => (pq_ne (2 : Int32) (pq_br ((v2 - v2 / (2 : Int32) * (2 : Int32)) = 0) (pq_gA h a0 1 8 (fun b3 => (pq_gI h a0 1 3 (fun v4 => (pq_aI h b3 v4 (fun v5 => (pq_br (v5 = 0) (B_X1_isUneven_33 Q h) (B_X1_isUneven_29 Q h)))))))) (B_X1_isUneven_29 Q h))))) (B_X1_isUneven_33 Q h))))
set_option maxHeartbeats 4000000 in
set_option maxRecDepth 100000 in
theorem k_X1_isUneven (X : pz_X) (d : Nat) (a0 : Nat) (h : pz_H) (Q : Int32 → pz_H → Prop) (hf : F_X1_isUneven a0 h Q) : pz_Call X M_X1_isUneven (d + 0) 0 0 [.ref a0] h (pq_qI Q) := by
  refine pz_call_of (by decide +kernel) (Nat.le_of_ble_eq_true rfl) ?_
  unfold F_X1_isUneven at hf
  refine pz_aload_n dX1_isUneven_0 rfl ?_
  obtain ⟨_, v1, h1, h2, hf⟩ := hf
  refine pz_get dX1_isUneven_1 fl_X1_55 h1 h2 ?_
  refine pz_iconst (v := (1 : Int32)) dX1_isUneven_4 (by decide) ?_
  obtain ⟨ha, hb⟩ := hf
  refine pz_icmp_ne dX1_isUneven_5 (tgt := 33) (by decide) (fun cc => ?_) (fun cc => ?_)
  · have hf := hb cc
    exact pz_drop (pz_part_of [] rfl) (kB_X1_isUneven_33 X d _ _  hf)
  · have hf := ha cc
    refine pz_aload_n dX1_isUneven_8 rfl ?_
    obtain ⟨_, v2, h1, h2, hf⟩ := hf
    refine pz_get dX1_isUneven_9 fl_X1_64 h1 h2 ?_
    refine pz_iconst (v := (2 : Int32)) dX1_isUneven_12 (by decide) ?_
    obtain ⟨hne, hf⟩ := hf
    refine pz_irem dX1_isUneven_13 hne ?_
    obtain ⟨ha, hb⟩ := hf
    refine pz_if_ne dX1_isUneven_14 (tgt := 29) (by decide) (fun cc => ?_) (fun cc => ?_)
    · have hf := hb cc
      exact pz_drop (pz_part_of [] rfl) (kB_X1_isUneven_29 X d _ _  hf)
    · have hf := ha cc
      refine pz_aload_n dX1_isUneven_17 rfl ?_
      obtain ⟨_, b3, h1, h2, hf⟩ := hf
      refine pz_get dX1_isUneven_18 fl_X1_25 h1 h2 ?_
      refine pz_aload_n dX1_isUneven_21 rfl ?_
      obtain ⟨_, v4, h1, h2, hf⟩ := hf
      refine pz_get dX1_isUneven_22 fl_X1_64 h1 h2 ?_
      obtain ⟨_, _, h1, h2, hf⟩ := hf
      refine pz_iald dX1_isUneven_25 h1 h2 ?_
      obtain ⟨ha, hb⟩ := hf
      refine pz_if_eq dX1_isUneven_26 (tgt := 33) (by decide) (fun cc => ?_) (fun cc => ?_)
      · have hf := ha cc
        exact pz_drop (pz_part_of [] rfl) (kB_X1_isUneven_33 X d _ _  hf)
      · have hf := hb cc
        exact pz_drop (pz_part_of [] rfl) (kB_X1_isUneven_29 X d _ _  hf)
def B_X1_marked_28 (a0 : Nat) (x1 : Int32) (x2 : Int32) (x3 : Int32) (k4 : Int32 → Int32 → pz_H → Prop) (Q : Int32 → pz_H → Prop) (h : pz_H) : Prop := (k4 x2 (x3 + (1 : Int32)) h)
set_option maxHeartbeats 4000000 in
set_option maxRecDepth 100000 in
theorem kB_X1_marked_28 (X : pz_X) (d : Nat) (a0 : Nat) (x1 : Int32) (x2 : Int32) (x3 : Int32)  (k4 : Int32 → Int32 → pz_H → Prop) (Q : Int32 → pz_H → Prop) (h : pz_H) (hk4 : ∀ (x2 : Int32) (x3 : Int32) (h : pz_H), k4 x2 x3 h → pz_W (fun _ => True) X M_X1_marked (d + 0) 4 [(0, .ref a0), (1, .int x1), (2, .int x2), (3, .int x3)] [] h 0 0 (pq_qI Q)) (hf : B_X1_marked_28 a0 x1 x2 x3 k4 Q h) : pz_W (fun _ => True) X M_X1_marked (d + 0) 28 [(0, .ref a0), (1, .int x1), (2, .int x2), (3, .int x3)] [] h 0 0 (pq_qI Q) := by
  unfold B_X1_marked_28 at hf
  refine pz_iinc dX1_marked_28 rfl (by rfl) (by decide) rfl ?_
  refine pz_goto dX1_marked_31 (tgt := 4) (by decide) ?_
  exact pz_drop (pz_part_of [0, 1, 2, 3] rfl) (hk4 _ _ _ hf)
def L_X1_marked_4 (a0 : Nat) (x1 : Int32)  (Q : Int32 → pz_H → Prop) : Nat → Int32 → Int32 → pz_H → Prop
  | 0, _, _, _ => False
  | n + 1, x2, x3, h => (pq_gI h a0 1 4 (fun v1 => (pq_br (v1 ≤ x3) (Q x2 h) (pq_gA h a0 1 12 (fun b2 => (pq_aI h b2 x3 (fun v3 => (pq_br (v3 = x1) (B_X1_marked_28 a0 x1 (x2 ||| ((1 : Int32) <<< (x3 &&& 31))) x3 (fun z0 z1 hz => L_X1_marked_4 a0 x1 Q n z0 z1 hz) Q h) (B_X1_marked_28 a0 x1 x2 x3 (fun z0 z1 hz => L_X1_marked_4 a0 x1 Q n z0 z1 hz) Q h)))))))))
set_option maxHeartbeats 4000000 in
set_option maxRecDepth 100000 in
theorem kL_X1_marked_4 (X : pz_X) (d : Nat) (a0 : Nat) (x1 : Int32)   (Q : Int32 → pz_H → Prop)  : ∀ (n : Nat) (x2 : Int32) (x3 : Int32) (h : pz_H), L_X1_marked_4 a0 x1  Q n x2 x3 h → pz_W (fun _ => True) X M_X1_marked (d + 0) 4 [(0, .ref a0), (1, .int x1), (2, .int x2), (3, .int x3)] [] h 0 0 (pq_qI Q) := by
  intro n
  induction n with
  | zero =>
    intro _ _ _ hf
    exact False.elim hf
  | succ n ih =>
    intro x2 x3 h hf
    unfold L_X1_marked_4 at hf
    refine pz_iload_n dX1_marked_4 rfl ?_
    refine pz_aload_n dX1_marked_5 rfl ?_
    obtain ⟨_, v1, h1, h2, hf⟩ := hf
    refine pz_get dX1_marked_6 fl_X1_9 h1 h2 ?_
    obtain ⟨ha, hb⟩ := hf
    refine pz_icmp_ge dX1_marked_9 (tgt := 34) (by decide) (fun cc => ?_) (fun cc => ?_)
    · have hf := ha cc
      refine pz_iload_n dX1_marked_34 rfl ?_
      exact pz_ireturn dX1_marked_35 rfl rfl ⟨_, rfl, hf⟩
    · have hf := hb cc
      refine pz_aload_n dX1_marked_12 rfl ?_
      obtain ⟨_, b2, h1, h2, hf⟩ := hf
      refine pz_get dX1_marked_13 fl_X1_37 h1 h2 ?_
      refine pz_iload_n dX1_marked_16 rfl ?_
      obtain ⟨_, _, h1, h2, hf⟩ := hf
      refine pz_iald dX1_marked_17 h1 h2 ?_
      refine pz_iload_n dX1_marked_18 rfl ?_
      obtain ⟨ha, hb⟩ := hf
      refine pz_icmp_ne dX1_marked_19 (tgt := 28) (by decide) (fun cc => ?_) (fun cc => ?_)
      · have hf := hb cc
        exact pz_drop (pz_part_of [0, 1, 2, 3] rfl) (kB_X1_marked_28 X d _ _ _ _ _ _ _ ih hf)
      · have hf := ha cc
        refine pz_iload_n dX1_marked_22 rfl ?_
        refine pz_iconst (v := (1 : Int32)) dX1_marked_23 (by decide) ?_
        refine pz_iload_n dX1_marked_24 rfl ?_
        refine pz_ishl dX1_marked_25 ?_
        refine pz_ior dX1_marked_26 ?_
        refine pz_istore_n dX1_marked_27 rfl (by decide) rfl ?_
        exact pz_drop (pz_part_of [0, 1, 2, 3] rfl) (kB_X1_marked_28 X d _ _ _ _ _ _ _ ih hf)
def F_X1_marked (a0 : Nat) (x1 : Int32) (h : pz_H) (Q : Int32 → pz_H → Prop) : Prop := (pq_ex (fun m4 => L_X1_marked_4 a0 x1 Q m4 (0 : Int32) (0 : Int32) h))
set_option maxHeartbeats 4000000 in
set_option maxRecDepth 100000 in
theorem k_X1_marked (X : pz_X) (d : Nat) (a0 : Nat) (x1 : Int32) (h : pz_H) (Q : Int32 → pz_H → Prop) (hf : F_X1_marked a0 x1 h Q) : pz_Call X M_X1_marked (d + 0) 0 0 [.ref a0, .int x1] h (pq_qI Q) := by
  refine pz_call_of (by decide +kernel) (Nat.le_of_ble_eq_true rfl) ?_
  unfold F_X1_marked at hf
  refine pz_iconst (v := (0 : Int32)) dX1_marked_0 (by decide) ?_
  refine pz_istore_n dX1_marked_1 rfl (by decide) rfl ?_
  refine pz_iconst (v := (0 : Int32)) dX1_marked_2 (by decide) ?_
  refine pz_istore_n dX1_marked_3 rfl (by decide) rfl ?_
  obtain ⟨n9, hf⟩ := hf
  exact pz_drop (pz_part_of [0, 1, 2, 3] rfl) (kL_X1_marked_4 X d _ _ _  n9 _ _ _ hf)
def B_X1_becomes_44 (xs0 : Int32)  (Q : Int32 → pz_H → Prop) (h : pz_H) : Prop := (Q xs0 h)
set_option maxHeartbeats 4000000 in
set_option maxRecDepth 100000 in
theorem kB_X1_becomes_44 (X : pz_X) (d : Nat) (xs0 : Int32)   (Q : Int32 → pz_H → Prop) (h : pz_H)  (hf : B_X1_becomes_44 xs0  Q h) : pz_W (fun _ => True) X M_X1_becomes (d + 1) 44 [] [.int xs0] h 0 0 (pq_qI Q) := by
  unfold B_X1_becomes_44 at hf
  exact pz_ireturn dX1_becomes_44 rfl rfl ⟨_, rfl, hf⟩
def B_X1_becomes_24 (a0 : Nat) (x1 : Int32) (xs0 : Int32)  (Q : Int32 → pz_H → Prop) (h : pz_H) : Prop := (pq_gA h a0 1 9 (fun b1 => (pq_aI h b1 x1 (fun v2 => (pq_o h a0 1 (F_X1_isFrontUp a0 v2 h (fun v4 h3 => (pq_br (xs0 = v4) (B_X1_becomes_44 (2 : Int32) Q h3) (B_X1_becomes_44 (1 : Int32) Q h3)))))))))
set_option maxHeartbeats 4000000 in
set_option maxRecDepth 100000 in
theorem kB_X1_becomes_24 (X : pz_X) (d : Nat) (a0 : Nat) (x1 : Int32) (xs0 : Int32)   (Q : Int32 → pz_H → Prop) (h : pz_H)  (hf : B_X1_becomes_24 a0 x1 xs0  Q h) : pz_W (fun _ => True) X M_X1_becomes (d + 1) 24 [(0, .ref a0), (1, .int x1)] [.int xs0] h 0 0 (pq_qI Q) := by
  unfold B_X1_becomes_24 at hf
  refine pz_istore_n dX1_becomes_24 rfl (by decide) rfl ?_
  refine pz_iload_n dX1_becomes_25 rfl ?_
  refine pz_aload_n dX1_becomes_26 rfl ?_
  refine pz_aload_n dX1_becomes_27 rfl ?_
  obtain ⟨_, b1, h1, h2, hf⟩ := hf
  refine pz_get dX1_becomes_28 fl_X1_28 h1 h2 ?_
  refine pz_iload_n dX1_becomes_31 rfl ?_
  obtain ⟨_, _, h1, h2, hf⟩ := hf
  refine pz_iald dX1_becomes_32 h1 h2 ?_
  obtain ⟨_, hO, hf⟩ := hf
  refine pz_callV1 (rc := 0) (rs := 0) (mc := 0) (ms := 0) dX1_becomes_33 (k_X1_isFrontUp X d _ _ _ _ hf) (Nat.le_of_ble_eq_true rfl) mf_X1_isFrontUp ml_X1_83 hO rfl mi_X1_isFrontUp ms_X1_isFrontUp (fun _ h9 hq => ?_)
  obtain ⟨_, rfl, hf⟩ := hq
  obtain ⟨ha, hb⟩ := hf
  refine pz_icmp_ne dX1_becomes_36 (tgt := 43) (by decide) (fun cc => ?_) (fun cc => ?_)
  · have hf := hb cc
    refine pz_iconst (v := (1 : Int32)) dX1_becomes_43 (by decide) ?_
    exact pz_drop (pz_part_of [] rfl) (kB_X1_becomes_44 X d _ _ _  hf)
  · have hf := ha cc
    refine pz_iconst (v := (2 : Int32)) dX1_becomes_39 (by decide) ?_
    refine pz_goto dX1_becomes_40 (tgt := 44) (by decide) ?_
    exact pz_drop (pz_part_of [] rfl) (kB_X1_becomes_44 X d _ _ _  hf)
def F_X1_becomes (a0 : Nat) (x1 : Int32) (a2 : Nat) (h : pz_H) (Q : Int32 → pz_H → Prop) : Prop := (pq_gA h a0 1 10 (fun b5 => (pq_aI h b5 x1 (fun v6 => (pq_aI h a2 v6 (fun v7 => (pq_gA h a0 1 9 (fun b8 => (pq_aI h b8 x1 (fun v9 => (pq_aI h a2 v9 (fun v10 => (pq_br (v7 ≤ v10) (B_X1_becomes_24 a0 x1 (0 : Int32) Q h) (B_X1_becomes_24 a0 x1 (1 : Int32) Q h))))))))))))))
set_option maxHeartbeats 4000000 in
set_option maxRecDepth 100000 in
theorem k_X1_becomes (X : pz_X) (d : Nat) (a0 : Nat) (x1 : Int32) (a2 : Nat) (h : pz_H) (Q : Int32 → pz_H → Prop) (hf : F_X1_becomes a0 x1 a2 h Q) : pz_Call X M_X1_becomes (d + 1) 0 0 [.ref a0, .int x1, .ref a2] h (pq_qI Q) := by
  refine pz_call_of (by decide +kernel) (Nat.le_of_ble_eq_true rfl) ?_
  unfold F_X1_becomes at hf
  refine pz_aload_n dX1_becomes_0 rfl ?_
  refine pz_aload_n dX1_becomes_1 rfl ?_
  obtain ⟨_, b5, h1, h2, hf⟩ := hf
  refine pz_get dX1_becomes_2 fl_X1_31 h1 h2 ?_
  refine pz_iload_n dX1_becomes_5 rfl ?_
  obtain ⟨_, _, h1, h2, hf⟩ := hf
  refine pz_iald dX1_becomes_6 h1 h2 ?_
  obtain ⟨_, _, h1, h2, hf⟩ := hf
  refine pz_iald dX1_becomes_7 h1 h2 ?_
  refine pz_aload_n dX1_becomes_8 rfl ?_
  refine pz_aload_n dX1_becomes_9 rfl ?_
  obtain ⟨_, b8, h1, h2, hf⟩ := hf
  refine pz_get dX1_becomes_10 fl_X1_28 h1 h2 ?_
  refine pz_iload_n dX1_becomes_13 rfl ?_
  obtain ⟨_, _, h1, h2, hf⟩ := hf
  refine pz_iald dX1_becomes_14 h1 h2 ?_
  obtain ⟨_, _, h1, h2, hf⟩ := hf
  refine pz_iald dX1_becomes_15 h1 h2 ?_
  obtain ⟨ha, hb⟩ := hf
  refine pz_icmp_le dX1_becomes_16 (tgt := 23) (by decide) (fun cc => ?_) (fun cc => ?_)
  · have hf := ha cc
    refine pz_iconst (v := (0 : Int32)) dX1_becomes_23 (by decide) ?_
    exact pz_drop (pz_part_of [0, 1] rfl) (kB_X1_becomes_24 X d _ _ _ _ _  hf)
  · have hf := hb cc
    refine pz_iconst (v := (1 : Int32)) dX1_becomes_19 (by decide) ?_
    refine pz_goto dX1_becomes_20 (tgt := 24) (by decide) ?_
    exact pz_drop (pz_part_of [0, 1] rfl) (kB_X1_becomes_24 X d _ _ _ _ _  hf)
def B_X1_valleysIn_28 (a0 : Nat) (a1 : Nat) (x2 : Int32) (x3 : Int32) (k4 : Int32 → Int32 → pz_H → Prop) (Q : Int32 → pz_H → Prop) (h : pz_H) : Prop := (k4 x2 (x3 + (1 : Int32)) h)
set_option maxHeartbeats 4000000 in
set_option maxRecDepth 100000 in
theorem kB_X1_valleysIn_28 (X : pz_X) (d : Nat) (a0 : Nat) (a1 : Nat) (x2 : Int32) (x3 : Int32)  (k4 : Int32 → Int32 → pz_H → Prop) (Q : Int32 → pz_H → Prop) (h : pz_H) (hk4 : ∀ (x2 : Int32) (x3 : Int32) (h : pz_H), k4 x2 x3 h → pz_W (fun _ => True) X M_X1_valleysIn (d + 2) 4 [(0, .ref a0), (1, .ref a1), (2, .int x2), (3, .int x3)] [] h 0 0 (pq_qI Q)) (hf : B_X1_valleysIn_28 a0 a1 x2 x3 k4 Q h) : pz_W (fun _ => True) X M_X1_valleysIn (d + 2) 28 [(0, .ref a0), (1, .ref a1), (2, .int x2), (3, .int x3)] [] h 0 0 (pq_qI Q) := by
  unfold B_X1_valleysIn_28 at hf
  refine pz_iinc dX1_valleysIn_28 rfl (by rfl) (by decide) rfl ?_
  refine pz_goto dX1_valleysIn_31 (tgt := 4) (by decide) ?_
  exact pz_drop (pz_part_of [0, 1, 2, 3] rfl) (hk4 _ _ _ hf)
def L_X1_valleysIn_4 (a0 : Nat) (a1 : Nat)  (Q : Int32 → pz_H → Prop) : Nat → Int32 → Int32 → pz_H → Prop
  | 0, _, _, _ => False
  | n + 1, x2, x3, h => (pq_gI h a0 1 4 (fun v1 => (pq_br (v1 ≤ x3) (Q x2 h) (pq_o h a0 1 (F_X1_becomes a0 x3 a1 h (fun v3 h2 => (pq_br (v3 = (2 : Int32)) (B_X1_valleysIn_28 a0 a1 (x2 ||| ((1 : Int32) <<< (x3 &&& 31))) x3 (fun z0 z1 hz => L_X1_valleysIn_4 a0 a1 Q n z0 z1 hz) Q h2) (B_X1_valleysIn_28 a0 a1 x2 x3 (fun z0 z1 hz => L_X1_valleysIn_4 a0 a1 Q n z0 z1 hz) Q h2))))))))
set_option maxHeartbeats 4000000 in
set_option maxRecDepth 100000 in
theorem kL_X1_valleysIn_4 (X : pz_X) (d : Nat) (a0 : Nat) (a1 : Nat)   (Q : Int32 → pz_H → Prop)  : ∀ (n : Nat) (x2 : Int32) (x3 : Int32) (h : pz_H), L_X1_valleysIn_4 a0 a1  Q n x2 x3 h → pz_W (fun _ => True) X M_X1_valleysIn (d + 2) 4 [(0, .ref a0), (1, .ref a1), (2, .int x2), (3, .int x3)] [] h 0 0 (pq_qI Q) := by
  intro n
  induction n with
  | zero =>
    intro _ _ _ hf
    exact False.elim hf
  | succ n ih =>
    intro x2 x3 h hf
    unfold L_X1_valleysIn_4 at hf
    refine pz_iload_n dX1_valleysIn_4 rfl ?_
    refine pz_aload_n dX1_valleysIn_5 rfl ?_
    obtain ⟨_, v1, h1, h2, hf⟩ := hf
    refine pz_get dX1_valleysIn_6 fl_X1_9 h1 h2 ?_
    obtain ⟨ha, hb⟩ := hf
    refine pz_icmp_ge dX1_valleysIn_9 (tgt := 34) (by decide) (fun cc => ?_) (fun cc => ?_)
    · have hf := ha cc
      refine pz_iload_n dX1_valleysIn_34 rfl ?_
      exact pz_ireturn dX1_valleysIn_35 rfl rfl ⟨_, rfl, hf⟩
    · have hf := hb cc
      refine pz_aload_n dX1_valleysIn_12 rfl ?_
      refine pz_iload_n dX1_valleysIn_13 rfl ?_
      refine pz_aload_n dX1_valleysIn_14 rfl ?_
      obtain ⟨_, hO, hf⟩ := hf
      refine pz_callV2 (rc := 0) (rs := 0) (mc := 0) (ms := 0) dX1_valleysIn_15 (k_X1_becomes X d _ _ _ _ _ hf) (Nat.le_of_ble_eq_true rfl) mf_X1_becomes ml_X1_108 hO rfl mi_X1_becomes ms_X1_becomes (fun _ h9 hq => ?_)
      obtain ⟨_, rfl, hf⟩ := hq
      refine pz_iconst (v := (2 : Int32)) dX1_valleysIn_18 (by decide) ?_
      obtain ⟨ha, hb⟩ := hf
      refine pz_icmp_ne dX1_valleysIn_19 (tgt := 28) (by decide) (fun cc => ?_) (fun cc => ?_)
      · have hf := hb cc
        exact pz_drop (pz_part_of [0, 1, 2, 3] rfl) (kB_X1_valleysIn_28 X d _ _ _ _ _ _ _ ih hf)
      · have hf := ha cc
        refine pz_iload_n dX1_valleysIn_22 rfl ?_
        refine pz_iconst (v := (1 : Int32)) dX1_valleysIn_23 (by decide) ?_
        refine pz_iload_n dX1_valleysIn_24 rfl ?_
        refine pz_ishl dX1_valleysIn_25 ?_
        refine pz_ior dX1_valleysIn_26 ?_
        refine pz_istore_n dX1_valleysIn_27 rfl (by decide) rfl ?_
        exact pz_drop (pz_part_of [0, 1, 2, 3] rfl) (kB_X1_valleysIn_28 X d _ _ _ _ _ _ _ ih hf)
def F_X1_valleysIn (a0 : Nat) (a1 : Nat) (h : pz_H) (Q : Int32 → pz_H → Prop) : Prop := (pq_ex (fun m4 => L_X1_valleysIn_4 a0 a1 Q m4 (0 : Int32) (0 : Int32) h))
set_option maxHeartbeats 4000000 in
set_option maxRecDepth 100000 in
theorem k_X1_valleysIn (X : pz_X) (d : Nat) (a0 : Nat) (a1 : Nat) (h : pz_H) (Q : Int32 → pz_H → Prop) (hf : F_X1_valleysIn a0 a1 h Q) : pz_Call X M_X1_valleysIn (d + 2) 0 0 [.ref a0, .ref a1] h (pq_qI Q) := by
  refine pz_call_of (by decide +kernel) (Nat.le_of_ble_eq_true rfl) ?_
  unfold F_X1_valleysIn at hf
  refine pz_iconst (v := (0 : Int32)) dX1_valleysIn_0 (by decide) ?_
  refine pz_istore_n dX1_valleysIn_1 rfl (by decide) rfl ?_
  refine pz_iconst (v := (0 : Int32)) dX1_valleysIn_2 (by decide) ?_
  refine pz_istore_n dX1_valleysIn_3 rfl (by decide) rfl ?_
  obtain ⟨n9, hf⟩ := hf
  exact pz_drop (pz_part_of [0, 1, 2, 3] rfl) (kL_X1_valleysIn_4 X d _ _ _  n9 _ _ _ hf)
def B_X1_brokenMark_43 (a0 : Nat) (a1 : Nat) (x2 : Int32) (k2 : Int32 → pz_H → Prop) (Q : Int32 → pz_H → Prop) (h : pz_H) : Prop := (k2 (x2 + (1 : Int32)) h)
set_option maxHeartbeats 4000000 in
set_option maxRecDepth 100000 in
theorem kB_X1_brokenMark_43 (X : pz_X) (d : Nat) (a0 : Nat) (a1 : Nat) (x2 : Int32)  (k2 : Int32 → pz_H → Prop) (Q : Int32 → pz_H → Prop) (h : pz_H) (hk2 : ∀ (x2 : Int32) (h : pz_H), k2 x2 h → pz_W (fun _ => True) X M_X1_brokenMark (d + 2) 2 [(0, .ref a0), (1, .ref a1), (2, .int x2)] [] h 0 0 (pq_qI Q)) (hf : B_X1_brokenMark_43 a0 a1 x2 k2 Q h) : pz_W (fun _ => True) X M_X1_brokenMark (d + 2) 43 [(0, .ref a0), (1, .ref a1), (2, .int x2)] [] h 0 0 (pq_qI Q) := by
  unfold B_X1_brokenMark_43 at hf
  refine pz_iinc dX1_brokenMark_43 rfl (by rfl) (by decide) rfl ?_
  refine pz_goto dX1_brokenMark_46 (tgt := 2) (by decide) ?_
  exact pz_drop (pz_part_of [0, 1, 2] rfl) (hk2 _ _ hf)
def L_X1_brokenMark_2 (a0 : Nat) (a1 : Nat)  (Q : Int32 → pz_H → Prop) : Nat → Int32 → pz_H → Prop
  | 0, _, _ => False
  | n + 1, x2, h => (pq_gI h a0 1 4 (fun v1 => (pq_br (v1 ≤ x2) (Q (0 : Int32) h) (pq_gA h a0 1 12 (fun b2 => (pq_aI h b2 x2 (fun v3 => (pq_br (v3 = 0) (B_X1_brokenMark_43 a0 a1 x2 (fun z0 hz => L_X1_brokenMark_2 a0 a1 Q n z0 hz) Q h) (pq_gA h a0 1 12 (fun b4 => (pq_aI h b4 x2 (fun v5 => (pq_o h a0 1 (F_X1_becomes a0 x2 a1 h (fun v7 h6 => (pq_br (v5 = v7) (B_X1_brokenMark_43 a0 a1 x2 (fun z0 hz => L_X1_brokenMark_2 a0 a1 Q n z0 hz) Q h6) (Q ((10000 : Int32) + ((100 : Int32) * x2)) h6)))))))))))))))))
set_option maxHeartbeats 4000000 in
set_option maxRecDepth 100000 in
theorem kL_X1_brokenMark_2 (X : pz_X) (d : Nat) (a0 : Nat) (a1 : Nat)   (Q : Int32 → pz_H → Prop)  : ∀ (n : Nat) (x2 : Int32) (h : pz_H), L_X1_brokenMark_2 a0 a1  Q n x2 h → pz_W (fun _ => True) X M_X1_brokenMark (d + 2) 2 [(0, .ref a0), (1, .ref a1), (2, .int x2)] [] h 0 0 (pq_qI Q) := by
  intro n
  induction n with
  | zero =>
    intro _ _ hf
    exact False.elim hf
  | succ n ih =>
    intro x2 h hf
    unfold L_X1_brokenMark_2 at hf
    refine pz_iload_n dX1_brokenMark_2 rfl ?_
    refine pz_aload_n dX1_brokenMark_3 rfl ?_
    obtain ⟨_, v1, h1, h2, hf⟩ := hf
    refine pz_get dX1_brokenMark_4 fl_X1_9 h1 h2 ?_
    obtain ⟨ha, hb⟩ := hf
    refine pz_icmp_ge dX1_brokenMark_7 (tgt := 49) (by decide) (fun cc => ?_) (fun cc => ?_)
    · have hf := ha cc
      refine pz_iconst (v := (0 : Int32)) dX1_brokenMark_49 (by decide) ?_
      exact pz_ireturn dX1_brokenMark_50 rfl rfl ⟨_, rfl, hf⟩
    · have hf := hb cc
      refine pz_aload_n dX1_brokenMark_10 rfl ?_
      obtain ⟨_, b2, h1, h2, hf⟩ := hf
      refine pz_get dX1_brokenMark_11 fl_X1_37 h1 h2 ?_
      refine pz_iload_n dX1_brokenMark_14 rfl ?_
      obtain ⟨_, _, h1, h2, hf⟩ := hf
      refine pz_iald dX1_brokenMark_15 h1 h2 ?_
      obtain ⟨ha, hb⟩ := hf
      refine pz_if_eq dX1_brokenMark_16 (tgt := 43) (by decide) (fun cc => ?_) (fun cc => ?_)
      · have hf := ha cc
        exact pz_drop (pz_part_of [0, 1, 2] rfl) (kB_X1_brokenMark_43 X d _ _ _ _ _ _ ih hf)
      · have hf := hb cc
        refine pz_aload_n dX1_brokenMark_19 rfl ?_
        obtain ⟨_, b4, h1, h2, hf⟩ := hf
        refine pz_get dX1_brokenMark_20 fl_X1_37 h1 h2 ?_
        refine pz_iload_n dX1_brokenMark_23 rfl ?_
        obtain ⟨_, _, h1, h2, hf⟩ := hf
        refine pz_iald dX1_brokenMark_24 h1 h2 ?_
        refine pz_aload_n dX1_brokenMark_25 rfl ?_
        refine pz_iload_n dX1_brokenMark_26 rfl ?_
        refine pz_aload_n dX1_brokenMark_27 rfl ?_
        obtain ⟨_, hO, hf⟩ := hf
        refine pz_callV2 (rc := 0) (rs := 0) (mc := 0) (ms := 0) dX1_brokenMark_28 (k_X1_becomes X d _ _ _ _ _ hf) (Nat.le_of_ble_eq_true rfl) mf_X1_becomes ml_X1_108 hO rfl mi_X1_becomes ms_X1_becomes (fun _ h9 hq => ?_)
        obtain ⟨_, rfl, hf⟩ := hq
        obtain ⟨ha, hb⟩ := hf
        refine pz_icmp_eq dX1_brokenMark_31 (tgt := 43) (by decide) (fun cc => ?_) (fun cc => ?_)
        · have hf := ha cc
          exact pz_drop (pz_part_of [0, 1, 2] rfl) (kB_X1_brokenMark_43 X d _ _ _ _ _ _ ih hf)
        · have hf := hb cc
          refine pz_sipush (v := (10000 : Int32)) dX1_brokenMark_34 (by decide) ?_
          refine pz_bipush (v := (100 : Int32)) dX1_brokenMark_37 (by decide) ?_
          refine pz_iload_n dX1_brokenMark_39 rfl ?_
          refine pz_imul dX1_brokenMark_40 ?_
          refine pz_iadd dX1_brokenMark_41 ?_
          exact pz_ireturn dX1_brokenMark_42 rfl rfl ⟨_, rfl, hf⟩
def F_X1_brokenMark (a0 : Nat) (a1 : Nat) (h : pz_H) (Q : Int32 → pz_H → Prop) : Prop := (pq_ex (fun m2 => L_X1_brokenMark_2 a0 a1 Q m2 (0 : Int32) h))
set_option maxHeartbeats 4000000 in
set_option maxRecDepth 100000 in
theorem k_X1_brokenMark (X : pz_X) (d : Nat) (a0 : Nat) (a1 : Nat) (h : pz_H) (Q : Int32 → pz_H → Prop) (hf : F_X1_brokenMark a0 a1 h Q) : pz_Call X M_X1_brokenMark (d + 2) 0 0 [.ref a0, .ref a1] h (pq_qI Q) := by
  refine pz_call_of (by decide +kernel) (Nat.le_of_ble_eq_true rfl) ?_
  unfold F_X1_brokenMark at hf
  refine pz_iconst (v := (0 : Int32)) dX1_brokenMark_0 (by decide) ?_
  refine pz_istore_n dX1_brokenMark_1 rfl (by decide) rfl ?_
  obtain ⟨n9, hf⟩ := hf
  exact pz_drop (pz_part_of [0, 1, 2] rfl) (kL_X1_brokenMark_2 X d _ _ _  n9 _ _ hf)
def F_X1_liesWithin (a0 : Nat) (x1 : Int32) (x2 : Int32) (a3 : Nat) (h : pz_H) (Q : Int32 → pz_H → Prop) : Prop := (pq_aI h a3 x1 (fun v1 => (pq_gA h a0 1 9 (fun b2 => (pq_aI h b2 x2 (fun v3 => (pq_aI h a3 v3 (fun v4 => (pq_gA h a0 1 10 (fun b5 => (pq_aI h b5 x2 (fun v6 => (pq_aI h a3 v6 (fun v7 => (F_X1_isBetween v1 v4 v7 h (fun v9 h8 => (pq_z v9 (Q v9 h8))))))))))))))))))
set_option maxHeartbeats 4000000 in
set_option maxRecDepth 100000 in
theorem k_X1_liesWithin (X : pz_X) (d : Nat) (a0 : Nat) (x1 : Int32) (x2 : Int32) (a3 : Nat) (h : pz_H) (Q : Int32 → pz_H → Prop) (hf : F_X1_liesWithin a0 x1 x2 a3 h Q) : pz_Call X M_X1_liesWithin (d + 2) 0 0 [.ref a0, .int x1, .int x2, .ref a3] h (pq_qI Q) := by
  refine pz_call_of (by decide +kernel) (Nat.le_of_ble_eq_true rfl) ?_
  unfold F_X1_liesWithin at hf
  refine pz_aload_n dX1_liesWithin_0 rfl ?_
  refine pz_iload_n dX1_liesWithin_1 rfl ?_
  obtain ⟨_, _, h1, h2, hf⟩ := hf
  refine pz_iald dX1_liesWithin_2 h1 h2 ?_
  refine pz_aload_n dX1_liesWithin_3 rfl ?_
  refine pz_aload_n dX1_liesWithin_4 rfl ?_
  obtain ⟨_, b2, h1, h2, hf⟩ := hf
  refine pz_get dX1_liesWithin_5 fl_X1_28 h1 h2 ?_
  refine pz_iload_n dX1_liesWithin_8 rfl ?_
  obtain ⟨_, _, h1, h2, hf⟩ := hf
  refine pz_iald dX1_liesWithin_9 h1 h2 ?_
  obtain ⟨_, _, h1, h2, hf⟩ := hf
  refine pz_iald dX1_liesWithin_10 h1 h2 ?_
  refine pz_aload_n dX1_liesWithin_11 rfl ?_
  refine pz_aload_n dX1_liesWithin_12 rfl ?_
  obtain ⟨_, b5, h1, h2, hf⟩ := hf
  refine pz_get dX1_liesWithin_13 fl_X1_31 h1 h2 ?_
  refine pz_iload_n dX1_liesWithin_16 rfl ?_
  obtain ⟨_, _, h1, h2, hf⟩ := hf
  refine pz_iald dX1_liesWithin_17 h1 h2 ?_
  obtain ⟨_, _, h1, h2, hf⟩ := hf
  refine pz_iald dX1_liesWithin_18 h1 h2 ?_
  refine pz_callS3 (rc := 0) (rs := 0) (mc := 0) (ms := 0) dX1_liesWithin_19 (k_X1_isBetween X d _ _ _ _ _ hf) (Nat.le_of_ble_eq_true rfl) mf_X1_isBetween ml_X1_97 mt_X1_isBetween (fun _ h9 hq => ?_)
  obtain ⟨_, rfl, hf⟩ := hq
  obtain ⟨hz, hf⟩ := hf
  exact pz_ireturn dX1_liesWithin_22 rfl hz ⟨_, rfl, hf⟩
def B_X1_brokenThrough_54 (a0 : Nat) (a1 : Nat) (x2 : Int32) (x3 : Int32) (k2 : Int32 → pz_H → Prop) (k12 : Int32 → pz_H → Prop) (Q : Int32 → pz_H → Prop) (h : pz_H) : Prop := (k12 (x3 + (1 : Int32)) h)
set_option maxHeartbeats 4000000 in
set_option maxRecDepth 100000 in
theorem kB_X1_brokenThrough_54 (X : pz_X) (d : Nat) (a0 : Nat) (a1 : Nat) (x2 : Int32) (x3 : Int32)  (k2 : Int32 → pz_H → Prop) (k12 : Int32 → pz_H → Prop) (Q : Int32 → pz_H → Prop) (h : pz_H) (hk2 : ∀ (x2 : Int32) (h : pz_H), k2 x2 h → pz_W (fun _ => True) X M_X1_brokenThrough (d + 3) 2 [(0, .ref a0), (1, .ref a1), (2, .int x2)] [] h 0 0 (pq_qI Q)) (hk12 : ∀ (x3 : Int32) (h : pz_H), k12 x3 h → pz_W (fun _ => True) X M_X1_brokenThrough (d + 3) 12 [(0, .ref a0), (1, .ref a1), (2, .int x2), (3, .int x3)] [] h 0 0 (pq_qI Q)) (hf : B_X1_brokenThrough_54 a0 a1 x2 x3 k2 k12 Q h) : pz_W (fun _ => True) X M_X1_brokenThrough (d + 3) 54 [(0, .ref a0), (1, .ref a1), (2, .int x2), (3, .int x3)] [] h 0 0 (pq_qI Q) := by
  unfold B_X1_brokenThrough_54 at hf
  refine pz_iinc dX1_brokenThrough_54 rfl (by rfl) (by decide) rfl ?_
  refine pz_goto dX1_brokenThrough_57 (tgt := 12) (by decide) ?_
  exact pz_drop (pz_part_of [0, 1, 2, 3] rfl) (hk12 _ _ hf)
def L_X1_brokenThrough_12 (a0 : Nat) (a1 : Nat) (x2 : Int32) (k2 : Int32 → pz_H → Prop) (Q : Int32 → pz_H → Prop) : Nat → Int32 → pz_H → Prop
  | 0, _, _ => False
  | n + 1, x3, h => (pq_gI h a0 1 3 (fun v2 => (pq_br (v2 ≤ x3) (k2 (x2 + (1 : Int32)) h) (pq_gA h a0 1 14 (fun b3 => (pq_aI h b3 x2 (fun v4 => (F_X4_has v4 x3 h (fun v6 h5 => (pq_br (v6 = 0) (B_X1_brokenThrough_54 a0 a1 x2 x3 k2 (fun z0 hz => L_X1_brokenThrough_12 a0 a1 x2 k2 Q n z0 hz) Q h5) (pq_o h5 a0 1 (F_X1_liesWithin a0 x3 x2 a1 h5 (fun v8 h7 => (pq_br (v8 = 0) (B_X1_brokenThrough_54 a0 a1 x2 x3 k2 (fun z0 hz => L_X1_brokenThrough_12 a0 a1 x2 k2 Q n z0 hz) Q h7) (Q (((20000 : Int32) + ((100 : Int32) * x2)) + x3) h7)))))))))))))))
set_option maxHeartbeats 4000000 in
set_option maxRecDepth 100000 in
theorem kL_X1_brokenThrough_12 (X : pz_X) (d : Nat) (a0 : Nat) (a1 : Nat) (x2 : Int32)  (k2 : Int32 → pz_H → Prop) (Q : Int32 → pz_H → Prop) (hk2 : ∀ (x2 : Int32) (h : pz_H), k2 x2 h → pz_W (fun _ => True) X M_X1_brokenThrough (d + 3) 2 [(0, .ref a0), (1, .ref a1), (2, .int x2)] [] h 0 0 (pq_qI Q)) : ∀ (n : Nat) (x3 : Int32) (h : pz_H), L_X1_brokenThrough_12 a0 a1 x2 k2 Q n x3 h → pz_W (fun _ => True) X M_X1_brokenThrough (d + 3) 12 [(0, .ref a0), (1, .ref a1), (2, .int x2), (3, .int x3)] [] h 0 0 (pq_qI Q) := by
  intro n
  induction n with
  | zero =>
    intro _ _ hf
    exact False.elim hf
  | succ n ih =>
    intro x3 h hf
    unfold L_X1_brokenThrough_12 at hf
    refine pz_iload_n dX1_brokenThrough_12 rfl ?_
    refine pz_aload_n dX1_brokenThrough_13 rfl ?_
    obtain ⟨_, v2, h1, h2, hf⟩ := hf
    refine pz_get dX1_brokenThrough_14 fl_X1_64 h1 h2 ?_
    obtain ⟨ha, hb⟩ := hf
    refine pz_icmp_ge dX1_brokenThrough_17 (tgt := 60) (by decide) (fun cc => ?_) (fun cc => ?_)
    · have hf := ha cc
      refine pz_iinc dX1_brokenThrough_60 rfl (by rfl) (by decide) rfl ?_
      refine pz_goto dX1_brokenThrough_63 (tgt := 2) (by decide) ?_
      exact pz_drop (pz_part_of [0, 1, 2] rfl) (hk2 _ _ hf)
    · have hf := hb cc
      refine pz_aload_n dX1_brokenThrough_20 rfl ?_
      obtain ⟨_, b3, h1, h2, hf⟩ := hf
      refine pz_get dX1_brokenThrough_21 fl_X1_43 h1 h2 ?_
      refine pz_iload_n dX1_brokenThrough_24 rfl ?_
      obtain ⟨_, _, h1, h2, hf⟩ := hf
      refine pz_iald dX1_brokenThrough_25 h1 h2 ?_
      refine pz_iload_n dX1_brokenThrough_26 rfl ?_
      refine pz_callSN2 (rc := 0) (rs := 0) (mc := 0) (ms := 0) dX1_brokenThrough_27 (k_X4_has X (d + 2) _ _ _ _ hf) (Nat.le_of_ble_eq_true rfl) mf_X4_has ml_X1_112 mt_X4_has (fun _ h9 hq => ?_)
      obtain ⟨_, rfl, hf⟩ := hq
      obtain ⟨ha, hb⟩ := hf
      refine pz_if_eq dX1_brokenThrough_30 (tgt := 54) (by decide) (fun cc => ?_) (fun cc => ?_)
      · have hf := ha cc
        exact pz_drop (pz_part_of [0, 1, 2, 3] rfl) (kB_X1_brokenThrough_54 X d _ _ _ _ _ _ _ _ hk2 ih hf)
      · have hf := hb cc
        refine pz_aload_n dX1_brokenThrough_33 rfl ?_
        refine pz_iload_n dX1_brokenThrough_34 rfl ?_
        refine pz_iload_n dX1_brokenThrough_35 rfl ?_
        refine pz_aload_n dX1_brokenThrough_36 rfl ?_
        obtain ⟨_, hO, hf⟩ := hf
        refine pz_callV3 (rc := 0) (rs := 0) (mc := 0) (ms := 0) dX1_brokenThrough_37 (k_X1_liesWithin X d _ _ _ _ _ _ hf) (Nat.le_of_ble_eq_true rfl) mf_X1_liesWithin ml_X1_115 hO rfl mi_X1_liesWithin ms_X1_liesWithin (fun _ h9 hq => ?_)
        obtain ⟨_, rfl, hf⟩ := hq
        obtain ⟨ha, hb⟩ := hf
        refine pz_if_eq dX1_brokenThrough_40 (tgt := 54) (by decide) (fun cc => ?_) (fun cc => ?_)
        · have hf := ha cc
          exact pz_drop (pz_part_of [0, 1, 2, 3] rfl) (kB_X1_brokenThrough_54 X d _ _ _ _ _ _ _ _ hk2 ih hf)
        · have hf := hb cc
          refine pz_sipush (v := (20000 : Int32)) dX1_brokenThrough_43 (by decide) ?_
          refine pz_bipush (v := (100 : Int32)) dX1_brokenThrough_46 (by decide) ?_
          refine pz_iload_n dX1_brokenThrough_48 rfl ?_
          refine pz_imul dX1_brokenThrough_49 ?_
          refine pz_iadd dX1_brokenThrough_50 ?_
          refine pz_iload_n dX1_brokenThrough_51 rfl ?_
          refine pz_iadd dX1_brokenThrough_52 ?_
          exact pz_ireturn dX1_brokenThrough_53 rfl rfl ⟨_, rfl, hf⟩
def L_X1_brokenThrough_2 (a0 : Nat) (a1 : Nat)  (Q : Int32 → pz_H → Prop) : Nat → Int32 → pz_H → Prop
  | 0, _, _ => False
  | n + 1, x2, h => (pq_gI h a0 1 4 (fun v1 => (pq_br (v1 ≤ x2) (Q (0 : Int32) h) (pq_ex (fun m12 => L_X1_brokenThrough_12 a0 a1 x2 (fun z0 hz => L_X1_brokenThrough_2 a0 a1 Q n z0 hz) Q m12 (0 : Int32) h)))))
set_option maxHeartbeats 4000000 in
set_option maxRecDepth 100000 in
theorem kL_X1_brokenThrough_2 (X : pz_X) (d : Nat) (a0 : Nat) (a1 : Nat)   (Q : Int32 → pz_H → Prop)  : ∀ (n : Nat) (x2 : Int32) (h : pz_H), L_X1_brokenThrough_2 a0 a1  Q n x2 h → pz_W (fun _ => True) X M_X1_brokenThrough (d + 3) 2 [(0, .ref a0), (1, .ref a1), (2, .int x2)] [] h 0 0 (pq_qI Q) := by
  intro n
  induction n with
  | zero =>
    intro _ _ hf
    exact False.elim hf
  | succ n ih =>
    intro x2 h hf
    unfold L_X1_brokenThrough_2 at hf
    refine pz_iload_n dX1_brokenThrough_2 rfl ?_
    refine pz_aload_n dX1_brokenThrough_3 rfl ?_
    obtain ⟨_, v1, h1, h2, hf⟩ := hf
    refine pz_get dX1_brokenThrough_4 fl_X1_9 h1 h2 ?_
    obtain ⟨ha, hb⟩ := hf
    refine pz_icmp_ge dX1_brokenThrough_7 (tgt := 66) (by decide) (fun cc => ?_) (fun cc => ?_)
    · have hf := ha cc
      refine pz_iconst (v := (0 : Int32)) dX1_brokenThrough_66 (by decide) ?_
      exact pz_ireturn dX1_brokenThrough_67 rfl rfl ⟨_, rfl, hf⟩
    · have hf := hb cc
      refine pz_iconst (v := (0 : Int32)) dX1_brokenThrough_10 (by decide) ?_
      refine pz_istore_n dX1_brokenThrough_11 rfl (by decide) rfl ?_
      obtain ⟨n9, hf⟩ := hf
      exact pz_drop (pz_part_of [0, 1, 2, 3] rfl) (kL_X1_brokenThrough_12 X d _ _ _ _ _ ih n9 _ _ hf)
def F_X1_brokenThrough (a0 : Nat) (a1 : Nat) (h : pz_H) (Q : Int32 → pz_H → Prop) : Prop := (pq_ex (fun m2 => L_X1_brokenThrough_2 a0 a1 Q m2 (0 : Int32) h))
set_option maxHeartbeats 4000000 in
set_option maxRecDepth 100000 in
theorem k_X1_brokenThrough (X : pz_X) (d : Nat) (a0 : Nat) (a1 : Nat) (h : pz_H) (Q : Int32 → pz_H → Prop) (hf : F_X1_brokenThrough a0 a1 h Q) : pz_Call X M_X1_brokenThrough (d + 3) 0 0 [.ref a0, .ref a1] h (pq_qI Q) := by
  refine pz_call_of (by decide +kernel) (Nat.le_of_ble_eq_true rfl) ?_
  unfold F_X1_brokenThrough at hf
  refine pz_iconst (v := (0 : Int32)) dX1_brokenThrough_0 (by decide) ?_
  refine pz_istore_n dX1_brokenThrough_1 rfl (by decide) rfl ?_
  obtain ⟨n9, hf⟩ := hf
  exact pz_drop (pz_part_of [0, 1, 2] rfl) (kL_X1_brokenThrough_2 X d _ _ _  n9 _ _ hf)
def B_X1_brokenAcross_73 (a0 : Nat) (a1 : Nat) (x2 : Int32) (x3 : Int32) (k2 : Int32 → pz_H → Prop) (k14 : Int32 → pz_H → Prop) (Q : Int32 → pz_H → Prop) (h : pz_H) : Prop := (k14 (x3 + (1 : Int32)) h)
set_option maxHeartbeats 4000000 in
set_option maxRecDepth 100000 in
theorem kB_X1_brokenAcross_73 (X : pz_X) (d : Nat) (a0 : Nat) (a1 : Nat) (x2 : Int32) (x3 : Int32)  (k2 : Int32 → pz_H → Prop) (k14 : Int32 → pz_H → Prop) (Q : Int32 → pz_H → Prop) (h : pz_H) (hk2 : ∀ (x2 : Int32) (h : pz_H), k2 x2 h → pz_W (fun _ => True) X M_X1_brokenAcross (d + 3) 2 [(0, .ref a0), (1, .ref a1), (2, .int x2)] [] h 0 0 (pq_qI Q)) (hk14 : ∀ (x3 : Int32) (h : pz_H), k14 x3 h → pz_W (fun _ => True) X M_X1_brokenAcross (d + 3) 14 [(0, .ref a0), (1, .ref a1), (2, .int x2), (3, .int x3)] [] h 0 0 (pq_qI Q)) (hf : B_X1_brokenAcross_73 a0 a1 x2 x3 k2 k14 Q h) : pz_W (fun _ => True) X M_X1_brokenAcross (d + 3) 73 [(0, .ref a0), (1, .ref a1), (2, .int x2), (3, .int x3)] [] h 0 0 (pq_qI Q) := by
  unfold B_X1_brokenAcross_73 at hf
  refine pz_iinc dX1_brokenAcross_73 rfl (by rfl) (by decide) rfl ?_
  refine pz_goto dX1_brokenAcross_76 (tgt := 14) (by decide) ?_
  exact pz_drop (pz_part_of [0, 1, 2, 3] rfl) (hk14 _ _ hf)
def L_X1_brokenAcross_14 (a0 : Nat) (a1 : Nat) (x2 : Int32) (k2 : Int32 → pz_H → Prop) (Q : Int32 → pz_H → Prop) : Nat → Int32 → pz_H → Prop
  | 0, _, _ => False
  | n + 1, x3, h => (pq_gI h a0 1 4 (fun v2 => (pq_br (v2 ≤ x3) (k2 (x2 + (1 : Int32)) h) (pq_gA h a0 1 15 (fun b3 => (pq_aI h b3 x2 (fun v4 => (F_X4_has v4 x3 h (fun v6 h5 => (pq_br (v6 = 0) (B_X1_brokenAcross_73 a0 a1 x2 x3 k2 (fun z0 hz => L_X1_brokenAcross_14 a0 a1 x2 k2 Q n z0 hz) Q h5) (pq_gA h5 a0 1 9 (fun b7 => (pq_aI h5 b7 x3 (fun v8 => (pq_o h5 a0 1 (F_X1_liesWithin a0 v8 x2 a1 h5 (fun v10 h9 => (pq_gA h9 a0 1 10 (fun b11 => (pq_aI h9 b11 x3 (fun v12 => (pq_o h9 a0 1 (F_X1_liesWithin a0 v12 x2 a1 h9 (fun v14 h13 => (pq_br (v10 = v14) (B_X1_brokenAcross_73 a0 a1 x2 x3 k2 (fun z0 hz => L_X1_brokenAcross_14 a0 a1 x2 k2 Q n z0 hz) Q h13) (Q (((30000 : Int32) + ((100 : Int32) * x2)) + x3) h13))))))))))))))))))))))))))
set_option maxHeartbeats 4000000 in
set_option maxRecDepth 100000 in
theorem kL_X1_brokenAcross_14 (X : pz_X) (d : Nat) (a0 : Nat) (a1 : Nat) (x2 : Int32)  (k2 : Int32 → pz_H → Prop) (Q : Int32 → pz_H → Prop) (hk2 : ∀ (x2 : Int32) (h : pz_H), k2 x2 h → pz_W (fun _ => True) X M_X1_brokenAcross (d + 3) 2 [(0, .ref a0), (1, .ref a1), (2, .int x2)] [] h 0 0 (pq_qI Q)) : ∀ (n : Nat) (x3 : Int32) (h : pz_H), L_X1_brokenAcross_14 a0 a1 x2 k2 Q n x3 h → pz_W (fun _ => True) X M_X1_brokenAcross (d + 3) 14 [(0, .ref a0), (1, .ref a1), (2, .int x2), (3, .int x3)] [] h 0 0 (pq_qI Q) := by
  intro n
  induction n with
  | zero =>
    intro _ _ hf
    exact False.elim hf
  | succ n ih =>
    intro x3 h hf
    unfold L_X1_brokenAcross_14 at hf
    refine pz_iload_n dX1_brokenAcross_14 rfl ?_
    refine pz_aload_n dX1_brokenAcross_15 rfl ?_
    obtain ⟨_, v2, h1, h2, hf⟩ := hf
    refine pz_get dX1_brokenAcross_16 fl_X1_9 h1 h2 ?_
    obtain ⟨ha, hb⟩ := hf
    refine pz_icmp_ge dX1_brokenAcross_19 (tgt := 79) (by decide) (fun cc => ?_) (fun cc => ?_)
    · have hf := ha cc
      refine pz_iinc dX1_brokenAcross_79 rfl (by rfl) (by decide) rfl ?_
      refine pz_goto dX1_brokenAcross_82 (tgt := 2) (by decide) ?_
      exact pz_drop (pz_part_of [0, 1, 2] rfl) (hk2 _ _ hf)
    · have hf := hb cc
      refine pz_aload_n dX1_brokenAcross_22 rfl ?_
      obtain ⟨_, b3, h1, h2, hf⟩ := hf
      refine pz_get dX1_brokenAcross_23 fl_X1_46 h1 h2 ?_
      refine pz_iload_n dX1_brokenAcross_26 rfl ?_
      obtain ⟨_, _, h1, h2, hf⟩ := hf
      refine pz_iald dX1_brokenAcross_27 h1 h2 ?_
      refine pz_iload_n dX1_brokenAcross_28 rfl ?_
      refine pz_callSN2 (rc := 0) (rs := 0) (mc := 0) (ms := 0) dX1_brokenAcross_29 (k_X4_has X (d + 2) _ _ _ _ hf) (Nat.le_of_ble_eq_true rfl) mf_X4_has ml_X1_112 mt_X4_has (fun _ h9 hq => ?_)
      obtain ⟨_, rfl, hf⟩ := hq
      obtain ⟨ha, hb⟩ := hf
      refine pz_if_eq dX1_brokenAcross_32 (tgt := 73) (by decide) (fun cc => ?_) (fun cc => ?_)
      · have hf := ha cc
        exact pz_drop (pz_part_of [0, 1, 2, 3] rfl) (kB_X1_brokenAcross_73 X d _ _ _ _ _ _ _ _ hk2 ih hf)
      · have hf := hb cc
        refine pz_aload_n dX1_brokenAcross_35 rfl ?_
        refine pz_aload_n dX1_brokenAcross_36 rfl ?_
        obtain ⟨_, b7, h1, h2, hf⟩ := hf
        refine pz_get dX1_brokenAcross_37 fl_X1_28 h1 h2 ?_
        refine pz_iload_n dX1_brokenAcross_40 rfl ?_
        obtain ⟨_, _, h1, h2, hf⟩ := hf
        refine pz_iald dX1_brokenAcross_41 h1 h2 ?_
        refine pz_iload_n dX1_brokenAcross_42 rfl ?_
        refine pz_aload_n dX1_brokenAcross_43 rfl ?_
        obtain ⟨_, hO, hf⟩ := hf
        refine pz_callV3 (rc := 0) (rs := 0) (mc := 0) (ms := 0) dX1_brokenAcross_44 (k_X1_liesWithin X d _ _ _ _ _ _ hf) (Nat.le_of_ble_eq_true rfl) mf_X1_liesWithin ml_X1_115 hO rfl mi_X1_liesWithin ms_X1_liesWithin (fun _ h9 hq => ?_)
        obtain ⟨_, rfl, hf⟩ := hq
        refine pz_aload_n dX1_brokenAcross_47 rfl ?_
        refine pz_aload_n dX1_brokenAcross_48 rfl ?_
        obtain ⟨_, b11, h1, h2, hf⟩ := hf
        refine pz_get dX1_brokenAcross_49 fl_X1_31 h1 h2 ?_
        refine pz_iload_n dX1_brokenAcross_52 rfl ?_
        obtain ⟨_, _, h1, h2, hf⟩ := hf
        refine pz_iald dX1_brokenAcross_53 h1 h2 ?_
        refine pz_iload_n dX1_brokenAcross_54 rfl ?_
        refine pz_aload_n dX1_brokenAcross_55 rfl ?_
        obtain ⟨_, hO, hf⟩ := hf
        refine pz_callV3 (rc := 0) (rs := 0) (mc := 0) (ms := 0) dX1_brokenAcross_56 (k_X1_liesWithin X d _ _ _ _ _ _ hf) (Nat.le_of_ble_eq_true rfl) mf_X1_liesWithin ml_X1_115 hO rfl mi_X1_liesWithin ms_X1_liesWithin (fun _ h9 hq => ?_)
        obtain ⟨_, rfl, hf⟩ := hq
        obtain ⟨ha, hb⟩ := hf
        refine pz_icmp_eq dX1_brokenAcross_59 (tgt := 73) (by decide) (fun cc => ?_) (fun cc => ?_)
        · have hf := ha cc
          exact pz_drop (pz_part_of [0, 1, 2, 3] rfl) (kB_X1_brokenAcross_73 X d _ _ _ _ _ _ _ _ hk2 ih hf)
        · have hf := hb cc
          refine pz_sipush (v := (30000 : Int32)) dX1_brokenAcross_62 (by decide) ?_
          refine pz_bipush (v := (100 : Int32)) dX1_brokenAcross_65 (by decide) ?_
          refine pz_iload_n dX1_brokenAcross_67 rfl ?_
          refine pz_imul dX1_brokenAcross_68 ?_
          refine pz_iadd dX1_brokenAcross_69 ?_
          refine pz_iload_n dX1_brokenAcross_70 rfl ?_
          refine pz_iadd dX1_brokenAcross_71 ?_
          exact pz_ireturn dX1_brokenAcross_72 rfl rfl ⟨_, rfl, hf⟩
def L_X1_brokenAcross_2 (a0 : Nat) (a1 : Nat)  (Q : Int32 → pz_H → Prop) : Nat → Int32 → pz_H → Prop
  | 0, _, _ => False
  | n + 1, x2, h => (pq_gI h a0 1 4 (fun v1 => (pq_br (v1 ≤ x2) (Q (0 : Int32) h) (pq_ex (fun m14 => L_X1_brokenAcross_14 a0 a1 x2 (fun z0 hz => L_X1_brokenAcross_2 a0 a1 Q n z0 hz) Q m14 (x2 + (1 : Int32)) h)))))
set_option maxHeartbeats 4000000 in
set_option maxRecDepth 100000 in
theorem kL_X1_brokenAcross_2 (X : pz_X) (d : Nat) (a0 : Nat) (a1 : Nat)   (Q : Int32 → pz_H → Prop)  : ∀ (n : Nat) (x2 : Int32) (h : pz_H), L_X1_brokenAcross_2 a0 a1  Q n x2 h → pz_W (fun _ => True) X M_X1_brokenAcross (d + 3) 2 [(0, .ref a0), (1, .ref a1), (2, .int x2)] [] h 0 0 (pq_qI Q) := by
  intro n
  induction n with
  | zero =>
    intro _ _ hf
    exact False.elim hf
  | succ n ih =>
    intro x2 h hf
    unfold L_X1_brokenAcross_2 at hf
    refine pz_iload_n dX1_brokenAcross_2 rfl ?_
    refine pz_aload_n dX1_brokenAcross_3 rfl ?_
    obtain ⟨_, v1, h1, h2, hf⟩ := hf
    refine pz_get dX1_brokenAcross_4 fl_X1_9 h1 h2 ?_
    obtain ⟨ha, hb⟩ := hf
    refine pz_icmp_ge dX1_brokenAcross_7 (tgt := 85) (by decide) (fun cc => ?_) (fun cc => ?_)
    · have hf := ha cc
      refine pz_iconst (v := (0 : Int32)) dX1_brokenAcross_85 (by decide) ?_
      exact pz_ireturn dX1_brokenAcross_86 rfl rfl ⟨_, rfl, hf⟩
    · have hf := hb cc
      refine pz_iload_n dX1_brokenAcross_10 rfl ?_
      refine pz_iconst (v := (1 : Int32)) dX1_brokenAcross_11 (by decide) ?_
      refine pz_iadd dX1_brokenAcross_12 ?_
      refine pz_istore_n dX1_brokenAcross_13 rfl (by decide) rfl ?_
      obtain ⟨n9, hf⟩ := hf
      exact pz_drop (pz_part_of [0, 1, 2, 3] rfl) (kL_X1_brokenAcross_14 X d _ _ _ _ _ ih n9 _ _ hf)
def F_X1_brokenAcross (a0 : Nat) (a1 : Nat) (h : pz_H) (Q : Int32 → pz_H → Prop) : Prop := (pq_ex (fun m2 => L_X1_brokenAcross_2 a0 a1 Q m2 (0 : Int32) h))
set_option maxHeartbeats 4000000 in
set_option maxRecDepth 100000 in
theorem k_X1_brokenAcross (X : pz_X) (d : Nat) (a0 : Nat) (a1 : Nat) (h : pz_H) (Q : Int32 → pz_H → Prop) (hf : F_X1_brokenAcross a0 a1 h Q) : pz_Call X M_X1_brokenAcross (d + 3) 0 0 [.ref a0, .ref a1] h (pq_qI Q) := by
  refine pz_call_of (by decide +kernel) (Nat.le_of_ble_eq_true rfl) ?_
  unfold F_X1_brokenAcross at hf
  refine pz_iconst (v := (0 : Int32)) dX1_brokenAcross_0 (by decide) ?_
  refine pz_istore_n dX1_brokenAcross_1 rfl (by decide) rfl ?_
  obtain ⟨n9, hf⟩ := hf
  exact pz_drop (pz_part_of [0, 1, 2] rfl) (kL_X1_brokenAcross_2 X d _ _ _  n9 _ _ hf)
def F_X1_allLines (a0 : Nat) (h : pz_H) (Q : Int32 → pz_H → Prop) : Prop := (pq_gI h a0 1 2 (fun v1 => (pq_gI h a0 1 1 (fun v2 => (Q (((1 : Int32) <<< ((((v1 - (1 : Int32)) + v2) - (1 : Int32)) &&& 31)) - (1 : Int32)) h)))))
set_option maxHeartbeats 4000000 in
set_option maxRecDepth 100000 in
theorem k_X1_allLines (X : pz_X) (d : Nat) (a0 : Nat) (h : pz_H) (Q : Int32 → pz_H → Prop) (hf : F_X1_allLines a0 h Q) : pz_Call X M_X1_allLines (d + 0) 0 0 [.ref a0] h (pq_qI Q) := by
  refine pz_call_of (by decide +kernel) (Nat.le_of_ble_eq_true rfl) ?_
  unfold F_X1_allLines at hf
  refine pz_iconst (v := (1 : Int32)) dX1_allLines_0 (by decide) ?_
  refine pz_aload_n dX1_allLines_1 rfl ?_
  obtain ⟨_, v1, h1, h2, hf⟩ := hf
  refine pz_get dX1_allLines_2 fl_X1_61 h1 h2 ?_
  refine pz_iconst (v := (1 : Int32)) dX1_allLines_5 (by decide) ?_
  refine pz_isub dX1_allLines_6 ?_
  refine pz_aload_n dX1_allLines_7 rfl ?_
  obtain ⟨_, v2, h1, h2, hf⟩ := hf
  refine pz_get dX1_allLines_8 fl_X1_58 h1 h2 ?_
  refine pz_iadd dX1_allLines_11 ?_
  refine pz_iconst (v := (1 : Int32)) dX1_allLines_12 (by decide) ?_
  refine pz_isub dX1_allLines_13 ?_
  refine pz_ishl dX1_allLines_14 ?_
  refine pz_iconst (v := (1 : Int32)) dX1_allLines_15 (by decide) ?_
  refine pz_isub dX1_allLines_16 ?_
  exact pz_ireturn dX1_allLines_17 rfl rfl ⟨_, rfl, hf⟩
def B_X1_creasesOn_28 (a0 : Nat) (x1 : Int32) (x2 : Int32) (x3 : Int32) (k4 : Int32 → Int32 → pz_H → Prop) (Q : Int32 → pz_H → Prop) (h : pz_H) : Prop := (k4 x2 (x3 + (1 : Int32)) h)
set_option maxHeartbeats 4000000 in
set_option maxRecDepth 100000 in
theorem kB_X1_creasesOn_28 (X : pz_X) (d : Nat) (a0 : Nat) (x1 : Int32) (x2 : Int32) (x3 : Int32)  (k4 : Int32 → Int32 → pz_H → Prop) (Q : Int32 → pz_H → Prop) (h : pz_H) (hk4 : ∀ (x2 : Int32) (x3 : Int32) (h : pz_H), k4 x2 x3 h → pz_W (fun _ => True) X M_X1_creasesOn (d + 1) 4 [(0, .ref a0), (1, .int x1), (2, .int x2), (3, .int x3)] [] h 0 0 (pq_qI Q)) (hf : B_X1_creasesOn_28 a0 x1 x2 x3 k4 Q h) : pz_W (fun _ => True) X M_X1_creasesOn (d + 1) 28 [(0, .ref a0), (1, .int x1), (2, .int x2), (3, .int x3)] [] h 0 0 (pq_qI Q) := by
  unfold B_X1_creasesOn_28 at hf
  refine pz_iinc dX1_creasesOn_28 rfl (by rfl) (by decide) rfl ?_
  refine pz_goto dX1_creasesOn_31 (tgt := 4) (by decide) ?_
  exact pz_drop (pz_part_of [0, 1, 2, 3] rfl) (hk4 _ _ _ hf)
def L_X1_creasesOn_4 (a0 : Nat) (x1 : Int32)  (Q : Int32 → pz_H → Prop) : Nat → Int32 → Int32 → pz_H → Prop
  | 0, _, _, _ => False
  | n + 1, x2, x3, h => (pq_gI h a0 1 4 (fun v1 => (pq_br (v1 ≤ x3) (Q x2 h) (pq_gA h a0 1 11 (fun b2 => (pq_aI h b2 x3 (fun v3 => (F_X4_has x1 v3 h (fun v5 h4 => (pq_br (v5 = 0) (B_X1_creasesOn_28 a0 x1 x2 x3 (fun z0 z1 hz => L_X1_creasesOn_4 a0 x1 Q n z0 z1 hz) Q h4) (B_X1_creasesOn_28 a0 x1 (x2 + (1 : Int32)) x3 (fun z0 z1 hz => L_X1_creasesOn_4 a0 x1 Q n z0 z1 hz) Q h4)))))))))))
set_option maxHeartbeats 4000000 in
set_option maxRecDepth 100000 in
theorem kL_X1_creasesOn_4 (X : pz_X) (d : Nat) (a0 : Nat) (x1 : Int32)   (Q : Int32 → pz_H → Prop)  : ∀ (n : Nat) (x2 : Int32) (x3 : Int32) (h : pz_H), L_X1_creasesOn_4 a0 x1  Q n x2 x3 h → pz_W (fun _ => True) X M_X1_creasesOn (d + 1) 4 [(0, .ref a0), (1, .int x1), (2, .int x2), (3, .int x3)] [] h 0 0 (pq_qI Q) := by
  intro n
  induction n with
  | zero =>
    intro _ _ _ hf
    exact False.elim hf
  | succ n ih =>
    intro x2 x3 h hf
    unfold L_X1_creasesOn_4 at hf
    refine pz_iload_n dX1_creasesOn_4 rfl ?_
    refine pz_aload_n dX1_creasesOn_5 rfl ?_
    obtain ⟨_, v1, h1, h2, hf⟩ := hf
    refine pz_get dX1_creasesOn_6 fl_X1_9 h1 h2 ?_
    obtain ⟨ha, hb⟩ := hf
    refine pz_icmp_ge dX1_creasesOn_9 (tgt := 34) (by decide) (fun cc => ?_) (fun cc => ?_)
    · have hf := ha cc
      refine pz_iload_n dX1_creasesOn_34 rfl ?_
      exact pz_ireturn dX1_creasesOn_35 rfl rfl ⟨_, rfl, hf⟩
    · have hf := hb cc
      refine pz_iload_n dX1_creasesOn_12 rfl ?_
      refine pz_aload_n dX1_creasesOn_13 rfl ?_
      obtain ⟨_, b2, h1, h2, hf⟩ := hf
      refine pz_get dX1_creasesOn_14 fl_X1_34 h1 h2 ?_
      refine pz_iload_n dX1_creasesOn_17 rfl ?_
      obtain ⟨_, _, h1, h2, hf⟩ := hf
      refine pz_iald dX1_creasesOn_18 h1 h2 ?_
      refine pz_callSN2 (rc := 0) (rs := 0) (mc := 0) (ms := 0) dX1_creasesOn_19 (k_X4_has X d _ _ _ _ hf) (Nat.le_of_ble_eq_true rfl) mf_X4_has ml_X1_112 mt_X4_has (fun _ h9 hq => ?_)
      obtain ⟨_, rfl, hf⟩ := hq
      obtain ⟨ha, hb⟩ := hf
      refine pz_if_eq dX1_creasesOn_22 (tgt := 28) (by decide) (fun cc => ?_) (fun cc => ?_)
      · have hf := ha cc
        exact pz_drop (pz_part_of [0, 1, 2, 3] rfl) (kB_X1_creasesOn_28 X d _ _ _ _ _ _ _ ih hf)
      · have hf := hb cc
        refine pz_iinc dX1_creasesOn_25 rfl (by rfl) (by decide) rfl ?_
        exact pz_drop (pz_part_of [0, 1, 2, 3] rfl) (kB_X1_creasesOn_28 X d _ _ _ _ _ _ _ ih hf)
def F_X1_creasesOn (a0 : Nat) (x1 : Int32) (h : pz_H) (Q : Int32 → pz_H → Prop) : Prop := (pq_ex (fun m4 => L_X1_creasesOn_4 a0 x1 Q m4 (0 : Int32) (0 : Int32) h))
set_option maxHeartbeats 4000000 in
set_option maxRecDepth 100000 in
theorem k_X1_creasesOn (X : pz_X) (d : Nat) (a0 : Nat) (x1 : Int32) (h : pz_H) (Q : Int32 → pz_H → Prop) (hf : F_X1_creasesOn a0 x1 h Q) : pz_Call X M_X1_creasesOn (d + 1) 0 0 [.ref a0, .int x1] h (pq_qI Q) := by
  refine pz_call_of (by decide +kernel) (Nat.le_of_ble_eq_true rfl) ?_
  unfold F_X1_creasesOn at hf
  refine pz_iconst (v := (0 : Int32)) dX1_creasesOn_0 (by decide) ?_
  refine pz_istore_n dX1_creasesOn_1 rfl (by decide) rfl ?_
  refine pz_iconst (v := (0 : Int32)) dX1_creasesOn_2 (by decide) ?_
  refine pz_istore_n dX1_creasesOn_3 rfl (by decide) rfl ?_
  obtain ⟨n9, hf⟩ := hf
  exact pz_drop (pz_part_of [0, 1, 2, 3] rfl) (kL_X1_creasesOn_4 X d _ _ _  n9 _ _ _ hf)
