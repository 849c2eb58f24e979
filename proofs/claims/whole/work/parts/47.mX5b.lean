def B_X5_isUp_51 (xs0 : Int32)  (Q : Int32 → pz_H → Prop) (h : pz_H) : Prop := (pq_z xs0 (Q xs0 h))
set_option maxHeartbeats 4000000 in
set_option maxRecDepth 100000 in
theorem kB_X5_isUp_51 (X : pz_X) (d : Nat) (xs0 : Int32)   (Q : Int32 → pz_H → Prop) (h : pz_H)  (hf : B_X5_isUp_51 xs0  Q h) : pz_W (fun _ => True) X M_X5_isUp (d + 0) 51 [] [.int xs0] h 0 0 (pq_qI Q) := by
  unfold B_X5_isUp_51 at hf
  obtain ⟨hz, hf⟩ := hf
  exact pz_ireturn dX5_isUp_51 rfl hz ⟨_, rfl, hf⟩
def F_X5_isUp (a0 : Nat) (x1 : Int32) (x2 : Int32) (h : pz_H) (Q : Int32 → pz_H → Prop) : Prop := (pq_gA h a0 5 1 (fun b1 => (pq_aI h b1 x1 (fun v2 => (pq_br (v2 = (2 : Int32)) (pq_gA h a0 5 4 (fun b3 => (pq_aI h b3 x1 (fun v4 => (pq_ne v4 (pq_gA h a0 5 4 (fun b5 => (pq_aI h b5 x1 (fun v6 => (pq_ne v6 (pq_ne (2 : Int32) (pq_br ((((x2 / v4) + (x2 - x2 / v6 * v6)) - ((x2 / v4) + (x2 - x2 / v6 * v6)) / (2 : Int32) * (2 : Int32)) = 0) (B_X5_isUp_51 (1 : Int32) Q h) (B_X5_isUp_51 (0 : Int32) Q h))))))))))))) (pq_ne (2 : Int32) (pq_br ((x2 - x2 / (2 : Int32) * (2 : Int32)) = 0) (B_X5_isUp_51 (1 : Int32) Q h) (B_X5_isUp_51 (0 : Int32) Q h))))))))
set_option maxHeartbeats 4000000 in
set_option maxRecDepth 100000 in
theorem k_X5_isUp (X : pz_X) (d : Nat) (a0 : Nat) (x1 : Int32) (x2 : Int32) (h : pz_H) (Q : Int32 → pz_H → Prop) (hf : F_X5_isUp a0 x1 x2 h Q) : pz_Call X M_X5_isUp (d + 0) 0 0 [.ref a0, .int x1, .int x2] h (pq_qI Q) := by
  refine pz_call_of (by decide +kernel) (Nat.le_of_ble_eq_true rfl) ?_
  unfold F_X5_isUp at hf
  refine pz_aload_n dX5_isUp_0 rfl ?_
  obtain ⟨_, b1, h1, h2, hf⟩ := hf
  refine pz_get dX5_isUp_1 fl_X5_7 h1 h2 ?_
  refine pz_iload_n dX5_isUp_4 rfl ?_
  obtain ⟨_, _, h1, h2, hf⟩ := hf
  refine pz_iald dX5_isUp_5 h1 h2 ?_
  refine pz_iconst (v := (2 : Int32)) dX5_isUp_6 (by decide) ?_
  obtain ⟨ha, hb⟩ := hf
  refine pz_icmp_ne dX5_isUp_7 (tgt := 40) (by decide) (fun cc => ?_) (fun cc => ?_)
  · have hf := hb cc
    refine pz_iload_n dX5_isUp_40 rfl ?_
    refine pz_iconst (v := (2 : Int32)) dX5_isUp_41 (by decide) ?_
    obtain ⟨hne, hf⟩ := hf
    refine pz_irem dX5_isUp_42 hne ?_
    obtain ⟨ha, hb⟩ := hf
    refine pz_if_ne dX5_isUp_43 (tgt := 50) (by decide) (fun cc => ?_) (fun cc => ?_)
    · have hf := hb cc
      refine pz_iconst (v := (0 : Int32)) dX5_isUp_50 (by decide) ?_
      exact pz_drop (pz_part_of [] rfl) (kB_X5_isUp_51 X d _ _ _  hf)
    · have hf := ha cc
      refine pz_iconst (v := (1 : Int32)) dX5_isUp_46 (by decide) ?_
      refine pz_goto dX5_isUp_47 (tgt := 51) (by decide) ?_
      exact pz_drop (pz_part_of [] rfl) (kB_X5_isUp_51 X d _ _ _  hf)
  · have hf := ha cc
    refine pz_iload_n dX5_isUp_10 rfl ?_
    refine pz_aload_n dX5_isUp_11 rfl ?_
    obtain ⟨_, b3, h1, h2, hf⟩ := hf
    refine pz_get dX5_isUp_12 fl_X5_19 h1 h2 ?_
    refine pz_iload_n dX5_isUp_15 rfl ?_
    obtain ⟨_, _, h1, h2, hf⟩ := hf
    refine pz_iald dX5_isUp_16 h1 h2 ?_
    obtain ⟨hne, hf⟩ := hf
    refine pz_idiv dX5_isUp_17 hne ?_
    refine pz_iload_n dX5_isUp_18 rfl ?_
    refine pz_aload_n dX5_isUp_19 rfl ?_
    obtain ⟨_, b5, h1, h2, hf⟩ := hf
    refine pz_get dX5_isUp_20 fl_X5_19 h1 h2 ?_
    refine pz_iload_n dX5_isUp_23 rfl ?_
    obtain ⟨_, _, h1, h2, hf⟩ := hf
    refine pz_iald dX5_isUp_24 h1 h2 ?_
    obtain ⟨hne, hf⟩ := hf
    refine pz_irem dX5_isUp_25 hne ?_
    refine pz_iadd dX5_isUp_26 ?_
    refine pz_iconst (v := (2 : Int32)) dX5_isUp_27 (by decide) ?_
    obtain ⟨hne, hf⟩ := hf
    refine pz_irem dX5_isUp_28 hne ?_
    obtain ⟨ha, hb⟩ := hf
    refine pz_if_ne dX5_isUp_29 (tgt := 36) (by decide) (fun cc => ?_) (fun cc => ?_)
    · have hf := hb cc
      refine pz_iconst (v := (0 : Int32)) dX5_isUp_36 (by decide) ?_
      refine pz_goto dX5_isUp_37 (tgt := 51) (by decide) ?_
      exact pz_drop (pz_part_of [] rfl) (kB_X5_isUp_51 X d _ _ _  hf)
    · have hf := ha cc
      refine pz_iconst (v := (1 : Int32)) dX5_isUp_32 (by decide) ?_
      refine pz_goto dX5_isUp_33 (tgt := 51) (by decide) ?_
      exact pz_drop (pz_part_of [] rfl) (kB_X5_isUp_51 X d _ _ _  hf)
def L_X5_begin_38 (a0 : Nat) (x1 : Int32)  (Q : pz_H → Prop) : Nat → Int32 → pz_H → Prop
  | 0, _, _ => False
  | n + 1, x2, h => (pq_gA h a0 5 5 (fun b3 => (pq_aI h b3 x1 (fun v4 => (pq_br (v4 ≤ x2) (Q h) (pq_gA h a0 5 17 (fun b5 => (pq_o h a0 5 (F_X5_placeOf a0 x1 x2 h (fun v7 h6 => (pq_sI h6 b5 x2 v7 (fun h8 => (L_X5_begin_38 a0 x1 Q n (x2 + (1 : Int32)) h8)))))))))))))
set_option maxHeartbeats 4000000 in
set_option maxRecDepth 100000 in
theorem kL_X5_begin_38 (X : pz_X) (d : Nat) (a0 : Nat) (x1 : Int32)   (Q : pz_H → Prop)  : ∀ (n : Nat) (x2 : Int32) (h : pz_H), L_X5_begin_38 a0 x1  Q n x2 h → pz_W (fun _ => True) X M_X5_begin (d + 2) 38 [(0, .ref a0), (1, .int x1), (2, .int x2)] [] h 0 0 (pq_qV Q) := by
  intro n
  induction n with
  | zero =>
    intro _ _ hf
    exact False.elim hf
  | succ n ih =>
    intro x2 h hf
    unfold L_X5_begin_38 at hf
    refine pz_iload_n dX5_begin_38 rfl ?_
    refine pz_aload_n dX5_begin_39 rfl ?_
    obtain ⟨_, b3, h1, h2, hf⟩ := hf
    refine pz_get dX5_begin_40 fl_X5_22 h1 h2 ?_
    refine pz_iload_n dX5_begin_43 rfl ?_
    obtain ⟨_, _, h1, h2, hf⟩ := hf
    refine pz_iald dX5_begin_44 h1 h2 ?_
    obtain ⟨ha, hb⟩ := hf
    refine pz_icmp_ge dX5_begin_45 (tgt := 66) (by decide) (fun cc => ?_) (fun cc => ?_)
    · have hf := ha cc
      exact pz_return dX5_begin_66 rfl ⟨rfl, hf⟩
    · have hf := hb cc
      refine pz_aload_n dX5_begin_48 rfl ?_
      obtain ⟨_, b5, h1, h2, hf⟩ := hf
      refine pz_get dX5_begin_49 fl_X5_49 h1 h2 ?_
      refine pz_iload_n dX5_begin_52 rfl ?_
      refine pz_aload_n dX5_begin_53 rfl ?_
      refine pz_iload_n dX5_begin_54 rfl ?_
      refine pz_iload_n dX5_begin_55 rfl ?_
      obtain ⟨_, hO, hf⟩ := hf
      refine pz_callV2 (rc := 0) (rs := 0) (mc := 0) (ms := 0) dX5_begin_56 (k_X5_placeOf X d _ _ _ _ _ hf) (Nat.le_of_ble_eq_true rfl) mf_X5_placeOf ml_X5_114 hO rfl mi_X5_placeOf ms_X5_placeOf (fun _ h9 hq => ?_)
      obtain ⟨_, rfl, hf⟩ := hq
      obtain ⟨_, _, h1, h2, hf⟩ := hf
      refine pz_iast dX5_begin_59 h1 h2 ?_
      refine pz_iinc dX5_begin_60 rfl (by rfl) (by decide) rfl ?_
      refine pz_goto dX5_begin_63 (tgt := 38) (by decide) ?_
      exact pz_drop (pz_part_of [0, 1, 2] rfl) (ih _ _ hf)
def L_X5_begin_17 (a0 : Nat) (x1 : Int32)  (Q : pz_H → Prop) : Nat → Int32 → pz_H → Prop
  | 0, _, _ => False
  | n + 1, x2, h => (pq_br ((9 : Int32) ≤ x2) (pq_ex (fun m38 => L_X5_begin_38 a0 x1 Q m38 (0 : Int32) h)) (pq_gA h a0 5 16 (fun b1 => (pq_sI h b1 x2 (-1 : Int32) (fun h2 => (L_X5_begin_17 a0 x1 Q n (x2 + (1 : Int32)) h2))))))
set_option maxHeartbeats 4000000 in
set_option maxRecDepth 100000 in
theorem kL_X5_begin_17 (X : pz_X) (d : Nat) (a0 : Nat) (x1 : Int32)   (Q : pz_H → Prop)  : ∀ (n : Nat) (x2 : Int32) (h : pz_H), L_X5_begin_17 a0 x1  Q n x2 h → pz_W (fun _ => True) X M_X5_begin (d + 2) 17 [(0, .ref a0), (1, .int x1), (2, .int x2)] [] h 0 0 (pq_qV Q) := by
  intro n
  induction n with
  | zero =>
    intro _ _ hf
    exact False.elim hf
  | succ n ih =>
    intro x2 h hf
    unfold L_X5_begin_17 at hf
    refine pz_iload_n dX5_begin_17 rfl ?_
    refine pz_bipush (v := (9 : Int32)) dX5_begin_18 (by decide) ?_
    obtain ⟨ha, hb⟩ := hf
    refine pz_icmp_ge dX5_begin_20 (tgt := 36) (by decide) (fun cc => ?_) (fun cc => ?_)
    · have hf := ha cc
      refine pz_iconst (v := (0 : Int32)) dX5_begin_36 (by decide) ?_
      refine pz_istore_n dX5_begin_37 rfl (by decide) rfl ?_
      obtain ⟨n9, hf⟩ := hf
      exact pz_drop (pz_part_of [0, 1, 2] rfl) (kL_X5_begin_38 X d _ _ _  n9 _ _ hf)
    · have hf := hb cc
      refine pz_aload_n dX5_begin_23 rfl ?_
      obtain ⟨_, b1, h1, h2, hf⟩ := hf
      refine pz_get dX5_begin_24 fl_X5_46 h1 h2 ?_
      refine pz_iload_n dX5_begin_27 rfl ?_
      refine pz_iconst (v := (-1 : Int32)) dX5_begin_28 (by decide) ?_
      obtain ⟨_, _, h1, h2, hf⟩ := hf
      refine pz_iast dX5_begin_29 h1 h2 ?_
      refine pz_iinc dX5_begin_30 rfl (by rfl) (by decide) rfl ?_
      refine pz_goto dX5_begin_33 (tgt := 17) (by decide) ?_
      exact pz_drop (pz_part_of [0, 1, 2] rfl) (ih _ _ hf)
def F_X5_begin (a0 : Nat) (x1 : Int32) (h : pz_H) (Q : pz_H → Prop) : Prop := (pq_p h a0 5 12 (.int x1) (fun h9 => (pq_p h9 a0 5 15 (.int (0 : Int32)) (fun h10 => (pq_p h10 a0 5 13 (.int (0 : Int32)) (fun h11 => (pq_ex (fun m17 => L_X5_begin_17 a0 x1 Q m17 (0 : Int32) h11))))))))
set_option maxHeartbeats 4000000 in
set_option maxRecDepth 100000 in
theorem k_X5_begin (X : pz_X) (d : Nat) (a0 : Nat) (x1 : Int32) (h : pz_H) (Q : pz_H → Prop) (hf : F_X5_begin a0 x1 h Q) : pz_Call X M_X5_begin (d + 2) 0 0 [.ref a0, .int x1] h (pq_qV Q) := by
  refine pz_call_of (by decide +kernel) (Nat.le_of_ble_eq_true rfl) ?_
  unfold F_X5_begin at hf
  refine pz_aload_n dX5_begin_0 rfl ?_
  refine pz_iload_n dX5_begin_1 rfl ?_
  obtain ⟨_, h1, h2, hf⟩ := hf
  refine pz_put dX5_begin_2 fp_X5_117 h1 rfl rfl h2 ?_
  refine pz_aload_n dX5_begin_5 rfl ?_
  refine pz_iconst (v := (0 : Int32)) dX5_begin_6 (by decide) ?_
  obtain ⟨_, h1, h2, hf⟩ := hf
  refine pz_put dX5_begin_7 fp_X5_120 h1 rfl rfl h2 ?_
  refine pz_aload_n dX5_begin_10 rfl ?_
  refine pz_iconst (v := (0 : Int32)) dX5_begin_11 (by decide) ?_
  obtain ⟨_, h1, h2, hf⟩ := hf
  refine pz_put dX5_begin_12 fp_X5_123 h1 rfl rfl h2 ?_
  refine pz_iconst (v := (0 : Int32)) dX5_begin_15 (by decide) ?_
  refine pz_istore_n dX5_begin_16 rfl (by decide) rfl ?_
  obtain ⟨n9, hf⟩ := hf
  exact pz_drop (pz_part_of [0, 1, 2] rfl) (kL_X5_begin_17 X d _ _ _  n9 _ _ hf)
def B_X5_isWithin_61 (xs0 : Int32)  (Q : Int32 → pz_H → Prop) (h : pz_H) : Prop := (pq_z xs0 (Q xs0 h))
set_option maxHeartbeats 4000000 in
set_option maxRecDepth 100000 in
theorem kB_X5_isWithin_61 (X : pz_X) (d : Nat) (xs0 : Int32)   (Q : Int32 → pz_H → Prop) (h : pz_H)  (hf : B_X5_isWithin_61 xs0  Q h) : pz_W (fun _ => True) X M_X5_isWithin (d + 1) 61 [] [.int xs0] h 0 0 (pq_qI Q) := by
  unfold B_X5_isWithin_61 at hf
  obtain ⟨hz, hf⟩ := hf
  exact pz_ireturn dX5_isWithin_61 rfl hz ⟨_, rfl, hf⟩
def B_X5_isWithin_60   (Q : Int32 → pz_H → Prop) (h : pz_H) : Prop := (B_X5_isWithin_61 (0 : Int32) Q h)
set_option maxHeartbeats 4000000 in
set_option maxRecDepth 100000 in
theorem kB_X5_isWithin_60 (X : pz_X) (d : Nat)    (Q : Int32 → pz_H → Prop) (h : pz_H)  (hf : B_X5_isWithin_60   Q h) : pz_W (fun _ => True) X M_X5_isWithin (d + 1) 60 [] [] h 0 0 (pq_qI Q) := by
  unfold B_X5_isWithin_60 at hf
  refine pz_iconst (v := (0 : Int32)) dX5_isWithin_60 (by decide) ?_
  exact pz_drop (pz_part_of [] rfl) (kB_X5_isWithin_61 X d _ _ _  hf)
def F_X5_isWithin (a0 : Nat) (x1 : Int32) (x2 : Int32) (h : pz_H) (Q : Int32 → pz_H → Prop) : Prop := (pq_gI h a0 5 12 (fun v1 => (pq_o h a0 5 (F_X5_begins a0 v1 x1 h (fun v3 h2 => (pq_gI h2 a0 5 12 (fun v4 => (pq_o h2 a0 5 (F_X5_begins a0 v4 (x1 + (1 : Int32)) h2 (fun v6 h5 => (pq_gA h5 a0 5 1 (fun b7 => (pq_gI h5 a0 5 12 (fun v8 => (pq_aI h5 b7 v8 (fun v9 => (pq_br (v9 = (2 : Int32)) (B_X5_isWithin_60 Q h5) (F_X5_lesser v3 v6 h5 (fun v11 h10 => (pq_br (x2 ≤ v11) (B_X5_isWithin_60 Q h10) (F_X5_greater v3 v6 h10 (fun v13 h12 => (pq_br (v13 ≤ x2) (B_X5_isWithin_60 Q h12) (B_X5_isWithin_61 (1 : Int32) Q h12))))))))))))))))))))))))
set_option maxHeartbeats 4000000 in
set_option maxRecDepth 100000 in
theorem k_X5_isWithin (X : pz_X) (d : Nat) (a0 : Nat) (x1 : Int32) (x2 : Int32) (h : pz_H) (Q : Int32 → pz_H → Prop) (hf : F_X5_isWithin a0 x1 x2 h Q) : pz_Call X M_X5_isWithin (d + 1) 0 0 [.ref a0, .int x1, .int x2] h (pq_qI Q) := by
  refine pz_call_of (by decide +kernel) (Nat.le_of_ble_eq_true rfl) ?_
  unfold F_X5_isWithin at hf
  refine pz_aload_n dX5_isWithin_0 rfl ?_
  refine pz_aload_n dX5_isWithin_1 rfl ?_
  obtain ⟨_, v1, h1, h2, hf⟩ := hf
  refine pz_get dX5_isWithin_2 fl_X5_117 h1 h2 ?_
  refine pz_iload_n dX5_isWithin_5 rfl ?_
  obtain ⟨_, hO, hf⟩ := hf
  refine pz_callV2 (rc := 0) (rs := 0) (mc := 0) (ms := 0) dX5_isWithin_6 (k_X5_begins X d _ _ _ _ _ hf) (Nat.le_of_ble_eq_true rfl) mf_X5_begins ml_X5_111 hO rfl mi_X5_begins ms_X5_begins (fun _ h9 hq => ?_)
  obtain ⟨_, rfl, hf⟩ := hq
  refine pz_istore_n dX5_isWithin_9 rfl (by decide) rfl ?_
  refine pz_aload_n dX5_isWithin_10 rfl ?_
  refine pz_aload_n dX5_isWithin_11 rfl ?_
  obtain ⟨_, v4, h1, h2, hf⟩ := hf
  refine pz_get dX5_isWithin_12 fl_X5_117 h1 h2 ?_
  refine pz_iload_n dX5_isWithin_15 rfl ?_
  refine pz_iconst (v := (1 : Int32)) dX5_isWithin_16 (by decide) ?_
  refine pz_iadd dX5_isWithin_17 ?_
  obtain ⟨_, hO, hf⟩ := hf
  refine pz_callV2 (rc := 0) (rs := 0) (mc := 0) (ms := 0) dX5_isWithin_18 (k_X5_begins X d _ _ _ _ _ hf) (Nat.le_of_ble_eq_true rfl) mf_X5_begins ml_X5_111 hO rfl mi_X5_begins ms_X5_begins (fun _ h9 hq => ?_)
  obtain ⟨_, rfl, hf⟩ := hq
  refine pz_istore dX5_isWithin_21 (by decide) rfl ?_
  refine pz_aload_n dX5_isWithin_23 rfl ?_
  obtain ⟨_, b7, h1, h2, hf⟩ := hf
  refine pz_get dX5_isWithin_24 fl_X5_7 h1 h2 ?_
  refine pz_aload_n dX5_isWithin_27 rfl ?_
  obtain ⟨_, v8, h1, h2, hf⟩ := hf
  refine pz_get dX5_isWithin_28 fl_X5_117 h1 h2 ?_
  obtain ⟨_, _, h1, h2, hf⟩ := hf
  refine pz_iald dX5_isWithin_31 h1 h2 ?_
  refine pz_iconst (v := (2 : Int32)) dX5_isWithin_32 (by decide) ?_
  obtain ⟨ha, hb⟩ := hf
  refine pz_icmp_eq dX5_isWithin_33 (tgt := 60) (by decide) (fun cc => ?_) (fun cc => ?_)
  · have hf := ha cc
    exact pz_drop (pz_part_of [] rfl) (kB_X5_isWithin_60 X d _ _  hf)
  · have hf := hb cc
    refine pz_iload_n dX5_isWithin_36 rfl ?_
    refine pz_iload_n dX5_isWithin_37 rfl ?_
    refine pz_iload dX5_isWithin_38 rfl ?_
    refine pz_callS2 (rc := 0) (rs := 0) (mc := 0) (ms := 0) dX5_isWithin_40 (k_X5_lesser X d _ _ _ _ hf) (Nat.le_of_ble_eq_true rfl) mf_X5_lesser ml_X5_127 mt_X5_lesser (fun _ h9 hq => ?_)
    obtain ⟨_, rfl, hf⟩ := hq
    obtain ⟨ha, hb⟩ := hf
    refine pz_icmp_le dX5_isWithin_43 (tgt := 60) (by decide) (fun cc => ?_) (fun cc => ?_)
    · have hf := ha cc
      exact pz_drop (pz_part_of [] rfl) (kB_X5_isWithin_60 X d _ _  hf)
    · have hf := hb cc
      refine pz_iload_n dX5_isWithin_46 rfl ?_
      refine pz_iload_n dX5_isWithin_47 rfl ?_
      refine pz_iload dX5_isWithin_48 rfl ?_
      refine pz_callS2 (rc := 0) (rs := 0) (mc := 0) (ms := 0) dX5_isWithin_50 (k_X5_greater X d _ _ _ _ hf) (Nat.le_of_ble_eq_true rfl) mf_X5_greater ml_X5_130 mt_X5_greater (fun _ h9 hq => ?_)
      obtain ⟨_, rfl, hf⟩ := hq
      obtain ⟨ha, hb⟩ := hf
      refine pz_icmp_ge dX5_isWithin_53 (tgt := 60) (by decide) (fun cc => ?_) (fun cc => ?_)
      · have hf := ha cc
        exact pz_drop (pz_part_of [] rfl) (kB_X5_isWithin_60 X d _ _  hf)
      · have hf := hb cc
        refine pz_iconst (v := (1 : Int32)) dX5_isWithin_56 (by decide) ?_
        refine pz_goto dX5_isWithin_57 (tgt := 61) (by decide) ?_
        exact pz_drop (pz_part_of [] rfl) (kB_X5_isWithin_61 X d _ _ _  hf)
def B_X5_isOneSide_68 (xs0 : Int32)  (Q : Int32 → pz_H → Prop) (h : pz_H) : Prop := (pq_z xs0 (Q xs0 h))
set_option maxHeartbeats 4000000 in
set_option maxRecDepth 100000 in
theorem kB_X5_isOneSide_68 (X : pz_X) (d : Nat) (xs0 : Int32)   (Q : Int32 → pz_H → Prop) (h : pz_H)  (hf : B_X5_isOneSide_68 xs0  Q h) : pz_W (fun _ => True) X M_X5_isOneSide (d + 0) 68 [] [.int xs0] h 0 0 (pq_qI Q) := by
  unfold B_X5_isOneSide_68 at hf
  obtain ⟨hz, hf⟩ := hf
  exact pz_ireturn dX5_isOneSide_68 rfl hz ⟨_, rfl, hf⟩
def B_X5_isOneSide_63   (Q : Int32 → pz_H → Prop) (h : pz_H) : Prop := (B_X5_isOneSide_68 (1 : Int32) Q h)
set_option maxHeartbeats 4000000 in
set_option maxRecDepth 100000 in
theorem kB_X5_isOneSide_63 (X : pz_X) (d : Nat)    (Q : Int32 → pz_H → Prop) (h : pz_H)  (hf : B_X5_isOneSide_63   Q h) : pz_W (fun _ => True) X M_X5_isOneSide (d + 0) 63 [] [] h 0 0 (pq_qI Q) := by
  unfold B_X5_isOneSide_63 at hf
  refine pz_iconst (v := (1 : Int32)) dX5_isOneSide_63 (by decide) ?_
  refine pz_goto dX5_isOneSide_64 (tgt := 68) (by decide) ?_
  exact pz_drop (pz_part_of [] rfl) (kB_X5_isOneSide_68 X d _ _ _  hf)
def B_X5_isOneSide_67   (Q : Int32 → pz_H → Prop) (h : pz_H) : Prop := (B_X5_isOneSide_68 (0 : Int32) Q h)
set_option maxHeartbeats 4000000 in
set_option maxRecDepth 100000 in
theorem kB_X5_isOneSide_67 (X : pz_X) (d : Nat)    (Q : Int32 → pz_H → Prop) (h : pz_H)  (hf : B_X5_isOneSide_67   Q h) : pz_W (fun _ => True) X M_X5_isOneSide (d + 0) 67 [] [] h 0 0 (pq_qI Q) := by
  unfold B_X5_isOneSide_67 at hf
  refine pz_iconst (v := (0 : Int32)) dX5_isOneSide_67 (by decide) ?_
  exact pz_drop (pz_part_of [] rfl) (kB_X5_isOneSide_68 X d _ _ _  hf)
def F_X5_isOneSide (a0 : Nat) (x1 : Int32) (x2 : Int32) (h : pz_H) (Q : Int32 → pz_H → Prop) : Prop := (pq_gA h a0 5 17 (fun b1 => (pq_aI h b1 x1 (fun v2 => (pq_gA h a0 5 17 (fun b3 => (pq_aI h b3 x2 (fun v4 => (pq_br (v2 = v4) (pq_gA h a0 5 1 (fun b5 => (pq_gI h a0 5 12 (fun v6 => (pq_aI h b5 v6 (fun v7 => (pq_br (v7 = (2 : Int32)) (B_X5_isOneSide_63 Q h) (pq_gA h a0 5 7 (fun b8 => (pq_gI h a0 5 12 (fun v9 => (pq_aI h b8 (((12 : Int32) * v9) + x1) (fun v10 => (pq_ne (2 : Int32) (pq_gA h a0 5 7 (fun b11 => (pq_gI h a0 5 12 (fun v12 => (pq_aI h b11 (((12 : Int32) * v12) + x2) (fun v13 => (pq_ne (2 : Int32) (pq_br ((v10 - v10 / (2 : Int32) * (2 : Int32)) = (v13 - v13 / (2 : Int32) * (2 : Int32))) (B_X5_isOneSide_63 Q h) (B_X5_isOneSide_67 Q h))))))))))))))))))))))) (B_X5_isOneSide_67 Q h))))))))))
set_option maxHeartbeats 4000000 in
set_option maxRecDepth 100000 in
theorem k_X5_isOneSide (X : pz_X) (d : Nat) (a0 : Nat) (x1 : Int32) (x2 : Int32) (h : pz_H) (Q : Int32 → pz_H → Prop) (hf : F_X5_isOneSide a0 x1 x2 h Q) : pz_Call X M_X5_isOneSide (d + 0) 0 0 [.ref a0, .int x1, .int x2] h (pq_qI Q) := by
  refine pz_call_of (by decide +kernel) (Nat.le_of_ble_eq_true rfl) ?_
  unfold F_X5_isOneSide at hf
  refine pz_aload_n dX5_isOneSide_0 rfl ?_
  obtain ⟨_, b1, h1, h2, hf⟩ := hf
  refine pz_get dX5_isOneSide_1 fl_X5_49 h1 h2 ?_
  refine pz_iload_n dX5_isOneSide_4 rfl ?_
  obtain ⟨_, _, h1, h2, hf⟩ := hf
  refine pz_iald dX5_isOneSide_5 h1 h2 ?_
  refine pz_aload_n dX5_isOneSide_6 rfl ?_
  obtain ⟨_, b3, h1, h2, hf⟩ := hf
  refine pz_get dX5_isOneSide_7 fl_X5_49 h1 h2 ?_
  refine pz_iload_n dX5_isOneSide_10 rfl ?_
  obtain ⟨_, _, h1, h2, hf⟩ := hf
  refine pz_iald dX5_isOneSide_11 h1 h2 ?_
  obtain ⟨ha, hb⟩ := hf
  refine pz_icmp_ne dX5_isOneSide_12 (tgt := 67) (by decide) (fun cc => ?_) (fun cc => ?_)
  · have hf := hb cc
    exact pz_drop (pz_part_of [] rfl) (kB_X5_isOneSide_67 X d _ _  hf)
  · have hf := ha cc
    refine pz_aload_n dX5_isOneSide_15 rfl ?_
    obtain ⟨_, b5, h1, h2, hf⟩ := hf
    refine pz_get dX5_isOneSide_16 fl_X5_7 h1 h2 ?_
    refine pz_aload_n dX5_isOneSide_19 rfl ?_
    obtain ⟨_, v6, h1, h2, hf⟩ := hf
    refine pz_get dX5_isOneSide_20 fl_X5_117 h1 h2 ?_
    obtain ⟨_, _, h1, h2, hf⟩ := hf
    refine pz_iald dX5_isOneSide_23 h1 h2 ?_
    refine pz_iconst (v := (2 : Int32)) dX5_isOneSide_24 (by decide) ?_
    obtain ⟨ha, hb⟩ := hf
    refine pz_icmp_eq dX5_isOneSide_25 (tgt := 63) (by decide) (fun cc => ?_) (fun cc => ?_)
    · have hf := ha cc
      exact pz_drop (pz_part_of [] rfl) (kB_X5_isOneSide_63 X d _ _  hf)
    · have hf := hb cc
      refine pz_aload_n dX5_isOneSide_28 rfl ?_
      obtain ⟨_, b8, h1, h2, hf⟩ := hf
      refine pz_get dX5_isOneSide_29 fl_X5_28 h1 h2 ?_
      refine pz_bipush (v := (12 : Int32)) dX5_isOneSide_32 (by decide) ?_
      refine pz_aload_n dX5_isOneSide_34 rfl ?_
      obtain ⟨_, v9, h1, h2, hf⟩ := hf
      refine pz_get dX5_isOneSide_35 fl_X5_117 h1 h2 ?_
      refine pz_imul dX5_isOneSide_38 ?_
      refine pz_iload_n dX5_isOneSide_39 rfl ?_
      refine pz_iadd dX5_isOneSide_40 ?_
      obtain ⟨_, _, h1, h2, hf⟩ := hf
      refine pz_iald dX5_isOneSide_41 h1 h2 ?_
      refine pz_iconst (v := (2 : Int32)) dX5_isOneSide_42 (by decide) ?_
      obtain ⟨hne, hf⟩ := hf
      refine pz_irem dX5_isOneSide_43 hne ?_
      refine pz_aload_n dX5_isOneSide_44 rfl ?_
      obtain ⟨_, b11, h1, h2, hf⟩ := hf
      refine pz_get dX5_isOneSide_45 fl_X5_28 h1 h2 ?_
      refine pz_bipush (v := (12 : Int32)) dX5_isOneSide_48 (by decide) ?_
      refine pz_aload_n dX5_isOneSide_50 rfl ?_
      obtain ⟨_, v12, h1, h2, hf⟩ := hf
      refine pz_get dX5_isOneSide_51 fl_X5_117 h1 h2 ?_
      refine pz_imul dX5_isOneSide_54 ?_
      refine pz_iload_n dX5_isOneSide_55 rfl ?_
      refine pz_iadd dX5_isOneSide_56 ?_
      obtain ⟨_, _, h1, h2, hf⟩ := hf
      refine pz_iald dX5_isOneSide_57 h1 h2 ?_
      refine pz_iconst (v := (2 : Int32)) dX5_isOneSide_58 (by decide) ?_
      obtain ⟨hne, hf⟩ := hf
      refine pz_irem dX5_isOneSide_59 hne ?_
      obtain ⟨ha, hb⟩ := hf
      refine pz_icmp_ne dX5_isOneSide_60 (tgt := 67) (by decide) (fun cc => ?_) (fun cc => ?_)
      · have hf := hb cc
        exact pz_drop (pz_part_of [] rfl) (kB_X5_isOneSide_67 X d _ _  hf)
      · have hf := ha cc
        exact pz_drop (pz_part_of [] rfl) (kB_X5_isOneSide_63 X d _ _  hf)
def B_X5_isFour_94 (xs0 : Int32)  (Q : Int32 → pz_H → Prop) (h : pz_H) : Prop := (pq_z xs0 (Q xs0 h))
set_option maxHeartbeats 4000000 in
set_option maxRecDepth 100000 in
theorem kB_X5_isFour_94 (X : pz_X) (d : Nat) (xs0 : Int32)   (Q : Int32 → pz_H → Prop) (h : pz_H)  (hf : B_X5_isFour_94 xs0  Q h) : pz_W (fun _ => True) X M_X5_isFour (d + 0) 94 [] [.int xs0] h 0 0 (pq_qI Q) := by
  unfold B_X5_isFour_94 at hf
  obtain ⟨hz, hf⟩ := hf
  exact pz_ireturn dX5_isFour_94 rfl hz ⟨_, rfl, hf⟩
def B_X5_isFour_93   (Q : Int32 → pz_H → Prop) (h : pz_H) : Prop := (B_X5_isFour_94 (0 : Int32) Q h)
set_option maxHeartbeats 4000000 in
set_option maxRecDepth 100000 in
theorem kB_X5_isFour_93 (X : pz_X) (d : Nat)    (Q : Int32 → pz_H → Prop) (h : pz_H)  (hf : B_X5_isFour_93   Q h) : pz_W (fun _ => True) X M_X5_isFour (d + 0) 93 [] [] h 0 0 (pq_qI Q) := by
  unfold B_X5_isFour_93 at hf
  refine pz_iconst (v := (0 : Int32)) dX5_isFour_93 (by decide) ?_
  exact pz_drop (pz_part_of [] rfl) (kB_X5_isFour_94 X d _ _ _  hf)
def F_X5_isFour (a0 : Nat) (x1 : Int32) (x2 : Int32) (h : pz_H) (Q : Int32 → pz_H → Prop) : Prop := (pq_gA h a0 5 7 (fun b1 => (pq_gI h a0 5 12 (fun v2 => (pq_aI h b1 (((12 : Int32) * v2) + x1) (fun v3 => (pq_gA h a0 5 8 (fun b4 => (pq_gI h a0 5 12 (fun v5 => (pq_aI h b4 (((12 : Int32) * v5) + x1) (fun v6 => (pq_gA h a0 5 7 (fun b7 => (pq_gI h a0 5 12 (fun v8 => (pq_aI h b7 (((12 : Int32) * v8) + x2) (fun v9 => (pq_gA h a0 5 8 (fun b10 => (pq_gI h a0 5 12 (fun v11 => (pq_aI h b10 (((12 : Int32) * v11) + x2) (fun v12 => (pq_br (v3 = v9) (B_X5_isFour_93 Q h) (pq_br (v3 = v12) (B_X5_isFour_93 Q h) (pq_br (v6 = v9) (B_X5_isFour_93 Q h) (pq_br (v6 = v12) (B_X5_isFour_93 Q h) (B_X5_isFour_94 (1 : Int32) Q h)))))))))))))))))))))))))))))
set_option maxHeartbeats 4000000 in
set_option maxRecDepth 100000 in
theorem k_X5_isFour (X : pz_X) (d : Nat) (a0 : Nat) (x1 : Int32) (x2 : Int32) (h : pz_H) (Q : Int32 → pz_H → Prop) (hf : F_X5_isFour a0 x1 x2 h Q) : pz_Call X M_X5_isFour (d + 0) 0 0 [.ref a0, .int x1, .int x2] h (pq_qI Q) := by
  refine pz_call_of (by decide +kernel) (Nat.le_of_ble_eq_true rfl) ?_
  unfold F_X5_isFour at hf
  refine pz_aload_n dX5_isFour_0 rfl ?_
  obtain ⟨_, b1, h1, h2, hf⟩ := hf
  refine pz_get dX5_isFour_1 fl_X5_28 h1 h2 ?_
  refine pz_bipush (v := (12 : Int32)) dX5_isFour_4 (by decide) ?_
  refine pz_aload_n dX5_isFour_6 rfl ?_
  obtain ⟨_, v2, h1, h2, hf⟩ := hf
  refine pz_get dX5_isFour_7 fl_X5_117 h1 h2 ?_
  refine pz_imul dX5_isFour_10 ?_
  refine pz_iload_n dX5_isFour_11 rfl ?_
  refine pz_iadd dX5_isFour_12 ?_
  obtain ⟨_, _, h1, h2, hf⟩ := hf
  refine pz_iald dX5_isFour_13 h1 h2 ?_
  refine pz_istore_n dX5_isFour_14 rfl (by decide) rfl ?_
  refine pz_aload_n dX5_isFour_15 rfl ?_
  obtain ⟨_, b4, h1, h2, hf⟩ := hf
  refine pz_get dX5_isFour_16 fl_X5_31 h1 h2 ?_
  refine pz_bipush (v := (12 : Int32)) dX5_isFour_19 (by decide) ?_
  refine pz_aload_n dX5_isFour_21 rfl ?_
  obtain ⟨_, v5, h1, h2, hf⟩ := hf
  refine pz_get dX5_isFour_22 fl_X5_117 h1 h2 ?_
  refine pz_imul dX5_isFour_25 ?_
  refine pz_iload_n dX5_isFour_26 rfl ?_
  refine pz_iadd dX5_isFour_27 ?_
  obtain ⟨_, _, h1, h2, hf⟩ := hf
  refine pz_iald dX5_isFour_28 h1 h2 ?_
  refine pz_istore dX5_isFour_29 (by decide) rfl ?_
  refine pz_aload_n dX5_isFour_31 rfl ?_
  obtain ⟨_, b7, h1, h2, hf⟩ := hf
  refine pz_get dX5_isFour_32 fl_X5_28 h1 h2 ?_
  refine pz_bipush (v := (12 : Int32)) dX5_isFour_35 (by decide) ?_
  refine pz_aload_n dX5_isFour_37 rfl ?_
  obtain ⟨_, v8, h1, h2, hf⟩ := hf
  refine pz_get dX5_isFour_38 fl_X5_117 h1 h2 ?_
  refine pz_imul dX5_isFour_41 ?_
  refine pz_iload_n dX5_isFour_42 rfl ?_
  refine pz_iadd dX5_isFour_43 ?_
  obtain ⟨_, _, h1, h2, hf⟩ := hf
  refine pz_iald dX5_isFour_44 h1 h2 ?_
  refine pz_istore dX5_isFour_45 (by decide) rfl ?_
  refine pz_aload_n dX5_isFour_47 rfl ?_
  obtain ⟨_, b10, h1, h2, hf⟩ := hf
  refine pz_get dX5_isFour_48 fl_X5_31 h1 h2 ?_
  refine pz_bipush (v := (12 : Int32)) dX5_isFour_51 (by decide) ?_
  refine pz_aload_n dX5_isFour_53 rfl ?_
  obtain ⟨_, v11, h1, h2, hf⟩ := hf
  refine pz_get dX5_isFour_54 fl_X5_117 h1 h2 ?_
  refine pz_imul dX5_isFour_57 ?_
  refine pz_iload_n dX5_isFour_58 rfl ?_
  refine pz_iadd dX5_isFour_59 ?_
  obtain ⟨_, _, h1, h2, hf⟩ := hf
  refine pz_iald dX5_isFour_60 h1 h2 ?_
  refine pz_istore dX5_isFour_61 (by decide) rfl ?_
  refine pz_iload_n dX5_isFour_63 rfl ?_
  refine pz_iload dX5_isFour_64 rfl ?_
  obtain ⟨ha, hb⟩ := hf
  refine pz_icmp_eq dX5_isFour_66 (tgt := 93) (by decide) (fun cc => ?_) (fun cc => ?_)
  · have hf := ha cc
    exact pz_drop (pz_part_of [] rfl) (kB_X5_isFour_93 X d _ _  hf)
  · have hf := hb cc
    refine pz_iload_n dX5_isFour_69 rfl ?_
    refine pz_iload dX5_isFour_70 rfl ?_
    obtain ⟨ha, hb⟩ := hf
    refine pz_icmp_eq dX5_isFour_72 (tgt := 93) (by decide) (fun cc => ?_) (fun cc => ?_)
    · have hf := ha cc
      exact pz_drop (pz_part_of [] rfl) (kB_X5_isFour_93 X d _ _  hf)
    · have hf := hb cc
      refine pz_iload dX5_isFour_75 rfl ?_
      refine pz_iload dX5_isFour_77 rfl ?_
      obtain ⟨ha, hb⟩ := hf
      refine pz_icmp_eq dX5_isFour_79 (tgt := 93) (by decide) (fun cc => ?_) (fun cc => ?_)
      · have hf := ha cc
        exact pz_drop (pz_part_of [] rfl) (kB_X5_isFour_93 X d _ _  hf)
      · have hf := hb cc
        refine pz_iload dX5_isFour_82 rfl ?_
        refine pz_iload dX5_isFour_84 rfl ?_
        obtain ⟨ha, hb⟩ := hf
        refine pz_icmp_eq dX5_isFour_86 (tgt := 93) (by decide) (fun cc => ?_) (fun cc => ?_)
        · have hf := ha cc
          exact pz_drop (pz_part_of [] rfl) (kB_X5_isFour_93 X d _ _  hf)
        · have hf := hb cc
          refine pz_iconst (v := (1 : Int32)) dX5_isFour_89 (by decide) ?_
          refine pz_goto dX5_isFour_90 (tgt := 94) (by decide) ?_
          exact pz_drop (pz_part_of [] rfl) (kB_X5_isFour_94 X d _ _ _  hf)
def B_X5_markIn_67 (xs0 : Int32)  (Q : Int32 → pz_H → Prop) (h : pz_H) : Prop := (Q xs0 h)
set_option maxHeartbeats 4000000 in
set_option maxRecDepth 100000 in
theorem kB_X5_markIn_67 (X : pz_X) (d : Nat) (xs0 : Int32)   (Q : Int32 → pz_H → Prop) (h : pz_H)  (hf : B_X5_markIn_67 xs0  Q h) : pz_W (fun _ => True) X M_X5_markIn (d + 1) 67 [] [.int xs0] h 0 0 (pq_qI Q) := by
  unfold B_X5_markIn_67 at hf
  exact pz_ireturn dX5_markIn_67 rfl rfl ⟨_, rfl, hf⟩
def B_X5_markIn_48 (a0 : Nat) (x2 : Int32) (xs0 : Int32)  (Q : Int32 → pz_H → Prop) (h : pz_H) : Prop := (pq_gI h a0 5 12 (fun v1 => (pq_o h a0 5 (F_X5_isUp a0 v1 x2 h (fun v3 h2 => (pq_br (xs0 = v3) (B_X5_markIn_67 (2 : Int32) Q h2) (B_X5_markIn_67 (1 : Int32) Q h2)))))))
set_option maxHeartbeats 4000000 in
set_option maxRecDepth 100000 in
theorem kB_X5_markIn_48 (X : pz_X) (d : Nat) (a0 : Nat) (x2 : Int32) (xs0 : Int32)   (Q : Int32 → pz_H → Prop) (h : pz_H)  (hf : B_X5_markIn_48 a0 x2 xs0  Q h) : pz_W (fun _ => True) X M_X5_markIn (d + 1) 48 [(0, .ref a0), (2, .int x2)] [.int xs0] h 0 0 (pq_qI Q) := by
  unfold B_X5_markIn_48 at hf
  refine pz_istore_n dX5_markIn_48 rfl (by decide) rfl ?_
  refine pz_iload_n dX5_markIn_49 rfl ?_
  refine pz_aload_n dX5_markIn_50 rfl ?_
  refine pz_aload_n dX5_markIn_51 rfl ?_
  obtain ⟨_, v1, h1, h2, hf⟩ := hf
  refine pz_get dX5_markIn_52 fl_X5_117 h1 h2 ?_
  refine pz_iload_n dX5_markIn_55 rfl ?_
  obtain ⟨_, hO, hf⟩ := hf
  refine pz_callV2 (rc := 0) (rs := 0) (mc := 0) (ms := 0) dX5_markIn_56 (k_X5_isUp X d _ _ _ _ _ hf) (Nat.le_of_ble_eq_true rfl) mf_X5_isUp ml_X5_133 hO rfl mi_X5_isUp ms_X5_isUp (fun _ h9 hq => ?_)
  obtain ⟨_, rfl, hf⟩ := hq
  obtain ⟨ha, hb⟩ := hf
  refine pz_icmp_ne dX5_markIn_59 (tgt := 66) (by decide) (fun cc => ?_) (fun cc => ?_)
  · have hf := hb cc
    refine pz_iconst (v := (1 : Int32)) dX5_markIn_66 (by decide) ?_
    exact pz_drop (pz_part_of [] rfl) (kB_X5_markIn_67 X d _ _ _  hf)
  · have hf := ha cc
    refine pz_iconst (v := (2 : Int32)) dX5_markIn_62 (by decide) ?_
    refine pz_goto dX5_markIn_63 (tgt := 67) (by decide) ?_
    exact pz_drop (pz_part_of [] rfl) (kB_X5_markIn_67 X d _ _ _  hf)
def F_X5_markIn (a0 : Nat) (x1 : Int32) (h : pz_H) (Q : Int32 → pz_H → Prop) : Prop := (pq_gA h a0 5 7 (fun b4 => (pq_gI h a0 5 12 (fun v5 => (pq_aI h b4 (((12 : Int32) * v5) + x1) (fun v6 => (pq_gA h a0 5 16 (fun b7 => (pq_gA h a0 5 8 (fun b8 => (pq_gI h a0 5 12 (fun v9 => (pq_aI h b8 (((12 : Int32) * v9) + x1) (fun v10 => (pq_aI h b7 v10 (fun v11 => (pq_gA h a0 5 16 (fun b12 => (pq_aI h b12 v6 (fun v13 => (pq_br (v11 ≤ v13) (B_X5_markIn_48 a0 v6 (0 : Int32) Q h) (B_X5_markIn_48 a0 v6 (1 : Int32) Q h))))))))))))))))))))))
set_option maxHeartbeats 4000000 in
set_option maxRecDepth 100000 in
theorem k_X5_markIn (X : pz_X) (d : Nat) (a0 : Nat) (x1 : Int32) (h : pz_H) (Q : Int32 → pz_H → Prop) (hf : F_X5_markIn a0 x1 h Q) : pz_Call X M_X5_markIn (d + 1) 0 0 [.ref a0, .int x1] h (pq_qI Q) := by
  refine pz_call_of (by decide +kernel) (Nat.le_of_ble_eq_true rfl) ?_
  unfold F_X5_markIn at hf
  refine pz_aload_n dX5_markIn_0 rfl ?_
  obtain ⟨_, b4, h1, h2, hf⟩ := hf
  refine pz_get dX5_markIn_1 fl_X5_28 h1 h2 ?_
  refine pz_bipush (v := (12 : Int32)) dX5_markIn_4 (by decide) ?_
  refine pz_aload_n dX5_markIn_6 rfl ?_
  obtain ⟨_, v5, h1, h2, hf⟩ := hf
  refine pz_get dX5_markIn_7 fl_X5_117 h1 h2 ?_
  refine pz_imul dX5_markIn_10 ?_
  refine pz_iload_n dX5_markIn_11 rfl ?_
  refine pz_iadd dX5_markIn_12 ?_
  obtain ⟨_, _, h1, h2, hf⟩ := hf
  refine pz_iald dX5_markIn_13 h1 h2 ?_
  refine pz_istore_n dX5_markIn_14 rfl (by decide) rfl ?_
  refine pz_aload_n dX5_markIn_15 rfl ?_
  obtain ⟨_, b7, h1, h2, hf⟩ := hf
  refine pz_get dX5_markIn_16 fl_X5_46 h1 h2 ?_
  refine pz_aload_n dX5_markIn_19 rfl ?_
  obtain ⟨_, b8, h1, h2, hf⟩ := hf
  refine pz_get dX5_markIn_20 fl_X5_31 h1 h2 ?_
  refine pz_bipush (v := (12 : Int32)) dX5_markIn_23 (by decide) ?_
  refine pz_aload_n dX5_markIn_25 rfl ?_
  obtain ⟨_, v9, h1, h2, hf⟩ := hf
  refine pz_get dX5_markIn_26 fl_X5_117 h1 h2 ?_
  refine pz_imul dX5_markIn_29 ?_
  refine pz_iload_n dX5_markIn_30 rfl ?_
  refine pz_iadd dX5_markIn_31 ?_
  obtain ⟨_, _, h1, h2, hf⟩ := hf
  refine pz_iald dX5_markIn_32 h1 h2 ?_
  obtain ⟨_, _, h1, h2, hf⟩ := hf
  refine pz_iald dX5_markIn_33 h1 h2 ?_
  refine pz_aload_n dX5_markIn_34 rfl ?_
  obtain ⟨_, b12, h1, h2, hf⟩ := hf
  refine pz_get dX5_markIn_35 fl_X5_46 h1 h2 ?_
  refine pz_iload_n dX5_markIn_38 rfl ?_
  obtain ⟨_, _, h1, h2, hf⟩ := hf
  refine pz_iald dX5_markIn_39 h1 h2 ?_
  obtain ⟨ha, hb⟩ := hf
  refine pz_icmp_le dX5_markIn_40 (tgt := 47) (by decide) (fun cc => ?_) (fun cc => ?_)
  · have hf := ha cc
    refine pz_iconst (v := (0 : Int32)) dX5_markIn_47 (by decide) ?_
    exact pz_drop (pz_part_of [0, 2] rfl) (kB_X5_markIn_48 X d _ _ _ _ _  hf)
  · have hf := hb cc
    refine pz_iconst (v := (1 : Int32)) dX5_markIn_43 (by decide) ?_
    refine pz_goto dX5_markIn_44 (tgt := 48) (by decide) ?_
    exact pz_drop (pz_part_of [0, 2] rfl) (kB_X5_markIn_48 X d _ _ _ _ _  hf)
def B_X5_isClosed_217 (a0 : Nat) (x1 : Int32) (x5 : Int32) (x6 : Int32) (x7 : Int32) (k70 : Int32 → pz_H → Prop) (Q : Int32 → pz_H → Prop) (h : pz_H) : Prop := (k70 (x7 + (1 : Int32)) h)
set_option maxHeartbeats 4000000 in
set_option maxRecDepth 100000 in
theorem kB_X5_isClosed_217 (X : pz_X) (d : Nat) (a0 : Nat) (x1 : Int32) (x5 : Int32) (x6 : Int32) (x7 : Int32)  (k70 : Int32 → pz_H → Prop) (Q : Int32 → pz_H → Prop) (h : pz_H) (hk70 : ∀ (x7 : Int32) (h : pz_H), k70 x7 h → pz_W (fun _ => True) X M_X5_isClosed (d + 2) 70 [(0, .ref a0), (1, .int x1), (5, .int x5), (6, .int x6), (7, .int x7)] [] h 0 0 (pq_qI Q)) (hf : B_X5_isClosed_217 a0 x1 x5 x6 x7 k70 Q h) : pz_W (fun _ => True) X M_X5_isClosed (d + 2) 217 [(0, .ref a0), (1, .int x1), (5, .int x5), (6, .int x6), (7, .int x7)] [] h 0 0 (pq_qI Q) := by
  unfold B_X5_isClosed_217 at hf
  refine pz_iinc dX5_isClosed_217 rfl (by rfl) (by decide) rfl ?_
  refine pz_goto dX5_isClosed_220 (tgt := 70) (by decide) ?_
  exact pz_drop (pz_part_of [0, 1, 5, 6, 7] rfl) (hk70 _ _ hf)
def B_X5_isClosed_206 (a0 : Nat) (x1 : Int32) (x5 : Int32) (x6 : Int32) (x7 : Int32) (x10 : Int32) (xs0 : Int32) (k70 : Int32 → pz_H → Prop) (Q : Int32 → pz_H → Prop) (h : pz_H) : Prop := (pq_br (x10 = xs0) (B_X5_isClosed_217 a0 x1 x5 x6 x7 k70 Q h) (Q (0 : Int32) h))
set_option maxHeartbeats 4000000 in
set_option maxRecDepth 100000 in
theorem kB_X5_isClosed_206 (X : pz_X) (d : Nat) (a0 : Nat) (x1 : Int32) (x5 : Int32) (x6 : Int32) (x7 : Int32) (x10 : Int32) (xs0 : Int32)  (k70 : Int32 → pz_H → Prop) (Q : Int32 → pz_H → Prop) (h : pz_H) (hk70 : ∀ (x7 : Int32) (h : pz_H), k70 x7 h → pz_W (fun _ => True) X M_X5_isClosed (d + 2) 70 [(0, .ref a0), (1, .int x1), (5, .int x5), (6, .int x6), (7, .int x7)] [] h 0 0 (pq_qI Q)) (hf : B_X5_isClosed_206 a0 x1 x5 x6 x7 x10 xs0 k70 Q h) : pz_W (fun _ => True) X M_X5_isClosed (d + 2) 206 [(0, .ref a0), (1, .int x1), (5, .int x5), (6, .int x6), (7, .int x7), (10, .int x10)] [.int xs0] h 0 0 (pq_qI Q) := by
  unfold B_X5_isClosed_206 at hf
  refine pz_istore dX5_isClosed_206 (by decide) rfl ?_
  refine pz_iload dX5_isClosed_208 rfl ?_
  refine pz_iload dX5_isClosed_210 rfl ?_
  obtain ⟨ha, hb⟩ := hf
  refine pz_icmp_eq dX5_isClosed_212 (tgt := 217) (by decide) (fun cc => ?_) (fun cc => ?_)
  · have hf := ha cc
    exact pz_drop (pz_part_of [0, 1, 5, 6, 7] rfl) (kB_X5_isClosed_217 X d _ _ _ _ _ _ _ _ hk70 hf)
  · have hf := hb cc
    refine pz_iconst (v := (0 : Int32)) dX5_isClosed_215 (by decide) ?_
    exact pz_ireturn dX5_isClosed_216 rfl rfl ⟨_, rfl, hf⟩
def B_X5_isClosed_205 (a0 : Nat) (x1 : Int32) (x5 : Int32) (x6 : Int32) (x7 : Int32) (x10 : Int32) (k70 : Int32 → pz_H → Prop) (Q : Int32 → pz_H → Prop) (h : pz_H) : Prop := (B_X5_isClosed_206 a0 x1 x5 x6 x7 x10 (0 : Int32) k70 Q h)
set_option maxHeartbeats 4000000 in
set_option maxRecDepth 100000 in
theorem kB_X5_isClosed_205 (X : pz_X) (d : Nat) (a0 : Nat) (x1 : Int32) (x5 : Int32) (x6 : Int32) (x7 : Int32) (x10 : Int32)  (k70 : Int32 → pz_H → Prop) (Q : Int32 → pz_H → Prop) (h : pz_H) (hk70 : ∀ (x7 : Int32) (h : pz_H), k70 x7 h → pz_W (fun _ => True) X M_X5_isClosed (d + 2) 70 [(0, .ref a0), (1, .int x1), (5, .int x5), (6, .int x6), (7, .int x7)] [] h 0 0 (pq_qI Q)) (hf : B_X5_isClosed_205 a0 x1 x5 x6 x7 x10 k70 Q h) : pz_W (fun _ => True) X M_X5_isClosed (d + 2) 205 [(0, .ref a0), (1, .int x1), (5, .int x5), (6, .int x6), (7, .int x7), (10, .int x10)] [] h 0 0 (pq_qI Q) := by
  unfold B_X5_isClosed_205 at hf
  refine pz_iconst (v := (0 : Int32)) dX5_isClosed_205 (by decide) ?_
  exact pz_drop (pz_part_of [0, 1, 5, 6, 7, 10] rfl) (kB_X5_isClosed_206 X d _ _ _ _ _ _ _ _ _ _ hk70 hf)
def B_X5_isClosed_179 (a0 : Nat) (x1 : Int32) (x5 : Int32) (x6 : Int32) (x7 : Int32) (x9 : Int32) (xs0 : Int32) (k70 : Int32 → pz_H → Prop) (Q : Int32 → pz_H → Prop) (h : pz_H) : Prop := (pq_br (x9 = (-1 : Int32)) (B_X5_isClosed_205 a0 x1 x5 x6 x7 xs0 k70 Q h) (pq_br (x9 ≤ x5) (B_X5_isClosed_205 a0 x1 x5 x6 x7 xs0 k70 Q h) (pq_br (x6 ≤ x9) (B_X5_isClosed_205 a0 x1 x5 x6 x7 xs0 k70 Q h) (B_X5_isClosed_206 a0 x1 x5 x6 x7 xs0 (1 : Int32) k70 Q h))))
set_option maxHeartbeats 4000000 in
set_option maxRecDepth 100000 in
theorem kB_X5_isClosed_179 (X : pz_X) (d : Nat) (a0 : Nat) (x1 : Int32) (x5 : Int32) (x6 : Int32) (x7 : Int32) (x9 : Int32) (xs0 : Int32)  (k70 : Int32 → pz_H → Prop) (Q : Int32 → pz_H → Prop) (h : pz_H) (hk70 : ∀ (x7 : Int32) (h : pz_H), k70 x7 h → pz_W (fun _ => True) X M_X5_isClosed (d + 2) 70 [(0, .ref a0), (1, .int x1), (5, .int x5), (6, .int x6), (7, .int x7)] [] h 0 0 (pq_qI Q)) (hf : B_X5_isClosed_179 a0 x1 x5 x6 x7 x9 xs0 k70 Q h) : pz_W (fun _ => True) X M_X5_isClosed (d + 2) 179 [(0, .ref a0), (1, .int x1), (5, .int x5), (6, .int x6), (7, .int x7), (9, .int x9)] [.int xs0] h 0 0 (pq_qI Q) := by
  unfold B_X5_isClosed_179 at hf
  refine pz_istore dX5_isClosed_179 (by decide) rfl ?_
  refine pz_iload dX5_isClosed_181 rfl ?_
  refine pz_iconst (v := (-1 : Int32)) dX5_isClosed_183 (by decide) ?_
  obtain ⟨ha, hb⟩ := hf
  refine pz_icmp_eq dX5_isClosed_184 (tgt := 205) (by decide) (fun cc => ?_) (fun cc => ?_)
  · have hf := ha cc
    exact pz_drop (pz_part_of [0, 1, 5, 6, 7, 10] rfl) (kB_X5_isClosed_205 X d _ _ _ _ _ _ _ _ _ hk70 hf)
  · have hf := hb cc
    refine pz_iload dX5_isClosed_187 rfl ?_
    refine pz_iload dX5_isClosed_189 rfl ?_
    obtain ⟨ha, hb⟩ := hf
    refine pz_icmp_le dX5_isClosed_191 (tgt := 205) (by decide) (fun cc => ?_) (fun cc => ?_)
    · have hf := ha cc
      exact pz_drop (pz_part_of [0, 1, 5, 6, 7, 10] rfl) (kB_X5_isClosed_205 X d _ _ _ _ _ _ _ _ _ hk70 hf)
    · have hf := hb cc
      refine pz_iload dX5_isClosed_194 rfl ?_
      refine pz_iload dX5_isClosed_196 rfl ?_
      obtain ⟨ha, hb⟩ := hf
      refine pz_icmp_ge dX5_isClosed_198 (tgt := 205) (by decide) (fun cc => ?_) (fun cc => ?_)
      · have hf := ha cc
        exact pz_drop (pz_part_of [0, 1, 5, 6, 7, 10] rfl) (kB_X5_isClosed_205 X d _ _ _ _ _ _ _ _ _ hk70 hf)
      · have hf := hb cc
        refine pz_iconst (v := (1 : Int32)) dX5_isClosed_201 (by decide) ?_
        refine pz_goto dX5_isClosed_202 (tgt := 206) (by decide) ?_
        exact pz_drop (pz_part_of [0, 1, 5, 6, 7, 10] rfl) (kB_X5_isClosed_206 X d _ _ _ _ _ _ _ _ _ _ hk70 hf)
def B_X5_isClosed_178 (a0 : Nat) (x1 : Int32) (x5 : Int32) (x6 : Int32) (x7 : Int32) (x9 : Int32) (k70 : Int32 → pz_H → Prop) (Q : Int32 → pz_H → Prop) (h : pz_H) : Prop := (B_X5_isClosed_179 a0 x1 x5 x6 x7 x9 (0 : Int32) k70 Q h)
set_option maxHeartbeats 4000000 in
set_option maxRecDepth 100000 in
theorem kB_X5_isClosed_178 (X : pz_X) (d : Nat) (a0 : Nat) (x1 : Int32) (x5 : Int32) (x6 : Int32) (x7 : Int32) (x9 : Int32)  (k70 : Int32 → pz_H → Prop) (Q : Int32 → pz_H → Prop) (h : pz_H) (hk70 : ∀ (x7 : Int32) (h : pz_H), k70 x7 h → pz_W (fun _ => True) X M_X5_isClosed (d + 2) 70 [(0, .ref a0), (1, .int x1), (5, .int x5), (6, .int x6), (7, .int x7)] [] h 0 0 (pq_qI Q)) (hf : B_X5_isClosed_178 a0 x1 x5 x6 x7 x9 k70 Q h) : pz_W (fun _ => True) X M_X5_isClosed (d + 2) 178 [(0, .ref a0), (1, .int x1), (5, .int x5), (6, .int x6), (7, .int x7), (9, .int x9)] [] h 0 0 (pq_qI Q) := by
  unfold B_X5_isClosed_178 at hf
  refine pz_iconst (v := (0 : Int32)) dX5_isClosed_178 (by decide) ?_
  exact pz_drop (pz_part_of [0, 1, 5, 6, 7, 9] rfl) (kB_X5_isClosed_179 X d _ _ _ _ _ _ _ _ _ _ hk70 hf)
def L_X5_isClosed_70 (a0 : Nat) (x1 : Int32) (x5 : Int32) (x6 : Int32)  (Q : Int32 → pz_H → Prop) : Nat → Int32 → pz_H → Prop
  | 0, _, _ => False
  | n + 1, x7, h => (pq_gA h a0 5 5 (fun b13 => (pq_gI h a0 5 12 (fun v14 => (pq_aI h b13 v14 (fun v15 => (pq_br (v15 ≤ x7) (Q (1 : Int32) h) (pq_br (x7 = x1) (B_X5_isClosed_217 a0 x1 x5 x6 x7 (fun z0 hz => L_X5_isClosed_70 a0 x1 x5 x6 Q n z0 hz) Q h) (pq_o h a0 5 (F_X5_isOneSide a0 x1 x7 h (fun v17 h16 => (pq_br (v17 = 0) (B_X5_isClosed_217 a0 x1 x5 x6 x7 (fun z0 hz => L_X5_isClosed_70 a0 x1 x5 x6 Q n z0 hz) Q h16) (pq_o h16 a0 5 (F_X5_isFour a0 x1 x7 h16 (fun v19 h18 => (pq_br (v19 = 0) (B_X5_isClosed_217 a0 x1 x5 x6 x7 (fun z0 hz => L_X5_isClosed_70 a0 x1 x5 x6 Q n z0 hz) Q h18) (pq_gA h18 a0 5 16 (fun b20 => (pq_gA h18 a0 5 7 (fun b21 => (pq_gI h18 a0 5 12 (fun v22 => (pq_aI h18 b21 (((12 : Int32) * v22) + x7) (fun v23 => (pq_aI h18 b20 v23 (fun v24 => (pq_gA h18 a0 5 16 (fun b25 => (pq_gA h18 a0 5 8 (fun b26 => (pq_gI h18 a0 5 12 (fun v27 => (pq_aI h18 b26 (((12 : Int32) * v27) + x7) (fun v28 => (pq_aI h18 b25 v28 (fun v29 => (pq_br (v24 = (-1 : Int32)) (B_X5_isClosed_178 a0 x1 x5 x6 x7 v29 (fun z0 hz => L_X5_isClosed_70 a0 x1 x5 x6 Q n z0 hz) Q h18) (pq_br (v24 ≤ x5) (B_X5_isClosed_178 a0 x1 x5 x6 x7 v29 (fun z0 hz => L_X5_isClosed_70 a0 x1 x5 x6 Q n z0 hz) Q h18) (pq_br (x6 ≤ v24) (B_X5_isClosed_178 a0 x1 x5 x6 x7 v29 (fun z0 hz => L_X5_isClosed_70 a0 x1 x5 x6 Q n z0 hz) Q h18) (B_X5_isClosed_179 a0 x1 x5 x6 x7 v29 (1 : Int32) (fun z0 hz => L_X5_isClosed_70 a0 x1 x5 x6 Q n z0 hz) Q h18))))))))))))))))))))))))))))))))))))))))
set_option maxHeartbeats 4000000 in
set_option maxRecDepth 100000 in
theorem kL_X5_isClosed_70 (X : pz_X) (d : Nat) (a0 : Nat) (x1 : Int32) (x5 : Int32) (x6 : Int32)   (Q : Int32 → pz_H → Prop)  : ∀ (n : Nat) (x7 : Int32) (h : pz_H), L_X5_isClosed_70 a0 x1 x5 x6  Q n x7 h → pz_W (fun _ => True) X M_X5_isClosed (d + 2) 70 [(0, .ref a0), (1, .int x1), (5, .int x5), (6, .int x6), (7, .int x7)] [] h 0 0 (pq_qI Q) := by
  intro n
  induction n with
  | zero =>
    intro _ _ hf
    exact False.elim hf
  | succ n ih =>
    intro x7 h hf
    unfold L_X5_isClosed_70 at hf
    refine pz_iload dX5_isClosed_70 rfl ?_
    refine pz_aload_n dX5_isClosed_72 rfl ?_
    obtain ⟨_, b13, h1, h2, hf⟩ := hf
    refine pz_get dX5_isClosed_73 fl_X5_22 h1 h2 ?_
    refine pz_aload_n dX5_isClosed_76 rfl ?_
    obtain ⟨_, v14, h1, h2, hf⟩ := hf
    refine pz_get dX5_isClosed_77 fl_X5_117 h1 h2 ?_
    obtain ⟨_, _, h1, h2, hf⟩ := hf
    refine pz_iald dX5_isClosed_80 h1 h2 ?_
    obtain ⟨ha, hb⟩ := hf
    refine pz_icmp_ge dX5_isClosed_81 (tgt := 223) (by decide) (fun cc => ?_) (fun cc => ?_)
    · have hf := ha cc
      refine pz_iconst (v := (1 : Int32)) dX5_isClosed_223 (by decide) ?_
      exact pz_ireturn dX5_isClosed_224 rfl rfl ⟨_, rfl, hf⟩
    · have hf := hb cc
      refine pz_iload dX5_isClosed_84 rfl ?_
      refine pz_iload_n dX5_isClosed_86 rfl ?_
      obtain ⟨ha, hb⟩ := hf
      refine pz_icmp_eq dX5_isClosed_87 (tgt := 217) (by decide) (fun cc => ?_) (fun cc => ?_)
      · have hf := ha cc
        exact pz_drop (pz_part_of [0, 1, 5, 6, 7] rfl) (kB_X5_isClosed_217 X d _ _ _ _ _ _ _ _ ih hf)
      · have hf := hb cc
        refine pz_aload_n dX5_isClosed_90 rfl ?_
        refine pz_iload_n dX5_isClosed_91 rfl ?_
        refine pz_iload dX5_isClosed_92 rfl ?_
        obtain ⟨_, hO, hf⟩ := hf
        refine pz_callV2 (rc := 0) (rs := 0) (mc := 0) (ms := 0) dX5_isClosed_94 (k_X5_isOneSide X (d + 1) _ _ _ _ _ hf) (Nat.le_of_ble_eq_true rfl) mf_X5_isOneSide ml_X5_146 hO rfl mi_X5_isOneSide ms_X5_isOneSide (fun _ h9 hq => ?_)
        obtain ⟨_, rfl, hf⟩ := hq
        obtain ⟨ha, hb⟩ := hf
        refine pz_if_eq dX5_isClosed_97 (tgt := 217) (by decide) (fun cc => ?_) (fun cc => ?_)
        · have hf := ha cc
          exact pz_drop (pz_part_of [0, 1, 5, 6, 7] rfl) (kB_X5_isClosed_217 X d _ _ _ _ _ _ _ _ ih hf)
        · have hf := hb cc
          refine pz_aload_n dX5_isClosed_100 rfl ?_
          refine pz_iload_n dX5_isClosed_101 rfl ?_
          refine pz_iload dX5_isClosed_102 rfl ?_
          obtain ⟨_, hO, hf⟩ := hf
          refine pz_callV2 (rc := 0) (rs := 0) (mc := 0) (ms := 0) dX5_isClosed_104 (k_X5_isFour X (d + 1) _ _ _ _ _ hf) (Nat.le_of_ble_eq_true rfl) mf_X5_isFour ml_X5_149 hO rfl mi_X5_isFour ms_X5_isFour (fun _ h9 hq => ?_)
          obtain ⟨_, rfl, hf⟩ := hq
          obtain ⟨ha, hb⟩ := hf
          refine pz_if_eq dX5_isClosed_107 (tgt := 217) (by decide) (fun cc => ?_) (fun cc => ?_)
          · have hf := ha cc
            exact pz_drop (pz_part_of [0, 1, 5, 6, 7] rfl) (kB_X5_isClosed_217 X d _ _ _ _ _ _ _ _ ih hf)
          · have hf := hb cc
            refine pz_aload_n dX5_isClosed_110 rfl ?_
            obtain ⟨_, b20, h1, h2, hf⟩ := hf
            refine pz_get dX5_isClosed_111 fl_X5_46 h1 h2 ?_
            refine pz_aload_n dX5_isClosed_114 rfl ?_
            obtain ⟨_, b21, h1, h2, hf⟩ := hf
            refine pz_get dX5_isClosed_115 fl_X5_28 h1 h2 ?_
            refine pz_bipush (v := (12 : Int32)) dX5_isClosed_118 (by decide) ?_
            refine pz_aload_n dX5_isClosed_120 rfl ?_
            obtain ⟨_, v22, h1, h2, hf⟩ := hf
            refine pz_get dX5_isClosed_121 fl_X5_117 h1 h2 ?_
            refine pz_imul dX5_isClosed_124 ?_
            refine pz_iload dX5_isClosed_125 rfl ?_
            refine pz_iadd dX5_isClosed_127 ?_
            obtain ⟨_, _, h1, h2, hf⟩ := hf
            refine pz_iald dX5_isClosed_128 h1 h2 ?_
            obtain ⟨_, _, h1, h2, hf⟩ := hf
            refine pz_iald dX5_isClosed_129 h1 h2 ?_
            refine pz_istore dX5_isClosed_130 (by decide) rfl ?_
            refine pz_aload_n dX5_isClosed_132 rfl ?_
            obtain ⟨_, b25, h1, h2, hf⟩ := hf
            refine pz_get dX5_isClosed_133 fl_X5_46 h1 h2 ?_
            refine pz_aload_n dX5_isClosed_136 rfl ?_
            obtain ⟨_, b26, h1, h2, hf⟩ := hf
            refine pz_get dX5_isClosed_137 fl_X5_31 h1 h2 ?_
            refine pz_bipush (v := (12 : Int32)) dX5_isClosed_140 (by decide) ?_
            refine pz_aload_n dX5_isClosed_142 rfl ?_
            obtain ⟨_, v27, h1, h2, hf⟩ := hf
            refine pz_get dX5_isClosed_143 fl_X5_117 h1 h2 ?_
            refine pz_imul dX5_isClosed_146 ?_
            refine pz_iload dX5_isClosed_147 rfl ?_
            refine pz_iadd dX5_isClosed_149 ?_
            obtain ⟨_, _, h1, h2, hf⟩ := hf
            refine pz_iald dX5_isClosed_150 h1 h2 ?_
            obtain ⟨_, _, h1, h2, hf⟩ := hf
            refine pz_iald dX5_isClosed_151 h1 h2 ?_
            refine pz_istore dX5_isClosed_152 (by decide) rfl ?_
            refine pz_iload dX5_isClosed_154 rfl ?_
            refine pz_iconst (v := (-1 : Int32)) dX5_isClosed_156 (by decide) ?_
            obtain ⟨ha, hb⟩ := hf
            refine pz_icmp_eq dX5_isClosed_157 (tgt := 178) (by decide) (fun cc => ?_) (fun cc => ?_)
            · have hf := ha cc
              exact pz_drop (pz_part_of [0, 1, 5, 6, 7, 9] rfl) (kB_X5_isClosed_178 X d _ _ _ _ _ _ _ _ _ ih hf)
            · have hf := hb cc
              refine pz_iload dX5_isClosed_160 rfl ?_
              refine pz_iload dX5_isClosed_162 rfl ?_
              obtain ⟨ha, hb⟩ := hf
              refine pz_icmp_le dX5_isClosed_164 (tgt := 178) (by decide) (fun cc => ?_) (fun cc => ?_)
              · have hf := ha cc
                exact pz_drop (pz_part_of [0, 1, 5, 6, 7, 9] rfl) (kB_X5_isClosed_178 X d _ _ _ _ _ _ _ _ _ ih hf)
              · have hf := hb cc
                refine pz_iload dX5_isClosed_167 rfl ?_
                refine pz_iload dX5_isClosed_169 rfl ?_
                obtain ⟨ha, hb⟩ := hf
                refine pz_icmp_ge dX5_isClosed_171 (tgt := 178) (by decide) (fun cc => ?_) (fun cc => ?_)
                · have hf := ha cc
                  exact pz_drop (pz_part_of [0, 1, 5, 6, 7, 9] rfl) (kB_X5_isClosed_178 X d _ _ _ _ _ _ _ _ _ ih hf)
                · have hf := hb cc
                  refine pz_iconst (v := (1 : Int32)) dX5_isClosed_174 (by decide) ?_
                  refine pz_goto dX5_isClosed_175 (tgt := 179) (by decide) ?_
                  exact pz_drop (pz_part_of [0, 1, 5, 6, 7, 9] rfl) (kB_X5_isClosed_179 X d _ _ _ _ _ _ _ _ _ _ ih hf)
def B_X5_isClosed_33 (a0 : Nat) (x1 : Int32) (x2 : Int32) (x3 : Int32)  (Q : Int32 → pz_H → Prop) (h : pz_H) : Prop := (pq_gA h a0 5 16 (fun b1 => (pq_aI h b1 x2 (fun v2 => (pq_gA h a0 5 16 (fun b3 => (pq_aI h b3 x3 (fun v4 => (F_X5_lesser v2 v4 h (fun v6 h5 => (pq_gA h5 a0 5 16 (fun b7 => (pq_aI h5 b7 x2 (fun v8 => (pq_gA h5 a0 5 16 (fun b9 => (pq_aI h5 b9 x3 (fun v10 => (F_X5_greater v8 v10 h5 (fun v12 h11 => (pq_ex (fun m70 => L_X5_isClosed_70 a0 x1 v6 v12 Q m70 (0 : Int32) h11))))))))))))))))))))))
set_option maxHeartbeats 4000000 in
set_option maxRecDepth 100000 in
theorem kB_X5_isClosed_33 (X : pz_X) (d : Nat) (a0 : Nat) (x1 : Int32) (x2 : Int32) (x3 : Int32)   (Q : Int32 → pz_H → Prop) (h : pz_H)  (hf : B_X5_isClosed_33 a0 x1 x2 x3  Q h) : pz_W (fun _ => True) X M_X5_isClosed (d + 2) 33 [(0, .ref a0), (1, .int x1), (2, .int x2), (3, .int x3)] [] h 0 0 (pq_qI Q) := by
  unfold B_X5_isClosed_33 at hf
  refine pz_aload_n dX5_isClosed_33 rfl ?_
  obtain ⟨_, b1, h1, h2, hf⟩ := hf
  refine pz_get dX5_isClosed_34 fl_X5_46 h1 h2 ?_
  refine pz_iload_n dX5_isClosed_37 rfl ?_
  obtain ⟨_, _, h1, h2, hf⟩ := hf
  refine pz_iald dX5_isClosed_38 h1 h2 ?_
  refine pz_aload_n dX5_isClosed_39 rfl ?_
  obtain ⟨_, b3, h1, h2, hf⟩ := hf
  refine pz_get dX5_isClosed_40 fl_X5_46 h1 h2 ?_
  refine pz_iload_n dX5_isClosed_43 rfl ?_
  obtain ⟨_, _, h1, h2, hf⟩ := hf
  refine pz_iald dX5_isClosed_44 h1 h2 ?_
  refine pz_callS2 (rc := 0) (rs := 0) (mc := 0) (ms := 0) dX5_isClosed_45 (k_X5_lesser X (d + 1) _ _ _ _ hf) (Nat.le_of_ble_eq_true rfl) mf_X5_lesser ml_X5_127 mt_X5_lesser (fun _ h9 hq => ?_)
  obtain ⟨_, rfl, hf⟩ := hq
  refine pz_istore dX5_isClosed_48 (by decide) rfl ?_
  refine pz_aload_n dX5_isClosed_50 rfl ?_
  obtain ⟨_, b7, h1, h2, hf⟩ := hf
  refine pz_get dX5_isClosed_51 fl_X5_46 h1 h2 ?_
  refine pz_iload_n dX5_isClosed_54 rfl ?_
  obtain ⟨_, _, h1, h2, hf⟩ := hf
  refine pz_iald dX5_isClosed_55 h1 h2 ?_
  refine pz_aload_n dX5_isClosed_56 rfl ?_
  obtain ⟨_, b9, h1, h2, hf⟩ := hf
  refine pz_get dX5_isClosed_57 fl_X5_46 h1 h2 ?_
  refine pz_iload_n dX5_isClosed_60 rfl ?_
  obtain ⟨_, _, h1, h2, hf⟩ := hf
  refine pz_iald dX5_isClosed_61 h1 h2 ?_
  refine pz_callS2 (rc := 0) (rs := 0) (mc := 0) (ms := 0) dX5_isClosed_62 (k_X5_greater X (d + 1) _ _ _ _ hf) (Nat.le_of_ble_eq_true rfl) mf_X5_greater ml_X5_130 mt_X5_greater (fun _ h9 hq => ?_)
  obtain ⟨_, rfl, hf⟩ := hq
  refine pz_istore dX5_isClosed_65 (by decide) rfl ?_
  refine pz_iconst (v := (0 : Int32)) dX5_isClosed_67 (by decide) ?_
  refine pz_istore dX5_isClosed_68 (by decide) rfl ?_
  obtain ⟨n9, hf⟩ := hf
  exact pz_drop (pz_part_of [0, 1, 5, 6, 7] rfl) (kL_X5_isClosed_70 X d _ _ _ _ _  n9 _ _ hf)
def F_X5_isClosed (a0 : Nat) (x1 : Int32) (x2 : Int32) (x3 : Int32) (h : pz_H) (Q : Int32 → pz_H → Prop) : Prop := (pq_gA h a0 5 9 (fun b30 => (pq_gI h a0 5 12 (fun v31 => (pq_aI h b30 (((12 : Int32) * v31) + x1) (fun v32 => (pq_br (v32 = 0) (B_X5_isClosed_33 a0 x1 x2 x3 Q h) (pq_o h a0 5 (F_X5_markIn a0 x1 h (fun v34 h33 => (pq_br (v32 = v34) (B_X5_isClosed_33 a0 x1 x2 x3 Q h33) (Q (0 : Int32) h33))))))))))))
set_option maxHeartbeats 4000000 in
set_option maxRecDepth 100000 in
theorem k_X5_isClosed (X : pz_X) (d : Nat) (a0 : Nat) (x1 : Int32) (x2 : Int32) (x3 : Int32) (h : pz_H) (Q : Int32 → pz_H → Prop) (hf : F_X5_isClosed a0 x1 x2 x3 h Q) : pz_Call X M_X5_isClosed (d + 2) 0 0 [.ref a0, .int x1, .int x2, .int x3] h (pq_qI Q) := by
  refine pz_call_of (by decide +kernel) (Nat.le_of_ble_eq_true rfl) ?_
  unfold F_X5_isClosed at hf
  refine pz_aload_n dX5_isClosed_0 rfl ?_
  obtain ⟨_, b30, h1, h2, hf⟩ := hf
  refine pz_get dX5_isClosed_1 fl_X5_34 h1 h2 ?_
  refine pz_bipush (v := (12 : Int32)) dX5_isClosed_4 (by decide) ?_
  refine pz_aload_n dX5_isClosed_6 rfl ?_
  obtain ⟨_, v31, h1, h2, hf⟩ := hf
  refine pz_get dX5_isClosed_7 fl_X5_117 h1 h2 ?_
  refine pz_imul dX5_isClosed_10 ?_
  refine pz_iload_n dX5_isClosed_11 rfl ?_
  refine pz_iadd dX5_isClosed_12 ?_
  obtain ⟨_, _, h1, h2, hf⟩ := hf
  refine pz_iald dX5_isClosed_13 h1 h2 ?_
  refine pz_istore dX5_isClosed_14 (by decide) rfl ?_
  refine pz_iload dX5_isClosed_16 rfl ?_
  obtain ⟨ha, hb⟩ := hf
  refine pz_if_eq dX5_isClosed_18 (tgt := 33) (by decide) (fun cc => ?_) (fun cc => ?_)
  · have hf := ha cc
    exact pz_drop (pz_part_of [0, 1, 2, 3] rfl) (kB_X5_isClosed_33 X d _ _ _ _ _ _  hf)
  · have hf := hb cc
    refine pz_iload dX5_isClosed_21 rfl ?_
    refine pz_aload_n dX5_isClosed_23 rfl ?_
    refine pz_iload_n dX5_isClosed_24 rfl ?_
    obtain ⟨_, hO, hf⟩ := hf
    refine pz_callV1 (rc := 0) (rs := 0) (mc := 0) (ms := 0) dX5_isClosed_25 (k_X5_markIn X d _ _ _ _ hf) (Nat.le_of_ble_eq_true rfl) mf_X5_markIn ml_X5_143 hO rfl mi_X5_markIn ms_X5_markIn (fun _ h9 hq => ?_)
    obtain ⟨_, rfl, hf⟩ := hq
    obtain ⟨ha, hb⟩ := hf
    refine pz_icmp_eq dX5_isClosed_28 (tgt := 33) (by decide) (fun cc => ?_) (fun cc => ?_)
    · have hf := ha cc
      exact pz_drop (pz_part_of [0, 1, 2, 3] rfl) (kB_X5_isClosed_33 X d _ _ _ _ _ _  hf)
    · have hf := hb cc
      refine pz_iconst (v := (0 : Int32)) dX5_isClosed_31 (by decide) ?_
      exact pz_ireturn dX5_isClosed_32 rfl rfl ⟨_, rfl, hf⟩
def B_X5_isFine_138 (a0 : Nat) (x1 : Int32) (x2 : Int32) (k2 : Int32 → pz_H → Prop) (Q : Int32 → pz_H → Prop) (h : pz_H) : Prop := (k2 (x2 + (1 : Int32)) h)
set_option maxHeartbeats 4000000 in
set_option maxRecDepth 100000 in
theorem kB_X5_isFine_138 (X : pz_X) (d : Nat) (a0 : Nat) (x1 : Int32) (x2 : Int32)  (k2 : Int32 → pz_H → Prop) (Q : Int32 → pz_H → Prop) (h : pz_H) (hk2 : ∀ (x2 : Int32) (h : pz_H), k2 x2 h → pz_W (fun _ => True) X M_X5_isFine (d + 3) 2 [(0, .ref a0), (1, .int x1), (2, .int x2)] [] h 0 0 (pq_qI Q)) (hf : B_X5_isFine_138 a0 x1 x2 k2 Q h) : pz_W (fun _ => True) X M_X5_isFine (d + 3) 138 [(0, .ref a0), (1, .int x1), (2, .int x2)] [] h 0 0 (pq_qI Q) := by
  unfold B_X5_isFine_138 at hf
  refine pz_iinc dX5_isFine_138 rfl (by rfl) (by decide) rfl ?_
  refine pz_goto dX5_isFine_141 (tgt := 2) (by decide) ?_
  exact pz_drop (pz_part_of [0, 1, 2] rfl) (hk2 _ _ hf)
def B_X5_isFine_92 (a0 : Nat) (x1 : Int32) (x2 : Int32) (x3 : Int32) (x4 : Int32) (x5 : Int32) (x6 : Int32) (k2 : Int32 → pz_H → Prop) (Q : Int32 → pz_H → Prop) (h : pz_H) : Prop := (pq_br (x5 = 0) (B_X5_isFine_138 a0 x1 x2 k2 Q h) (pq_br (x6 = 0) (B_X5_isFine_138 a0 x1 x2 k2 Q h) (pq_o h a0 5 (F_X5_isClosed a0 x2 x3 x4 h (fun v19 h18 => (pq_br (v19 = 0) (Q (0 : Int32) h18) (B_X5_isFine_138 a0 x1 x2 k2 Q h18)))))))
set_option maxHeartbeats 4000000 in
set_option maxRecDepth 100000 in
theorem kB_X5_isFine_92 (X : pz_X) (d : Nat) (a0 : Nat) (x1 : Int32) (x2 : Int32) (x3 : Int32) (x4 : Int32) (x5 : Int32) (x6 : Int32)  (k2 : Int32 → pz_H → Prop) (Q : Int32 → pz_H → Prop) (h : pz_H) (hk2 : ∀ (x2 : Int32) (h : pz_H), k2 x2 h → pz_W (fun _ => True) X M_X5_isFine (d + 3) 2 [(0, .ref a0), (1, .int x1), (2, .int x2)] [] h 0 0 (pq_qI Q)) (hf : B_X5_isFine_92 a0 x1 x2 x3 x4 x5 x6 k2 Q h) : pz_W (fun _ => True) X M_X5_isFine (d + 3) 92 [(0, .ref a0), (1, .int x1), (2, .int x2), (3, .int x3), (4, .int x4), (5, .int x5), (6, .int x6)] [] h 0 0 (pq_qI Q) := by
  unfold B_X5_isFine_92 at hf
  refine pz_iload dX5_isFine_92 rfl ?_
  obtain ⟨ha, hb⟩ := hf
  refine pz_if_eq dX5_isFine_94 (tgt := 138) (by decide) (fun cc => ?_) (fun cc => ?_)
  · have hf := ha cc
    exact pz_drop (pz_part_of [0, 1, 2] rfl) (kB_X5_isFine_138 X d _ _ _ _ _ _ hk2 hf)
  · have hf := hb cc
    refine pz_iload dX5_isFine_97 rfl ?_
    obtain ⟨ha, hb⟩ := hf
    refine pz_if_eq dX5_isFine_99 (tgt := 138) (by decide) (fun cc => ?_) (fun cc => ?_)
    · have hf := ha cc
      exact pz_drop (pz_part_of [0, 1, 2] rfl) (kB_X5_isFine_138 X d _ _ _ _ _ _ hk2 hf)
    · have hf := hb cc
      refine pz_aload_n dX5_isFine_102 rfl ?_
      refine pz_iload_n dX5_isFine_103 rfl ?_
      refine pz_iload_n dX5_isFine_104 rfl ?_
      refine pz_iload dX5_isFine_105 rfl ?_
      obtain ⟨_, hO, hf⟩ := hf
      refine pz_callV3 (rc := 0) (rs := 0) (mc := 0) (ms := 0) dX5_isFine_107 (k_X5_isClosed X d _ _ _ _ _ _ hf) (Nat.le_of_ble_eq_true rfl) mf_X5_isClosed ml_X5_136 hO rfl mi_X5_isClosed ms_X5_isClosed (fun _ h9 hq => ?_)
      obtain ⟨_, rfl, hf⟩ := hq
      obtain ⟨ha, hb⟩ := hf
      refine pz_if_ne dX5_isFine_110 (tgt := 138) (by decide) (fun cc => ?_) (fun cc => ?_)
      · have hf := hb cc
        exact pz_drop (pz_part_of [0, 1, 2] rfl) (kB_X5_isFine_138 X d _ _ _ _ _ _ hk2 hf)
      · have hf := ha cc
        refine pz_iconst (v := (0 : Int32)) dX5_isFine_113 (by decide) ?_
        exact pz_ireturn dX5_isFine_114 rfl rfl ⟨_, rfl, hf⟩
def B_X5_isFine_79 (a0 : Nat) (x1 : Int32) (x2 : Int32) (x3 : Int32) (x4 : Int32) (x5 : Int32) (xs0 : Int32) (k2 : Int32 → pz_H → Prop) (Q : Int32 → pz_H → Prop) (h : pz_H) : Prop := (pq_br (x3 = x1) (B_X5_isFine_92 a0 x1 x2 x3 x4 x5 xs0 k2 Q h) (pq_br (x4 = x1) (B_X5_isFine_92 a0 x1 x2 x3 x4 x5 xs0 k2 Q h) (pq_br (x5 = xs0) (B_X5_isFine_138 a0 x1 x2 k2 Q h) (pq_gA h a0 5 17 (fun b14 => (pq_aI h b14 x2 (fun v15 => (pq_o h a0 5 (F_X5_isWithin a0 x1 v15 h (fun v17 h16 => (pq_br (v17 = 0) (B_X5_isFine_138 a0 x1 x2 k2 Q h16) (Q (0 : Int32) h16))))))))))))
set_option maxHeartbeats 4000000 in
set_option maxRecDepth 100000 in
theorem kB_X5_isFine_79 (X : pz_X) (d : Nat) (a0 : Nat) (x1 : Int32) (x2 : Int32) (x3 : Int32) (x4 : Int32) (x5 : Int32) (xs0 : Int32)  (k2 : Int32 → pz_H → Prop) (Q : Int32 → pz_H → Prop) (h : pz_H) (hk2 : ∀ (x2 : Int32) (h : pz_H), k2 x2 h → pz_W (fun _ => True) X M_X5_isFine (d + 3) 2 [(0, .ref a0), (1, .int x1), (2, .int x2)] [] h 0 0 (pq_qI Q)) (hf : B_X5_isFine_79 a0 x1 x2 x3 x4 x5 xs0 k2 Q h) : pz_W (fun _ => True) X M_X5_isFine (d + 3) 79 [(0, .ref a0), (1, .int x1), (2, .int x2), (3, .int x3), (4, .int x4), (5, .int x5)] [.int xs0] h 0 0 (pq_qI Q) := by
  unfold B_X5_isFine_79 at hf
  refine pz_istore dX5_isFine_79 (by decide) rfl ?_
  refine pz_iload_n dX5_isFine_81 rfl ?_
  refine pz_iload_n dX5_isFine_82 rfl ?_
  obtain ⟨ha, hb⟩ := hf
  refine pz_icmp_eq dX5_isFine_83 (tgt := 92) (by decide) (fun cc => ?_) (fun cc => ?_)
  · have hf := ha cc
    exact pz_drop (pz_part_of [0, 1, 2, 3, 4, 5, 6] rfl) (kB_X5_isFine_92 X d _ _ _ _ _ _ _ _ _ _ hk2 hf)
  · have hf := hb cc
    refine pz_iload dX5_isFine_86 rfl ?_
    refine pz_iload_n dX5_isFine_88 rfl ?_
    obtain ⟨ha, hb⟩ := hf
    refine pz_icmp_ne dX5_isFine_89 (tgt := 115) (by decide) (fun cc => ?_) (fun cc => ?_)
    · have hf := hb cc
      refine pz_iload dX5_isFine_115 rfl ?_
      refine pz_iload dX5_isFine_117 rfl ?_
      obtain ⟨ha, hb⟩ := hf
      refine pz_icmp_eq dX5_isFine_119 (tgt := 138) (by decide) (fun cc => ?_) (fun cc => ?_)
      · have hf := ha cc
        exact pz_drop (pz_part_of [0, 1, 2] rfl) (kB_X5_isFine_138 X d _ _ _ _ _ _ hk2 hf)
      · have hf := hb cc
        refine pz_aload_n dX5_isFine_122 rfl ?_
        refine pz_iload_n dX5_isFine_123 rfl ?_
        refine pz_aload_n dX5_isFine_124 rfl ?_
        obtain ⟨_, b14, h1, h2, hf⟩ := hf
        refine pz_get dX5_isFine_125 fl_X5_49 h1 h2 ?_
        refine pz_iload_n dX5_isFine_128 rfl ?_
        obtain ⟨_, _, h1, h2, hf⟩ := hf
        refine pz_iald dX5_isFine_129 h1 h2 ?_
        obtain ⟨_, hO, hf⟩ := hf
        refine pz_callV2 (rc := 0) (rs := 0) (mc := 0) (ms := 0) dX5_isFine_130 (k_X5_isWithin X (d + 1) _ _ _ _ _ hf) (Nat.le_of_ble_eq_true rfl) mf_X5_isWithin ml_X5_140 hO rfl mi_X5_isWithin ms_X5_isWithin (fun _ h9 hq => ?_)
        obtain ⟨_, rfl, hf⟩ := hq
        obtain ⟨ha, hb⟩ := hf
        refine pz_if_eq dX5_isFine_133 (tgt := 138) (by decide) (fun cc => ?_) (fun cc => ?_)
        · have hf := ha cc
          exact pz_drop (pz_part_of [0, 1, 2] rfl) (kB_X5_isFine_138 X d _ _ _ _ _ _ hk2 hf)
        · have hf := hb cc
          refine pz_iconst (v := (0 : Int32)) dX5_isFine_136 (by decide) ?_
          exact pz_ireturn dX5_isFine_137 rfl rfl ⟨_, rfl, hf⟩
    · have hf := ha cc
      exact pz_drop (pz_part_of [0, 1, 2, 3, 4, 5, 6] rfl) (kB_X5_isFine_92 X d _ _ _ _ _ _ _ _ _ _ hk2 hf)
def B_X5_isFine_61 (a0 : Nat) (x1 : Int32) (x2 : Int32) (x3 : Int32) (x4 : Int32) (xs0 : Int32) (k2 : Int32 → pz_H → Prop) (Q : Int32 → pz_H → Prop) (h : pz_H) : Prop := (pq_gA h a0 5 16 (fun b12 => (pq_aI h b12 x4 (fun v13 => (pq_br (v13 = (-1 : Int32)) (B_X5_isFine_79 a0 x1 x2 x3 x4 xs0 (0 : Int32) k2 Q h) (B_X5_isFine_79 a0 x1 x2 x3 x4 xs0 (1 : Int32) k2 Q h))))))
set_option maxHeartbeats 4000000 in
set_option maxRecDepth 100000 in
theorem kB_X5_isFine_61 (X : pz_X) (d : Nat) (a0 : Nat) (x1 : Int32) (x2 : Int32) (x3 : Int32) (x4 : Int32) (xs0 : Int32)  (k2 : Int32 → pz_H → Prop) (Q : Int32 → pz_H → Prop) (h : pz_H) (hk2 : ∀ (x2 : Int32) (h : pz_H), k2 x2 h → pz_W (fun _ => True) X M_X5_isFine (d + 3) 2 [(0, .ref a0), (1, .int x1), (2, .int x2)] [] h 0 0 (pq_qI Q)) (hf : B_X5_isFine_61 a0 x1 x2 x3 x4 xs0 k2 Q h) : pz_W (fun _ => True) X M_X5_isFine (d + 3) 61 [(0, .ref a0), (1, .int x1), (2, .int x2), (3, .int x3), (4, .int x4)] [.int xs0] h 0 0 (pq_qI Q) := by
  unfold B_X5_isFine_61 at hf
  refine pz_istore dX5_isFine_61 (by decide) rfl ?_
  refine pz_aload_n dX5_isFine_63 rfl ?_
  obtain ⟨_, b12, h1, h2, hf⟩ := hf
  refine pz_get dX5_isFine_64 fl_X5_46 h1 h2 ?_
  refine pz_iload dX5_isFine_67 rfl ?_
  obtain ⟨_, _, h1, h2, hf⟩ := hf
  refine pz_iald dX5_isFine_69 h1 h2 ?_
  refine pz_iconst (v := (-1 : Int32)) dX5_isFine_70 (by decide) ?_
  obtain ⟨ha, hb⟩ := hf
  refine pz_icmp_eq dX5_isFine_71 (tgt := 78) (by decide) (fun cc => ?_) (fun cc => ?_)
  · have hf := ha cc
    refine pz_iconst (v := (0 : Int32)) dX5_isFine_78 (by decide) ?_
    exact pz_drop (pz_part_of [0, 1, 2, 3, 4, 5] rfl) (kB_X5_isFine_79 X d _ _ _ _ _ _ _ _ _ _ hk2 hf)
  · have hf := hb cc
    refine pz_iconst (v := (1 : Int32)) dX5_isFine_74 (by decide) ?_
    refine pz_goto dX5_isFine_75 (tgt := 79) (by decide) ?_
    exact pz_drop (pz_part_of [0, 1, 2, 3, 4, 5] rfl) (kB_X5_isFine_79 X d _ _ _ _ _ _ _ _ _ _ hk2 hf)
def L_X5_isFine_2 (a0 : Nat) (x1 : Int32)  (Q : Int32 → pz_H → Prop) : Nat → Int32 → pz_H → Prop
  | 0, _, _ => False
  | n + 1, x2, h => (pq_gA h a0 5 5 (fun b1 => (pq_gI h a0 5 12 (fun v2 => (pq_aI h b1 v2 (fun v3 => (pq_br (v3 ≤ x2) (Q (1 : Int32) h) (pq_gA h a0 5 7 (fun b4 => (pq_gI h a0 5 12 (fun v5 => (pq_aI h b4 (((12 : Int32) * v5) + x2) (fun v6 => (pq_gA h a0 5 8 (fun b7 => (pq_gI h a0 5 12 (fun v8 => (pq_aI h b7 (((12 : Int32) * v8) + x2) (fun v9 => (pq_gA h a0 5 16 (fun b10 => (pq_aI h b10 v6 (fun v11 => (pq_br (v11 = (-1 : Int32)) (B_X5_isFine_61 a0 x1 x2 v6 v9 (0 : Int32) (fun z0 hz => L_X5_isFine_2 a0 x1 Q n z0 hz) Q h) (B_X5_isFine_61 a0 x1 x2 v6 v9 (1 : Int32) (fun z0 hz => L_X5_isFine_2 a0 x1 Q n z0 hz) Q h)))))))))))))))))))))))))
set_option maxHeartbeats 4000000 in
set_option maxRecDepth 100000 in
theorem kL_X5_isFine_2 (X : pz_X) (d : Nat) (a0 : Nat) (x1 : Int32)   (Q : Int32 → pz_H → Prop)  : ∀ (n : Nat) (x2 : Int32) (h : pz_H), L_X5_isFine_2 a0 x1  Q n x2 h → pz_W (fun _ => True) X M_X5_isFine (d + 3) 2 [(0, .ref a0), (1, .int x1), (2, .int x2)] [] h 0 0 (pq_qI Q) := by
  intro n
  induction n with
  | zero =>
    intro _ _ hf
    exact False.elim hf
  | succ n ih =>
    intro x2 h hf
    unfold L_X5_isFine_2 at hf
    refine pz_iload_n dX5_isFine_2 rfl ?_
    refine pz_aload_n dX5_isFine_3 rfl ?_
    obtain ⟨_, b1, h1, h2, hf⟩ := hf
    refine pz_get dX5_isFine_4 fl_X5_22 h1 h2 ?_
    refine pz_aload_n dX5_isFine_7 rfl ?_
    obtain ⟨_, v2, h1, h2, hf⟩ := hf
    refine pz_get dX5_isFine_8 fl_X5_117 h1 h2 ?_
    obtain ⟨_, _, h1, h2, hf⟩ := hf
    refine pz_iald dX5_isFine_11 h1 h2 ?_
    obtain ⟨ha, hb⟩ := hf
    refine pz_icmp_ge dX5_isFine_12 (tgt := 144) (by decide) (fun cc => ?_) (fun cc => ?_)
    · have hf := ha cc
      refine pz_iconst (v := (1 : Int32)) dX5_isFine_144 (by decide) ?_
      exact pz_ireturn dX5_isFine_145 rfl rfl ⟨_, rfl, hf⟩
    · have hf := hb cc
      refine pz_aload_n dX5_isFine_15 rfl ?_
      obtain ⟨_, b4, h1, h2, hf⟩ := hf
      refine pz_get dX5_isFine_16 fl_X5_28 h1 h2 ?_
      refine pz_bipush (v := (12 : Int32)) dX5_isFine_19 (by decide) ?_
      refine pz_aload_n dX5_isFine_21 rfl ?_
      obtain ⟨_, v5, h1, h2, hf⟩ := hf
      refine pz_get dX5_isFine_22 fl_X5_117 h1 h2 ?_
      refine pz_imul dX5_isFine_25 ?_
      refine pz_iload_n dX5_isFine_26 rfl ?_
      refine pz_iadd dX5_isFine_27 ?_
      obtain ⟨_, _, h1, h2, hf⟩ := hf
      refine pz_iald dX5_isFine_28 h1 h2 ?_
      refine pz_istore_n dX5_isFine_29 rfl (by decide) rfl ?_
      refine pz_aload_n dX5_isFine_30 rfl ?_
      obtain ⟨_, b7, h1, h2, hf⟩ := hf
      refine pz_get dX5_isFine_31 fl_X5_31 h1 h2 ?_
      refine pz_bipush (v := (12 : Int32)) dX5_isFine_34 (by decide) ?_
      refine pz_aload_n dX5_isFine_36 rfl ?_
      obtain ⟨_, v8, h1, h2, hf⟩ := hf
      refine pz_get dX5_isFine_37 fl_X5_117 h1 h2 ?_
      refine pz_imul dX5_isFine_40 ?_
      refine pz_iload_n dX5_isFine_41 rfl ?_
      refine pz_iadd dX5_isFine_42 ?_
      obtain ⟨_, _, h1, h2, hf⟩ := hf
      refine pz_iald dX5_isFine_43 h1 h2 ?_
      refine pz_istore dX5_isFine_44 (by decide) rfl ?_
      refine pz_aload_n dX5_isFine_46 rfl ?_
      obtain ⟨_, b10, h1, h2, hf⟩ := hf
      refine pz_get dX5_isFine_47 fl_X5_46 h1 h2 ?_
      refine pz_iload_n dX5_isFine_50 rfl ?_
      obtain ⟨_, _, h1, h2, hf⟩ := hf
      refine pz_iald dX5_isFine_51 h1 h2 ?_
      refine pz_iconst (v := (-1 : Int32)) dX5_isFine_52 (by decide) ?_
      obtain ⟨ha, hb⟩ := hf
      refine pz_icmp_eq dX5_isFine_53 (tgt := 60) (by decide) (fun cc => ?_) (fun cc => ?_)
      · have hf := ha cc
        refine pz_iconst (v := (0 : Int32)) dX5_isFine_60 (by decide) ?_
        exact pz_drop (pz_part_of [0, 1, 2, 3, 4] rfl) (kB_X5_isFine_61 X d _ _ _ _ _ _ _ _ _ ih hf)
      · have hf := hb cc
        refine pz_iconst (v := (1 : Int32)) dX5_isFine_56 (by decide) ?_
        refine pz_goto dX5_isFine_57 (tgt := 61) (by decide) ?_
        exact pz_drop (pz_part_of [0, 1, 2, 3, 4] rfl) (kB_X5_isFine_61 X d _ _ _ _ _ _ _ _ _ ih hf)
def F_X5_isFine (a0 : Nat) (x1 : Int32) (h : pz_H) (Q : Int32 → pz_H → Prop) : Prop := (pq_ex (fun m2 => L_X5_isFine_2 a0 x1 Q m2 (0 : Int32) h))
set_option maxHeartbeats 4000000 in
set_option maxRecDepth 100000 in
theorem k_X5_isFine (X : pz_X) (d : Nat) (a0 : Nat) (x1 : Int32) (h : pz_H) (Q : Int32 → pz_H → Prop) (hf : F_X5_isFine a0 x1 h Q) : pz_Call X M_X5_isFine (d + 3) 0 0 [.ref a0, .int x1] h (pq_qI Q) := by
  refine pz_call_of (by decide +kernel) (Nat.le_of_ble_eq_true rfl) ?_
  unfold F_X5_isFine at hf
  refine pz_iconst (v := (0 : Int32)) dX5_isFine_0 (by decide) ?_
  refine pz_istore_n dX5_isFine_1 rfl (by decide) rfl ?_
  obtain ⟨n9, hf⟩ := hf
  exact pz_drop (pz_part_of [0, 1, 2] rfl) (kL_X5_isFine_2 X d _ _ _  n9 _ _ hf)
def B_X5_next_41   (Q : Int32 → pz_H → Prop) (h : pz_H) : Prop := (Q (0 : Int32) h)
set_option maxHeartbeats 4000000 in
set_option maxRecDepth 100000 in
theorem kB_X5_next_41 (X : pz_X) (d : Nat)    (Q : Int32 → pz_H → Prop) (h : pz_H)  (hf : B_X5_next_41   Q h) : pz_W (fun _ => True) X M_X5_next (d + 4) 41 [] [] h 0 0 (pq_qI Q) := by
  unfold B_X5_next_41 at hf
  refine pz_iconst (v := (0 : Int32)) dX5_next_41 (by decide) ?_
  exact pz_ireturn dX5_next_42 rfl rfl ⟨_, rfl, hf⟩
def B_X5_next_247 (a0 : Nat) (x1 : Int32) (x2 : Int32) (k94 : Int32 → pz_H → Prop) (Q : Int32 → pz_H → Prop) (h : pz_H) : Prop := (k94 x2 h)
set_option maxHeartbeats 4000000 in
set_option maxRecDepth 100000 in
theorem kB_X5_next_247 (X : pz_X) (d : Nat) (a0 : Nat) (x1 : Int32) (x2 : Int32)  (k94 : Int32 → pz_H → Prop) (Q : Int32 → pz_H → Prop) (h : pz_H) (hk94 : ∀ (x2 : Int32) (h : pz_H), k94 x2 h → pz_W (fun _ => True) X M_X5_next (d + 4) 94 [(0, .ref a0), (1, .int x1), (2, .int x2)] [] h 0 0 (pq_qI Q)) (hf : B_X5_next_247 a0 x1 x2 k94 Q h) : pz_W (fun _ => True) X M_X5_next (d + 4) 247 [(0, .ref a0), (1, .int x1), (2, .int x2)] [] h 0 0 (pq_qI Q) := by
  unfold B_X5_next_247 at hf
  refine pz_goto dX5_next_247 (tgt := 94) (by decide) ?_
  exact pz_drop (pz_part_of [0, 1, 2] rfl) (hk94 _ _ hf)
def B_X5_next_164 (a0 : Nat) (x1 : Int32) (x3 : Int32) (x4 : Int32) (k94 : Int32 → pz_H → Prop) (Q : Int32 → pz_H → Prop) (h : pz_H) : Prop := (pq_br (x4 = 0) (pq_gI h a0 5 15 (fun v22 => (pq_br (v22 = 0) (Q (0 : Int32) h) (pq_gI h a0 5 15 (fun v23 => (pq_p h a0 5 15 (.int (v23 - (1 : Int32))) (fun h24 => (pq_gA h24 a0 5 14 (fun b25 => (pq_gI h24 a0 5 15 (fun v26 => (pq_aI h24 b25 v26 (fun v27 => (pq_gA h24 a0 5 16 (fun b28 => (pq_gA h24 a0 5 14 (fun b29 => (pq_gI h24 a0 5 15 (fun v30 => (pq_aI h24 b29 v30 (fun v31 => (pq_sI h24 b28 v31 (-1 : Int32) (fun h32 => (B_X5_next_247 a0 x1 (v27 + (1 : Int32)) k94 Q h32)))))))))))))))))))))))) (pq_gA h a0 5 14 (fun b33 => (pq_gI h a0 5 15 (fun v34 => (pq_sI h b33 v34 x3 (fun h35 => (pq_gI h35 a0 5 15 (fun v36 => (pq_p h35 a0 5 15 (.int (v36 + (1 : Int32))) (fun h37 => (pq_gI h37 a0 5 15 (fun v38 => (pq_br (v38 = x1) (Q (1 : Int32) h37) (B_X5_next_247 a0 x1 (0 : Int32) k94 Q h37)))))))))))))))
set_option maxHeartbeats 4000000 in
set_option maxRecDepth 100000 in
theorem kB_X5_next_164 (X : pz_X) (d : Nat) (a0 : Nat) (x1 : Int32) (x3 : Int32) (x4 : Int32)  (k94 : Int32 → pz_H → Prop) (Q : Int32 → pz_H → Prop) (h : pz_H) (hk94 : ∀ (x2 : Int32) (h : pz_H), k94 x2 h → pz_W (fun _ => True) X M_X5_next (d + 4) 94 [(0, .ref a0), (1, .int x1), (2, .int x2)] [] h 0 0 (pq_qI Q)) (hf : B_X5_next_164 a0 x1 x3 x4 k94 Q h) : pz_W (fun _ => True) X M_X5_next (d + 4) 164 [(0, .ref a0), (1, .int x1), (3, .int x3), (4, .int x4)] [] h 0 0 (pq_qI Q) := by
  unfold B_X5_next_164 at hf
  refine pz_iload dX5_next_164 rfl ?_
  obtain ⟨ha, hb⟩ := hf
  refine pz_if_eq dX5_next_166 (tgt := 201) (by decide) (fun cc => ?_) (fun cc => ?_)
  · have hf := ha cc
    refine pz_aload_n dX5_next_201 rfl ?_
    obtain ⟨_, v22, h1, h2, hf⟩ := hf
    refine pz_get dX5_next_202 fl_X5_120 h1 h2 ?_
    obtain ⟨ha, hb⟩ := hf
    refine pz_if_ne dX5_next_205 (tgt := 210) (by decide) (fun cc => ?_) (fun cc => ?_)
    · have hf := hb cc
      refine pz_aload_n dX5_next_210 rfl ?_
      refine pz_dup dX5_next_211 rfl ?_
      obtain ⟨_, v23, h1, h2, hf⟩ := hf
      refine pz_get dX5_next_212 fl_X5_120 h1 h2 ?_
      refine pz_iconst (v := (1 : Int32)) dX5_next_215 (by decide) ?_
      refine pz_isub dX5_next_216 ?_
      obtain ⟨_, h1, h2, hf⟩ := hf
      refine pz_put dX5_next_217 fp_X5_120 h1 rfl rfl h2 ?_
      refine pz_aload_n dX5_next_220 rfl ?_
      obtain ⟨_, b25, h1, h2, hf⟩ := hf
      refine pz_get dX5_next_221 fl_X5_43 h1 h2 ?_
      refine pz_aload_n dX5_next_224 rfl ?_
      obtain ⟨_, v26, h1, h2, hf⟩ := hf
      refine pz_get dX5_next_225 fl_X5_120 h1 h2 ?_
      obtain ⟨_, _, h1, h2, hf⟩ := hf
      refine pz_iald dX5_next_228 h1 h2 ?_
      refine pz_iconst (v := (1 : Int32)) dX5_next_229 (by decide) ?_
      refine pz_iadd dX5_next_230 ?_
      refine pz_istore_n dX5_next_231 rfl (by decide) rfl ?_
      refine pz_aload_n dX5_next_232 rfl ?_
      obtain ⟨_, b28, h1, h2, hf⟩ := hf
      refine pz_get dX5_next_233 fl_X5_46 h1 h2 ?_
      refine pz_aload_n dX5_next_236 rfl ?_
      obtain ⟨_, b29, h1, h2, hf⟩ := hf
      refine pz_get dX5_next_237 fl_X5_43 h1 h2 ?_
      refine pz_aload_n dX5_next_240 rfl ?_
      obtain ⟨_, v30, h1, h2, hf⟩ := hf
      refine pz_get dX5_next_241 fl_X5_120 h1 h2 ?_
      obtain ⟨_, _, h1, h2, hf⟩ := hf
      refine pz_iald dX5_next_244 h1 h2 ?_
      refine pz_iconst (v := (-1 : Int32)) dX5_next_245 (by decide) ?_
      obtain ⟨_, _, h1, h2, hf⟩ := hf
      refine pz_iast dX5_next_246 h1 h2 ?_
      exact pz_drop (pz_part_of [0, 1, 2] rfl) (kB_X5_next_247 X d _ _ _ _ _ _ hk94 hf)
    · have hf := ha cc
      refine pz_iconst (v := (0 : Int32)) dX5_next_208 (by decide) ?_
      exact pz_ireturn dX5_next_209 rfl rfl ⟨_, rfl, hf⟩
  · have hf := hb cc
    refine pz_aload_n dX5_next_169 rfl ?_
    obtain ⟨_, b33, h1, h2, hf⟩ := hf
    refine pz_get dX5_next_170 fl_X5_43 h1 h2 ?_
    refine pz_aload_n dX5_next_173 rfl ?_
    obtain ⟨_, v34, h1, h2, hf⟩ := hf
    refine pz_get dX5_next_174 fl_X5_120 h1 h2 ?_
    refine pz_iload_n dX5_next_177 rfl ?_
    obtain ⟨_, _, h1, h2, hf⟩ := hf
    refine pz_iast dX5_next_178 h1 h2 ?_
    refine pz_aload_n dX5_next_179 rfl ?_
    refine pz_dup dX5_next_180 rfl ?_
    obtain ⟨_, v36, h1, h2, hf⟩ := hf
    refine pz_get dX5_next_181 fl_X5_120 h1 h2 ?_
    refine pz_iconst (v := (1 : Int32)) dX5_next_184 (by decide) ?_
    refine pz_iadd dX5_next_185 ?_
    obtain ⟨_, h1, h2, hf⟩ := hf
    refine pz_put dX5_next_186 fp_X5_120 h1 rfl rfl h2 ?_
    refine pz_iconst (v := (0 : Int32)) dX5_next_189 (by decide) ?_
    refine pz_istore_n dX5_next_190 rfl (by decide) rfl ?_
    refine pz_aload_n dX5_next_191 rfl ?_
    obtain ⟨_, v38, h1, h2, hf⟩ := hf
    refine pz_get dX5_next_192 fl_X5_120 h1 h2 ?_
    refine pz_iload_n dX5_next_195 rfl ?_
    obtain ⟨ha, hb⟩ := hf
    refine pz_icmp_ne dX5_next_196 (tgt := 247) (by decide) (fun cc => ?_) (fun cc => ?_)
    · have hf := hb cc
      exact pz_drop (pz_part_of [0, 1, 2] rfl) (kB_X5_next_247 X d _ _ _ _ _ _ hk94 hf)
    · have hf := ha cc
      refine pz_iconst (v := (1 : Int32)) dX5_next_199 (by decide) ?_
      exact pz_ireturn dX5_next_200 rfl rfl ⟨_, rfl, hf⟩
def B_X5_next_159 (a0 : Nat) (x1 : Int32) (x4 : Int32) (xs0 : Int32) (xs1 : Int32) (k94 : Int32 → pz_H → Prop) (k99 : Int32 → Int32 → pz_H → Prop) (Q : Int32 → pz_H → Prop) (h : pz_H) : Prop := (k99 (xs0 + xs1) x4 h)
set_option maxHeartbeats 4000000 in
set_option maxRecDepth 100000 in
theorem kB_X5_next_159 (X : pz_X) (d : Nat) (a0 : Nat) (x1 : Int32) (x4 : Int32) (xs0 : Int32) (xs1 : Int32)  (k94 : Int32 → pz_H → Prop) (k99 : Int32 → Int32 → pz_H → Prop) (Q : Int32 → pz_H → Prop) (h : pz_H) (hk94 : ∀ (x2 : Int32) (h : pz_H), k94 x2 h → pz_W (fun _ => True) X M_X5_next (d + 4) 94 [(0, .ref a0), (1, .int x1), (2, .int x2)] [] h 0 0 (pq_qI Q)) (hk99 : ∀ (x3 : Int32) (x4 : Int32) (h : pz_H), k99 x3 x4 h → pz_W (fun _ => True) X M_X5_next (d + 4) 99 [(0, .ref a0), (1, .int x1), (3, .int x3), (4, .int x4)] [] h 0 0 (pq_qI Q)) (hf : B_X5_next_159 a0 x1 x4 xs0 xs1 k94 k99 Q h) : pz_W (fun _ => True) X M_X5_next (d + 4) 159 [(0, .ref a0), (1, .int x1), (4, .int x4)] [.int xs1, .int xs0] h 0 0 (pq_qI Q) := by
  unfold B_X5_next_159 at hf
  refine pz_iadd dX5_next_159 ?_
  refine pz_istore_n dX5_next_160 rfl (by decide) rfl ?_
  refine pz_goto dX5_next_161 (tgt := 99) (by decide) ?_
  exact pz_drop (pz_part_of [0, 1, 3, 4] rfl) (hk99 _ _ _ hf)
def B_X5_next_148 (a0 : Nat) (x1 : Int32) (x3 : Int32) (x4 : Int32) (k94 : Int32 → pz_H → Prop) (k99 : Int32 → Int32 → pz_H → Prop) (Q : Int32 → pz_H → Prop) (h : pz_H) : Prop := (pq_br (x4 = 0) (B_X5_next_159 a0 x1 x4 x3 (1 : Int32) k94 k99 Q h) (B_X5_next_159 a0 x1 x4 x3 (0 : Int32) k94 k99 Q h))
set_option maxHeartbeats 4000000 in
set_option maxRecDepth 100000 in
theorem kB_X5_next_148 (X : pz_X) (d : Nat) (a0 : Nat) (x1 : Int32) (x3 : Int32) (x4 : Int32)  (k94 : Int32 → pz_H → Prop) (k99 : Int32 → Int32 → pz_H → Prop) (Q : Int32 → pz_H → Prop) (h : pz_H) (hk94 : ∀ (x2 : Int32) (h : pz_H), k94 x2 h → pz_W (fun _ => True) X M_X5_next (d + 4) 94 [(0, .ref a0), (1, .int x1), (2, .int x2)] [] h 0 0 (pq_qI Q)) (hk99 : ∀ (x3 : Int32) (x4 : Int32) (h : pz_H), k99 x3 x4 h → pz_W (fun _ => True) X M_X5_next (d + 4) 99 [(0, .ref a0), (1, .int x1), (3, .int x3), (4, .int x4)] [] h 0 0 (pq_qI Q)) (hf : B_X5_next_148 a0 x1 x3 x4 k94 k99 Q h) : pz_W (fun _ => True) X M_X5_next (d + 4) 148 [(0, .ref a0), (1, .int x1), (3, .int x3), (4, .int x4)] [] h 0 0 (pq_qI Q) := by
  unfold B_X5_next_148 at hf
  refine pz_iload_n dX5_next_148 rfl ?_
  refine pz_iload dX5_next_149 rfl ?_
  obtain ⟨ha, hb⟩ := hf
  refine pz_if_eq dX5_next_151 (tgt := 158) (by decide) (fun cc => ?_) (fun cc => ?_)
  · have hf := ha cc
    refine pz_iconst (v := (1 : Int32)) dX5_next_158 (by decide) ?_
    exact pz_drop (pz_part_of [0, 1, 4] rfl) (kB_X5_next_159 X d _ _ _ _ _ _ _ _ _ hk94 hk99 hf)
  · have hf := hb cc
    refine pz_iconst (v := (0 : Int32)) dX5_next_154 (by decide) ?_
    refine pz_goto dX5_next_155 (tgt := 159) (by decide) ?_
    exact pz_drop (pz_part_of [0, 1, 4] rfl) (kB_X5_next_159 X d _ _ _ _ _ _ _ _ _ hk94 hk99 hf)
def L_X5_next_99 (a0 : Nat) (x1 : Int32) (k94 : Int32 → pz_H → Prop) (Q : Int32 → pz_H → Prop) : Nat → Int32 → Int32 → pz_H → Prop
  | 0, _, _, _ => False
  | n + 1, x3, x4, h => (pq_br (x1 ≤ x3) (B_X5_next_164 a0 x1 x3 x4 k94 Q h) (pq_br (x4 = 0) (pq_gA h a0 5 16 (fun b13 => (pq_aI h b13 x3 (fun v14 => (pq_br (v14 = (-1 : Int32)) (pq_gA h a0 5 16 (fun b15 => (pq_gI h a0 5 15 (fun v16 => (pq_sI h b15 x3 v16 (fun h17 => (pq_o h17 a0 5 (F_X5_isFine a0 x3 h17 (fun v19 h18 => (pq_br (v19 = 0) (pq_gA h18 a0 5 16 (fun b20 => (pq_sI h18 b20 x3 (-1 : Int32) (fun h21 => (B_X5_next_148 a0 x1 x3 v19 k94 (fun z0 z1 hz => L_X5_next_99 a0 x1 k94 Q n z0 z1 hz) Q h21))))) (B_X5_next_148 a0 x1 x3 v19 k94 (fun z0 z1 hz => L_X5_next_99 a0 x1 k94 Q n z0 z1 hz) Q h18))))))))))) (B_X5_next_148 a0 x1 x3 x4 k94 (fun z0 z1 hz => L_X5_next_99 a0 x1 k94 Q n z0 z1 hz) Q h)))))) (B_X5_next_164 a0 x1 x3 x4 k94 Q h)))
set_option maxHeartbeats 4000000 in
set_option maxRecDepth 100000 in
theorem kL_X5_next_99 (X : pz_X) (d : Nat) (a0 : Nat) (x1 : Int32)  (k94 : Int32 → pz_H → Prop) (Q : Int32 → pz_H → Prop) (hk94 : ∀ (x2 : Int32) (h : pz_H), k94 x2 h → pz_W (fun _ => True) X M_X5_next (d + 4) 94 [(0, .ref a0), (1, .int x1), (2, .int x2)] [] h 0 0 (pq_qI Q)) : ∀ (n : Nat) (x3 : Int32) (x4 : Int32) (h : pz_H), L_X5_next_99 a0 x1 k94 Q n x3 x4 h → pz_W (fun _ => True) X M_X5_next (d + 4) 99 [(0, .ref a0), (1, .int x1), (3, .int x3), (4, .int x4)] [] h 0 0 (pq_qI Q) := by
  intro n
  induction n with
  | zero =>
    intro _ _ _ hf
    exact False.elim hf
  | succ n ih =>
    intro x3 x4 h hf
    unfold L_X5_next_99 at hf
    refine pz_iload_n dX5_next_99 rfl ?_
    refine pz_iload_n dX5_next_100 rfl ?_
    obtain ⟨ha, hb⟩ := hf
    refine pz_icmp_ge dX5_next_101 (tgt := 164) (by decide) (fun cc => ?_) (fun cc => ?_)
    · have hf := ha cc
      exact pz_drop (pz_part_of [0, 1, 3, 4] rfl) (kB_X5_next_164 X d _ _ _ _ _ _ _ hk94 hf)
    · have hf := hb cc
      refine pz_iload dX5_next_104 rfl ?_
      obtain ⟨ha, hb⟩ := hf
      refine pz_if_ne dX5_next_106 (tgt := 164) (by decide) (fun cc => ?_) (fun cc => ?_)
      · have hf := hb cc
        exact pz_drop (pz_part_of [0, 1, 3, 4] rfl) (kB_X5_next_164 X d _ _ _ _ _ _ _ hk94 hf)
      · have hf := ha cc
        refine pz_aload_n dX5_next_109 rfl ?_
        obtain ⟨_, b13, h1, h2, hf⟩ := hf
        refine pz_get dX5_next_110 fl_X5_46 h1 h2 ?_
        refine pz_iload_n dX5_next_113 rfl ?_
        obtain ⟨_, _, h1, h2, hf⟩ := hf
        refine pz_iald dX5_next_114 h1 h2 ?_
        refine pz_iconst (v := (-1 : Int32)) dX5_next_115 (by decide) ?_
        obtain ⟨ha, hb⟩ := hf
        refine pz_icmp_ne dX5_next_116 (tgt := 148) (by decide) (fun cc => ?_) (fun cc => ?_)
        · have hf := hb cc
          exact pz_drop (pz_part_of [0, 1, 3, 4] rfl) (kB_X5_next_148 X d _ _ _ _ _ _ _ _ hk94 ih hf)
        · have hf := ha cc
          refine pz_aload_n dX5_next_119 rfl ?_
          obtain ⟨_, b15, h1, h2, hf⟩ := hf
          refine pz_get dX5_next_120 fl_X5_46 h1 h2 ?_
          refine pz_iload_n dX5_next_123 rfl ?_
          refine pz_aload_n dX5_next_124 rfl ?_
          obtain ⟨_, v16, h1, h2, hf⟩ := hf
          refine pz_get dX5_next_125 fl_X5_120 h1 h2 ?_
          obtain ⟨_, _, h1, h2, hf⟩ := hf
          refine pz_iast dX5_next_128 h1 h2 ?_
          refine pz_aload_n dX5_next_129 rfl ?_
          refine pz_iload_n dX5_next_130 rfl ?_
          obtain ⟨_, hO, hf⟩ := hf
          refine pz_callV1 (rc := 0) (rs := 0) (mc := 0) (ms := 0) dX5_next_131 (k_X5_isFine X d _ _ _ _ hf) (Nat.le_of_ble_eq_true rfl) mf_X5_isFine ml_X5_152 hO rfl mi_X5_isFine ms_X5_isFine (fun _ h9 hq => ?_)
          obtain ⟨_, rfl, hf⟩ := hq
          refine pz_istore dX5_next_134 (by decide) rfl ?_
          refine pz_iload dX5_next_136 rfl ?_
          obtain ⟨ha, hb⟩ := hf
          refine pz_if_ne dX5_next_138 (tgt := 148) (by decide) (fun cc => ?_) (fun cc => ?_)
          · have hf := hb cc
            exact pz_drop (pz_part_of [0, 1, 3, 4] rfl) (kB_X5_next_148 X d _ _ _ _ _ _ _ _ hk94 ih hf)
          · have hf := ha cc
            refine pz_aload_n dX5_next_141 rfl ?_
            obtain ⟨_, b20, h1, h2, hf⟩ := hf
            refine pz_get dX5_next_142 fl_X5_46 h1 h2 ?_
            refine pz_iload_n dX5_next_145 rfl ?_
            refine pz_iconst (v := (-1 : Int32)) dX5_next_146 (by decide) ?_
            obtain ⟨_, _, h1, h2, hf⟩ := hf
            refine pz_iast dX5_next_147 h1 h2 ?_
            exact pz_drop (pz_part_of [0, 1, 3, 4] rfl) (kB_X5_next_148 X d _ _ _ _ _ _ _ _ hk94 ih hf)
def L_X5_next_94 (a0 : Nat) (x1 : Int32)  (Q : Int32 → pz_H → Prop) : Nat → Int32 → pz_H → Prop
  | 0, _, _ => False
  | n + 1, x2, h => (pq_ex (fun m99 => L_X5_next_99 a0 x1 (fun z0 hz => L_X5_next_94 a0 x1 Q n z0 hz) Q m99 x2 (0 : Int32) h))
set_option maxHeartbeats 4000000 in
set_option maxRecDepth 100000 in
theorem kL_X5_next_94 (X : pz_X) (d : Nat) (a0 : Nat) (x1 : Int32)   (Q : Int32 → pz_H → Prop)  : ∀ (n : Nat) (x2 : Int32) (h : pz_H), L_X5_next_94 a0 x1  Q n x2 h → pz_W (fun _ => True) X M_X5_next (d + 4) 94 [(0, .ref a0), (1, .int x1), (2, .int x2)] [] h 0 0 (pq_qI Q) := by
  intro n
  induction n with
  | zero =>
    intro _ _ hf
    exact False.elim hf
  | succ n ih =>
    intro x2 h hf
    unfold L_X5_next_94 at hf
    refine pz_iload_n dX5_next_94 rfl ?_
    refine pz_istore_n dX5_next_95 rfl (by decide) rfl ?_
    refine pz_iconst (v := (0 : Int32)) dX5_next_96 (by decide) ?_
    refine pz_istore dX5_next_97 (by decide) rfl ?_
    obtain ⟨n9, hf⟩ := hf
    exact pz_drop (pz_part_of [0, 1, 3, 4] rfl) (kL_X5_next_99 X d _ _ _ _ ih n9 _ _ _ hf)
def B_X5_next_89 (a0 : Nat) (x1 : Int32) (x2 : Int32)  (Q : Int32 → pz_H → Prop) (h : pz_H) : Prop := (pq_p h a0 5 13 (.int (1 : Int32)) (fun h12 => (pq_ex (fun m94 => L_X5_next_94 a0 x1 Q m94 x2 h12))))
set_option maxHeartbeats 4000000 in
set_option maxRecDepth 100000 in
theorem kB_X5_next_89 (X : pz_X) (d : Nat) (a0 : Nat) (x1 : Int32) (x2 : Int32)   (Q : Int32 → pz_H → Prop) (h : pz_H)  (hf : B_X5_next_89 a0 x1 x2  Q h) : pz_W (fun _ => True) X M_X5_next (d + 4) 89 [(0, .ref a0), (1, .int x1), (2, .int x2)] [] h 0 0 (pq_qI Q) := by
  unfold B_X5_next_89 at hf
  refine pz_aload_n dX5_next_89 rfl ?_
  refine pz_iconst (v := (1 : Int32)) dX5_next_90 (by decide) ?_
  obtain ⟨_, h1, h2, hf⟩ := hf
  refine pz_put dX5_next_91 fp_X5_123 h1 rfl rfl h2 ?_
  obtain ⟨n9, hf⟩ := hf
  exact pz_drop (pz_part_of [0, 1, 2] rfl) (kL_X5_next_94 X d _ _ _  n9 _ _ hf)
def B_X5_next_43 (a0 : Nat) (x1 : Int32)  (Q : Int32 → pz_H → Prop) (h : pz_H) : Prop := (pq_gI h a0 5 13 (fun v1 => (pq_br (v1 = 0) (B_X5_next_89 a0 x1 (0 : Int32) Q h) (pq_gI h a0 5 15 (fun v2 => (pq_p h a0 5 15 (.int (v2 - (1 : Int32))) (fun h3 => (pq_gA h3 a0 5 14 (fun b4 => (pq_gI h3 a0 5 15 (fun v5 => (pq_aI h3 b4 v5 (fun v6 => (pq_gA h3 a0 5 16 (fun b7 => (pq_gA h3 a0 5 14 (fun b8 => (pq_gI h3 a0 5 15 (fun v9 => (pq_aI h3 b8 v9 (fun v10 => (pq_sI h3 b7 v10 (-1 : Int32) (fun h11 => (B_X5_next_89 a0 x1 (v6 + (1 : Int32)) Q h11))))))))))))))))))))))))
set_option maxHeartbeats 4000000 in
set_option maxRecDepth 100000 in
theorem kB_X5_next_43 (X : pz_X) (d : Nat) (a0 : Nat) (x1 : Int32)   (Q : Int32 → pz_H → Prop) (h : pz_H)  (hf : B_X5_next_43 a0 x1  Q h) : pz_W (fun _ => True) X M_X5_next (d + 4) 43 [(0, .ref a0), (1, .int x1)] [] h 0 0 (pq_qI Q) := by
  unfold B_X5_next_43 at hf
  refine pz_iconst (v := (0 : Int32)) dX5_next_43 (by decide) ?_
  refine pz_istore_n dX5_next_44 rfl (by decide) rfl ?_
  refine pz_aload_n dX5_next_45 rfl ?_
  obtain ⟨_, v1, h1, h2, hf⟩ := hf
  refine pz_get dX5_next_46 fl_X5_123 h1 h2 ?_
  obtain ⟨ha, hb⟩ := hf
  refine pz_if_eq dX5_next_49 (tgt := 89) (by decide) (fun cc => ?_) (fun cc => ?_)
  · have hf := ha cc
    exact pz_drop (pz_part_of [0, 1, 2] rfl) (kB_X5_next_89 X d _ _ _ _ _  hf)
  · have hf := hb cc
    refine pz_aload_n dX5_next_52 rfl ?_
    refine pz_dup dX5_next_53 rfl ?_
    obtain ⟨_, v2, h1, h2, hf⟩ := hf
    refine pz_get dX5_next_54 fl_X5_120 h1 h2 ?_
    refine pz_iconst (v := (1 : Int32)) dX5_next_57 (by decide) ?_
    refine pz_isub dX5_next_58 ?_
    obtain ⟨_, h1, h2, hf⟩ := hf
    refine pz_put dX5_next_59 fp_X5_120 h1 rfl rfl h2 ?_
    refine pz_aload_n dX5_next_62 rfl ?_
    obtain ⟨_, b4, h1, h2, hf⟩ := hf
    refine pz_get dX5_next_63 fl_X5_43 h1 h2 ?_
    refine pz_aload_n dX5_next_66 rfl ?_
    obtain ⟨_, v5, h1, h2, hf⟩ := hf
    refine pz_get dX5_next_67 fl_X5_120 h1 h2 ?_
    obtain ⟨_, _, h1, h2, hf⟩ := hf
    refine pz_iald dX5_next_70 h1 h2 ?_
    refine pz_iconst (v := (1 : Int32)) dX5_next_71 (by decide) ?_
    refine pz_iadd dX5_next_72 ?_
    refine pz_istore_n dX5_next_73 rfl (by decide) rfl ?_
    refine pz_aload_n dX5_next_74 rfl ?_
    obtain ⟨_, b7, h1, h2, hf⟩ := hf
    refine pz_get dX5_next_75 fl_X5_46 h1 h2 ?_
    refine pz_aload_n dX5_next_78 rfl ?_
    obtain ⟨_, b8, h1, h2, hf⟩ := hf
    refine pz_get dX5_next_79 fl_X5_43 h1 h2 ?_
    refine pz_aload_n dX5_next_82 rfl ?_
    obtain ⟨_, v9, h1, h2, hf⟩ := hf
    refine pz_get dX5_next_83 fl_X5_120 h1 h2 ?_
    obtain ⟨_, _, h1, h2, hf⟩ := hf
    refine pz_iald dX5_next_86 h1 h2 ?_
    refine pz_iconst (v := (-1 : Int32)) dX5_next_87 (by decide) ?_
    obtain ⟨_, _, h1, h2, hf⟩ := hf
    refine pz_iast dX5_next_88 h1 h2 ?_
    exact pz_drop (pz_part_of [0, 1, 2] rfl) (kB_X5_next_89 X d _ _ _ _ _  hf)
def F_X5_next (a0 : Nat) (h : pz_H) (Q : Int32 → pz_H → Prop) : Prop := (pq_gA h a0 5 2 (fun b39 => (pq_gI h a0 5 12 (fun v40 => (pq_aI h b39 v40 (fun v41 => (pq_gA h a0 5 1 (fun b42 => (pq_gI h a0 5 12 (fun v43 => (pq_aI h b42 v43 (fun v44 => (pq_br (v44 = (1 : Int32)) (pq_ne (2 : Int32) (pq_br ((v41 - v41 / (2 : Int32) * (2 : Int32)) = (1 : Int32)) (B_X5_next_41 Q h) (pq_gI h a0 5 12 (fun v45 => (pq_o h a0 5 (F_X5_uneven a0 v45 h (fun v47 h46 => (pq_br (v47 = 0) (B_X5_next_43 a0 v41 Q h46) (B_X5_next_41 Q h46))))))))) (B_X5_next_43 a0 v41 Q h))))))))))))))
set_option maxHeartbeats 4000000 in
set_option maxRecDepth 100000 in
theorem k_X5_next (X : pz_X) (d : Nat) (a0 : Nat) (h : pz_H) (Q : Int32 → pz_H → Prop) (hf : F_X5_next a0 h Q) : pz_Call X M_X5_next (d + 4) 0 0 [.ref a0] h (pq_qI Q) := by
  refine pz_call_of (by decide +kernel) (Nat.le_of_ble_eq_true rfl) ?_
  unfold F_X5_next at hf
  refine pz_aload_n dX5_next_0 rfl ?_
  obtain ⟨_, b39, h1, h2, hf⟩ := hf
  refine pz_get dX5_next_1 fl_X5_13 h1 h2 ?_
  refine pz_aload_n dX5_next_4 rfl ?_
  obtain ⟨_, v40, h1, h2, hf⟩ := hf
  refine pz_get dX5_next_5 fl_X5_117 h1 h2 ?_
  obtain ⟨_, _, h1, h2, hf⟩ := hf
  refine pz_iald dX5_next_8 h1 h2 ?_
  refine pz_istore_n dX5_next_9 rfl (by decide) rfl ?_
  refine pz_aload_n dX5_next_10 rfl ?_
  obtain ⟨_, b42, h1, h2, hf⟩ := hf
  refine pz_get dX5_next_11 fl_X5_7 h1 h2 ?_
  refine pz_aload_n dX5_next_14 rfl ?_
  obtain ⟨_, v43, h1, h2, hf⟩ := hf
  refine pz_get dX5_next_15 fl_X5_117 h1 h2 ?_
  obtain ⟨_, _, h1, h2, hf⟩ := hf
  refine pz_iald dX5_next_18 h1 h2 ?_
  refine pz_iconst (v := (1 : Int32)) dX5_next_19 (by decide) ?_
  obtain ⟨ha, hb⟩ := hf
  refine pz_icmp_ne dX5_next_20 (tgt := 43) (by decide) (fun cc => ?_) (fun cc => ?_)
  · have hf := hb cc
    exact pz_drop (pz_part_of [0, 1] rfl) (kB_X5_next_43 X d _ _ _ _  hf)
  · have hf := ha cc
    refine pz_iload_n dX5_next_23 rfl ?_
    refine pz_iconst (v := (2 : Int32)) dX5_next_24 (by decide) ?_
    obtain ⟨hne, hf⟩ := hf
    refine pz_irem dX5_next_25 hne ?_
    refine pz_iconst (v := (1 : Int32)) dX5_next_26 (by decide) ?_
    obtain ⟨ha, hb⟩ := hf
    refine pz_icmp_eq dX5_next_27 (tgt := 41) (by decide) (fun cc => ?_) (fun cc => ?_)
    · have hf := ha cc
      exact pz_drop (pz_part_of [] rfl) (kB_X5_next_41 X d _ _  hf)
    · have hf := hb cc
      refine pz_aload_n dX5_next_30 rfl ?_
      refine pz_aload_n dX5_next_31 rfl ?_
      obtain ⟨_, v45, h1, h2, hf⟩ := hf
      refine pz_get dX5_next_32 fl_X5_117 h1 h2 ?_
      obtain ⟨_, hO, hf⟩ := hf
      refine pz_callV1 (rc := 0) (rs := 0) (mc := 0) (ms := 0) dX5_next_35 (k_X5_uneven X (d + 3) _ _ _ _ hf) (Nat.le_of_ble_eq_true rfl) mf_X5_uneven ml_X5_107 hO rfl mi_X5_uneven ms_X5_uneven (fun _ h9 hq => ?_)
      obtain ⟨_, rfl, hf⟩ := hq
      obtain ⟨ha, hb⟩ := hf
      refine pz_if_eq dX5_next_38 (tgt := 43) (by decide) (fun cc => ?_) (fun cc => ?_)
      · have hf := ha cc
        exact pz_drop (pz_part_of [0, 1] rfl) (kB_X5_next_43 X d _ _ _ _  hf)
      · have hf := hb cc
        exact pz_drop (pz_part_of [] rfl) (kB_X5_next_41 X d _ _  hf)
def L_X5_number_14 (a0 : Nat)  (Q : Int64 → pz_H → Prop) : Nat → Int64 → Int32 → pz_H → Prop
  | 0, _, _, _ => False
  | n + 1, y1, x3, h => (pq_br (x3 < 0) (Q y1 h) (pq_gA h a0 5 14 (fun b1 => (pq_aI h b1 x3 (fun v2 => (L_X5_number_14 a0 Q n (((10 : Int64) * y1) + (Int32.toInt64 v2)) (x3 + (-1 : Int32)) h))))))
set_option maxHeartbeats 4000000 in
set_option maxRecDepth 100000 in
theorem kL_X5_number_14 (X : pz_X) (d : Nat) (a0 : Nat)   (Q : Int64 → pz_H → Prop)  : ∀ (n : Nat) (y1 : Int64) (x3 : Int32) (h : pz_H), L_X5_number_14 a0  Q n y1 x3 h → pz_W (fun _ => True) X M_X5_number (d + 0) 14 [(0, .ref a0), (1, .long y1), (3, .int x3)] [] h 0 0 (pq_qJ Q) := by
  intro n
  induction n with
  | zero =>
    intro _ _ _ hf
    exact False.elim hf
  | succ n ih =>
    intro y1 x3 h hf
    unfold L_X5_number_14 at hf
    refine pz_iload_n dX5_number_14 rfl ?_
    obtain ⟨ha, hb⟩ := hf
    refine pz_if_lt dX5_number_15 (tgt := 38) (by decide) (fun cc => ?_) (fun cc => ?_)
    · have hf := ha cc
      refine pz_lload_n dX5_number_38 rfl ?_
      exact pz_lreturn dX5_number_39 rfl ⟨_, rfl, hf⟩
    · have hf := hb cc
      refine pz_ldc2 dX5_number_18 cn_X5_155 ?_
      refine pz_lload_n dX5_number_21 rfl ?_
      refine pz_lmul dX5_number_22 ?_
      refine pz_aload_n dX5_number_23 rfl ?_
      obtain ⟨_, b1, h1, h2, hf⟩ := hf
      refine pz_get dX5_number_24 fl_X5_43 h1 h2 ?_
      refine pz_iload_n dX5_number_27 rfl ?_
      obtain ⟨_, _, h1, h2, hf⟩ := hf
      refine pz_iald dX5_number_28 h1 h2 ?_
      refine pz_i2l dX5_number_29 ?_
      refine pz_ladd dX5_number_30 ?_
      refine pz_lstore_n dX5_number_31 rfl (by decide) rfl ?_
      refine pz_iinc dX5_number_32 rfl (by rfl) (by decide) rfl ?_
      refine pz_goto dX5_number_35 (tgt := 14) (by decide) ?_
      exact pz_drop (pz_part_of [0, 1, 3] rfl) (ih _ _ _ hf)
def F_X5_number (a0 : Nat) (h : pz_H) (Q : Int64 → pz_H → Prop) : Prop := (pq_gA h a0 5 2 (fun b3 => (pq_gI h a0 5 12 (fun v4 => (pq_aI h b3 v4 (fun v5 => (pq_ex (fun m14 => L_X5_number_14 a0 Q m14 (0 : Int64) (v5 - (1 : Int32)) h))))))))
set_option maxHeartbeats 4000000 in
set_option maxRecDepth 100000 in
theorem k_X5_number (X : pz_X) (d : Nat) (a0 : Nat) (h : pz_H) (Q : Int64 → pz_H → Prop) (hf : F_X5_number a0 h Q) : pz_Call X M_X5_number (d + 0) 0 0 [.ref a0] h (pq_qJ Q) := by
  refine pz_call_of (by decide +kernel) (Nat.le_of_ble_eq_true rfl) ?_
  unfold F_X5_number at hf
  refine pz_lconst (v := (0 : Int64)) dX5_number_0 (by decide) ?_
  refine pz_lstore_n dX5_number_1 rfl (by decide) rfl ?_
  refine pz_aload_n dX5_number_2 rfl ?_
  obtain ⟨_, b3, h1, h2, hf⟩ := hf
  refine pz_get dX5_number_3 fl_X5_13 h1 h2 ?_
  refine pz_aload_n dX5_number_6 rfl ?_
  obtain ⟨_, v4, h1, h2, hf⟩ := hf
  refine pz_get dX5_number_7 fl_X5_117 h1 h2 ?_
  obtain ⟨_, _, h1, h2, hf⟩ := hf
  refine pz_iald dX5_number_10 h1 h2 ?_
  refine pz_iconst (v := (1 : Int32)) dX5_number_11 (by decide) ?_
  refine pz_isub dX5_number_12 ?_
  refine pz_istore_n dX5_number_13 rfl (by decide) rfl ?_
  obtain ⟨n9, hf⟩ := hf
  exact pz_drop (pz_part_of [0, 1, 3] rfl) (kL_X5_number_14 X d _ _  n9 _ _ _ hf)
def L_X5_judge_32 (a0 : Nat) (x1 : Int32)  (Q : Int32 → pz_H → Prop) : Nat → Int32 → pz_H → Prop
  | 0, _, _ => False
  | n + 1, x2, h => (pq_gA h a0 5 2 (fun b1 => (pq_aI h b1 x1 (fun v2 => (pq_br (v2 ≤ x2) (Q (1 : Int32) h) (pq_gA h a0 5 19 (fun b3 => (pq_gA h a0 5 14 (fun b4 => (pq_aI h b4 x2 (fun v5 => (pq_sI h b3 x2 v5 (fun h6 => (L_X5_judge_32 a0 x1 Q n (x2 + (1 : Int32)) h6))))))))))))))
set_option maxHeartbeats 4000000 in
set_option maxRecDepth 100000 in
theorem kL_X5_judge_32 (X : pz_X) (d : Nat) (a0 : Nat) (x1 : Int32)   (Q : Int32 → pz_H → Prop)  : ∀ (n : Nat) (x2 : Int32) (h : pz_H), L_X5_judge_32 a0 x1  Q n x2 h → pz_W (fun _ => True) X M_X5_judge (d + 5) 32 [(0, .ref a0), (1, .int x1), (2, .int x2)] [] h 0 0 (pq_qI Q) := by
  intro n
  induction n with
  | zero =>
    intro _ _ hf
    exact False.elim hf
  | succ n ih =>
    intro x2 h hf
    unfold L_X5_judge_32 at hf
    refine pz_iload_n dX5_judge_32 rfl ?_
    refine pz_aload_n dX5_judge_33 rfl ?_
    obtain ⟨_, b1, h1, h2, hf⟩ := hf
    refine pz_get dX5_judge_34 fl_X5_13 h1 h2 ?_
    refine pz_iload_n dX5_judge_37 rfl ?_
    obtain ⟨_, _, h1, h2, hf⟩ := hf
    refine pz_iald dX5_judge_38 h1 h2 ?_
    obtain ⟨ha, hb⟩ := hf
    refine pz_icmp_ge dX5_judge_39 (tgt := 60) (by decide) (fun cc => ?_) (fun cc => ?_)
    · have hf := ha cc
      refine pz_iconst (v := (1 : Int32)) dX5_judge_60 (by decide) ?_
      exact pz_ireturn dX5_judge_61 rfl rfl ⟨_, rfl, hf⟩
    · have hf := hb cc
      refine pz_aload_n dX5_judge_42 rfl ?_
      obtain ⟨_, b3, h1, h2, hf⟩ := hf
      refine pz_get dX5_judge_43 fl_X5_56 h1 h2 ?_
      refine pz_iload_n dX5_judge_46 rfl ?_
      refine pz_aload_n dX5_judge_47 rfl ?_
      obtain ⟨_, b4, h1, h2, hf⟩ := hf
      refine pz_get dX5_judge_48 fl_X5_43 h1 h2 ?_
      refine pz_iload_n dX5_judge_51 rfl ?_
      obtain ⟨_, _, h1, h2, hf⟩ := hf
      refine pz_iald dX5_judge_52 h1 h2 ?_
      obtain ⟨_, _, h1, h2, hf⟩ := hf
      refine pz_iast dX5_judge_53 h1 h2 ?_
      refine pz_iinc dX5_judge_54 rfl (by rfl) (by decide) rfl ?_
      refine pz_goto dX5_judge_57 (tgt := 32) (by decide) ?_
      exact pz_drop (pz_part_of [0, 1, 2] rfl) (ih _ _ hf)
def F_X5_judge (a0 : Nat) (x1 : Int32) (h : pz_H) (Q : Int32 → pz_H → Prop) : Prop := (pq_o h a0 5 (F_X5_has a0 x1 h (fun v8 h7 => (pq_br (v8 = 0) (Q (-101 : Int32) h7) (pq_o h7 a0 5 (F_X5_begin a0 x1 h7 (fun h9 => (pq_o h9 a0 5 (F_X5_next a0 h9 (fun v11 h10 => (pq_br (v11 = 0) (Q (0 : Int32) h10) (pq_p h10 a0 5 18 (.int x1) (fun h12 => (pq_ex (fun m32 => L_X5_judge_32 a0 x1 Q m32 (0 : Int32) h12)))))))))))))))
set_option maxHeartbeats 4000000 in
set_option maxRecDepth 100000 in
theorem k_X5_judge (X : pz_X) (d : Nat) (a0 : Nat) (x1 : Int32) (h : pz_H) (Q : Int32 → pz_H → Prop) (hf : F_X5_judge a0 x1 h Q) : pz_Call X M_X5_judge (d + 5) 0 0 [.ref a0, .int x1] h (pq_qI Q) := by
  refine pz_call_of (by decide +kernel) (Nat.le_of_ble_eq_true rfl) ?_
  unfold F_X5_judge at hf
  refine pz_aload_n dX5_judge_0 rfl ?_
  refine pz_iload_n dX5_judge_1 rfl ?_
  obtain ⟨_, hO, hf⟩ := hf
  refine pz_callV1 (rc := 0) (rs := 0) (mc := 0) (ms := 0) dX5_judge_2 (k_X5_has X (d + 4) _ _ _ _ hf) (Nat.le_of_ble_eq_true rfl) mf_X5_has ml_X5_85 hO rfl mi_X5_has ms_X5_has (fun _ h9 hq => ?_)
  obtain ⟨_, rfl, hf⟩ := hq
  obtain ⟨ha, hb⟩ := hf
  refine pz_if_ne dX5_judge_5 (tgt := 11) (by decide) (fun cc => ?_) (fun cc => ?_)
  · have hf := hb cc
    refine pz_aload_n dX5_judge_11 rfl ?_
    refine pz_iload_n dX5_judge_12 rfl ?_
    obtain ⟨_, hO, hf⟩ := hf
    refine pz_callV1 (rc := 0) (rs := 0) (mc := 0) (ms := 0) dX5_judge_13 (k_X5_begin X (d + 2) _ _ _ _ hf) (Nat.le_of_ble_eq_true rfl) mf_X5_begin ml_X5_157 hO rfl mi_X5_begin ms_X5_begin (fun _ h9 hq => ?_)
    obtain ⟨rfl, hf⟩ := hq
    refine pz_aload_n dX5_judge_16 rfl ?_
    obtain ⟨_, hO, hf⟩ := hf
    refine pz_callV0 (rc := 0) (rs := 0) (mc := 0) (ms := 0) dX5_judge_17 (k_X5_next X d _ _ _ hf) (Nat.le_of_ble_eq_true rfl) mf_X5_next ml_X5_161 hO rfl mi_X5_next ms_X5_next (fun _ h9 hq => ?_)
    obtain ⟨_, rfl, hf⟩ := hq
    obtain ⟨ha, hb⟩ := hf
    refine pz_if_ne dX5_judge_20 (tgt := 25) (by decide) (fun cc => ?_) (fun cc => ?_)
    · have hf := hb cc
      refine pz_aload_n dX5_judge_25 rfl ?_
      refine pz_iload_n dX5_judge_26 rfl ?_
      obtain ⟨_, h1, h2, hf⟩ := hf
      refine pz_put dX5_judge_27 fp_X5_52 h1 rfl rfl h2 ?_
      refine pz_iconst (v := (0 : Int32)) dX5_judge_30 (by decide) ?_
      refine pz_istore_n dX5_judge_31 rfl (by decide) rfl ?_
      obtain ⟨n9, hf⟩ := hf
      exact pz_drop (pz_part_of [0, 1, 2] rfl) (kL_X5_judge_32 X d _ _ _  n9 _ _ hf)
    · have hf := ha cc
      refine pz_iconst (v := (0 : Int32)) dX5_judge_23 (by decide) ?_
      exact pz_ireturn dX5_judge_24 rfl rfl ⟨_, rfl, hf⟩
  · have hf := ha cc
    refine pz_bipush (v := (-101 : Int32)) dX5_judge_8 (by decide) ?_
    exact pz_ireturn dX5_judge_10 rfl rfl ⟨_, rfl, hf⟩
def B_X5_layer_41 (xs0 : Int32)  (Q : Int32 → pz_H → Prop) (h : pz_H) : Prop := (Q xs0 h)
set_option maxHeartbeats 4000000 in
set_option maxRecDepth 100000 in
theorem kB_X5_layer_41 (X : pz_X) (d : Nat) (xs0 : Int32)   (Q : Int32 → pz_H → Prop) (h : pz_H)  (hf : B_X5_layer_41 xs0  Q h) : pz_W (fun _ => True) X M_X5_layer (d + 0) 41 [] [.int xs0] h 0 0 (pq_qI Q) := by
  unfold B_X5_layer_41 at hf
  exact pz_ireturn dX5_layer_41 rfl rfl ⟨_, rfl, hf⟩
def B_X5_layer_30   (Q : Int32 → pz_H → Prop) (h : pz_H) : Prop := (B_X5_layer_41 (-102 : Int32) Q h)
set_option maxHeartbeats 4000000 in
set_option maxRecDepth 100000 in
theorem kB_X5_layer_30 (X : pz_X) (d : Nat)    (Q : Int32 → pz_H → Prop) (h : pz_H)  (hf : B_X5_layer_30   Q h) : pz_W (fun _ => True) X M_X5_layer (d + 0) 30 [] [] h 0 0 (pq_qI Q) := by
  unfold B_X5_layer_30 at hf
  refine pz_bipush (v := (-102 : Int32)) dX5_layer_30 (by decide) ?_
  refine pz_goto dX5_layer_32 (tgt := 41) (by decide) ?_
  exact pz_drop (pz_part_of [] rfl) (kB_X5_layer_41 X d _ _ _  hf)
def F_X5_layer (a0 : Nat) (x1 : Int32) (h : pz_H) (Q : Int32 → pz_H → Prop) : Prop := (pq_gI h a0 5 18 (fun v1 => (pq_br (v1 = (-1 : Int32)) (B_X5_layer_41 (-103 : Int32) Q h) (pq_br (x1 < 0) (B_X5_layer_30 Q h) (pq_gA h a0 5 2 (fun b2 => (pq_gI h a0 5 18 (fun v3 => (pq_aI h b2 v3 (fun v4 => (pq_br (x1 < v4) (pq_gA h a0 5 19 (fun b5 => (pq_aI h b5 x1 (fun v6 => (B_X5_layer_41 v6 Q h))))) (B_X5_layer_30 Q h))))))))))))
set_option maxHeartbeats 4000000 in
set_option maxRecDepth 100000 in
theorem k_X5_layer (X : pz_X) (d : Nat) (a0 : Nat) (x1 : Int32) (h : pz_H) (Q : Int32 → pz_H → Prop) (hf : F_X5_layer a0 x1 h Q) : pz_Call X M_X5_layer (d + 0) 0 0 [.ref a0, .int x1] h (pq_qI Q) := by
  refine pz_call_of (by decide +kernel) (Nat.le_of_ble_eq_true rfl) ?_
  unfold F_X5_layer at hf
  refine pz_aload_n dX5_layer_0 rfl ?_
  obtain ⟨_, v1, h1, h2, hf⟩ := hf
  refine pz_get dX5_layer_1 fl_X5_52 h1 h2 ?_
  refine pz_iconst (v := (-1 : Int32)) dX5_layer_4 (by decide) ?_
  obtain ⟨ha, hb⟩ := hf
  refine pz_icmp_ne dX5_layer_5 (tgt := 13) (by decide) (fun cc => ?_) (fun cc => ?_)
  · have hf := hb cc
    refine pz_iload_n dX5_layer_13 rfl ?_
    obtain ⟨ha, hb⟩ := hf
    refine pz_if_lt dX5_layer_14 (tgt := 30) (by decide) (fun cc => ?_) (fun cc => ?_)
    · have hf := ha cc
      exact pz_drop (pz_part_of [] rfl) (kB_X5_layer_30 X d _ _  hf)
    · have hf := hb cc
      refine pz_iload_n dX5_layer_17 rfl ?_
      refine pz_aload_n dX5_layer_18 rfl ?_
      obtain ⟨_, b2, h1, h2, hf⟩ := hf
      refine pz_get dX5_layer_19 fl_X5_13 h1 h2 ?_
      refine pz_aload_n dX5_layer_22 rfl ?_
      obtain ⟨_, v3, h1, h2, hf⟩ := hf
      refine pz_get dX5_layer_23 fl_X5_52 h1 h2 ?_
      obtain ⟨_, _, h1, h2, hf⟩ := hf
      refine pz_iald dX5_layer_26 h1 h2 ?_
      obtain ⟨ha, hb⟩ := hf
      refine pz_icmp_lt dX5_layer_27 (tgt := 35) (by decide) (fun cc => ?_) (fun cc => ?_)
      · have hf := ha cc
        refine pz_aload_n dX5_layer_35 rfl ?_
        obtain ⟨_, b5, h1, h2, hf⟩ := hf
        refine pz_get dX5_layer_36 fl_X5_56 h1 h2 ?_
        refine pz_iload_n dX5_layer_39 rfl ?_
        obtain ⟨_, _, h1, h2, hf⟩ := hf
        refine pz_iald dX5_layer_40 h1 h2 ?_
        exact pz_drop (pz_part_of [] rfl) (kB_X5_layer_41 X d _ _ _  hf)
      · have hf := hb cc
        exact pz_drop (pz_part_of [] rfl) (kB_X5_layer_30 X d _ _  hf)
  · have hf := ha cc
    refine pz_bipush (v := (-103 : Int32)) dX5_layer_8 (by decide) ?_
    refine pz_goto dX5_layer_10 (tgt := 41) (by decide) ?_
    exact pz_drop (pz_part_of [] rfl) (kB_X5_layer_41 X d _ _ _  hf)
def L_X5_turned_36 (a0 : Nat) (x1 : Int32)  (Q : Int32 → pz_H → Prop) : Nat → Int32 → pz_H → Prop
  | 0, _, _ => False
  | n + 1, x2, h => (pq_gA h a0 5 2 (fun b1 => (pq_gI h a0 5 12 (fun v2 => (pq_aI h b1 v2 (fun v3 => (pq_br (v3 ≤ x2) (pq_o h a0 5 (F_X5_markIn a0 x1 h (fun v5 h4 => (Q v5 h4)))) (pq_gA h a0 5 16 (fun b6 => (pq_gA h a0 5 19 (fun b7 => (pq_aI h b7 x2 (fun v8 => (pq_sI h b6 v8 x2 (fun h9 => (L_X5_turned_36 a0 x1 Q n (x2 + (1 : Int32)) h9))))))))))))))))
set_option maxHeartbeats 4000000 in
set_option maxRecDepth 100000 in
theorem kL_X5_turned_36 (X : pz_X) (d : Nat) (a0 : Nat) (x1 : Int32)   (Q : Int32 → pz_H → Prop)  : ∀ (n : Nat) (x2 : Int32) (h : pz_H), L_X5_turned_36 a0 x1  Q n x2 h → pz_W (fun _ => True) X M_X5_turned (d + 2) 36 [(0, .ref a0), (1, .int x1), (2, .int x2)] [] h 0 0 (pq_qI Q) := by
  intro n
  induction n with
  | zero =>
    intro _ _ hf
    exact False.elim hf
  | succ n ih =>
    intro x2 h hf
    unfold L_X5_turned_36 at hf
    refine pz_iload_n dX5_turned_36 rfl ?_
    refine pz_aload_n dX5_turned_37 rfl ?_
    obtain ⟨_, b1, h1, h2, hf⟩ := hf
    refine pz_get dX5_turned_38 fl_X5_13 h1 h2 ?_
    refine pz_aload_n dX5_turned_41 rfl ?_
    obtain ⟨_, v2, h1, h2, hf⟩ := hf
    refine pz_get dX5_turned_42 fl_X5_117 h1 h2 ?_
    obtain ⟨_, _, h1, h2, hf⟩ := hf
    refine pz_iald dX5_turned_45 h1 h2 ?_
    obtain ⟨ha, hb⟩ := hf
    refine pz_icmp_ge dX5_turned_46 (tgt := 67) (by decide) (fun cc => ?_) (fun cc => ?_)
    · have hf := ha cc
      refine pz_aload_n dX5_turned_67 rfl ?_
      refine pz_iload_n dX5_turned_68 rfl ?_
      obtain ⟨_, hO, hf⟩ := hf
      refine pz_callV1 (rc := 0) (rs := 0) (mc := 0) (ms := 0) dX5_turned_69 (k_X5_markIn X d _ _ _ _ hf) (Nat.le_of_ble_eq_true rfl) mf_X5_markIn ml_X5_143 hO rfl mi_X5_markIn ms_X5_markIn (fun _ h9 hq => ?_)
      obtain ⟨_, rfl, hf⟩ := hq
      exact pz_ireturn dX5_turned_72 rfl rfl ⟨_, rfl, hf⟩
    · have hf := hb cc
      refine pz_aload_n dX5_turned_49 rfl ?_
      obtain ⟨_, b6, h1, h2, hf⟩ := hf
      refine pz_get dX5_turned_50 fl_X5_46 h1 h2 ?_
      refine pz_aload_n dX5_turned_53 rfl ?_
      obtain ⟨_, b7, h1, h2, hf⟩ := hf
      refine pz_get dX5_turned_54 fl_X5_56 h1 h2 ?_
      refine pz_iload_n dX5_turned_57 rfl ?_
      obtain ⟨_, _, h1, h2, hf⟩ := hf
      refine pz_iald dX5_turned_58 h1 h2 ?_
      refine pz_iload_n dX5_turned_59 rfl ?_
      obtain ⟨_, _, h1, h2, hf⟩ := hf
      refine pz_iast dX5_turned_60 h1 h2 ?_
      refine pz_iinc dX5_turned_61 rfl (by rfl) (by decide) rfl ?_
      refine pz_goto dX5_turned_64 (tgt := 36) (by decide) ?_
      exact pz_drop (pz_part_of [0, 1, 2] rfl) (ih _ _ hf)
def F_X5_turned (a0 : Nat) (x1 : Int32) (h : pz_H) (Q : Int32 → pz_H → Prop) : Prop := (pq_gI h a0 5 18 (fun v10 => (pq_br (v10 = (-1 : Int32)) (Q (-103 : Int32) h) (pq_gI h a0 5 18 (fun v11 => (pq_o h a0 5 (F_X5_hasCrease a0 v11 x1 h (fun v13 h12 => (pq_br (v13 = 0) (Q (-101 : Int32) h12) (pq_gI h12 a0 5 18 (fun v14 => (pq_p h12 a0 5 12 (.int v14) (fun h15 => (pq_ex (fun m36 => L_X5_turned_36 a0 x1 Q m36 (0 : Int32) h15)))))))))))))))
set_option maxHeartbeats 4000000 in
set_option maxRecDepth 100000 in
theorem k_X5_turned (X : pz_X) (d : Nat) (a0 : Nat) (x1 : Int32) (h : pz_H) (Q : Int32 → pz_H → Prop) (hf : F_X5_turned a0 x1 h Q) : pz_Call X M_X5_turned (d + 2) 0 0 [.ref a0, .int x1] h (pq_qI Q) := by
  refine pz_call_of (by decide +kernel) (Nat.le_of_ble_eq_true rfl) ?_
  unfold F_X5_turned at hf
  refine pz_aload_n dX5_turned_0 rfl ?_
  obtain ⟨_, v10, h1, h2, hf⟩ := hf
  refine pz_get dX5_turned_1 fl_X5_52 h1 h2 ?_
  refine pz_iconst (v := (-1 : Int32)) dX5_turned_4 (by decide) ?_
  obtain ⟨ha, hb⟩ := hf
  refine pz_icmp_ne dX5_turned_5 (tgt := 11) (by decide) (fun cc => ?_) (fun cc => ?_)
  · have hf := hb cc
    refine pz_aload_n dX5_turned_11 rfl ?_
    refine pz_aload_n dX5_turned_12 rfl ?_
    obtain ⟨_, v11, h1, h2, hf⟩ := hf
    refine pz_get dX5_turned_13 fl_X5_52 h1 h2 ?_
    refine pz_iload_n dX5_turned_16 rfl ?_
    obtain ⟨_, hO, hf⟩ := hf
    refine pz_callV2 (rc := 0) (rs := 0) (mc := 0) (ms := 0) dX5_turned_17 (k_X5_hasCrease X d _ _ _ _ _ hf) (Nat.le_of_ble_eq_true rfl) mf_X5_hasCrease ml_X5_101 hO rfl mi_X5_hasCrease ms_X5_hasCrease (fun _ h9 hq => ?_)
    obtain ⟨_, rfl, hf⟩ := hq
    obtain ⟨ha, hb⟩ := hf
    refine pz_if_ne dX5_turned_20 (tgt := 26) (by decide) (fun cc => ?_) (fun cc => ?_)
    · have hf := hb cc
      refine pz_aload_n dX5_turned_26 rfl ?_
      refine pz_aload_n dX5_turned_27 rfl ?_
      obtain ⟨_, v14, h1, h2, hf⟩ := hf
      refine pz_get dX5_turned_28 fl_X5_52 h1 h2 ?_
      obtain ⟨_, h1, h2, hf⟩ := hf
      refine pz_put dX5_turned_31 fp_X5_117 h1 rfl rfl h2 ?_
      refine pz_iconst (v := (0 : Int32)) dX5_turned_34 (by decide) ?_
      refine pz_istore_n dX5_turned_35 rfl (by decide) rfl ?_
      obtain ⟨n9, hf⟩ := hf
      exact pz_drop (pz_part_of [0, 1, 2] rfl) (kL_X5_turned_36 X d _ _ _  n9 _ _ hf)
    · have hf := ha cc
      refine pz_bipush (v := (-101 : Int32)) dX5_turned_23 (by decide) ?_
      exact pz_ireturn dX5_turned_25 rfl rfl ⟨_, rfl, hf⟩
  · have hf := ha cc
    refine pz_bipush (v := (-103 : Int32)) dX5_turned_8 (by decide) ?_
    exact pz_ireturn dX5_turned_10 rfl rfl ⟨_, rfl, hf⟩
def L_X5_orders_18 (a0 : Nat)  (Q : Int32 → pz_H → Prop) : Nat → Int32 → pz_H → Prop
  | 0, _, _ => False
  | n + 1, x2, h => (pq_o h a0 5 (F_X5_next a0 h (fun v2 h1 => (pq_br (v2 = 0) (Q x2 h1) (L_X5_orders_18 a0 Q n (x2 + (1 : Int32)) h1)))))
set_option maxHeartbeats 4000000 in
set_option maxRecDepth 100000 in
theorem kL_X5_orders_18 (X : pz_X) (d : Nat) (a0 : Nat)   (Q : Int32 → pz_H → Prop)  : ∀ (n : Nat) (x2 : Int32) (h : pz_H), L_X5_orders_18 a0  Q n x2 h → pz_W (fun _ => True) X M_X5_orders (d + 5) 18 [(0, .ref a0), (2, .int x2)] [] h 0 0 (pq_qI Q) := by
  intro n
  induction n with
  | zero =>
    intro _ _ hf
    exact False.elim hf
  | succ n ih =>
    intro x2 h hf
    unfold L_X5_orders_18 at hf
    refine pz_aload_n dX5_orders_18 rfl ?_
    obtain ⟨_, hO, hf⟩ := hf
    refine pz_callV0 (rc := 0) (rs := 0) (mc := 0) (ms := 0) dX5_orders_19 (k_X5_next X d _ _ _ hf) (Nat.le_of_ble_eq_true rfl) mf_X5_next ml_X5_161 hO rfl mi_X5_next ms_X5_next (fun _ h9 hq => ?_)
    obtain ⟨_, rfl, hf⟩ := hq
    obtain ⟨ha, hb⟩ := hf
    refine pz_if_eq dX5_orders_22 (tgt := 31) (by decide) (fun cc => ?_) (fun cc => ?_)
    · have hf := ha cc
      refine pz_iload_n dX5_orders_31 rfl ?_
      exact pz_ireturn dX5_orders_32 rfl rfl ⟨_, rfl, hf⟩
    · have hf := hb cc
      refine pz_iinc dX5_orders_25 rfl (by rfl) (by decide) rfl ?_
      refine pz_goto dX5_orders_28 (tgt := 18) (by decide) ?_
      exact pz_drop (pz_part_of [0, 2] rfl) (ih _ _ hf)
def F_X5_orders (a0 : Nat) (x1 : Int32) (h : pz_H) (Q : Int32 → pz_H → Prop) : Prop := (pq_o h a0 5 (F_X5_has a0 x1 h (fun v4 h3 => (pq_br (v4 = 0) (Q (-101 : Int32) h3) (pq_o h3 a0 5 (F_X5_begin a0 x1 h3 (fun h5 => (pq_ex (fun m18 => L_X5_orders_18 a0 Q m18 (0 : Int32) h5)))))))))
set_option maxHeartbeats 4000000 in
set_option maxRecDepth 100000 in
theorem k_X5_orders (X : pz_X) (d : Nat) (a0 : Nat) (x1 : Int32) (h : pz_H) (Q : Int32 → pz_H → Prop) (hf : F_X5_orders a0 x1 h Q) : pz_Call X M_X5_orders (d + 5) 0 0 [.ref a0, .int x1] h (pq_qI Q) := by
  refine pz_call_of (by decide +kernel) (Nat.le_of_ble_eq_true rfl) ?_
  unfold F_X5_orders at hf
  refine pz_aload_n dX5_orders_0 rfl ?_
  refine pz_iload_n dX5_orders_1 rfl ?_
  obtain ⟨_, hO, hf⟩ := hf
  refine pz_callV1 (rc := 0) (rs := 0) (mc := 0) (ms := 0) dX5_orders_2 (k_X5_has X (d + 4) _ _ _ _ hf) (Nat.le_of_ble_eq_true rfl) mf_X5_has ml_X5_85 hO rfl mi_X5_has ms_X5_has (fun _ h9 hq => ?_)
  obtain ⟨_, rfl, hf⟩ := hq
  obtain ⟨ha, hb⟩ := hf
  refine pz_if_ne dX5_orders_5 (tgt := 11) (by decide) (fun cc => ?_) (fun cc => ?_)
  · have hf := hb cc
    refine pz_aload_n dX5_orders_11 rfl ?_
    refine pz_iload_n dX5_orders_12 rfl ?_
    obtain ⟨_, hO, hf⟩ := hf
    refine pz_callV1 (rc := 0) (rs := 0) (mc := 0) (ms := 0) dX5_orders_13 (k_X5_begin X (d + 2) _ _ _ _ hf) (Nat.le_of_ble_eq_true rfl) mf_X5_begin ml_X5_157 hO rfl mi_X5_begin ms_X5_begin (fun _ h9 hq => ?_)
    obtain ⟨rfl, hf⟩ := hq
    refine pz_iconst (v := (0 : Int32)) dX5_orders_16 (by decide) ?_
    refine pz_istore_n dX5_orders_17 rfl (by decide) rfl ?_
    obtain ⟨n9, hf⟩ := hf
    exact pz_drop (pz_part_of [0, 2] rfl) (kL_X5_orders_18 X d _ _  n9 _ _ hf)
  · have hf := ha cc
    refine pz_bipush (v := (-101 : Int32)) dX5_orders_8 (by decide) ?_
    exact pz_ireturn dX5_orders_10 rfl rfl ⟨_, rfl, hf⟩
def B_X5_order_46   (Q : Int64 → pz_H → Prop) (h : pz_H) : Prop := (Q (-102 : Int64) h)
set_option maxHeartbeats 4000000 in
set_option maxRecDepth 100000 in
theorem kB_X5_order_46 (X : pz_X) (d : Nat)    (Q : Int64 → pz_H → Prop) (h : pz_H)  (hf : B_X5_order_46   Q h) : pz_W (fun _ => True) X M_X5_order (d + 5) 46 [] [] h 0 0 (pq_qJ Q) := by
  unfold B_X5_order_46 at hf
  refine pz_ldc2 dX5_order_46 cn_X5_171 ?_
  exact pz_lreturn dX5_order_49 rfl ⟨_, rfl, hf⟩
def L_X5_order_19 (a0 : Nat) (x2 : Int32)  (Q : Int64 → pz_H → Prop) : Nat → Int32 → pz_H → Prop
  | 0, _, _ => False
  | n + 1, x3, h => (pq_br (x2 < 0) (B_X5_order_46 Q h) (pq_o h a0 5 (F_X5_next a0 h (fun v2 h1 => (pq_br (v2 = 0) (B_X5_order_46 Q h1) (pq_br (x3 = x2) (pq_o h1 a0 5 (F_X5_number a0 h1 (fun v4 h3 => (Q v4 h3)))) (L_X5_order_19 a0 x2 Q n (x3 + (1 : Int32)) h1)))))))
set_option maxHeartbeats 4000000 in
set_option maxRecDepth 100000 in
theorem kL_X5_order_19 (X : pz_X) (d : Nat) (a0 : Nat) (x2 : Int32)   (Q : Int64 → pz_H → Prop)  : ∀ (n : Nat) (x3 : Int32) (h : pz_H), L_X5_order_19 a0 x2  Q n x3 h → pz_W (fun _ => True) X M_X5_order (d + 5) 19 [(0, .ref a0), (2, .int x2), (3, .int x3)] [] h 0 0 (pq_qJ Q) := by
  intro n
  induction n with
  | zero =>
    intro _ _ hf
    exact False.elim hf
  | succ n ih =>
    intro x3 h hf
    unfold L_X5_order_19 at hf
    refine pz_iload_n dX5_order_19 rfl ?_
    obtain ⟨ha, hb⟩ := hf
    refine pz_if_lt dX5_order_20 (tgt := 46) (by decide) (fun cc => ?_) (fun cc => ?_)
    · have hf := ha cc
      exact pz_drop (pz_part_of [] rfl) (kB_X5_order_46 X d _ _  hf)
    · have hf := hb cc
      refine pz_aload_n dX5_order_23 rfl ?_
      obtain ⟨_, hO, hf⟩ := hf
      refine pz_callV0 (rc := 0) (rs := 0) (mc := 0) (ms := 0) dX5_order_24 (k_X5_next X d _ _ _ hf) (Nat.le_of_ble_eq_true rfl) mf_X5_next ml_X5_161 hO rfl mi_X5_next ms_X5_next (fun _ h9 hq => ?_)
      obtain ⟨_, rfl, hf⟩ := hq
      obtain ⟨ha, hb⟩ := hf
      refine pz_if_eq dX5_order_27 (tgt := 46) (by decide) (fun cc => ?_) (fun cc => ?_)
      · have hf := ha cc
        exact pz_drop (pz_part_of [] rfl) (kB_X5_order_46 X d _ _  hf)
      · have hf := hb cc
        refine pz_iload_n dX5_order_30 rfl ?_
        refine pz_iload_n dX5_order_31 rfl ?_
        obtain ⟨ha, hb⟩ := hf
        refine pz_icmp_ne dX5_order_32 (tgt := 40) (by decide) (fun cc => ?_) (fun cc => ?_)
        · have hf := hb cc
          refine pz_iinc dX5_order_40 rfl (by rfl) (by decide) rfl ?_
          refine pz_goto dX5_order_43 (tgt := 19) (by decide) ?_
          exact pz_drop (pz_part_of [0, 2, 3] rfl) (ih _ _ hf)
        · have hf := ha cc
          refine pz_aload_n dX5_order_35 rfl ?_
          obtain ⟨_, hO, hf⟩ := hf
          refine pz_callV0 (rc := 0) (rs := 0) (mc := 0) (ms := 0) dX5_order_36 (k_X5_number X (d + 4) _ _ _ hf) (Nat.le_of_ble_eq_true rfl) mf_X5_number ml_X5_167 hO rfl mi_X5_number ms_X5_number (fun _ h9 hq => ?_)
          obtain ⟨_, rfl, hf⟩ := hq
          exact pz_lreturn dX5_order_39 rfl ⟨_, rfl, hf⟩
def F_X5_order (a0 : Nat) (x1 : Int32) (x2 : Int32) (h : pz_H) (Q : Int64 → pz_H → Prop) : Prop := (pq_o h a0 5 (F_X5_has a0 x1 h (fun v6 h5 => (pq_br (v6 = 0) (Q (-101 : Int64) h5) (pq_o h5 a0 5 (F_X5_begin a0 x1 h5 (fun h7 => (pq_ex (fun m19 => L_X5_order_19 a0 x2 Q m19 (0 : Int32) h7)))))))))
set_option maxHeartbeats 4000000 in
set_option maxRecDepth 100000 in
theorem k_X5_order (X : pz_X) (d : Nat) (a0 : Nat) (x1 : Int32) (x2 : Int32) (h : pz_H) (Q : Int64 → pz_H → Prop) (hf : F_X5_order a0 x1 x2 h Q) : pz_Call X M_X5_order (d + 5) 0 0 [.ref a0, .int x1, .int x2] h (pq_qJ Q) := by
  refine pz_call_of (by decide +kernel) (Nat.le_of_ble_eq_true rfl) ?_
  unfold F_X5_order at hf
  refine pz_aload_n dX5_order_0 rfl ?_
  refine pz_iload_n dX5_order_1 rfl ?_
  obtain ⟨_, hO, hf⟩ := hf
  refine pz_callV1 (rc := 0) (rs := 0) (mc := 0) (ms := 0) dX5_order_2 (k_X5_has X (d + 4) _ _ _ _ hf) (Nat.le_of_ble_eq_true rfl) mf_X5_has ml_X5_85 hO rfl mi_X5_has ms_X5_has (fun _ h9 hq => ?_)
  obtain ⟨_, rfl, hf⟩ := hq
  obtain ⟨ha, hb⟩ := hf
  refine pz_if_ne dX5_order_5 (tgt := 12) (by decide) (fun cc => ?_) (fun cc => ?_)
  · have hf := hb cc
    refine pz_aload_n dX5_order_12 rfl ?_
    refine pz_iload_n dX5_order_13 rfl ?_
    obtain ⟨_, hO, hf⟩ := hf
    refine pz_callV1 (rc := 0) (rs := 0) (mc := 0) (ms := 0) dX5_order_14 (k_X5_begin X (d + 2) _ _ _ _ hf) (Nat.le_of_ble_eq_true rfl) mf_X5_begin ml_X5_157 hO rfl mi_X5_begin ms_X5_begin (fun _ h9 hq => ?_)
    obtain ⟨rfl, hf⟩ := hq
    refine pz_iconst (v := (0 : Int32)) dX5_order_17 (by decide) ?_
    refine pz_istore_n dX5_order_18 rfl (by decide) rfl ?_
    obtain ⟨n9, hf⟩ := hf
    exact pz_drop (pz_part_of [0, 2, 3] rfl) (kL_X5_order_19 X d _ _ _  n9 _ _ hf)
  · have hf := ha cc
    refine pz_ldc2 dX5_order_8 cn_X5_165 ?_
    exact pz_lreturn dX5_order_11 rfl ⟨_, rfl, hf⟩
def B_X5_isBetween_76 (xs0 : Int32)  (Q : Int32 → pz_H → Prop) (h : pz_H) : Prop := (pq_z xs0 (Q xs0 h))
set_option maxHeartbeats 4000000 in
set_option maxRecDepth 100000 in
theorem kB_X5_isBetween_76 (X : pz_X) (d : Nat) (xs0 : Int32)   (Q : Int32 → pz_H → Prop) (h : pz_H)  (hf : B_X5_isBetween_76 xs0  Q h) : pz_W (fun _ => True) X M_X5_isBetween (d + 1) 76 [] [.int xs0] h 0 0 (pq_qI Q) := by
  unfold B_X5_isBetween_76 at hf
  obtain ⟨hz, hf⟩ := hf
  exact pz_ireturn dX5_isBetween_76 rfl hz ⟨_, rfl, hf⟩
def B_X5_isBetween_75   (Q : Int32 → pz_H → Prop) (h : pz_H) : Prop := (B_X5_isBetween_76 (0 : Int32) Q h)
set_option maxHeartbeats 4000000 in
set_option maxRecDepth 100000 in
theorem kB_X5_isBetween_75 (X : pz_X) (d : Nat)    (Q : Int32 → pz_H → Prop) (h : pz_H)  (hf : B_X5_isBetween_75   Q h) : pz_W (fun _ => True) X M_X5_isBetween (d + 1) 75 [] [] h 0 0 (pq_qI Q) := by
  unfold B_X5_isBetween_75 at hf
  refine pz_iconst (v := (0 : Int32)) dX5_isBetween_75 (by decide) ?_
  exact pz_drop (pz_part_of [] rfl) (kB_X5_isBetween_76 X d _ _ _  hf)
def F_X5_isBetween (a0 : Nat) (x1 : Int32) (x2 : Int32) (h : pz_H) (Q : Int32 → pz_H → Prop) : Prop := (pq_gA h a0 5 16 (fun b1 => (pq_gA h a0 5 7 (fun b2 => (pq_gI h a0 5 12 (fun v3 => (pq_aI h b2 (((12 : Int32) * v3) + x1) (fun v4 => (pq_aI h b1 v4 (fun v5 => (pq_gA h a0 5 16 (fun b6 => (pq_gA h a0 5 8 (fun b7 => (pq_gI h a0 5 12 (fun v8 => (pq_aI h b7 (((12 : Int32) * v8) + x1) (fun v9 => (pq_aI h b6 v9 (fun v10 => (pq_gA h a0 5 16 (fun b11 => (pq_aI h b11 x2 (fun v12 => (F_X5_lesser v5 v10 h (fun v14 h13 => (pq_br (v12 ≤ v14) (B_X5_isBetween_75 Q h13) (pq_gA h13 a0 5 16 (fun b15 => (pq_aI h13 b15 x2 (fun v16 => (F_X5_greater v5 v10 h13 (fun v18 h17 => (pq_br (v18 ≤ v16) (B_X5_isBetween_75 Q h17) (B_X5_isBetween_76 (1 : Int32) Q h17)))))))))))))))))))))))))))))))))))
set_option maxHeartbeats 4000000 in
set_option maxRecDepth 100000 in
theorem k_X5_isBetween (X : pz_X) (d : Nat) (a0 : Nat) (x1 : Int32) (x2 : Int32) (h : pz_H) (Q : Int32 → pz_H → Prop) (hf : F_X5_isBetween a0 x1 x2 h Q) : pz_Call X M_X5_isBetween (d + 1) 0 0 [.ref a0, .int x1, .int x2] h (pq_qI Q) := by
  refine pz_call_of (by decide +kernel) (Nat.le_of_ble_eq_true rfl) ?_
  unfold F_X5_isBetween at hf
  refine pz_aload_n dX5_isBetween_0 rfl ?_
  obtain ⟨_, b1, h1, h2, hf⟩ := hf
  refine pz_get dX5_isBetween_1 fl_X5_46 h1 h2 ?_
  refine pz_aload_n dX5_isBetween_4 rfl ?_
  obtain ⟨_, b2, h1, h2, hf⟩ := hf
  refine pz_get dX5_isBetween_5 fl_X5_28 h1 h2 ?_
  refine pz_bipush (v := (12 : Int32)) dX5_isBetween_8 (by decide) ?_
  refine pz_aload_n dX5_isBetween_10 rfl ?_
  obtain ⟨_, v3, h1, h2, hf⟩ := hf
  refine pz_get dX5_isBetween_11 fl_X5_117 h1 h2 ?_
  refine pz_imul dX5_isBetween_14 ?_
  refine pz_iload_n dX5_isBetween_15 rfl ?_
  refine pz_iadd dX5_isBetween_16 ?_
  obtain ⟨_, _, h1, h2, hf⟩ := hf
  refine pz_iald dX5_isBetween_17 h1 h2 ?_
  obtain ⟨_, _, h1, h2, hf⟩ := hf
  refine pz_iald dX5_isBetween_18 h1 h2 ?_
  refine pz_istore_n dX5_isBetween_19 rfl (by decide) rfl ?_
  refine pz_aload_n dX5_isBetween_20 rfl ?_
  obtain ⟨_, b6, h1, h2, hf⟩ := hf
  refine pz_get dX5_isBetween_21 fl_X5_46 h1 h2 ?_
  refine pz_aload_n dX5_isBetween_24 rfl ?_
  obtain ⟨_, b7, h1, h2, hf⟩ := hf
  refine pz_get dX5_isBetween_25 fl_X5_31 h1 h2 ?_
  refine pz_bipush (v := (12 : Int32)) dX5_isBetween_28 (by decide) ?_
  refine pz_aload_n dX5_isBetween_30 rfl ?_
  obtain ⟨_, v8, h1, h2, hf⟩ := hf
  refine pz_get dX5_isBetween_31 fl_X5_117 h1 h2 ?_
  refine pz_imul dX5_isBetween_34 ?_
  refine pz_iload_n dX5_isBetween_35 rfl ?_
  refine pz_iadd dX5_isBetween_36 ?_
  obtain ⟨_, _, h1, h2, hf⟩ := hf
  refine pz_iald dX5_isBetween_37 h1 h2 ?_
  obtain ⟨_, _, h1, h2, hf⟩ := hf
  refine pz_iald dX5_isBetween_38 h1 h2 ?_
  refine pz_istore dX5_isBetween_39 (by decide) rfl ?_
  refine pz_aload_n dX5_isBetween_41 rfl ?_
  obtain ⟨_, b11, h1, h2, hf⟩ := hf
  refine pz_get dX5_isBetween_42 fl_X5_46 h1 h2 ?_
  refine pz_iload_n dX5_isBetween_45 rfl ?_
  obtain ⟨_, _, h1, h2, hf⟩ := hf
  refine pz_iald dX5_isBetween_46 h1 h2 ?_
  refine pz_iload_n dX5_isBetween_47 rfl ?_
  refine pz_iload dX5_isBetween_48 rfl ?_
  refine pz_callS2 (rc := 0) (rs := 0) (mc := 0) (ms := 0) dX5_isBetween_50 (k_X5_lesser X d _ _ _ _ hf) (Nat.le_of_ble_eq_true rfl) mf_X5_lesser ml_X5_127 mt_X5_lesser (fun _ h9 hq => ?_)
  obtain ⟨_, rfl, hf⟩ := hq
  obtain ⟨ha, hb⟩ := hf
  refine pz_icmp_le dX5_isBetween_53 (tgt := 75) (by decide) (fun cc => ?_) (fun cc => ?_)
  · have hf := ha cc
    exact pz_drop (pz_part_of [] rfl) (kB_X5_isBetween_75 X d _ _  hf)
  · have hf := hb cc
    refine pz_aload_n dX5_isBetween_56 rfl ?_
    obtain ⟨_, b15, h1, h2, hf⟩ := hf
    refine pz_get dX5_isBetween_57 fl_X5_46 h1 h2 ?_
    refine pz_iload_n dX5_isBetween_60 rfl ?_
    obtain ⟨_, _, h1, h2, hf⟩ := hf
    refine pz_iald dX5_isBetween_61 h1 h2 ?_
    refine pz_iload_n dX5_isBetween_62 rfl ?_
    refine pz_iload dX5_isBetween_63 rfl ?_
    refine pz_callS2 (rc := 0) (rs := 0) (mc := 0) (ms := 0) dX5_isBetween_65 (k_X5_greater X d _ _ _ _ hf) (Nat.le_of_ble_eq_true rfl) mf_X5_greater ml_X5_130 mt_X5_greater (fun _ h9 hq => ?_)
    obtain ⟨_, rfl, hf⟩ := hq
    obtain ⟨ha, hb⟩ := hf
    refine pz_icmp_ge dX5_isBetween_68 (tgt := 75) (by decide) (fun cc => ?_) (fun cc => ?_)
    · have hf := ha cc
      exact pz_drop (pz_part_of [] rfl) (kB_X5_isBetween_75 X d _ _  hf)
    · have hf := hb cc
      refine pz_iconst (v := (1 : Int32)) dX5_isBetween_71 (by decide) ?_
      refine pz_goto dX5_isBetween_72 (tgt := 76) (by decide) ?_
      exact pz_drop (pz_part_of [] rfl) (kB_X5_isBetween_76 X d _ _ _  hf)
def B_X5_check_419 (a0 : Nat) (x1 : Int32) (x6 : Int32) (x7 : Int32) (k317 : Int32 → pz_H → Prop) (k334 : Int32 → pz_H → Prop) (Q : Int32 → pz_H → Prop) (h : pz_H) : Prop := (k334 (x7 + (1 : Int32)) h)
set_option maxHeartbeats 4000000 in
set_option maxRecDepth 100000 in
theorem kB_X5_check_419 (X : pz_X) (d : Nat) (a0 : Nat) (x1 : Int32) (x6 : Int32) (x7 : Int32)  (k317 : Int32 → pz_H → Prop) (k334 : Int32 → pz_H → Prop) (Q : Int32 → pz_H → Prop) (h : pz_H) (hk317 : ∀ (x6 : Int32) (h : pz_H), k317 x6 h → pz_W (fun _ => True) X M_X5_check (d + 3) 317 [(0, .ref a0), (1, .int x1), (6, .int x6)] [] h 0 0 (pq_qI Q)) (hk334 : ∀ (x7 : Int32) (h : pz_H), k334 x7 h → pz_W (fun _ => True) X M_X5_check (d + 3) 334 [(0, .ref a0), (1, .int x1), (6, .int x6), (7, .int x7)] [] h 0 0 (pq_qI Q)) (hf : B_X5_check_419 a0 x1 x6 x7 k317 k334 Q h) : pz_W (fun _ => True) X M_X5_check (d + 3) 419 [(0, .ref a0), (1, .int x1), (6, .int x6), (7, .int x7)] [] h 0 0 (pq_qI Q) := by
  unfold B_X5_check_419 at hf
  refine pz_iinc dX5_check_419 rfl (by rfl) (by decide) rfl ?_
  refine pz_goto dX5_check_422 (tgt := 334) (by decide) ?_
  exact pz_drop (pz_part_of [0, 1, 6, 7] rfl) (hk334 _ _ hf)
def L_X5_check_334 (a0 : Nat) (x1 : Int32) (x6 : Int32) (k317 : Int32 → pz_H → Prop) (Q : Int32 → pz_H → Prop) : Nat → Int32 → pz_H → Prop
  | 0, _, _ => False
  | n + 1, x7, h => (pq_gA h a0 5 5 (fun b37 => (pq_aI h b37 x1 (fun v38 => (pq_br (v38 ≤ x7) (k317 (x6 + (1 : Int32)) h) (pq_o h a0 5 (F_X5_isOneSide a0 x6 x7 h (fun v40 h39 => (pq_br (v40 = 0) (B_X5_check_419 a0 x1 x6 x7 k317 (fun z0 hz => L_X5_check_334 a0 x1 x6 k317 Q n z0 hz) Q h39) (pq_o h39 a0 5 (F_X5_isFour a0 x6 x7 h39 (fun v42 h41 => (pq_br (v42 = 0) (B_X5_check_419 a0 x1 x6 x7 k317 (fun z0 hz => L_X5_check_334 a0 x1 x6 k317 Q n z0 hz) Q h41) (pq_gA h41 a0 5 7 (fun b43 => (pq_aI h41 b43 (((12 : Int32) * x1) + x7) (fun v44 => (pq_o h41 a0 5 (F_X5_isBetween a0 x6 v44 h41 (fun v46 h45 => (pq_gA h45 a0 5 8 (fun b47 => (pq_aI h45 b47 (((12 : Int32) * x1) + x7) (fun v48 => (pq_o h45 a0 5 (F_X5_isBetween a0 x6 v48 h45 (fun v50 h49 => (pq_br (v46 = v50) (B_X5_check_419 a0 x1 x6 x7 k317 (fun z0 hz => L_X5_check_334 a0 x1 x6 k317 Q n z0 hz) Q h49) (Q (((30000 : Int32) + ((100 : Int32) * x6)) + x7) h49)))))))))))))))))))))))))))))
set_option maxHeartbeats 4000000 in
set_option maxRecDepth 100000 in
theorem kL_X5_check_334 (X : pz_X) (d : Nat) (a0 : Nat) (x1 : Int32) (x6 : Int32)  (k317 : Int32 → pz_H → Prop) (Q : Int32 → pz_H → Prop) (hk317 : ∀ (x6 : Int32) (h : pz_H), k317 x6 h → pz_W (fun _ => True) X M_X5_check (d + 3) 317 [(0, .ref a0), (1, .int x1), (6, .int x6)] [] h 0 0 (pq_qI Q)) : ∀ (n : Nat) (x7 : Int32) (h : pz_H), L_X5_check_334 a0 x1 x6 k317 Q n x7 h → pz_W (fun _ => True) X M_X5_check (d + 3) 334 [(0, .ref a0), (1, .int x1), (6, .int x6), (7, .int x7)] [] h 0 0 (pq_qI Q) := by
  intro n
  induction n with
  | zero =>
    intro _ _ hf
    exact False.elim hf
  | succ n ih =>
    intro x7 h hf
    unfold L_X5_check_334 at hf
    refine pz_iload dX5_check_334 rfl ?_
    refine pz_aload_n dX5_check_336 rfl ?_
    obtain ⟨_, b37, h1, h2, hf⟩ := hf
    refine pz_get dX5_check_337 fl_X5_22 h1 h2 ?_
    refine pz_iload_n dX5_check_340 rfl ?_
    obtain ⟨_, _, h1, h2, hf⟩ := hf
    refine pz_iald dX5_check_341 h1 h2 ?_
    obtain ⟨ha, hb⟩ := hf
    refine pz_icmp_ge dX5_check_342 (tgt := 425) (by decide) (fun cc => ?_) (fun cc => ?_)
    · have hf := ha cc
      refine pz_iinc dX5_check_425 rfl (by rfl) (by decide) rfl ?_
      refine pz_goto dX5_check_428 (tgt := 317) (by decide) ?_
      exact pz_drop (pz_part_of [0, 1, 6] rfl) (hk317 _ _ hf)
    · have hf := hb cc
      refine pz_aload_n dX5_check_345 rfl ?_
      refine pz_iload dX5_check_346 rfl ?_
      refine pz_iload dX5_check_348 rfl ?_
      obtain ⟨_, hO, hf⟩ := hf
      refine pz_callV2 (rc := 0) (rs := 0) (mc := 0) (ms := 0) dX5_check_350 (k_X5_isOneSide X (d + 2) _ _ _ _ _ hf) (Nat.le_of_ble_eq_true rfl) mf_X5_isOneSide ml_X5_146 hO rfl mi_X5_isOneSide ms_X5_isOneSide (fun _ h9 hq => ?_)
      obtain ⟨_, rfl, hf⟩ := hq
      obtain ⟨ha, hb⟩ := hf
      refine pz_if_eq dX5_check_353 (tgt := 419) (by decide) (fun cc => ?_) (fun cc => ?_)
      · have hf := ha cc
        exact pz_drop (pz_part_of [0, 1, 6, 7] rfl) (kB_X5_check_419 X d _ _ _ _ _ _ _ _ hk317 ih hf)
      · have hf := hb cc
        refine pz_aload_n dX5_check_356 rfl ?_
        refine pz_iload dX5_check_357 rfl ?_
        refine pz_iload dX5_check_359 rfl ?_
        obtain ⟨_, hO, hf⟩ := hf
        refine pz_callV2 (rc := 0) (rs := 0) (mc := 0) (ms := 0) dX5_check_361 (k_X5_isFour X (d + 2) _ _ _ _ _ hf) (Nat.le_of_ble_eq_true rfl) mf_X5_isFour ml_X5_149 hO rfl mi_X5_isFour ms_X5_isFour (fun _ h9 hq => ?_)
        obtain ⟨_, rfl, hf⟩ := hq
        obtain ⟨ha, hb⟩ := hf
        refine pz_if_eq dX5_check_364 (tgt := 419) (by decide) (fun cc => ?_) (fun cc => ?_)
        · have hf := ha cc
          exact pz_drop (pz_part_of [0, 1, 6, 7] rfl) (kB_X5_check_419 X d _ _ _ _ _ _ _ _ hk317 ih hf)
        · have hf := hb cc
          refine pz_aload_n dX5_check_367 rfl ?_
          refine pz_iload dX5_check_368 rfl ?_
          refine pz_aload_n dX5_check_370 rfl ?_
          obtain ⟨_, b43, h1, h2, hf⟩ := hf
          refine pz_get dX5_check_371 fl_X5_28 h1 h2 ?_
          refine pz_bipush (v := (12 : Int32)) dX5_check_374 (by decide) ?_
          refine pz_iload_n dX5_check_376 rfl ?_
          refine pz_imul dX5_check_377 ?_
          refine pz_iload dX5_check_378 rfl ?_
          refine pz_iadd dX5_check_380 ?_
          obtain ⟨_, _, h1, h2, hf⟩ := hf
          refine pz_iald dX5_check_381 h1 h2 ?_
          obtain ⟨_, hO, hf⟩ := hf
          refine pz_callV2 (rc := 0) (rs := 0) (mc := 0) (ms := 0) dX5_check_382 (k_X5_isBetween X (d + 1) _ _ _ _ _ hf) (Nat.le_of_ble_eq_true rfl) mf_X5_isBetween ml_X5_174 hO rfl mi_X5_isBetween ms_X5_isBetween (fun _ h9 hq => ?_)
          obtain ⟨_, rfl, hf⟩ := hq
          refine pz_aload_n dX5_check_385 rfl ?_
          refine pz_iload dX5_check_386 rfl ?_
          refine pz_aload_n dX5_check_388 rfl ?_
          obtain ⟨_, b47, h1, h2, hf⟩ := hf
          refine pz_get dX5_check_389 fl_X5_31 h1 h2 ?_
          refine pz_bipush (v := (12 : Int32)) dX5_check_392 (by decide) ?_
          refine pz_iload_n dX5_check_394 rfl ?_
          refine pz_imul dX5_check_395 ?_
          refine pz_iload dX5_check_396 rfl ?_
          refine pz_iadd dX5_check_398 ?_
          obtain ⟨_, _, h1, h2, hf⟩ := hf
          refine pz_iald dX5_check_399 h1 h2 ?_
          obtain ⟨_, hO, hf⟩ := hf
          refine pz_callV2 (rc := 0) (rs := 0) (mc := 0) (ms := 0) dX5_check_400 (k_X5_isBetween X (d + 1) _ _ _ _ _ hf) (Nat.le_of_ble_eq_true rfl) mf_X5_isBetween ml_X5_174 hO rfl mi_X5_isBetween ms_X5_isBetween (fun _ h9 hq => ?_)
          obtain ⟨_, rfl, hf⟩ := hq
          obtain ⟨ha, hb⟩ := hf
          refine pz_icmp_eq dX5_check_403 (tgt := 419) (by decide) (fun cc => ?_) (fun cc => ?_)
          · have hf := ha cc
            exact pz_drop (pz_part_of [0, 1, 6, 7] rfl) (kB_X5_check_419 X d _ _ _ _ _ _ _ _ hk317 ih hf)
          · have hf := hb cc
            refine pz_sipush (v := (30000 : Int32)) dX5_check_406 (by decide) ?_
            refine pz_bipush (v := (100 : Int32)) dX5_check_409 (by decide) ?_
            refine pz_iload dX5_check_411 rfl ?_
            refine pz_imul dX5_check_413 ?_
            refine pz_iadd dX5_check_414 ?_
            refine pz_iload dX5_check_415 rfl ?_
            refine pz_iadd dX5_check_417 ?_
            exact pz_ireturn dX5_check_418 rfl rfl ⟨_, rfl, hf⟩
def L_X5_check_317 (a0 : Nat) (x1 : Int32)  (Q : Int32 → pz_H → Prop) : Nat → Int32 → pz_H → Prop
  | 0, _, _ => False
  | n + 1, x6, h => (pq_gA h a0 5 5 (fun b35 => (pq_aI h b35 x1 (fun v36 => (pq_br (v36 ≤ x6) (Q (0 : Int32) h) (pq_ex (fun m334 => L_X5_check_334 a0 x1 x6 (fun z0 hz => L_X5_check_317 a0 x1 Q n z0 hz) Q m334 (x6 + (1 : Int32)) h)))))))
set_option maxHeartbeats 4000000 in
set_option maxRecDepth 100000 in
theorem kL_X5_check_317 (X : pz_X) (d : Nat) (a0 : Nat) (x1 : Int32)   (Q : Int32 → pz_H → Prop)  : ∀ (n : Nat) (x6 : Int32) (h : pz_H), L_X5_check_317 a0 x1  Q n x6 h → pz_W (fun _ => True) X M_X5_check (d + 3) 317 [(0, .ref a0), (1, .int x1), (6, .int x6)] [] h 0 0 (pq_qI Q) := by
  intro n
  induction n with
  | zero =>
    intro _ _ hf
    exact False.elim hf
  | succ n ih =>
    intro x6 h hf
    unfold L_X5_check_317 at hf
    refine pz_iload dX5_check_317 rfl ?_
    refine pz_aload_n dX5_check_319 rfl ?_
    obtain ⟨_, b35, h1, h2, hf⟩ := hf
    refine pz_get dX5_check_320 fl_X5_22 h1 h2 ?_
    refine pz_iload_n dX5_check_323 rfl ?_
    obtain ⟨_, _, h1, h2, hf⟩ := hf
    refine pz_iald dX5_check_324 h1 h2 ?_
    obtain ⟨ha, hb⟩ := hf
    refine pz_icmp_ge dX5_check_325 (tgt := 431) (by decide) (fun cc => ?_) (fun cc => ?_)
    · have hf := ha cc
      refine pz_iconst (v := (0 : Int32)) dX5_check_431 (by decide) ?_
      exact pz_ireturn dX5_check_432 rfl rfl ⟨_, rfl, hf⟩
    · have hf := hb cc
      refine pz_iload dX5_check_328 rfl ?_
      refine pz_iconst (v := (1 : Int32)) dX5_check_330 (by decide) ?_
      refine pz_iadd dX5_check_331 ?_
      refine pz_istore dX5_check_332 (by decide) rfl ?_
      obtain ⟨n9, hf⟩ := hf
      exact pz_drop (pz_part_of [0, 1, 6, 7] rfl) (kL_X5_check_334 X d _ _ _ _ _ ih n9 _ _ hf)
def B_X5_check_302 (a0 : Nat) (x1 : Int32) (x6 : Int32) (x7 : Int32) (k203 : Int32 → pz_H → Prop) (k217 : Int32 → pz_H → Prop) (Q : Int32 → pz_H → Prop) (h : pz_H) : Prop := (k217 (x7 + (1 : Int32)) h)
set_option maxHeartbeats 4000000 in
set_option maxRecDepth 100000 in
theorem kB_X5_check_302 (X : pz_X) (d : Nat) (a0 : Nat) (x1 : Int32) (x6 : Int32) (x7 : Int32)  (k203 : Int32 → pz_H → Prop) (k217 : Int32 → pz_H → Prop) (Q : Int32 → pz_H → Prop) (h : pz_H) (hk203 : ∀ (x6 : Int32) (h : pz_H), k203 x6 h → pz_W (fun _ => True) X M_X5_check (d + 3) 203 [(0, .ref a0), (1, .int x1), (6, .int x6)] [] h 0 0 (pq_qI Q)) (hk217 : ∀ (x7 : Int32) (h : pz_H), k217 x7 h → pz_W (fun _ => True) X M_X5_check (d + 3) 217 [(0, .ref a0), (1, .int x1), (6, .int x6), (7, .int x7)] [] h 0 0 (pq_qI Q)) (hf : B_X5_check_302 a0 x1 x6 x7 k203 k217 Q h) : pz_W (fun _ => True) X M_X5_check (d + 3) 302 [(0, .ref a0), (1, .int x1), (6, .int x6), (7, .int x7)] [] h 0 0 (pq_qI Q) := by
  unfold B_X5_check_302 at hf
  refine pz_iinc dX5_check_302 rfl (by rfl) (by decide) rfl ?_
  refine pz_goto dX5_check_305 (tgt := 217) (by decide) ?_
  exact pz_drop (pz_part_of [0, 1, 6, 7] rfl) (hk217 _ _ hf)
def L_X5_check_217 (a0 : Nat) (x1 : Int32) (x6 : Int32) (k203 : Int32 → pz_H → Prop) (Q : Int32 → pz_H → Prop) : Nat → Int32 → pz_H → Prop
  | 0, _, _ => False
  | n + 1, x7, h => (pq_gA h a0 5 2 (fun b23 => (pq_aI h b23 x1 (fun v24 => (pq_br (v24 ≤ x7) (k203 (x6 + (1 : Int32)) h) (pq_gA h a0 5 7 (fun b25 => (pq_aI h b25 (((12 : Int32) * x1) + x6) (fun v26 => (pq_br (x7 = v26) (B_X5_check_302 a0 x1 x6 x7 k203 (fun z0 hz => L_X5_check_217 a0 x1 x6 k203 Q n z0 hz) Q h) (pq_gA h a0 5 8 (fun b27 => (pq_aI h b27 (((12 : Int32) * x1) + x6) (fun v28 => (pq_br (x7 = v28) (B_X5_check_302 a0 x1 x6 x7 k203 (fun z0 hz => L_X5_check_217 a0 x1 x6 k203 Q n z0 hz) Q h) (pq_o h a0 5 (F_X5_isBetween a0 x6 x7 h (fun v30 h29 => (pq_br (v30 = 0) (B_X5_check_302 a0 x1 x6 x7 k203 (fun z0 hz => L_X5_check_217 a0 x1 x6 k203 Q n z0 hz) Q h29) (pq_gA h29 a0 5 17 (fun b31 => (pq_aI h29 b31 x6 (fun v32 => (pq_o h29 a0 5 (F_X5_isWithin a0 x7 v32 h29 (fun v34 h33 => (pq_br (v34 = 0) (B_X5_check_302 a0 x1 x6 x7 k203 (fun z0 hz => L_X5_check_217 a0 x1 x6 k203 Q n z0 hz) Q h33) (Q (((20000 : Int32) + ((100 : Int32) * x6)) + x7) h33))))))))))))))))))))))))))))
set_option maxHeartbeats 4000000 in
set_option maxRecDepth 100000 in
theorem kL_X5_check_217 (X : pz_X) (d : Nat) (a0 : Nat) (x1 : Int32) (x6 : Int32)  (k203 : Int32 → pz_H → Prop) (Q : Int32 → pz_H → Prop) (hk203 : ∀ (x6 : Int32) (h : pz_H), k203 x6 h → pz_W (fun _ => True) X M_X5_check (d + 3) 203 [(0, .ref a0), (1, .int x1), (6, .int x6)] [] h 0 0 (pq_qI Q)) : ∀ (n : Nat) (x7 : Int32) (h : pz_H), L_X5_check_217 a0 x1 x6 k203 Q n x7 h → pz_W (fun _ => True) X M_X5_check (d + 3) 217 [(0, .ref a0), (1, .int x1), (6, .int x6), (7, .int x7)] [] h 0 0 (pq_qI Q) := by
  intro n
  induction n with
  | zero =>
    intro _ _ hf
    exact False.elim hf
  | succ n ih =>
    intro x7 h hf
    unfold L_X5_check_217 at hf
    refine pz_iload dX5_check_217 rfl ?_
    refine pz_aload_n dX5_check_219 rfl ?_
    obtain ⟨_, b23, h1, h2, hf⟩ := hf
    refine pz_get dX5_check_220 fl_X5_13 h1 h2 ?_
    refine pz_iload_n dX5_check_223 rfl ?_
    obtain ⟨_, _, h1, h2, hf⟩ := hf
    refine pz_iald dX5_check_224 h1 h2 ?_
    obtain ⟨ha, hb⟩ := hf
    refine pz_icmp_ge dX5_check_225 (tgt := 308) (by decide) (fun cc => ?_) (fun cc => ?_)
    · have hf := ha cc
      refine pz_iinc dX5_check_308 rfl (by rfl) (by decide) rfl ?_
      refine pz_goto dX5_check_311 (tgt := 203) (by decide) ?_
      exact pz_drop (pz_part_of [0, 1, 6] rfl) (hk203 _ _ hf)
    · have hf := hb cc
      refine pz_iload dX5_check_228 rfl ?_
      refine pz_aload_n dX5_check_230 rfl ?_
      obtain ⟨_, b25, h1, h2, hf⟩ := hf
      refine pz_get dX5_check_231 fl_X5_28 h1 h2 ?_
      refine pz_bipush (v := (12 : Int32)) dX5_check_234 (by decide) ?_
      refine pz_iload_n dX5_check_236 rfl ?_
      refine pz_imul dX5_check_237 ?_
      refine pz_iload dX5_check_238 rfl ?_
      refine pz_iadd dX5_check_240 ?_
      obtain ⟨_, _, h1, h2, hf⟩ := hf
      refine pz_iald dX5_check_241 h1 h2 ?_
      obtain ⟨ha, hb⟩ := hf
      refine pz_icmp_eq dX5_check_242 (tgt := 302) (by decide) (fun cc => ?_) (fun cc => ?_)
      · have hf := ha cc
        exact pz_drop (pz_part_of [0, 1, 6, 7] rfl) (kB_X5_check_302 X d _ _ _ _ _ _ _ _ hk203 ih hf)
      · have hf := hb cc
        refine pz_iload dX5_check_245 rfl ?_
        refine pz_aload_n dX5_check_247 rfl ?_
        obtain ⟨_, b27, h1, h2, hf⟩ := hf
        refine pz_get dX5_check_248 fl_X5_31 h1 h2 ?_
        refine pz_bipush (v := (12 : Int32)) dX5_check_251 (by decide) ?_
        refine pz_iload_n dX5_check_253 rfl ?_
        refine pz_imul dX5_check_254 ?_
        refine pz_iload dX5_check_255 rfl ?_
        refine pz_iadd dX5_check_257 ?_
        obtain ⟨_, _, h1, h2, hf⟩ := hf
        refine pz_iald dX5_check_258 h1 h2 ?_
        obtain ⟨ha, hb⟩ := hf
        refine pz_icmp_eq dX5_check_259 (tgt := 302) (by decide) (fun cc => ?_) (fun cc => ?_)
        · have hf := ha cc
          exact pz_drop (pz_part_of [0, 1, 6, 7] rfl) (kB_X5_check_302 X d _ _ _ _ _ _ _ _ hk203 ih hf)
        · have hf := hb cc
          refine pz_aload_n dX5_check_262 rfl ?_
          refine pz_iload dX5_check_263 rfl ?_
          refine pz_iload dX5_check_265 rfl ?_
          obtain ⟨_, hO, hf⟩ := hf
          refine pz_callV2 (rc := 0) (rs := 0) (mc := 0) (ms := 0) dX5_check_267 (k_X5_isBetween X (d + 1) _ _ _ _ _ hf) (Nat.le_of_ble_eq_true rfl) mf_X5_isBetween ml_X5_174 hO rfl mi_X5_isBetween ms_X5_isBetween (fun _ h9 hq => ?_)
          obtain ⟨_, rfl, hf⟩ := hq
          obtain ⟨ha, hb⟩ := hf
          refine pz_if_eq dX5_check_270 (tgt := 302) (by decide) (fun cc => ?_) (fun cc => ?_)
          · have hf := ha cc
            exact pz_drop (pz_part_of [0, 1, 6, 7] rfl) (kB_X5_check_302 X d _ _ _ _ _ _ _ _ hk203 ih hf)
          · have hf := hb cc
            refine pz_aload_n dX5_check_273 rfl ?_
            refine pz_iload dX5_check_274 rfl ?_
            refine pz_aload_n dX5_check_276 rfl ?_
            obtain ⟨_, b31, h1, h2, hf⟩ := hf
            refine pz_get dX5_check_277 fl_X5_49 h1 h2 ?_
            refine pz_iload dX5_check_280 rfl ?_
            obtain ⟨_, _, h1, h2, hf⟩ := hf
            refine pz_iald dX5_check_282 h1 h2 ?_
            obtain ⟨_, hO, hf⟩ := hf
            refine pz_callV2 (rc := 0) (rs := 0) (mc := 0) (ms := 0) dX5_check_283 (k_X5_isWithin X (d + 1) _ _ _ _ _ hf) (Nat.le_of_ble_eq_true rfl) mf_X5_isWithin ml_X5_140 hO rfl mi_X5_isWithin ms_X5_isWithin (fun _ h9 hq => ?_)
            obtain ⟨_, rfl, hf⟩ := hq
            obtain ⟨ha, hb⟩ := hf
            refine pz_if_eq dX5_check_286 (tgt := 302) (by decide) (fun cc => ?_) (fun cc => ?_)
            · have hf := ha cc
              exact pz_drop (pz_part_of [0, 1, 6, 7] rfl) (kB_X5_check_302 X d _ _ _ _ _ _ _ _ hk203 ih hf)
            · have hf := hb cc
              refine pz_sipush (v := (20000 : Int32)) dX5_check_289 (by decide) ?_
              refine pz_bipush (v := (100 : Int32)) dX5_check_292 (by decide) ?_
              refine pz_iload dX5_check_294 rfl ?_
              refine pz_imul dX5_check_296 ?_
              refine pz_iadd dX5_check_297 ?_
              refine pz_iload dX5_check_298 rfl ?_
              refine pz_iadd dX5_check_300 ?_
              exact pz_ireturn dX5_check_301 rfl rfl ⟨_, rfl, hf⟩
def L_X5_check_203 (a0 : Nat) (x1 : Int32)  (Q : Int32 → pz_H → Prop) : Nat → Int32 → pz_H → Prop
  | 0, _, _ => False
  | n + 1, x6, h => (pq_gA h a0 5 5 (fun b21 => (pq_aI h b21 x1 (fun v22 => (pq_br (v22 ≤ x6) (pq_ex (fun m317 => L_X5_check_317 a0 x1 Q m317 (0 : Int32) h)) (pq_ex (fun m217 => L_X5_check_217 a0 x1 x6 (fun z0 hz => L_X5_check_203 a0 x1 Q n z0 hz) Q m217 (0 : Int32) h)))))))
set_option maxHeartbeats 4000000 in
set_option maxRecDepth 100000 in
theorem kL_X5_check_203 (X : pz_X) (d : Nat) (a0 : Nat) (x1 : Int32)   (Q : Int32 → pz_H → Prop)  : ∀ (n : Nat) (x6 : Int32) (h : pz_H), L_X5_check_203 a0 x1  Q n x6 h → pz_W (fun _ => True) X M_X5_check (d + 3) 203 [(0, .ref a0), (1, .int x1), (6, .int x6)] [] h 0 0 (pq_qI Q) := by
  intro n
  induction n with
  | zero =>
    intro _ _ hf
    exact False.elim hf
  | succ n ih =>
    intro x6 h hf
    unfold L_X5_check_203 at hf
    refine pz_iload dX5_check_203 rfl ?_
    refine pz_aload_n dX5_check_205 rfl ?_
    obtain ⟨_, b21, h1, h2, hf⟩ := hf
    refine pz_get dX5_check_206 fl_X5_22 h1 h2 ?_
    refine pz_iload_n dX5_check_209 rfl ?_
    obtain ⟨_, _, h1, h2, hf⟩ := hf
    refine pz_iald dX5_check_210 h1 h2 ?_
    obtain ⟨ha, hb⟩ := hf
    refine pz_icmp_ge dX5_check_211 (tgt := 314) (by decide) (fun cc => ?_) (fun cc => ?_)
    · have hf := ha cc
      refine pz_iconst (v := (0 : Int32)) dX5_check_314 (by decide) ?_
      refine pz_istore dX5_check_315 (by decide) rfl ?_
      obtain ⟨n9, hf⟩ := hf
      exact pz_drop (pz_part_of [0, 1, 6] rfl) (kL_X5_check_317 X d _ _ _  n9 _ _ hf)
    · have hf := hb cc
      refine pz_iconst (v := (0 : Int32)) dX5_check_214 (by decide) ?_
      refine pz_istore dX5_check_215 (by decide) rfl ?_
      obtain ⟨n9, hf⟩ := hf
      exact pz_drop (pz_part_of [0, 1, 6, 7] rfl) (kL_X5_check_217 X d _ _ _ _ _ ih n9 _ _ hf)
def B_X5_check_194 (a0 : Nat) (x1 : Int32) (x6 : Int32) (k143 : Int32 → pz_H → Prop) (Q : Int32 → pz_H → Prop) (h : pz_H) : Prop := (k143 (x6 + (1 : Int32)) h)
set_option maxHeartbeats 4000000 in
set_option maxRecDepth 100000 in
theorem kB_X5_check_194 (X : pz_X) (d : Nat) (a0 : Nat) (x1 : Int32) (x6 : Int32)  (k143 : Int32 → pz_H → Prop) (Q : Int32 → pz_H → Prop) (h : pz_H) (hk143 : ∀ (x6 : Int32) (h : pz_H), k143 x6 h → pz_W (fun _ => True) X M_X5_check (d + 3) 143 [(0, .ref a0), (1, .int x1), (6, .int x6)] [] h 0 0 (pq_qI Q)) (hf : B_X5_check_194 a0 x1 x6 k143 Q h) : pz_W (fun _ => True) X M_X5_check (d + 3) 194 [(0, .ref a0), (1, .int x1), (6, .int x6)] [] h 0 0 (pq_qI Q) := by
  unfold B_X5_check_194 at hf
  refine pz_iinc dX5_check_194 rfl (by rfl) (by decide) rfl ?_
  refine pz_goto dX5_check_197 (tgt := 143) (by decide) ?_
  exact pz_drop (pz_part_of [0, 1, 6] rfl) (hk143 _ _ hf)
def L_X5_check_143 (a0 : Nat) (x1 : Int32)  (Q : Int32 → pz_H → Prop) : Nat → Int32 → pz_H → Prop
  | 0, _, _ => False
  | n + 1, x6, h => (pq_gA h a0 5 5 (fun b15 => (pq_aI h b15 x1 (fun v16 => (pq_br (v16 ≤ x6) (pq_ex (fun m203 => L_X5_check_203 a0 x1 Q m203 (0 : Int32) h)) (pq_gA h a0 5 9 (fun b17 => (pq_aI h b17 (((12 : Int32) * x1) + x6) (fun v18 => (pq_br (v18 = 0) (B_X5_check_194 a0 x1 x6 (fun z0 hz => L_X5_check_143 a0 x1 Q n z0 hz) Q h) (pq_o h a0 5 (F_X5_markIn a0 x6 h (fun v20 h19 => (pq_br (v18 = v20) (B_X5_check_194 a0 x1 x6 (fun z0 hz => L_X5_check_143 a0 x1 Q n z0 hz) Q h19) (Q ((10000 : Int32) + ((100 : Int32) * x6)) h19)))))))))))))))
set_option maxHeartbeats 4000000 in
set_option maxRecDepth 100000 in
theorem kL_X5_check_143 (X : pz_X) (d : Nat) (a0 : Nat) (x1 : Int32)   (Q : Int32 → pz_H → Prop)  : ∀ (n : Nat) (x6 : Int32) (h : pz_H), L_X5_check_143 a0 x1  Q n x6 h → pz_W (fun _ => True) X M_X5_check (d + 3) 143 [(0, .ref a0), (1, .int x1), (6, .int x6)] [] h 0 0 (pq_qI Q) := by
  intro n
  induction n with
  | zero =>
    intro _ _ hf
    exact False.elim hf
  | succ n ih =>
    intro x6 h hf
    unfold L_X5_check_143 at hf
    refine pz_iload dX5_check_143 rfl ?_
    refine pz_aload_n dX5_check_145 rfl ?_
    obtain ⟨_, b15, h1, h2, hf⟩ := hf
    refine pz_get dX5_check_146 fl_X5_22 h1 h2 ?_
    refine pz_iload_n dX5_check_149 rfl ?_
    obtain ⟨_, _, h1, h2, hf⟩ := hf
    refine pz_iald dX5_check_150 h1 h2 ?_
    obtain ⟨ha, hb⟩ := hf
    refine pz_icmp_ge dX5_check_151 (tgt := 200) (by decide) (fun cc => ?_) (fun cc => ?_)
    · have hf := ha cc
      refine pz_iconst (v := (0 : Int32)) dX5_check_200 (by decide) ?_
      refine pz_istore dX5_check_201 (by decide) rfl ?_
      obtain ⟨n9, hf⟩ := hf
      exact pz_drop (pz_part_of [0, 1, 6] rfl) (kL_X5_check_203 X d _ _ _  n9 _ _ hf)
    · have hf := hb cc
      refine pz_aload_n dX5_check_154 rfl ?_
      obtain ⟨_, b17, h1, h2, hf⟩ := hf
      refine pz_get dX5_check_155 fl_X5_34 h1 h2 ?_
      refine pz_bipush (v := (12 : Int32)) dX5_check_158 (by decide) ?_
      refine pz_iload_n dX5_check_160 rfl ?_
      refine pz_imul dX5_check_161 ?_
      refine pz_iload dX5_check_162 rfl ?_
      refine pz_iadd dX5_check_164 ?_
      obtain ⟨_, _, h1, h2, hf⟩ := hf
      refine pz_iald dX5_check_165 h1 h2 ?_
      refine pz_istore dX5_check_166 (by decide) rfl ?_
      refine pz_iload dX5_check_168 rfl ?_
      obtain ⟨ha, hb⟩ := hf
      refine pz_if_eq dX5_check_170 (tgt := 194) (by decide) (fun cc => ?_) (fun cc => ?_)
      · have hf := ha cc
        exact pz_drop (pz_part_of [0, 1, 6] rfl) (kB_X5_check_194 X d _ _ _ _ _ _ ih hf)
      · have hf := hb cc
        refine pz_iload dX5_check_173 rfl ?_
        refine pz_aload_n dX5_check_175 rfl ?_
        refine pz_iload dX5_check_176 rfl ?_
        obtain ⟨_, hO, hf⟩ := hf
        refine pz_callV1 (rc := 0) (rs := 0) (mc := 0) (ms := 0) dX5_check_178 (k_X5_markIn X (d + 1) _ _ _ _ hf) (Nat.le_of_ble_eq_true rfl) mf_X5_markIn ml_X5_143 hO rfl mi_X5_markIn ms_X5_markIn (fun _ h9 hq => ?_)
        obtain ⟨_, rfl, hf⟩ := hq
        obtain ⟨ha, hb⟩ := hf
        refine pz_icmp_eq dX5_check_181 (tgt := 194) (by decide) (fun cc => ?_) (fun cc => ?_)
        · have hf := ha cc
          exact pz_drop (pz_part_of [0, 1, 6] rfl) (kB_X5_check_194 X d _ _ _ _ _ _ ih hf)
        · have hf := hb cc
          refine pz_sipush (v := (10000 : Int32)) dX5_check_184 (by decide) ?_
          refine pz_bipush (v := (100 : Int32)) dX5_check_187 (by decide) ?_
          refine pz_iload dX5_check_189 rfl ?_
          refine pz_imul dX5_check_191 ?_
          refine pz_iadd dX5_check_192 ?_
          exact pz_ireturn dX5_check_193 rfl rfl ⟨_, rfl, hf⟩
def B_X5_check_140 (a0 : Nat) (x1 : Int32)  (Q : Int32 → pz_H → Prop) (h : pz_H) : Prop := (pq_ex (fun m143 => L_X5_check_143 a0 x1 Q m143 (0 : Int32) h))
set_option maxHeartbeats 4000000 in
set_option maxRecDepth 100000 in
theorem kB_X5_check_140 (X : pz_X) (d : Nat) (a0 : Nat) (x1 : Int32)   (Q : Int32 → pz_H → Prop) (h : pz_H)  (hf : B_X5_check_140 a0 x1  Q h) : pz_W (fun _ => True) X M_X5_check (d + 3) 140 [(0, .ref a0), (1, .int x1)] [] h 0 0 (pq_qI Q) := by
  unfold B_X5_check_140 at hf
  refine pz_iconst (v := (0 : Int32)) dX5_check_140 (by decide) ?_
  refine pz_istore dX5_check_141 (by decide) rfl ?_
  obtain ⟨n9, hf⟩ := hf
  exact pz_drop (pz_part_of [0, 1, 6] rfl) (kL_X5_check_143 X d _ _ _  n9 _ _ hf)
def B_X5_check_137   (Q : Int32 → pz_H → Prop) (h : pz_H) : Prop := (Q (40000 : Int32) h)
set_option maxHeartbeats 4000000 in
set_option maxRecDepth 100000 in
theorem kB_X5_check_137 (X : pz_X) (d : Nat)    (Q : Int32 → pz_H → Prop) (h : pz_H)  (hf : B_X5_check_137   Q h) : pz_W (fun _ => True) X M_X5_check (d + 3) 137 [] [] h 0 0 (pq_qI Q) := by
  unfold B_X5_check_137 at hf
  refine pz_ldc dX5_check_137 cn_X5_173 ?_
  exact pz_ireturn dX5_check_139 rfl rfl ⟨_, rfl, hf⟩
def B_X5_check_71   (Q : Int32 → pz_H → Prop) (h : pz_H) : Prop := (Q (-102 : Int32) h)
set_option maxHeartbeats 4000000 in
set_option maxRecDepth 100000 in
theorem kB_X5_check_71 (X : pz_X) (d : Nat)    (Q : Int32 → pz_H → Prop) (h : pz_H)  (hf : B_X5_check_71   Q h) : pz_W (fun _ => True) X M_X5_check (d + 3) 71 [] [] h 0 0 (pq_qI Q) := by
  unfold B_X5_check_71 at hf
  refine pz_bipush (v := (-102 : Int32)) dX5_check_71 (by decide) ?_
  exact pz_ireturn dX5_check_73 rfl rfl ⟨_, rfl, hf⟩
def L_X5_check_22 (a0 : Nat) (x1 : Int32)  (Q : Int32 → pz_H → Prop) : Nat → Int64 → Int32 → pz_H → Prop
  | 0, _, _, _ => False
  | n + 1, y4, x6, h => (pq_gA h a0 5 2 (fun b1 => (pq_aI h b1 x1 (fun v2 => (pq_br (v2 ≤ x6) (pq_br ((lg_cmp y4 (0 : Int64)) = 0) (pq_gA h a0 5 1 (fun b3 => (pq_aI h b3 x1 (fun v4 => (pq_br (v4 = (1 : Int32)) (pq_gA h a0 5 2 (fun b5 => (pq_aI h b5 x1 (fun v6 => (pq_ne (2 : Int32) (pq_br ((v6 - v6 / (2 : Int32) * (2 : Int32)) = (1 : Int32)) (B_X5_check_137 Q h) (pq_o h a0 5 (F_X5_uneven a0 x1 h (fun v8 h7 => (pq_br (v8 = 0) (B_X5_check_140 a0 x1 Q h7) (B_X5_check_137 Q h7))))))))))) (B_X5_check_140 a0 x1 Q h)))))) (Q (-102 : Int32) h)) (pq_neJ (10 : Int64) (pq_br ((lg_cmp y4 (0 : Int64)) < 0) (B_X5_check_71 Q h) (pq_gA h a0 5 2 (fun b9 => (pq_aI h b9 x1 (fun v10 => (pq_br (v10 ≤ (Int64.toInt32 (y4 - y4 / (10 : Int64) * (10 : Int64)))) (B_X5_check_71 Q h) (pq_gA h a0 5 16 (fun b11 => (pq_aI h b11 (Int64.toInt32 (y4 - y4 / (10 : Int64) * (10 : Int64))) (fun v12 => (pq_br (v12 = (-1 : Int32)) (pq_gA h a0 5 16 (fun b13 => (pq_sI h b13 (Int64.toInt32 (y4 - y4 / (10 : Int64) * (10 : Int64))) x6 (fun h14 => (pq_neJ (10 : Int64) (L_X5_check_22 a0 x1 Q n (y4 / (10 : Int64)) (x6 + (1 : Int32)) h14)))))) (B_X5_check_71 Q h))))))))))))))))))
set_option maxHeartbeats 4000000 in
set_option maxRecDepth 100000 in
theorem kL_X5_check_22 (X : pz_X) (d : Nat) (a0 : Nat) (x1 : Int32)   (Q : Int32 → pz_H → Prop)  : ∀ (n : Nat) (y4 : Int64) (x6 : Int32) (h : pz_H), L_X5_check_22 a0 x1  Q n y4 x6 h → pz_W (fun _ => True) X M_X5_check (d + 3) 22 [(0, .ref a0), (1, .int x1), (4, .long y4), (6, .int x6)] [] h 0 0 (pq_qI Q) := by
  intro n
  induction n with
  | zero =>
    intro _ _ _ hf
    exact False.elim hf
  | succ n ih =>
    intro y4 x6 h hf
    unfold L_X5_check_22 at hf
    refine pz_iload dX5_check_22 rfl ?_
    refine pz_aload_n dX5_check_24 rfl ?_
    obtain ⟨_, b1, h1, h2, hf⟩ := hf
    refine pz_get dX5_check_25 fl_X5_13 h1 h2 ?_
    refine pz_iload_n dX5_check_28 rfl ?_
    obtain ⟨_, _, h1, h2, hf⟩ := hf
    refine pz_iald dX5_check_29 h1 h2 ?_
    obtain ⟨ha, hb⟩ := hf
    refine pz_icmp_ge dX5_check_30 (tgt := 97) (by decide) (fun cc => ?_) (fun cc => ?_)
    · have hf := ha cc
      refine pz_lload dX5_check_97 rfl ?_
      refine pz_lconst (v := (0 : Int64)) dX5_check_99 (by decide) ?_
      refine pz_lcmp dX5_check_100 ?_
      obtain ⟨ha, hb⟩ := hf
      refine pz_if_eq dX5_check_101 (tgt := 107) (by decide) (fun cc => ?_) (fun cc => ?_)
      · have hf := ha cc
        refine pz_aload_n dX5_check_107 rfl ?_
        obtain ⟨_, b3, h1, h2, hf⟩ := hf
        refine pz_get dX5_check_108 fl_X5_7 h1 h2 ?_
        refine pz_iload_n dX5_check_111 rfl ?_
        obtain ⟨_, _, h1, h2, hf⟩ := hf
        refine pz_iald dX5_check_112 h1 h2 ?_
        refine pz_iconst (v := (1 : Int32)) dX5_check_113 (by decide) ?_
        obtain ⟨ha, hb⟩ := hf
        refine pz_icmp_ne dX5_check_114 (tgt := 140) (by decide) (fun cc => ?_) (fun cc => ?_)
        · have hf := hb cc
          exact pz_drop (pz_part_of [0, 1] rfl) (kB_X5_check_140 X d _ _ _ _  hf)
        · have hf := ha cc
          refine pz_aload_n dX5_check_117 rfl ?_
          obtain ⟨_, b5, h1, h2, hf⟩ := hf
          refine pz_get dX5_check_118 fl_X5_13 h1 h2 ?_
          refine pz_iload_n dX5_check_121 rfl ?_
          obtain ⟨_, _, h1, h2, hf⟩ := hf
          refine pz_iald dX5_check_122 h1 h2 ?_
          refine pz_iconst (v := (2 : Int32)) dX5_check_123 (by decide) ?_
          obtain ⟨hne, hf⟩ := hf
          refine pz_irem dX5_check_124 hne ?_
          refine pz_iconst (v := (1 : Int32)) dX5_check_125 (by decide) ?_
          obtain ⟨ha, hb⟩ := hf
          refine pz_icmp_eq dX5_check_126 (tgt := 137) (by decide) (fun cc => ?_) (fun cc => ?_)
          · have hf := ha cc
            exact pz_drop (pz_part_of [] rfl) (kB_X5_check_137 X d _ _  hf)
          · have hf := hb cc
            refine pz_aload_n dX5_check_129 rfl ?_
            refine pz_iload_n dX5_check_130 rfl ?_
            obtain ⟨_, hO, hf⟩ := hf
            refine pz_callV1 (rc := 0) (rs := 0) (mc := 0) (ms := 0) dX5_check_131 (k_X5_uneven X (d + 2) _ _ _ _ hf) (Nat.le_of_ble_eq_true rfl) mf_X5_uneven ml_X5_107 hO rfl mi_X5_uneven ms_X5_uneven (fun _ h9 hq => ?_)
            obtain ⟨_, rfl, hf⟩ := hq
            obtain ⟨ha, hb⟩ := hf
            refine pz_if_eq dX5_check_134 (tgt := 140) (by decide) (fun cc => ?_) (fun cc => ?_)
            · have hf := ha cc
              exact pz_drop (pz_part_of [0, 1] rfl) (kB_X5_check_140 X d _ _ _ _  hf)
            · have hf := hb cc
              exact pz_drop (pz_part_of [] rfl) (kB_X5_check_137 X d _ _  hf)
      · have hf := hb cc
        refine pz_bipush (v := (-102 : Int32)) dX5_check_104 (by decide) ?_
        exact pz_ireturn dX5_check_106 rfl rfl ⟨_, rfl, hf⟩
    · have hf := hb cc
      refine pz_lload dX5_check_33 rfl ?_
      refine pz_ldc2 dX5_check_35 cn_X5_155 ?_
      obtain ⟨hne, hf⟩ := hf
      refine pz_lrem dX5_check_38 hne ?_
      refine pz_l2i dX5_check_39 ?_
      refine pz_istore dX5_check_40 (by decide) rfl ?_
      refine pz_lload dX5_check_42 rfl ?_
      refine pz_lconst (v := (0 : Int64)) dX5_check_44 (by decide) ?_
      refine pz_lcmp dX5_check_45 ?_
      obtain ⟨ha, hb⟩ := hf
      refine pz_if_lt dX5_check_46 (tgt := 71) (by decide) (fun cc => ?_) (fun cc => ?_)
      · have hf := ha cc
        exact pz_drop (pz_part_of [] rfl) (kB_X5_check_71 X d _ _  hf)
      · have hf := hb cc
        refine pz_iload dX5_check_49 rfl ?_
        refine pz_aload_n dX5_check_51 rfl ?_
        obtain ⟨_, b9, h1, h2, hf⟩ := hf
        refine pz_get dX5_check_52 fl_X5_13 h1 h2 ?_
        refine pz_iload_n dX5_check_55 rfl ?_
        obtain ⟨_, _, h1, h2, hf⟩ := hf
        refine pz_iald dX5_check_56 h1 h2 ?_
        obtain ⟨ha, hb⟩ := hf
        refine pz_icmp_ge dX5_check_57 (tgt := 71) (by decide) (fun cc => ?_) (fun cc => ?_)
        · have hf := ha cc
          exact pz_drop (pz_part_of [] rfl) (kB_X5_check_71 X d _ _  hf)
        · have hf := hb cc
          refine pz_aload_n dX5_check_60 rfl ?_
          obtain ⟨_, b11, h1, h2, hf⟩ := hf
          refine pz_get dX5_check_61 fl_X5_46 h1 h2 ?_
          refine pz_iload dX5_check_64 rfl ?_
          obtain ⟨_, _, h1, h2, hf⟩ := hf
          refine pz_iald dX5_check_66 h1 h2 ?_
          refine pz_iconst (v := (-1 : Int32)) dX5_check_67 (by decide) ?_
          obtain ⟨ha, hb⟩ := hf
          refine pz_icmp_eq dX5_check_68 (tgt := 74) (by decide) (fun cc => ?_) (fun cc => ?_)
          · have hf := ha cc
            refine pz_aload_n dX5_check_74 rfl ?_
            obtain ⟨_, b13, h1, h2, hf⟩ := hf
            refine pz_get dX5_check_75 fl_X5_46 h1 h2 ?_
            refine pz_iload dX5_check_78 rfl ?_
            refine pz_iload dX5_check_80 rfl ?_
            obtain ⟨_, _, h1, h2, hf⟩ := hf
            refine pz_iast dX5_check_82 h1 h2 ?_
            refine pz_lload dX5_check_83 rfl ?_
            refine pz_ldc2 dX5_check_85 cn_X5_155 ?_
            obtain ⟨hne, hf⟩ := hf
            refine pz_ldiv dX5_check_88 hne ?_
            refine pz_lstore dX5_check_89 (by decide) rfl ?_
            refine pz_iinc dX5_check_91 rfl (by rfl) (by decide) rfl ?_
            refine pz_goto dX5_check_94 (tgt := 22) (by decide) ?_
            exact pz_drop (pz_part_of [0, 1, 4, 6] rfl) (ih _ _ _ hf)
          · have hf := hb cc
            exact pz_drop (pz_part_of [] rfl) (kB_X5_check_71 X d _ _  hf)
def F_X5_check (a0 : Nat) (x1 : Int32) (y2 : Int64) (h : pz_H) (Q : Int32 → pz_H → Prop) : Prop := (pq_o h a0 5 (F_X5_has a0 x1 h (fun v52 h51 => (pq_br (v52 = 0) (Q (-101 : Int32) h51) (pq_o h51 a0 5 (F_X5_begin a0 x1 h51 (fun h53 => (pq_ex (fun m22 => L_X5_check_22 a0 x1 Q m22 y2 (0 : Int32) h53)))))))))
set_option maxHeartbeats 4000000 in
set_option maxRecDepth 100000 in
theorem k_X5_check (X : pz_X) (d : Nat) (a0 : Nat) (x1 : Int32) (y2 : Int64) (h : pz_H) (Q : Int32 → pz_H → Prop) (hf : F_X5_check a0 x1 y2 h Q) : pz_Call X M_X5_check (d + 3) 0 0 [.ref a0, .int x1, .long y2] h (pq_qI Q) := by
  refine pz_call_of (by decide +kernel) (Nat.le_of_ble_eq_true rfl) ?_
  unfold F_X5_check at hf
  refine pz_aload_n dX5_check_0 rfl ?_
  refine pz_iload_n dX5_check_1 rfl ?_
  obtain ⟨_, hO, hf⟩ := hf
  refine pz_callV1 (rc := 0) (rs := 0) (mc := 0) (ms := 0) dX5_check_2 (k_X5_has X (d + 2) _ _ _ _ hf) (Nat.le_of_ble_eq_true rfl) mf_X5_has ml_X5_85 hO rfl mi_X5_has ms_X5_has (fun _ h9 hq => ?_)
  obtain ⟨_, rfl, hf⟩ := hq
  obtain ⟨ha, hb⟩ := hf
  refine pz_if_ne dX5_check_5 (tgt := 11) (by decide) (fun cc => ?_) (fun cc => ?_)
  · have hf := hb cc
    refine pz_aload_n dX5_check_11 rfl ?_
    refine pz_iload_n dX5_check_12 rfl ?_
    obtain ⟨_, hO, hf⟩ := hf
    refine pz_callV1 (rc := 0) (rs := 0) (mc := 0) (ms := 0) dX5_check_13 (k_X5_begin X d _ _ _ _ hf) (Nat.le_of_ble_eq_true rfl) mf_X5_begin ml_X5_157 hO rfl mi_X5_begin ms_X5_begin (fun _ h9 hq => ?_)
    obtain ⟨rfl, hf⟩ := hq
    refine pz_lload_n dX5_check_16 rfl ?_
    refine pz_lstore dX5_check_17 (by decide) rfl ?_
    refine pz_iconst (v := (0 : Int32)) dX5_check_19 (by decide) ?_
    refine pz_istore dX5_check_20 (by decide) rfl ?_
    obtain ⟨n9, hf⟩ := hf
    exact pz_drop (pz_part_of [0, 1, 4, 6] rfl) (kL_X5_check_22 X d _ _ _  n9 _ _ _ hf)
  · have hf := ha cc
    refine pz_bipush (v := (-101 : Int32)) dX5_check_8 (by decide) ?_
    exact pz_ireturn dX5_check_10 rfl rfl ⟨_, rfl, hf⟩
def B_X5_forced_42 (x3 : Int32)  (Q : Int32 → pz_H → Prop) (h : pz_H) : Prop := (Q x3 h)
set_option maxHeartbeats 4000000 in
set_option maxRecDepth 100000 in
theorem kB_X5_forced_42 (X : pz_X) (d : Nat) (x3 : Int32)   (Q : Int32 → pz_H → Prop) (h : pz_H)  (hf : B_X5_forced_42 x3  Q h) : pz_W (fun _ => True) X M_X5_forced (d + 5) 42 [(3, .int x3)] [] h 0 0 (pq_qI Q) := by
  unfold B_X5_forced_42 at hf
  refine pz_iload_n dX5_forced_42 rfl ?_
  exact pz_ireturn dX5_forced_43 rfl rfl ⟨_, rfl, hf⟩
def L_X5_forced_19 (a0 : Nat) (x2 : Int32)  (Q : Int32 → pz_H → Prop) : Nat → Int32 → pz_H → Prop
  | 0, _, _ => False
  | n + 1, x3, h => (pq_br ((3 : Int32) ≤ x3) (B_X5_forced_42 x3 Q h) (pq_o h a0 5 (F_X5_next a0 h (fun v2 h1 => (pq_br (v2 = 0) (B_X5_forced_42 x3 Q h1) (pq_o h1 a0 5 (F_X5_markIn a0 x2 h1 (fun v4 h3 => (L_X5_forced_19 a0 x2 Q n (x3 ||| v4) h3)))))))))
set_option maxHeartbeats 4000000 in
set_option maxRecDepth 100000 in
theorem kL_X5_forced_19 (X : pz_X) (d : Nat) (a0 : Nat) (x2 : Int32)   (Q : Int32 → pz_H → Prop)  : ∀ (n : Nat) (x3 : Int32) (h : pz_H), L_X5_forced_19 a0 x2  Q n x3 h → pz_W (fun _ => True) X M_X5_forced (d + 5) 19 [(0, .ref a0), (2, .int x2), (3, .int x3)] [] h 0 0 (pq_qI Q) := by
  intro n
  induction n with
  | zero =>
    intro _ _ hf
    exact False.elim hf
  | succ n ih =>
    intro x3 h hf
    unfold L_X5_forced_19 at hf
    refine pz_iload_n dX5_forced_19 rfl ?_
    refine pz_iconst (v := (3 : Int32)) dX5_forced_20 (by decide) ?_
    obtain ⟨ha, hb⟩ := hf
    refine pz_icmp_ge dX5_forced_21 (tgt := 42) (by decide) (fun cc => ?_) (fun cc => ?_)
    · have hf := ha cc
      exact pz_drop (pz_part_of [3] rfl) (kB_X5_forced_42 X d _ _ _  hf)
    · have hf := hb cc
      refine pz_aload_n dX5_forced_24 rfl ?_
      obtain ⟨_, hO, hf⟩ := hf
      refine pz_callV0 (rc := 0) (rs := 0) (mc := 0) (ms := 0) dX5_forced_25 (k_X5_next X d _ _ _ hf) (Nat.le_of_ble_eq_true rfl) mf_X5_next ml_X5_161 hO rfl mi_X5_next ms_X5_next (fun _ h9 hq => ?_)
      obtain ⟨_, rfl, hf⟩ := hq
      obtain ⟨ha, hb⟩ := hf
      refine pz_if_eq dX5_forced_28 (tgt := 42) (by decide) (fun cc => ?_) (fun cc => ?_)
      · have hf := ha cc
        exact pz_drop (pz_part_of [3] rfl) (kB_X5_forced_42 X d _ _ _  hf)
      · have hf := hb cc
        refine pz_iload_n dX5_forced_31 rfl ?_
        refine pz_aload_n dX5_forced_32 rfl ?_
        refine pz_iload_n dX5_forced_33 rfl ?_
        obtain ⟨_, hO, hf⟩ := hf
        refine pz_callV1 (rc := 0) (rs := 0) (mc := 0) (ms := 0) dX5_forced_34 (k_X5_markIn X (d + 3) _ _ _ _ hf) (Nat.le_of_ble_eq_true rfl) mf_X5_markIn ml_X5_143 hO rfl mi_X5_markIn ms_X5_markIn (fun _ h9 hq => ?_)
        obtain ⟨_, rfl, hf⟩ := hq
        refine pz_ior dX5_forced_37 ?_
        refine pz_istore_n dX5_forced_38 rfl (by decide) rfl ?_
        refine pz_goto dX5_forced_39 (tgt := 19) (by decide) ?_
        exact pz_drop (pz_part_of [0, 2, 3] rfl) (ih _ _ hf)
def F_X5_forced (a0 : Nat) (x1 : Int32) (x2 : Int32) (h : pz_H) (Q : Int32 → pz_H → Prop) : Prop := (pq_o h a0 5 (F_X5_hasCrease a0 x1 x2 h (fun v6 h5 => (pq_br (v6 = 0) (Q (-101 : Int32) h5) (pq_o h5 a0 5 (F_X5_begin a0 x1 h5 (fun h7 => (pq_ex (fun m19 => L_X5_forced_19 a0 x2 Q m19 (0 : Int32) h7)))))))))
set_option maxHeartbeats 4000000 in
set_option maxRecDepth 100000 in
theorem k_X5_forced (X : pz_X) (d : Nat) (a0 : Nat) (x1 : Int32) (x2 : Int32) (h : pz_H) (Q : Int32 → pz_H → Prop) (hf : F_X5_forced a0 x1 x2 h Q) : pz_Call X M_X5_forced (d + 5) 0 0 [.ref a0, .int x1, .int x2] h (pq_qI Q) := by
  refine pz_call_of (by decide +kernel) (Nat.le_of_ble_eq_true rfl) ?_
  unfold F_X5_forced at hf
  refine pz_aload_n dX5_forced_0 rfl ?_
  refine pz_iload_n dX5_forced_1 rfl ?_
  refine pz_iload_n dX5_forced_2 rfl ?_
  obtain ⟨_, hO, hf⟩ := hf
  refine pz_callV2 (rc := 0) (rs := 0) (mc := 0) (ms := 0) dX5_forced_3 (k_X5_hasCrease X (d + 3) _ _ _ _ _ hf) (Nat.le_of_ble_eq_true rfl) mf_X5_hasCrease ml_X5_101 hO rfl mi_X5_hasCrease ms_X5_hasCrease (fun _ h9 hq => ?_)
  obtain ⟨_, rfl, hf⟩ := hq
  obtain ⟨ha, hb⟩ := hf
  refine pz_if_ne dX5_forced_6 (tgt := 12) (by decide) (fun cc => ?_) (fun cc => ?_)
  · have hf := hb cc
    refine pz_aload_n dX5_forced_12 rfl ?_
    refine pz_iload_n dX5_forced_13 rfl ?_
    obtain ⟨_, hO, hf⟩ := hf
    refine pz_callV1 (rc := 0) (rs := 0) (mc := 0) (ms := 0) dX5_forced_14 (k_X5_begin X (d + 2) _ _ _ _ hf) (Nat.le_of_ble_eq_true rfl) mf_X5_begin ml_X5_157 hO rfl mi_X5_begin ms_X5_begin (fun _ h9 hq => ?_)
    obtain ⟨rfl, hf⟩ := hq
    refine pz_iconst (v := (0 : Int32)) dX5_forced_17 (by decide) ?_
    refine pz_istore_n dX5_forced_18 rfl (by decide) rfl ?_
    obtain ⟨n9, hf⟩ := hf
    exact pz_drop (pz_part_of [0, 2, 3] rfl) (kL_X5_forced_19 X d _ _ _  n9 _ _ hf)
  · have hf := ha cc
    refine pz_bipush (v := (-101 : Int32)) dX5_forced_9 (by decide) ?_
    exact pz_ireturn dX5_forced_11 rfl rfl ⟨_, rfl, hf⟩
def B_X5_above_18   (Q : Int32 → pz_H → Prop) (h : pz_H) : Prop := (Q (-101 : Int32) h)
set_option maxHeartbeats 4000000 in
set_option maxRecDepth 100000 in
theorem kB_X5_above_18 (X : pz_X) (d : Nat)    (Q : Int32 → pz_H → Prop) (h : pz_H)  (hf : B_X5_above_18   Q h) : pz_W (fun _ => True) X M_X5_above (d + 5) 18 [] [] h 0 0 (pq_qI Q) := by
  unfold B_X5_above_18 at hf
  refine pz_bipush (v := (-101 : Int32)) dX5_above_18 (by decide) ?_
  exact pz_ireturn dX5_above_20 rfl rfl ⟨_, rfl, hf⟩
def B_X5_above_142 (xs0 : Int32)  (Q : Int32 → pz_H → Prop) (h : pz_H) : Prop := (Q xs0 h)
set_option maxHeartbeats 4000000 in
set_option maxRecDepth 100000 in
theorem kB_X5_above_142 (X : pz_X) (d : Nat) (xs0 : Int32)   (Q : Int32 → pz_H → Prop) (h : pz_H)  (hf : B_X5_above_142 xs0  Q h) : pz_W (fun _ => True) X M_X5_above (d + 5) 142 [] [.int xs0] h 0 0 (pq_qI Q) := by
  unfold B_X5_above_142 at hf
  exact pz_ireturn dX5_above_142 rfl rfl ⟨_, rfl, hf⟩
def B_X5_above_123 (x4 : Int32) (x5 : Int32)  (Q : Int32 → pz_H → Prop) (h : pz_H) : Prop := (pq_br (x4 = 0) (pq_br (x5 = 0) (B_X5_above_142 (2 : Int32) Q h) (B_X5_above_142 (-1 : Int32) Q h)) (B_X5_above_142 (1 : Int32) Q h))
set_option maxHeartbeats 4000000 in
set_option maxRecDepth 100000 in
theorem kB_X5_above_123 (X : pz_X) (d : Nat) (x4 : Int32) (x5 : Int32)   (Q : Int32 → pz_H → Prop) (h : pz_H)  (hf : B_X5_above_123 x4 x5  Q h) : pz_W (fun _ => True) X M_X5_above (d + 5) 123 [(4, .int x4), (5, .int x5)] [] h 0 0 (pq_qI Q) := by
  unfold B_X5_above_123 at hf
  refine pz_iload dX5_above_123 rfl ?_
  obtain ⟨ha, hb⟩ := hf
  refine pz_if_eq dX5_above_125 (tgt := 132) (by decide) (fun cc => ?_) (fun cc => ?_)
  · have hf := ha cc
    refine pz_iload dX5_above_132 rfl ?_
    obtain ⟨ha, hb⟩ := hf
    refine pz_if_eq dX5_above_134 (tgt := 141) (by decide) (fun cc => ?_) (fun cc => ?_)
    · have hf := ha cc
      refine pz_iconst (v := (2 : Int32)) dX5_above_141 (by decide) ?_
      exact pz_drop (pz_part_of [] rfl) (kB_X5_above_142 X d _ _ _  hf)
    · have hf := hb cc
      refine pz_iconst (v := (-1 : Int32)) dX5_above_137 (by decide) ?_
      refine pz_goto dX5_above_138 (tgt := 142) (by decide) ?_
      exact pz_drop (pz_part_of [] rfl) (kB_X5_above_142 X d _ _ _  hf)
  · have hf := hb cc
    refine pz_iconst (v := (1 : Int32)) dX5_above_128 (by decide) ?_
    refine pz_goto dX5_above_129 (tgt := 142) (by decide) ?_
    exact pz_drop (pz_part_of [] rfl) (kB_X5_above_142 X d _ _ _  hf)
def B_X5_above_109 (x4 : Int32) (x5 : Int32)  (Q : Int32 → pz_H → Prop) (h : pz_H) : Prop := (pq_br (x4 = 0) (B_X5_above_123 x4 x5 Q h) (pq_br (x5 = 0) (B_X5_above_123 x4 x5 Q h) (B_X5_above_142 (0 : Int32) Q h)))
set_option maxHeartbeats 4000000 in
set_option maxRecDepth 100000 in
theorem kB_X5_above_109 (X : pz_X) (d : Nat) (x4 : Int32) (x5 : Int32)   (Q : Int32 → pz_H → Prop) (h : pz_H)  (hf : B_X5_above_109 x4 x5  Q h) : pz_W (fun _ => True) X M_X5_above (d + 5) 109 [(4, .int x4), (5, .int x5)] [] h 0 0 (pq_qI Q) := by
  unfold B_X5_above_109 at hf
  refine pz_iload dX5_above_109 rfl ?_
  obtain ⟨ha, hb⟩ := hf
  refine pz_if_eq dX5_above_111 (tgt := 123) (by decide) (fun cc => ?_) (fun cc => ?_)
  · have hf := ha cc
    exact pz_drop (pz_part_of [4, 5] rfl) (kB_X5_above_123 X d _ _ _ _  hf)
  · have hf := hb cc
    refine pz_iload dX5_above_114 rfl ?_
    obtain ⟨ha, hb⟩ := hf
    refine pz_if_eq dX5_above_116 (tgt := 123) (by decide) (fun cc => ?_) (fun cc => ?_)
    · have hf := ha cc
      exact pz_drop (pz_part_of [4, 5] rfl) (kB_X5_above_123 X d _ _ _ _  hf)
    · have hf := hb cc
      refine pz_iconst (v := (0 : Int32)) dX5_above_119 (by decide) ?_
      refine pz_goto dX5_above_120 (tgt := 142) (by decide) ?_
      exact pz_drop (pz_part_of [] rfl) (kB_X5_above_142 X d _ _ _  hf)
def B_X5_above_103 (a0 : Nat) (x2 : Int32) (x3 : Int32) (x4 : Int32) (xs0 : Int32) (xs1 : Int32) (k39 : Int32 → Int32 → pz_H → Prop) (Q : Int32 → pz_H → Prop) (h : pz_H) : Prop := (k39 x4 (xs0 ||| xs1) h)
set_option maxHeartbeats 4000000 in
set_option maxRecDepth 100000 in
theorem kB_X5_above_103 (X : pz_X) (d : Nat) (a0 : Nat) (x2 : Int32) (x3 : Int32) (x4 : Int32) (xs0 : Int32) (xs1 : Int32)  (k39 : Int32 → Int32 → pz_H → Prop) (Q : Int32 → pz_H → Prop) (h : pz_H) (hk39 : ∀ (x4 : Int32) (x5 : Int32) (h : pz_H), k39 x4 x5 h → pz_W (fun _ => True) X M_X5_above (d + 5) 39 [(0, .ref a0), (2, .int x2), (3, .int x3), (4, .int x4), (5, .int x5)] [] h 0 0 (pq_qI Q)) (hf : B_X5_above_103 a0 x2 x3 x4 xs0 xs1 k39 Q h) : pz_W (fun _ => True) X M_X5_above (d + 5) 103 [(0, .ref a0), (2, .int x2), (3, .int x3), (4, .int x4)] [.int xs1, .int xs0] h 0 0 (pq_qI Q) := by
  unfold B_X5_above_103 at hf
  refine pz_ior dX5_above_103 ?_
  refine pz_istore dX5_above_104 (by decide) rfl ?_
  refine pz_goto dX5_above_106 (tgt := 39) (by decide) ?_
  exact pz_drop (pz_part_of [0, 2, 3, 4, 5] rfl) (hk39 _ _ _ hf)
def B_X5_above_78 (a0 : Nat) (x2 : Int32) (x3 : Int32) (x5 : Int32) (xs0 : Int32) (xs1 : Int32) (k39 : Int32 → Int32 → pz_H → Prop) (Q : Int32 → pz_H → Prop) (h : pz_H) : Prop := (pq_gA h a0 5 16 (fun b7 => (pq_aI h b7 x2 (fun v8 => (pq_gA h a0 5 16 (fun b9 => (pq_aI h b9 x3 (fun v10 => (pq_br (v10 ≤ v8) (B_X5_above_103 a0 x2 x3 (xs0 ||| xs1) x5 (0 : Int32) k39 Q h) (B_X5_above_103 a0 x2 x3 (xs0 ||| xs1) x5 (1 : Int32) k39 Q h))))))))))
set_option maxHeartbeats 4000000 in
set_option maxRecDepth 100000 in
theorem kB_X5_above_78 (X : pz_X) (d : Nat) (a0 : Nat) (x2 : Int32) (x3 : Int32) (x5 : Int32) (xs0 : Int32) (xs1 : Int32)  (k39 : Int32 → Int32 → pz_H → Prop) (Q : Int32 → pz_H → Prop) (h : pz_H) (hk39 : ∀ (x4 : Int32) (x5 : Int32) (h : pz_H), k39 x4 x5 h → pz_W (fun _ => True) X M_X5_above (d + 5) 39 [(0, .ref a0), (2, .int x2), (3, .int x3), (4, .int x4), (5, .int x5)] [] h 0 0 (pq_qI Q)) (hf : B_X5_above_78 a0 x2 x3 x5 xs0 xs1 k39 Q h) : pz_W (fun _ => True) X M_X5_above (d + 5) 78 [(0, .ref a0), (2, .int x2), (3, .int x3), (5, .int x5)] [.int xs1, .int xs0] h 0 0 (pq_qI Q) := by
  unfold B_X5_above_78 at hf
  refine pz_ior dX5_above_78 ?_
  refine pz_istore dX5_above_79 (by decide) rfl ?_
  refine pz_iload dX5_above_81 rfl ?_
  refine pz_aload_n dX5_above_83 rfl ?_
  obtain ⟨_, b7, h1, h2, hf⟩ := hf
  refine pz_get dX5_above_84 fl_X5_46 h1 h2 ?_
  refine pz_iload_n dX5_above_87 rfl ?_
  obtain ⟨_, _, h1, h2, hf⟩ := hf
  refine pz_iald dX5_above_88 h1 h2 ?_
  refine pz_aload_n dX5_above_89 rfl ?_
  obtain ⟨_, b9, h1, h2, hf⟩ := hf
  refine pz_get dX5_above_90 fl_X5_46 h1 h2 ?_
  refine pz_iload_n dX5_above_93 rfl ?_
  obtain ⟨_, _, h1, h2, hf⟩ := hf
  refine pz_iald dX5_above_94 h1 h2 ?_
  obtain ⟨ha, hb⟩ := hf
  refine pz_icmp_ge dX5_above_95 (tgt := 102) (by decide) (fun cc => ?_) (fun cc => ?_)
  · have hf := ha cc
    refine pz_iconst (v := (0 : Int32)) dX5_above_102 (by decide) ?_
    exact pz_drop (pz_part_of [0, 2, 3, 4] rfl) (kB_X5_above_103 X d _ _ _ _ _ _ _ _ _ hk39 hf)
  · have hf := hb cc
    refine pz_iconst (v := (1 : Int32)) dX5_above_98 (by decide) ?_
    refine pz_goto dX5_above_99 (tgt := 103) (by decide) ?_
    exact pz_drop (pz_part_of [0, 2, 3, 4] rfl) (kB_X5_above_103 X d _ _ _ _ _ _ _ _ _ hk39 hf)
def B_X5_above_49 (a0 : Nat) (x2 : Int32) (x3 : Int32) (x4 : Int32) (x5 : Int32) (k39 : Int32 → Int32 → pz_H → Prop) (Q : Int32 → pz_H → Prop) (h : pz_H) : Prop := (pq_o h a0 5 (F_X5_next a0 h (fun v2 h1 => (pq_br (v2 = 0) (B_X5_above_109 x4 x5 Q h1) (pq_gA h1 a0 5 16 (fun b3 => (pq_aI h1 b3 x2 (fun v4 => (pq_gA h1 a0 5 16 (fun b5 => (pq_aI h1 b5 x3 (fun v6 => (pq_br (v4 ≤ v6) (B_X5_above_78 a0 x2 x3 x5 x4 (0 : Int32) k39 Q h1) (B_X5_above_78 a0 x2 x3 x5 x4 (1 : Int32) k39 Q h1))))))))))))))
set_option maxHeartbeats 4000000 in
set_option maxRecDepth 100000 in
theorem kB_X5_above_49 (X : pz_X) (d : Nat) (a0 : Nat) (x2 : Int32) (x3 : Int32) (x4 : Int32) (x5 : Int32)  (k39 : Int32 → Int32 → pz_H → Prop) (Q : Int32 → pz_H → Prop) (h : pz_H) (hk39 : ∀ (x4 : Int32) (x5 : Int32) (h : pz_H), k39 x4 x5 h → pz_W (fun _ => True) X M_X5_above (d + 5) 39 [(0, .ref a0), (2, .int x2), (3, .int x3), (4, .int x4), (5, .int x5)] [] h 0 0 (pq_qI Q)) (hf : B_X5_above_49 a0 x2 x3 x4 x5 k39 Q h) : pz_W (fun _ => True) X M_X5_above (d + 5) 49 [(0, .ref a0), (2, .int x2), (3, .int x3), (4, .int x4), (5, .int x5)] [] h 0 0 (pq_qI Q) := by
  unfold B_X5_above_49 at hf
  refine pz_aload_n dX5_above_49 rfl ?_
  obtain ⟨_, hO, hf⟩ := hf
  refine pz_callV0 (rc := 0) (rs := 0) (mc := 0) (ms := 0) dX5_above_50 (k_X5_next X d _ _ _ hf) (Nat.le_of_ble_eq_true rfl) mf_X5_next ml_X5_161 hO rfl mi_X5_next ms_X5_next (fun _ h9 hq => ?_)
  obtain ⟨_, rfl, hf⟩ := hq
  obtain ⟨ha, hb⟩ := hf
  refine pz_if_eq dX5_above_53 (tgt := 109) (by decide) (fun cc => ?_) (fun cc => ?_)
  · have hf := ha cc
    exact pz_drop (pz_part_of [4, 5] rfl) (kB_X5_above_109 X d _ _ _ _  hf)
  · have hf := hb cc
    refine pz_iload dX5_above_56 rfl ?_
    refine pz_aload_n dX5_above_58 rfl ?_
    obtain ⟨_, b3, h1, h2, hf⟩ := hf
    refine pz_get dX5_above_59 fl_X5_46 h1 h2 ?_
    refine pz_iload_n dX5_above_62 rfl ?_
    obtain ⟨_, _, h1, h2, hf⟩ := hf
    refine pz_iald dX5_above_63 h1 h2 ?_
    refine pz_aload_n dX5_above_64 rfl ?_
    obtain ⟨_, b5, h1, h2, hf⟩ := hf
    refine pz_get dX5_above_65 fl_X5_46 h1 h2 ?_
    refine pz_iload_n dX5_above_68 rfl ?_
    obtain ⟨_, _, h1, h2, hf⟩ := hf
    refine pz_iald dX5_above_69 h1 h2 ?_
    obtain ⟨ha, hb⟩ := hf
    refine pz_icmp_le dX5_above_70 (tgt := 77) (by decide) (fun cc => ?_) (fun cc => ?_)
    · have hf := ha cc
      refine pz_iconst (v := (0 : Int32)) dX5_above_77 (by decide) ?_
      exact pz_drop (pz_part_of [0, 2, 3, 5] rfl) (kB_X5_above_78 X d _ _ _ _ _ _ _ _ _ hk39 hf)
    · have hf := hb cc
      refine pz_iconst (v := (1 : Int32)) dX5_above_73 (by decide) ?_
      refine pz_goto dX5_above_74 (tgt := 78) (by decide) ?_
      exact pz_drop (pz_part_of [0, 2, 3, 5] rfl) (kB_X5_above_78 X d _ _ _ _ _ _ _ _ _ hk39 hf)
def L_X5_above_39 (a0 : Nat) (x2 : Int32) (x3 : Int32)  (Q : Int32 → pz_H → Prop) : Nat → Int32 → Int32 → pz_H → Prop
  | 0, _, _, _ => False
  | n + 1, x4, x5, h => (pq_br (x4 = 0) (B_X5_above_49 a0 x2 x3 x4 x5 (fun z0 z1 hz => L_X5_above_39 a0 x2 x3 Q n z0 z1 hz) Q h) (pq_br (x5 = 0) (B_X5_above_49 a0 x2 x3 x4 x5 (fun z0 z1 hz => L_X5_above_39 a0 x2 x3 Q n z0 z1 hz) Q h) (B_X5_above_109 x4 x5 Q h)))
set_option maxHeartbeats 4000000 in
set_option maxRecDepth 100000 in
theorem kL_X5_above_39 (X : pz_X) (d : Nat) (a0 : Nat) (x2 : Int32) (x3 : Int32)   (Q : Int32 → pz_H → Prop)  : ∀ (n : Nat) (x4 : Int32) (x5 : Int32) (h : pz_H), L_X5_above_39 a0 x2 x3  Q n x4 x5 h → pz_W (fun _ => True) X M_X5_above (d + 5) 39 [(0, .ref a0), (2, .int x2), (3, .int x3), (4, .int x4), (5, .int x5)] [] h 0 0 (pq_qI Q) := by
  intro n
  induction n with
  | zero =>
    intro _ _ _ hf
    exact False.elim hf
  | succ n ih =>
    intro x4 x5 h hf
    unfold L_X5_above_39 at hf
    refine pz_iload dX5_above_39 rfl ?_
    obtain ⟨ha, hb⟩ := hf
    refine pz_if_eq dX5_above_41 (tgt := 49) (by decide) (fun cc => ?_) (fun cc => ?_)
    · have hf := ha cc
      exact pz_drop (pz_part_of [0, 2, 3, 4, 5] rfl) (kB_X5_above_49 X d _ _ _ _ _ _ _ _ ih hf)
    · have hf := hb cc
      refine pz_iload dX5_above_44 rfl ?_
      obtain ⟨ha, hb⟩ := hf
      refine pz_if_ne dX5_above_46 (tgt := 109) (by decide) (fun cc => ?_) (fun cc => ?_)
      · have hf := hb cc
        exact pz_drop (pz_part_of [4, 5] rfl) (kB_X5_above_109 X d _ _ _ _  hf)
      · have hf := ha cc
        exact pz_drop (pz_part_of [0, 2, 3, 4, 5] rfl) (kB_X5_above_49 X d _ _ _ _ _ _ _ _ ih hf)
def F_X5_above (a0 : Nat) (x1 : Int32) (x2 : Int32) (x3 : Int32) (h : pz_H) (Q : Int32 → pz_H → Prop) : Prop := (pq_o h a0 5 (F_X5_hasFace a0 x1 x2 h (fun v12 h11 => (pq_br (v12 = 0) (B_X5_above_18 Q h11) (pq_o h11 a0 5 (F_X5_hasFace a0 x1 x3 h11 (fun v14 h13 => (pq_br (v14 = 0) (B_X5_above_18 Q h13) (pq_br (x2 = x3) (Q (2 : Int32) h13) (pq_o h13 a0 5 (F_X5_begin a0 x1 h13 (fun h15 => (pq_ex (fun m39 => L_X5_above_39 a0 x2 x3 Q m39 (0 : Int32) (0 : Int32) h15))))))))))))))
set_option maxHeartbeats 4000000 in
set_option maxRecDepth 100000 in
theorem k_X5_above (X : pz_X) (d : Nat) (a0 : Nat) (x1 : Int32) (x2 : Int32) (x3 : Int32) (h : pz_H) (Q : Int32 → pz_H → Prop) (hf : F_X5_above a0 x1 x2 x3 h Q) : pz_Call X M_X5_above (d + 5) 0 0 [.ref a0, .int x1, .int x2, .int x3] h (pq_qI Q) := by
  refine pz_call_of (by decide +kernel) (Nat.le_of_ble_eq_true rfl) ?_
  unfold F_X5_above at hf
  refine pz_aload_n dX5_above_0 rfl ?_
  refine pz_iload_n dX5_above_1 rfl ?_
  refine pz_iload_n dX5_above_2 rfl ?_
  obtain ⟨_, hO, hf⟩ := hf
  refine pz_callV2 (rc := 0) (rs := 0) (mc := 0) (ms := 0) dX5_above_3 (k_X5_hasFace X (d + 3) _ _ _ _ _ hf) (Nat.le_of_ble_eq_true rfl) mf_X5_hasFace ml_X5_97 hO rfl mi_X5_hasFace ms_X5_hasFace (fun _ h9 hq => ?_)
  obtain ⟨_, rfl, hf⟩ := hq
  obtain ⟨ha, hb⟩ := hf
  refine pz_if_eq dX5_above_6 (tgt := 18) (by decide) (fun cc => ?_) (fun cc => ?_)
  · have hf := ha cc
    exact pz_drop (pz_part_of [] rfl) (kB_X5_above_18 X d _ _  hf)
  · have hf := hb cc
    refine pz_aload_n dX5_above_9 rfl ?_
    refine pz_iload_n dX5_above_10 rfl ?_
    refine pz_iload_n dX5_above_11 rfl ?_
    obtain ⟨_, hO, hf⟩ := hf
    refine pz_callV2 (rc := 0) (rs := 0) (mc := 0) (ms := 0) dX5_above_12 (k_X5_hasFace X (d + 3) _ _ _ _ _ hf) (Nat.le_of_ble_eq_true rfl) mf_X5_hasFace ml_X5_97 hO rfl mi_X5_hasFace ms_X5_hasFace (fun _ h9 hq => ?_)
    obtain ⟨_, rfl, hf⟩ := hq
    obtain ⟨ha, hb⟩ := hf
    refine pz_if_ne dX5_above_15 (tgt := 21) (by decide) (fun cc => ?_) (fun cc => ?_)
    · have hf := hb cc
      refine pz_iload_n dX5_above_21 rfl ?_
      refine pz_iload_n dX5_above_22 rfl ?_
      obtain ⟨ha, hb⟩ := hf
      refine pz_icmp_ne dX5_above_23 (tgt := 28) (by decide) (fun cc => ?_) (fun cc => ?_)
      · have hf := hb cc
        refine pz_aload_n dX5_above_28 rfl ?_
        refine pz_iload_n dX5_above_29 rfl ?_
        obtain ⟨_, hO, hf⟩ := hf
        refine pz_callV1 (rc := 0) (rs := 0) (mc := 0) (ms := 0) dX5_above_30 (k_X5_begin X (d + 2) _ _ _ _ hf) (Nat.le_of_ble_eq_true rfl) mf_X5_begin ml_X5_157 hO rfl mi_X5_begin ms_X5_begin (fun _ h9 hq => ?_)
        obtain ⟨rfl, hf⟩ := hq
        refine pz_iconst (v := (0 : Int32)) dX5_above_33 (by decide) ?_
        refine pz_istore dX5_above_34 (by decide) rfl ?_
        refine pz_iconst (v := (0 : Int32)) dX5_above_36 (by decide) ?_
        refine pz_istore dX5_above_37 (by decide) rfl ?_
        obtain ⟨n9, hf⟩ := hf
        exact pz_drop (pz_part_of [0, 2, 3, 4, 5] rfl) (kL_X5_above_39 X d _ _ _ _  n9 _ _ _ hf)
      · have hf := ha cc
        refine pz_iconst (v := (2 : Int32)) dX5_above_26 (by decide) ?_
        exact pz_ireturn dX5_above_27 rfl rfl ⟨_, rfl, hf⟩
    · have hf := ha cc
      exact pz_drop (pz_part_of [] rfl) (kB_X5_above_18 X d _ _  hf)
def B_X5_alike_16   (Q : Int32 → pz_H → Prop) (h : pz_H) : Prop := (Q (-101 : Int32) h)
set_option maxHeartbeats 4000000 in
set_option maxRecDepth 100000 in
theorem kB_X5_alike_16 (X : pz_X) (d : Nat)    (Q : Int32 → pz_H → Prop) (h : pz_H)  (hf : B_X5_alike_16   Q h) : pz_W (fun _ => True) X M_X5_alike (d + 6) 16 [] [] h 0 0 (pq_qI Q) := by
  unfold B_X5_alike_16 at hf
  refine pz_bipush (v := (-101 : Int32)) dX5_alike_16 (by decide) ?_
  exact pz_ireturn dX5_alike_18 rfl rfl ⟨_, rfl, hf⟩
def B_X5_alike_47   (Q : Int32 → pz_H → Prop) (h : pz_H) : Prop := (Q (0 : Int32) h)
set_option maxHeartbeats 4000000 in
set_option maxRecDepth 100000 in
theorem kB_X5_alike_47 (X : pz_X) (d : Nat)    (Q : Int32 → pz_H → Prop) (h : pz_H)  (hf : B_X5_alike_47   Q h) : pz_W (fun _ => True) X M_X5_alike (d + 6) 47 [] [] h 0 0 (pq_qI Q) := by
  unfold B_X5_alike_47 at hf
  refine pz_iconst (v := (0 : Int32)) dX5_alike_47 (by decide) ?_
  exact pz_ireturn dX5_alike_48 rfl rfl ⟨_, rfl, hf⟩
def L_X5_alike_142 (a0 : Nat) (x1 : Int32) (x2 : Int32) (k54 : pz_H → Prop) (Q : Int32 → pz_H → Prop) : Nat → Int32 → pz_H → Prop
  | 0, _, _ => False
  | n + 1, x4, h => (pq_br ((9 : Int32) ≤ x4) (k54 h) (pq_gA h a0 5 14 (fun b19 => (pq_gA h a0 5 20 (fun b20 => (pq_aI h b20 x4 (fun v21 => (pq_sI h b19 x4 v21 (fun h22 => (pq_gA h22 a0 5 16 (fun b23 => (pq_gA h22 a0 5 21 (fun b24 => (pq_aI h22 b24 x4 (fun v25 => (pq_sI h22 b23 x4 v25 (fun h26 => (L_X5_alike_142 a0 x1 x2 k54 Q n (x4 + (1 : Int32)) h26))))))))))))))))))
set_option maxHeartbeats 4000000 in
set_option maxRecDepth 100000 in
theorem kL_X5_alike_142 (X : pz_X) (d : Nat) (a0 : Nat) (x1 : Int32) (x2 : Int32)  (k54 : pz_H → Prop) (Q : Int32 → pz_H → Prop) (hk54 : ∀ (h : pz_H), k54 h → pz_W (fun _ => True) X M_X5_alike (d + 6) 54 [(0, .ref a0), (1, .int x1), (2, .int x2)] [] h 0 0 (pq_qI Q)) : ∀ (n : Nat) (x4 : Int32) (h : pz_H), L_X5_alike_142 a0 x1 x2 k54 Q n x4 h → pz_W (fun _ => True) X M_X5_alike (d + 6) 142 [(0, .ref a0), (1, .int x1), (2, .int x2), (4, .int x4)] [] h 0 0 (pq_qI Q) := by
  intro n
  induction n with
  | zero =>
    intro _ _ hf
    exact False.elim hf
  | succ n ih =>
    intro x4 h hf
    unfold L_X5_alike_142 at hf
    refine pz_iload dX5_alike_142 rfl ?_
    refine pz_bipush (v := (9 : Int32)) dX5_alike_144 (by decide) ?_
    obtain ⟨ha, hb⟩ := hf
    refine pz_icmp_ge dX5_alike_146 (tgt := 183) (by decide) (fun cc => ?_) (fun cc => ?_)
    · have hf := ha cc
      refine pz_goto dX5_alike_183 (tgt := 54) (by decide) ?_
      exact pz_drop (pz_part_of [0, 1, 2] rfl) (hk54 _ hf)
    · have hf := hb cc
      refine pz_aload_n dX5_alike_149 rfl ?_
      obtain ⟨_, b19, h1, h2, hf⟩ := hf
      refine pz_get dX5_alike_150 fl_X5_43 h1 h2 ?_
      refine pz_iload dX5_alike_153 rfl ?_
      refine pz_aload_n dX5_alike_155 rfl ?_
      obtain ⟨_, b20, h1, h2, hf⟩ := hf
      refine pz_get dX5_alike_156 fl_X5_59 h1 h2 ?_
      refine pz_iload dX5_alike_159 rfl ?_
      obtain ⟨_, _, h1, h2, hf⟩ := hf
      refine pz_iald dX5_alike_161 h1 h2 ?_
      obtain ⟨_, _, h1, h2, hf⟩ := hf
      refine pz_iast dX5_alike_162 h1 h2 ?_
      refine pz_aload_n dX5_alike_163 rfl ?_
      obtain ⟨_, b23, h1, h2, hf⟩ := hf
      refine pz_get dX5_alike_164 fl_X5_46 h1 h2 ?_
      refine pz_iload dX5_alike_167 rfl ?_
      refine pz_aload_n dX5_alike_169 rfl ?_
      obtain ⟨_, b24, h1, h2, hf⟩ := hf
      refine pz_get dX5_alike_170 fl_X5_62 h1 h2 ?_
      refine pz_iload dX5_alike_173 rfl ?_
      obtain ⟨_, _, h1, h2, hf⟩ := hf
      refine pz_iald dX5_alike_175 h1 h2 ?_
      obtain ⟨_, _, h1, h2, hf⟩ := hf
      refine pz_iast dX5_alike_176 h1 h2 ?_
      refine pz_iinc dX5_alike_177 rfl (by rfl) (by decide) rfl ?_
      refine pz_goto dX5_alike_180 (tgt := 142) (by decide) ?_
      exact pz_drop (pz_part_of [0, 1, 2, 4] rfl) (ih _ _ hf)
def L_X5_alike_69 (a0 : Nat) (x1 : Int32) (x2 : Int32) (x3 : Int32) (k54 : pz_H → Prop) (Q : Int32 → pz_H → Prop) : Nat → Int32 → pz_H → Prop
  | 0, _, _ => False
  | n + 1, x4, h => (pq_br ((9 : Int32) ≤ x4) (pq_o h a0 5 (F_X5_number a0 h (fun v5 h4 => (pq_o h4 a0 5 (F_X5_check a0 x2 v5 h4 (fun v7 h6 => (pq_br (v7 = 0) (pq_o h6 a0 5 (F_X5_begin a0 x1 h6 (fun h8 => (pq_p h8 a0 5 13 (.int (1 : Int32)) (fun h9 => (pq_p h9 a0 5 15 (.int x3) (fun h10 => (pq_ex (fun m142 => L_X5_alike_142 a0 x1 x2 k54 Q m142 (0 : Int32) h10))))))))) (Q (0 : Int32) h6)))))))) (pq_gA h a0 5 20 (fun b11 => (pq_gA h a0 5 14 (fun b12 => (pq_aI h b12 x4 (fun v13 => (pq_sI h b11 x4 v13 (fun h14 => (pq_gA h14 a0 5 21 (fun b15 => (pq_gA h14 a0 5 16 (fun b16 => (pq_aI h14 b16 x4 (fun v17 => (pq_sI h14 b15 x4 v17 (fun h18 => (L_X5_alike_69 a0 x1 x2 x3 k54 Q n (x4 + (1 : Int32)) h18))))))))))))))))))
set_option maxHeartbeats 4000000 in
set_option maxRecDepth 100000 in
theorem kL_X5_alike_69 (X : pz_X) (d : Nat) (a0 : Nat) (x1 : Int32) (x2 : Int32) (x3 : Int32)  (k54 : pz_H → Prop) (Q : Int32 → pz_H → Prop) (hk54 : ∀ (h : pz_H), k54 h → pz_W (fun _ => True) X M_X5_alike (d + 6) 54 [(0, .ref a0), (1, .int x1), (2, .int x2)] [] h 0 0 (pq_qI Q)) : ∀ (n : Nat) (x4 : Int32) (h : pz_H), L_X5_alike_69 a0 x1 x2 x3 k54 Q n x4 h → pz_W (fun _ => True) X M_X5_alike (d + 6) 69 [(0, .ref a0), (1, .int x1), (2, .int x2), (3, .int x3), (4, .int x4)] [] h 0 0 (pq_qI Q) := by
  intro n
  induction n with
  | zero =>
    intro _ _ hf
    exact False.elim hf
  | succ n ih =>
    intro x4 h hf
    unfold L_X5_alike_69 at hf
    refine pz_iload dX5_alike_69 rfl ?_
    refine pz_bipush (v := (9 : Int32)) dX5_alike_71 (by decide) ?_
    obtain ⟨ha, hb⟩ := hf
    refine pz_icmp_ge dX5_alike_73 (tgt := 110) (by decide) (fun cc => ?_) (fun cc => ?_)
    · have hf := ha cc
      refine pz_aload_n dX5_alike_110 rfl ?_
      refine pz_iload_n dX5_alike_111 rfl ?_
      refine pz_aload_n dX5_alike_112 rfl ?_
      obtain ⟨_, hO, hf⟩ := hf
      refine pz_callV0 (rc := 0) (rs := 0) (mc := 0) (ms := 0) dX5_alike_113 (k_X5_number X (d + 5) _ _ _ hf) (Nat.le_of_ble_eq_true rfl) mf_X5_number ml_X5_167 hO rfl mi_X5_number ms_X5_number (fun _ h9 hq => ?_)
      obtain ⟨_, rfl, hf⟩ := hq
      obtain ⟨_, hO, hf⟩ := hf
      refine pz_callV2 (rc := 0) (rs := 0) (mc := 0) (ms := 0) dX5_alike_116 (k_X5_check X (d + 2) _ _ _ _ _ hf) (Nat.le_of_ble_eq_true rfl) mf_X5_check ml_X5_180 hO rfl mi_X5_check ms_X5_check (fun _ h9 hq => ?_)
      obtain ⟨_, rfl, hf⟩ := hq
      obtain ⟨ha, hb⟩ := hf
      refine pz_if_eq dX5_alike_119 (tgt := 124) (by decide) (fun cc => ?_) (fun cc => ?_)
      · have hf := ha cc
        refine pz_aload_n dX5_alike_124 rfl ?_
        refine pz_iload_n dX5_alike_125 rfl ?_
        obtain ⟨_, hO, hf⟩ := hf
        refine pz_callV1 (rc := 0) (rs := 0) (mc := 0) (ms := 0) dX5_alike_126 (k_X5_begin X (d + 3) _ _ _ _ hf) (Nat.le_of_ble_eq_true rfl) mf_X5_begin ml_X5_157 hO rfl mi_X5_begin ms_X5_begin (fun _ h9 hq => ?_)
        obtain ⟨rfl, hf⟩ := hq
        refine pz_aload_n dX5_alike_129 rfl ?_
        refine pz_iconst (v := (1 : Int32)) dX5_alike_130 (by decide) ?_
        obtain ⟨_, h1, h2, hf⟩ := hf
        refine pz_put dX5_alike_131 fp_X5_123 h1 rfl rfl h2 ?_
        refine pz_aload_n dX5_alike_134 rfl ?_
        refine pz_iload_n dX5_alike_135 rfl ?_
        obtain ⟨_, h1, h2, hf⟩ := hf
        refine pz_put dX5_alike_136 fp_X5_120 h1 rfl rfl h2 ?_
        refine pz_iconst (v := (0 : Int32)) dX5_alike_139 (by decide) ?_
        refine pz_istore dX5_alike_140 (by decide) rfl ?_
        obtain ⟨n9, hf⟩ := hf
        exact pz_drop (pz_part_of [0, 1, 2, 4] rfl) (kL_X5_alike_142 X d _ _ _ _ _ hk54 n9 _ _ hf)
      · have hf := hb cc
        refine pz_iconst (v := (0 : Int32)) dX5_alike_122 (by decide) ?_
        exact pz_ireturn dX5_alike_123 rfl rfl ⟨_, rfl, hf⟩
    · have hf := hb cc
      refine pz_aload_n dX5_alike_76 rfl ?_
      obtain ⟨_, b11, h1, h2, hf⟩ := hf
      refine pz_get dX5_alike_77 fl_X5_59 h1 h2 ?_
      refine pz_iload dX5_alike_80 rfl ?_
      refine pz_aload_n dX5_alike_82 rfl ?_
      obtain ⟨_, b12, h1, h2, hf⟩ := hf
      refine pz_get dX5_alike_83 fl_X5_43 h1 h2 ?_
      refine pz_iload dX5_alike_86 rfl ?_
      obtain ⟨_, _, h1, h2, hf⟩ := hf
      refine pz_iald dX5_alike_88 h1 h2 ?_
      obtain ⟨_, _, h1, h2, hf⟩ := hf
      refine pz_iast dX5_alike_89 h1 h2 ?_
      refine pz_aload_n dX5_alike_90 rfl ?_
      obtain ⟨_, b15, h1, h2, hf⟩ := hf
      refine pz_get dX5_alike_91 fl_X5_62 h1 h2 ?_
      refine pz_iload dX5_alike_94 rfl ?_
      refine pz_aload_n dX5_alike_96 rfl ?_
      obtain ⟨_, b16, h1, h2, hf⟩ := hf
      refine pz_get dX5_alike_97 fl_X5_46 h1 h2 ?_
      refine pz_iload dX5_alike_100 rfl ?_
      obtain ⟨_, _, h1, h2, hf⟩ := hf
      refine pz_iald dX5_alike_102 h1 h2 ?_
      obtain ⟨_, _, h1, h2, hf⟩ := hf
      refine pz_iast dX5_alike_103 h1 h2 ?_
      refine pz_iinc dX5_alike_104 rfl (by rfl) (by decide) rfl ?_
      refine pz_goto dX5_alike_107 (tgt := 69) (by decide) ?_
      exact pz_drop (pz_part_of [0, 1, 2, 3, 4] rfl) (ih _ _ hf)
def L_X5_alike_54 (a0 : Nat) (x1 : Int32) (x2 : Int32)  (Q : Int32 → pz_H → Prop) : Nat → pz_H → Prop
  | 0, _ => False
  | n + 1, h => (pq_o h a0 5 (F_X5_next a0 h (fun v2 h1 => (pq_br (v2 = 0) (Q (1 : Int32) h1) (pq_gI h1 a0 5 15 (fun v3 => (pq_ex (fun m69 => L_X5_alike_69 a0 x1 x2 v3 (fun hz => L_X5_alike_54 a0 x1 x2 Q n hz) Q m69 (0 : Int32) h1))))))))
set_option maxHeartbeats 4000000 in
set_option maxRecDepth 100000 in
theorem kL_X5_alike_54 (X : pz_X) (d : Nat) (a0 : Nat) (x1 : Int32) (x2 : Int32)   (Q : Int32 → pz_H → Prop)  : ∀ (n : Nat)  (h : pz_H), L_X5_alike_54 a0 x1 x2  Q n  h → pz_W (fun _ => True) X M_X5_alike (d + 6) 54 [(0, .ref a0), (1, .int x1), (2, .int x2)] [] h 0 0 (pq_qI Q) := by
  intro n
  induction n with
  | zero =>
    intro _ hf
    exact False.elim hf
  | succ n ih =>
    intro h hf
    unfold L_X5_alike_54 at hf
    refine pz_aload_n dX5_alike_54 rfl ?_
    obtain ⟨_, hO, hf⟩ := hf
    refine pz_callV0 (rc := 0) (rs := 0) (mc := 0) (ms := 0) dX5_alike_55 (k_X5_next X (d + 1) _ _ _ hf) (Nat.le_of_ble_eq_true rfl) mf_X5_next ml_X5_161 hO rfl mi_X5_next ms_X5_next (fun _ h9 hq => ?_)
    obtain ⟨_, rfl, hf⟩ := hq
    obtain ⟨ha, hb⟩ := hf
    refine pz_if_eq dX5_alike_58 (tgt := 186) (by decide) (fun cc => ?_) (fun cc => ?_)
    · have hf := ha cc
      refine pz_iconst (v := (1 : Int32)) dX5_alike_186 (by decide) ?_
      exact pz_ireturn dX5_alike_187 rfl rfl ⟨_, rfl, hf⟩
    · have hf := hb cc
      refine pz_aload_n dX5_alike_61 rfl ?_
      obtain ⟨_, v3, h1, h2, hf⟩ := hf
      refine pz_get dX5_alike_62 fl_X5_120 h1 h2 ?_
      refine pz_istore_n dX5_alike_65 rfl (by decide) rfl ?_
      refine pz_iconst (v := (0 : Int32)) dX5_alike_66 (by decide) ?_
      refine pz_istore dX5_alike_67 (by decide) rfl ?_
      obtain ⟨n9, hf⟩ := hf
      exact pz_drop (pz_part_of [0, 1, 2, 3, 4] rfl) (kL_X5_alike_69 X d _ _ _ _ _ _ ih n9 _ _ hf)
def F_X5_alike (a0 : Nat) (x1 : Int32) (x2 : Int32) (h : pz_H) (Q : Int32 → pz_H → Prop) : Prop := (pq_o h a0 5 (F_X5_has a0 x1 h (fun v28 h27 => (pq_br (v28 = 0) (B_X5_alike_16 Q h27) (pq_o h27 a0 5 (F_X5_has a0 x2 h27 (fun v30 h29 => (pq_br (v30 = 0) (B_X5_alike_16 Q h29) (pq_gA h29 a0 5 2 (fun b31 => (pq_aI h29 b31 x1 (fun v32 => (pq_gA h29 a0 5 2 (fun b33 => (pq_aI h29 b33 x2 (fun v34 => (pq_br (v32 = v34) (pq_o h29 a0 5 (F_X5_orders a0 x1 h29 (fun v36 h35 => (pq_o h35 a0 5 (F_X5_orders a0 x2 h35 (fun v38 h37 => (pq_br (v36 = v38) (pq_o h37 a0 5 (F_X5_begin a0 x1 h37 (fun h39 => (pq_ex (fun m54 => L_X5_alike_54 a0 x1 x2 Q m54 h39))))) (B_X5_alike_47 Q h37)))))))) (B_X5_alike_47 Q h29))))))))))))))))))
set_option maxHeartbeats 4000000 in
set_option maxRecDepth 100000 in
theorem k_X5_alike (X : pz_X) (d : Nat) (a0 : Nat) (x1 : Int32) (x2 : Int32) (h : pz_H) (Q : Int32 → pz_H → Prop) (hf : F_X5_alike a0 x1 x2 h Q) : pz_Call X M_X5_alike (d + 6) 0 0 [.ref a0, .int x1, .int x2] h (pq_qI Q) := by
  refine pz_call_of (by decide +kernel) (Nat.le_of_ble_eq_true rfl) ?_
  unfold F_X5_alike at hf
  refine pz_aload_n dX5_alike_0 rfl ?_
  refine pz_iload_n dX5_alike_1 rfl ?_
  obtain ⟨_, hO, hf⟩ := hf
  refine pz_callV1 (rc := 0) (rs := 0) (mc := 0) (ms := 0) dX5_alike_2 (k_X5_has X (d + 5) _ _ _ _ hf) (Nat.le_of_ble_eq_true rfl) mf_X5_has ml_X5_85 hO rfl mi_X5_has ms_X5_has (fun _ h9 hq => ?_)
  obtain ⟨_, rfl, hf⟩ := hq
  obtain ⟨ha, hb⟩ := hf
  refine pz_if_eq dX5_alike_5 (tgt := 16) (by decide) (fun cc => ?_) (fun cc => ?_)
  · have hf := ha cc
    exact pz_drop (pz_part_of [] rfl) (kB_X5_alike_16 X d _ _  hf)
  · have hf := hb cc
    refine pz_aload_n dX5_alike_8 rfl ?_
    refine pz_iload_n dX5_alike_9 rfl ?_
    obtain ⟨_, hO, hf⟩ := hf
    refine pz_callV1 (rc := 0) (rs := 0) (mc := 0) (ms := 0) dX5_alike_10 (k_X5_has X (d + 5) _ _ _ _ hf) (Nat.le_of_ble_eq_true rfl) mf_X5_has ml_X5_85 hO rfl mi_X5_has ms_X5_has (fun _ h9 hq => ?_)
    obtain ⟨_, rfl, hf⟩ := hq
    obtain ⟨ha, hb⟩ := hf
    refine pz_if_ne dX5_alike_13 (tgt := 19) (by decide) (fun cc => ?_) (fun cc => ?_)
    · have hf := hb cc
      refine pz_aload_n dX5_alike_19 rfl ?_
      obtain ⟨_, b31, h1, h2, hf⟩ := hf
      refine pz_get dX5_alike_20 fl_X5_13 h1 h2 ?_
      refine pz_iload_n dX5_alike_23 rfl ?_
      obtain ⟨_, _, h1, h2, hf⟩ := hf
      refine pz_iald dX5_alike_24 h1 h2 ?_
      refine pz_aload_n dX5_alike_25 rfl ?_
      obtain ⟨_, b33, h1, h2, hf⟩ := hf
      refine pz_get dX5_alike_26 fl_X5_13 h1 h2 ?_
      refine pz_iload_n dX5_alike_29 rfl ?_
      obtain ⟨_, _, h1, h2, hf⟩ := hf
      refine pz_iald dX5_alike_30 h1 h2 ?_
      obtain ⟨ha, hb⟩ := hf
      refine pz_icmp_ne dX5_alike_31 (tgt := 47) (by decide) (fun cc => ?_) (fun cc => ?_)
      · have hf := hb cc
        exact pz_drop (pz_part_of [] rfl) (kB_X5_alike_47 X d _ _  hf)
      · have hf := ha cc
        refine pz_aload_n dX5_alike_34 rfl ?_
        refine pz_iload_n dX5_alike_35 rfl ?_
        obtain ⟨_, hO, hf⟩ := hf
        refine pz_callV1 (rc := 0) (rs := 0) (mc := 0) (ms := 0) dX5_alike_36 (k_X5_orders X d _ _ _ _ hf) (Nat.le_of_ble_eq_true rfl) mf_X5_orders ml_X5_177 hO rfl mi_X5_orders ms_X5_orders (fun _ h9 hq => ?_)
        obtain ⟨_, rfl, hf⟩ := hq
        refine pz_aload_n dX5_alike_39 rfl ?_
        refine pz_iload_n dX5_alike_40 rfl ?_
        obtain ⟨_, hO, hf⟩ := hf
        refine pz_callV1 (rc := 0) (rs := 0) (mc := 0) (ms := 0) dX5_alike_41 (k_X5_orders X d _ _ _ _ hf) (Nat.le_of_ble_eq_true rfl) mf_X5_orders ml_X5_177 hO rfl mi_X5_orders ms_X5_orders (fun _ h9 hq => ?_)
        obtain ⟨_, rfl, hf⟩ := hq
        obtain ⟨ha, hb⟩ := hf
        refine pz_icmp_eq dX5_alike_44 (tgt := 49) (by decide) (fun cc => ?_) (fun cc => ?_)
        · have hf := ha cc
          refine pz_aload_n dX5_alike_49 rfl ?_
          refine pz_iload_n dX5_alike_50 rfl ?_
          obtain ⟨_, hO, hf⟩ := hf
          refine pz_callV1 (rc := 0) (rs := 0) (mc := 0) (ms := 0) dX5_alike_51 (k_X5_begin X (d + 3) _ _ _ _ hf) (Nat.le_of_ble_eq_true rfl) mf_X5_begin ml_X5_157 hO rfl mi_X5_begin ms_X5_begin (fun _ h9 hq => ?_)
          obtain ⟨rfl, hf⟩ := hq
          obtain ⟨n9, hf⟩ := hf
          exact pz_drop (pz_part_of [0, 1, 2] rfl) (kL_X5_alike_54 X d _ _ _ _  n9 _ hf)
        · have hf := hb cc
          exact pz_drop (pz_part_of [] rfl) (kB_X5_alike_47 X d _ _  hf)
    · have hf := ha cc
      exact pz_drop (pz_part_of [] rfl) (kB_X5_alike_16 X d _ _  hf)
