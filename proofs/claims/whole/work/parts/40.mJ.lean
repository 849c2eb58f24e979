def F_J6_bitCount_0f7a4 (x0 : Int32) (h : pz_H) (Q : Int32 → pz_H → Prop) : Prop := (Q ((((((((x0 - ((x0.toUInt32 >>> (Int32.toUInt32 (1 : Int32) &&& Int32.toUInt32 31)).toInt32 &&& (1431655765 : Int32))) &&& (858993459 : Int32)) + (((x0 - ((x0.toUInt32 >>> (Int32.toUInt32 (1 : Int32) &&& Int32.toUInt32 31)).toInt32 &&& (1431655765 : Int32))).toUInt32 >>> (Int32.toUInt32 (2 : Int32) &&& Int32.toUInt32 31)).toInt32 &&& (858993459 : Int32))) + ((((x0 - ((x0.toUInt32 >>> (Int32.toUInt32 (1 : Int32) &&& Int32.toUInt32 31)).toInt32 &&& (1431655765 : Int32))) &&& (858993459 : Int32)) + (((x0 - ((x0.toUInt32 >>> (Int32.toUInt32 (1 : Int32) &&& Int32.toUInt32 31)).toInt32 &&& (1431655765 : Int32))).toUInt32 >>> (Int32.toUInt32 (2 : Int32) &&& Int32.toUInt32 31)).toInt32 &&& (858993459 : Int32))).toUInt32 >>> (Int32.toUInt32 (4 : Int32) &&& Int32.toUInt32 31)).toInt32) &&& (252645135 : Int32)) + ((((((x0 - ((x0.toUInt32 >>> (Int32.toUInt32 (1 : Int32) &&& Int32.toUInt32 31)).toInt32 &&& (1431655765 : Int32))) &&& (858993459 : Int32)) + (((x0 - ((x0.toUInt32 >>> (Int32.toUInt32 (1 : Int32) &&& Int32.toUInt32 31)).toInt32 &&& (1431655765 : Int32))).toUInt32 >>> (Int32.toUInt32 (2 : Int32) &&& Int32.toUInt32 31)).toInt32 &&& (858993459 : Int32))) + ((((x0 - ((x0.toUInt32 >>> (Int32.toUInt32 (1 : Int32) &&& Int32.toUInt32 31)).toInt32 &&& (1431655765 : Int32))) &&& (858993459 : Int32)) + (((x0 - ((x0.toUInt32 >>> (Int32.toUInt32 (1 : Int32) &&& Int32.toUInt32 31)).toInt32 &&& (1431655765 : Int32))).toUInt32 >>> (Int32.toUInt32 (2 : Int32) &&& Int32.toUInt32 31)).toInt32 &&& (858993459 : Int32))).toUInt32 >>> (Int32.toUInt32 (4 : Int32) &&& Int32.toUInt32 31)).toInt32) &&& (252645135 : Int32)).toUInt32 >>> (Int32.toUInt32 (8 : Int32) &&& Int32.toUInt32 31)).toInt32) + (((((((x0 - ((x0.toUInt32 >>> (Int32.toUInt32 (1 : Int32) &&& Int32.toUInt32 31)).toInt32 &&& (1431655765 : Int32))) &&& (858993459 : Int32)) + (((x0 - ((x0.toUInt32 >>> (Int32.toUInt32 (1 : Int32) &&& Int32.toUInt32 31)).toInt32 &&& (1431655765 : Int32))).toUInt32 >>> (Int32.toUInt32 (2 : Int32) &&& Int32.toUInt32 31)).toInt32 &&& (858993459 : Int32))) + ((((x0 - ((x0.toUInt32 >>> (Int32.toUInt32 (1 : Int32) &&& Int32.toUInt32 31)).toInt32 &&& (1431655765 : Int32))) &&& (858993459 : Int32)) + (((x0 - ((x0.toUInt32 >>> (Int32.toUInt32 (1 : Int32) &&& Int32.toUInt32 31)).toInt32 &&& (1431655765 : Int32))).toUInt32 >>> (Int32.toUInt32 (2 : Int32) &&& Int32.toUInt32 31)).toInt32 &&& (858993459 : Int32))).toUInt32 >>> (Int32.toUInt32 (4 : Int32) &&& Int32.toUInt32 31)).toInt32) &&& (252645135 : Int32)) + ((((((x0 - ((x0.toUInt32 >>> (Int32.toUInt32 (1 : Int32) &&& Int32.toUInt32 31)).toInt32 &&& (1431655765 : Int32))) &&& (858993459 : Int32)) + (((x0 - ((x0.toUInt32 >>> (Int32.toUInt32 (1 : Int32) &&& Int32.toUInt32 31)).toInt32 &&& (1431655765 : Int32))).toUInt32 >>> (Int32.toUInt32 (2 : Int32) &&& Int32.toUInt32 31)).toInt32 &&& (858993459 : Int32))) + ((((x0 - ((x0.toUInt32 >>> (Int32.toUInt32 (1 : Int32) &&& Int32.toUInt32 31)).toInt32 &&& (1431655765 : Int32))) &&& (858993459 : Int32)) + (((x0 - ((x0.toUInt32 >>> (Int32.toUInt32 (1 : Int32) &&& Int32.toUInt32 31)).toInt32 &&& (1431655765 : Int32))).toUInt32 >>> (Int32.toUInt32 (2 : Int32) &&& Int32.toUInt32 31)).toInt32 &&& (858993459 : Int32))).toUInt32 >>> (Int32.toUInt32 (4 : Int32) &&& Int32.toUInt32 31)).toInt32) &&& (252645135 : Int32)).toUInt32 >>> (Int32.toUInt32 (8 : Int32) &&& Int32.toUInt32 31)).toInt32).toUInt32 >>> (Int32.toUInt32 (16 : Int32) &&& Int32.toUInt32 31)).toInt32) &&& (63 : Int32)) h)
set_option maxHeartbeats 4000000 in
set_option maxRecDepth 100000 in
theorem k_J6_bitCount_0f7a4 (X : pz_X) (d : Nat) (x0 : Int32) (h : pz_H) (Q : Int32 → pz_H → Prop) (hf : F_J6_bitCount_0f7a4 x0 h Q) : pz_Call X M_J6_bitCount_0f7a4 (d + 0) 0 0 [.int x0] h (pq_qI Q) := by
  refine pz_call_ofJ (by decide +kernel) (Nat.le_of_ble_eq_true rfl) ?_
  unfold F_J6_bitCount_0f7a4 at hf
  refine pz_iload_n dJ6_bitCount_0f7a4_0 rfl ?_
  refine pz_iload_n dJ6_bitCount_0f7a4_1 rfl ?_
  refine pz_iconst (v := (1 : Int32)) dJ6_bitCount_0f7a4_2 (by decide) ?_
  refine pz_iushr dJ6_bitCount_0f7a4_3 rfl ?_
  refine pz_ldcw dJ6_bitCount_0f7a4_4 cn_J6_265 ?_
  refine pz_iand dJ6_bitCount_0f7a4_7 ?_
  refine pz_isub dJ6_bitCount_0f7a4_8 ?_
  refine pz_istore_n dJ6_bitCount_0f7a4_9 rfl (by decide) rfl ?_
  refine pz_iload_n dJ6_bitCount_0f7a4_10 rfl ?_
  refine pz_ldcw dJ6_bitCount_0f7a4_11 cn_J6_266 ?_
  refine pz_iand dJ6_bitCount_0f7a4_14 ?_
  refine pz_iload_n dJ6_bitCount_0f7a4_15 rfl ?_
  refine pz_iconst (v := (2 : Int32)) dJ6_bitCount_0f7a4_16 (by decide) ?_
  refine pz_iushr dJ6_bitCount_0f7a4_17 rfl ?_
  refine pz_ldcw dJ6_bitCount_0f7a4_18 cn_J6_266 ?_
  refine pz_iand dJ6_bitCount_0f7a4_21 ?_
  refine pz_iadd dJ6_bitCount_0f7a4_22 ?_
  refine pz_istore_n dJ6_bitCount_0f7a4_23 rfl (by decide) rfl ?_
  refine pz_iload_n dJ6_bitCount_0f7a4_24 rfl ?_
  refine pz_iload_n dJ6_bitCount_0f7a4_25 rfl ?_
  refine pz_iconst (v := (4 : Int32)) dJ6_bitCount_0f7a4_26 (by decide) ?_
  refine pz_iushr dJ6_bitCount_0f7a4_27 rfl ?_
  refine pz_iadd dJ6_bitCount_0f7a4_28 ?_
  refine pz_ldcw dJ6_bitCount_0f7a4_29 cn_J6_267 ?_
  refine pz_iand dJ6_bitCount_0f7a4_32 ?_
  refine pz_istore_n dJ6_bitCount_0f7a4_33 rfl (by decide) rfl ?_
  refine pz_iload_n dJ6_bitCount_0f7a4_34 rfl ?_
  refine pz_iload_n dJ6_bitCount_0f7a4_35 rfl ?_
  refine pz_bipush (v := (8 : Int32)) dJ6_bitCount_0f7a4_36 (by decide) ?_
  refine pz_iushr dJ6_bitCount_0f7a4_38 rfl ?_
  refine pz_iadd dJ6_bitCount_0f7a4_39 ?_
  refine pz_istore_n dJ6_bitCount_0f7a4_40 rfl (by decide) rfl ?_
  refine pz_iload_n dJ6_bitCount_0f7a4_41 rfl ?_
  refine pz_iload_n dJ6_bitCount_0f7a4_42 rfl ?_
  refine pz_bipush (v := (16 : Int32)) dJ6_bitCount_0f7a4_43 (by decide) ?_
  refine pz_iushr dJ6_bitCount_0f7a4_45 rfl ?_
  refine pz_iadd dJ6_bitCount_0f7a4_46 ?_
  refine pz_istore_n dJ6_bitCount_0f7a4_47 rfl (by decide) rfl ?_
  refine pz_iload_n dJ6_bitCount_0f7a4_48 rfl ?_
  refine pz_bipush (v := (63 : Int32)) dJ6_bitCount_0f7a4_49 (by decide) ?_
  refine pz_iand dJ6_bitCount_0f7a4_51 ?_
  exact pz_ireturn dJ6_bitCount_0f7a4_52 rfl rfl ⟨_, rfl, hf⟩
def L_J7_fill_d0a16_6 (a0 : Nat) (y1 : Int64) (x4 : Int32)  (Q : pz_H → Prop) : Nat → Int32 → pz_H → Prop
  | 0, _, _ => False
  | n + 1, x3, h => (pq_br (x4 ≤ x3) (Q h) (pq_sJ h a0 x3 y1 (fun h1 => (L_J7_fill_d0a16_6 a0 y1 x4 Q n (x3 + (1 : Int32)) h1))))
set_option maxHeartbeats 4000000 in
set_option maxRecDepth 100000 in
theorem kL_J7_fill_d0a16_6 (X : pz_X) (d : Nat) (a0 : Nat) (y1 : Int64) (x4 : Int32)   (Q : pz_H → Prop)  : ∀ (n : Nat) (x3 : Int32) (h : pz_H), L_J7_fill_d0a16_6 a0 y1 x4  Q n x3 h → pz_W (fun _ => True) X M_J7_fill_d0a16 (d + 0) 6 [(0, .ref a0), (1, .long y1), (3, .int x3), (4, .int x4)] [] h 0 0 (pq_qV Q) := by
  intro n
  induction n with
  | zero =>
    intro _ _ hf
    exact False.elim hf
  | succ n ih =>
    intro x3 h hf
    unfold L_J7_fill_d0a16_6 at hf
    refine pz_iload_n dJ7_fill_d0a16_6 rfl ?_
    refine pz_iload dJ7_fill_d0a16_7 rfl ?_
    obtain ⟨ha, hb⟩ := hf
    refine pz_icmp_ge dJ7_fill_d0a16_9 (tgt := 22) (by decide) (fun cc => ?_) (fun cc => ?_)
    · have hf := ha cc
      exact pz_return dJ7_fill_d0a16_22 rfl ⟨rfl, hf⟩
    · have hf := hb cc
      refine pz_aload_n dJ7_fill_d0a16_12 rfl ?_
      refine pz_iload_n dJ7_fill_d0a16_13 rfl ?_
      refine pz_lload_n dJ7_fill_d0a16_14 rfl ?_
      obtain ⟨_, _, h1, h2, hf⟩ := hf
      refine pz_last dJ7_fill_d0a16_15 h1 h2 ?_
      refine pz_iinc dJ7_fill_d0a16_16 rfl (by rfl) (by decide) rfl ?_
      refine pz_goto dJ7_fill_d0a16_19 (tgt := 6) (by decide) ?_
      exact pz_drop (pz_part_of [0, 1, 3, 4] rfl) (ih _ _ hf)
def F_J7_fill_d0a16 (a0 : Nat) (y1 : Int64) (h : pz_H) (Q : pz_H → Prop) : Prop := (pq_len h a0 (fun v2 => (pq_ex (fun m6 => L_J7_fill_d0a16_6 a0 y1 v2 Q m6 (0 : Int32) h))))
set_option maxHeartbeats 4000000 in
set_option maxRecDepth 100000 in
theorem k_J7_fill_d0a16 (X : pz_X) (d : Nat) (a0 : Nat) (y1 : Int64) (h : pz_H) (Q : pz_H → Prop) (hf : F_J7_fill_d0a16 a0 y1 h Q) : pz_Call X M_J7_fill_d0a16 (d + 0) 0 0 [.ref a0, .long y1] h (pq_qV Q) := by
  refine pz_call_ofJ (by decide +kernel) (Nat.le_of_ble_eq_true rfl) ?_
  unfold F_J7_fill_d0a16 at hf
  refine pz_iconst (v := (0 : Int32)) dJ7_fill_d0a16_0 (by decide) ?_
  refine pz_istore_n dJ7_fill_d0a16_1 rfl (by decide) rfl ?_
  refine pz_aload_n dJ7_fill_d0a16_2 rfl ?_
  obtain ⟨_, _, _, h1, h2, hf⟩ := hf
  refine pz_alen dJ7_fill_d0a16_3 h1 h2 rfl ?_
  refine pz_istore dJ7_fill_d0a16_4 (by decide) rfl ?_
  obtain ⟨n9, hf⟩ := hf
  exact pz_drop (pz_part_of [0, 1, 3, 4] rfl) (kL_J7_fill_d0a16_6 X d _ _ _ _  n9 _ _ hf)
def L_J7_fill_53178_5 (a0 : Nat) (x1 : Int32) (x3 : Int32)  (Q : pz_H → Prop) : Nat → Int32 → pz_H → Prop
  | 0, _, _ => False
  | n + 1, x2, h => (pq_br (x3 ≤ x2) (Q h) (pq_sI h a0 x2 x1 (fun h1 => (L_J7_fill_53178_5 a0 x1 x3 Q n (x2 + (1 : Int32)) h1))))
set_option maxHeartbeats 4000000 in
set_option maxRecDepth 100000 in
theorem kL_J7_fill_53178_5 (X : pz_X) (d : Nat) (a0 : Nat) (x1 : Int32) (x3 : Int32)   (Q : pz_H → Prop)  : ∀ (n : Nat) (x2 : Int32) (h : pz_H), L_J7_fill_53178_5 a0 x1 x3  Q n x2 h → pz_W (fun _ => True) X M_J7_fill_53178 (d + 0) 5 [(0, .ref a0), (1, .int x1), (2, .int x2), (3, .int x3)] [] h 0 0 (pq_qV Q) := by
  intro n
  induction n with
  | zero =>
    intro _ _ hf
    exact False.elim hf
  | succ n ih =>
    intro x2 h hf
    unfold L_J7_fill_53178_5 at hf
    refine pz_iload_n dJ7_fill_53178_5 rfl ?_
    refine pz_iload_n dJ7_fill_53178_6 rfl ?_
    obtain ⟨ha, hb⟩ := hf
    refine pz_icmp_ge dJ7_fill_53178_7 (tgt := 20) (by decide) (fun cc => ?_) (fun cc => ?_)
    · have hf := ha cc
      exact pz_return dJ7_fill_53178_20 rfl ⟨rfl, hf⟩
    · have hf := hb cc
      refine pz_aload_n dJ7_fill_53178_10 rfl ?_
      refine pz_iload_n dJ7_fill_53178_11 rfl ?_
      refine pz_iload_n dJ7_fill_53178_12 rfl ?_
      obtain ⟨_, _, h1, h2, hf⟩ := hf
      refine pz_iast dJ7_fill_53178_13 h1 h2 ?_
      refine pz_iinc dJ7_fill_53178_14 rfl (by rfl) (by decide) rfl ?_
      refine pz_goto dJ7_fill_53178_17 (tgt := 5) (by decide) ?_
      exact pz_drop (pz_part_of [0, 1, 2, 3] rfl) (ih _ _ hf)
def F_J7_fill_53178 (a0 : Nat) (x1 : Int32) (h : pz_H) (Q : pz_H → Prop) : Prop := (pq_len h a0 (fun v2 => (pq_ex (fun m5 => L_J7_fill_53178_5 a0 x1 v2 Q m5 (0 : Int32) h))))
set_option maxHeartbeats 4000000 in
set_option maxRecDepth 100000 in
theorem k_J7_fill_53178 (X : pz_X) (d : Nat) (a0 : Nat) (x1 : Int32) (h : pz_H) (Q : pz_H → Prop) (hf : F_J7_fill_53178 a0 x1 h Q) : pz_Call X M_J7_fill_53178 (d + 0) 0 0 [.ref a0, .int x1] h (pq_qV Q) := by
  refine pz_call_ofJ (by decide +kernel) (Nat.le_of_ble_eq_true rfl) ?_
  unfold F_J7_fill_53178 at hf
  refine pz_iconst (v := (0 : Int32)) dJ7_fill_53178_0 (by decide) ?_
  refine pz_istore_n dJ7_fill_53178_1 rfl (by decide) rfl ?_
  refine pz_aload_n dJ7_fill_53178_2 rfl ?_
  obtain ⟨_, _, _, h1, h2, hf⟩ := hf
  refine pz_alen dJ7_fill_53178_3 h1 h2 rfl ?_
  refine pz_istore_n dJ7_fill_53178_4 rfl (by decide) rfl ?_
  obtain ⟨n9, hf⟩ := hf
  exact pz_drop (pz_part_of [0, 1, 2, 3] rfl) (kL_J7_fill_53178_5 X d _ _ _ _  n9 _ _ hf)
def B_X4_has_13 (xs0 : Int32)  (Q : Int32 → pz_H → Prop) (h : pz_H) : Prop := (pq_z xs0 (Q xs0 h))
set_option maxHeartbeats 4000000 in
set_option maxRecDepth 100000 in
theorem kB_X4_has_13 (X : pz_X) (d : Nat) (xs0 : Int32)   (Q : Int32 → pz_H → Prop) (h : pz_H)  (hf : B_X4_has_13 xs0  Q h) : pz_W (fun _ => True) X M_X4_has (d + 0) 13 [] [.int xs0] h 0 0 (pq_qI Q) := by
  unfold B_X4_has_13 at hf
  obtain ⟨hz, hf⟩ := hf
  exact pz_ireturn dX4_has_13 rfl hz ⟨_, rfl, hf⟩
def F_X4_has (x0 : Int32) (x1 : Int32) (h : pz_H) (Q : Int32 → pz_H → Prop) : Prop := (pq_br (((x0 >>> (x1 &&& 31)) &&& (1 : Int32)) = 0) (B_X4_has_13 (0 : Int32) Q h) (B_X4_has_13 (1 : Int32) Q h))
set_option maxHeartbeats 4000000 in
set_option maxRecDepth 100000 in
theorem k_X4_has (X : pz_X) (d : Nat) (x0 : Int32) (x1 : Int32) (h : pz_H) (Q : Int32 → pz_H → Prop) (hf : F_X4_has x0 x1 h Q) : pz_Call X M_X4_has (d + 0) 0 0 [.int x0, .int x1] h (pq_qI Q) := by
  refine pz_call_of (by decide +kernel) (Nat.le_of_ble_eq_true rfl) ?_
  unfold F_X4_has at hf
  refine pz_iload_n dX4_has_0 rfl ?_
  refine pz_iload_n dX4_has_1 rfl ?_
  refine pz_ishr dX4_has_2 ?_
  refine pz_iconst (v := (1 : Int32)) dX4_has_3 (by decide) ?_
  refine pz_iand dX4_has_4 ?_
  obtain ⟨ha, hb⟩ := hf
  refine pz_if_eq dX4_has_5 (tgt := 12) (by decide) (fun cc => ?_) (fun cc => ?_)
  · have hf := ha cc
    refine pz_iconst (v := (0 : Int32)) dX4_has_12 (by decide) ?_
    exact pz_drop (pz_part_of [] rfl) (kB_X4_has_13 X d _ _ _  hf)
  · have hf := hb cc
    refine pz_iconst (v := (1 : Int32)) dX4_has_8 (by decide) ?_
    refine pz_goto dX4_has_9 (tgt := 13) (by decide) ?_
    exact pz_drop (pz_part_of [] rfl) (kB_X4_has_13 X d _ _ _  hf)
