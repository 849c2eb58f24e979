/-! THE LAW's own method: the script's rows, and its pure picture -/
abbrev M_L_law : pz_M := (yL_law, cL_law, 4, some .boolean)
def pq_sl (L : Nat) (xs : Nat → Int32) (i : Int32) (K : Int32 → Prop) : Prop := vp_in i L ∧ K (xs i.toNatClampNeg)
section PZL
variable {Ψ : State → Prop} {X : pz_X} {M : pz_M} {d pc rc rs : Nat} {lv : List (Nat × Value)} {st : List Value} {h : pz_H} {Q : Option Value → pz_H → Prop} {bb L : Nat} {xs : Nat → Int32}
theorem pz_sld (hΨs : ∀ s, Ψ s → va_X bb L xs s s.heap) (hbB : bb < X.2.2) {i : Int32} (hdg : decode M.2.1 pc = .ok (.iaload, 1)) (hin : vp_in i L) (kk : pz_W Ψ X M d (pc + 1) lv (.int (xs i.toNatClampNeg) :: st) h rc rs Q) : pz_W Ψ X M d pc lv (.int i :: .ref bb :: st) h rc rs Q := by
  intro p l e R s m args below meth c Z H locs cells slots ls hΨ I hL
  exact va_sld I.1.1 I.1.2.1 (hΨs s hΨ) (Nat.lt_of_lt_of_le hbB I.2.1) (Nat.not_le.mpr hbB) I.2.2.2.2.1 hin hdg (kk p l e R s m args below meth c Z H locs cells slots ls hΨ I hL)
theorem pz_slen (hΨs : ∀ s, Ψ s → va_X bb L xs s s.heap) (hbB : bb < X.2.2) (hdg : decode M.2.1 pc = .ok (.arraylength, 1)) (kk : pz_W Ψ X M d (pc + 1) lv (.int (Int32.ofNat L) :: st) h rc rs Q) : pz_W Ψ X M d pc lv (.ref bb :: st) h rc rs Q := by
  intro p l e R s m args below meth c Z H locs cells slots ls hΨ I hL
  exact va_slen I.1.1 I.1.2.1 (hΨs s hΨ) (Nat.lt_of_lt_of_le hbB I.2.1) (Nat.not_le.mpr hbB) I.2.2.2.2.1 hdg (kk p l e R s m args below meth c Z H locs cells slots ls hΨ I hL)
end PZL
def B_L_law_897 (L : Nat) (xs : Nat → Int32) (a1 : Nat) (a2 : Nat) (x3 : Int32) (k18 : Int32 → pz_H → Prop) (Q : Int32 → pz_H → Prop) (h : pz_H) : Prop := (k18 (x3 + (4 : Int32)) h)
set_option maxHeartbeats 8000000 in
set_option maxRecDepth 100000 in
theorem kB_L_law_897 {Ψ : State → Prop} (X : pz_X) (d L : Nat) (xs : Nat → Int32) (bb : Nat) (hΨs : ∀ s, Ψ s → va_X bb L xs s s.heap) (hbB : bb < X.2.2) (a1 : Nat) (a2 : Nat) (x3 : Int32) (k18 : Int32 → pz_H → Prop) (Q : Int32 → pz_H → Prop) (h : pz_H) (rc rs : Nat) (hk18 : ∀ (x3 : Int32) (h : pz_H), k18 x3 h → pz_W Ψ X M_L_law (d + 8) 18 [(0, .ref bb), (1, .ref a1), (2, .ref a2), (3, .int x3)] [] h rc rs (pq_qI Q)) (hf : B_L_law_897 L xs a1 a2 x3 k18 Q h) : pz_W Ψ X M_L_law (d + 8) 897 [(0, .ref bb), (1, .ref a1), (2, .ref a2), (3, .int x3)] [] h rc rs (pq_qI Q) := by
  unfold B_L_law_897 at hf
  refine pz_iinc dL_law_897 rfl (by rfl) (by decide) rfl ?_
  refine pz_goto dL_law_900 (tgt := 18) (by decide) ?_
  exact pz_drop (pz_part_of [0, 1, 2, 3] rfl) (hk18 _ _ hf)
def L_L_law_18 (L : Nat) (xs : Nat → Int32) (a1 : Nat) (a2 : Nat) (Q : Int32 → pz_H → Prop) : Nat → Int32 → pz_H → Prop
  | 0, _, _ => False
  | n + 1, x3, h => (pq_br (((Int32.ofNat L) - (4 : Int32)) < x3) (Q (1 : Int32) h) (pq_sl L xs x3 (fun v1 => (pq_tab (v1 &&& (31 : Int32)) 0 23 (B_L_law_897 L xs a1 a2 x3 (fun z0 hz => L_L_law_18 L xs a1 a2 Q n z0 hz) Q h) [(pq_sl L xs (x3 + (1 : Int32)) (fun v2 => (pq_o h a1 4 (F_X4_strip a1 v2 h (fun v4 h3 => (pq_sl L xs (x3 + (1 : Int32)) (fun v5 => (pq_o h3 a2 5 (F_X5_strip a2 v5 h3 (fun v7 h6 => (pq_br (v4 = v7) (B_L_law_897 L xs a1 a2 x3 (fun z0 hz => L_L_law_18 L xs a1 a2 Q n z0 hz) Q h6) (Q (0 : Int32) h6)))))))))))), (pq_sl L xs (x3 + (1 : Int32)) (fun v8 => (pq_o h a1 4 (F_X4_corner a1 v8 h (fun v10 h9 => (pq_sl L xs (x3 + (1 : Int32)) (fun v11 => (pq_o h9 a2 5 (F_X5_corner a2 v11 h9 (fun v13 h12 => (pq_br (v10 = v13) (B_L_law_897 L xs a1 a2 x3 (fun z0 hz => L_L_law_18 L xs a1 a2 Q n z0 hz) Q h12) (Q (0 : Int32) h12)))))))))))), (pq_sl L xs (x3 + (1 : Int32)) (fun v14 => (pq_sl L xs (x3 + (2 : Int32)) (fun v15 => (pq_o h a1 4 (F_X4_map a1 v14 v15 h (fun v17 h16 => (pq_sl L xs (x3 + (1 : Int32)) (fun v18 => (pq_sl L xs (x3 + (2 : Int32)) (fun v19 => (pq_o h16 a2 5 (F_X5_map a2 v18 v19 h16 (fun v21 h20 => (pq_br (v17 = v21) (B_L_law_897 L xs a1 a2 x3 (fun z0 hz => L_L_law_18 L xs a1 a2 Q n z0 hz) Q h20) (Q (0 : Int32) h20)))))))))))))))), (pq_sl L xs (x3 + (1 : Int32)) (fun v22 => (pq_sl L xs (x3 + (2 : Int32)) (fun v23 => (pq_sl L xs (x3 + (3 : Int32)) (fun v24 => (pq_o h a1 4 (F_X4_length a1 v22 v23 v24 h (fun v26 h25 => (pq_sl L xs (x3 + (1 : Int32)) (fun v27 => (pq_sl L xs (x3 + (2 : Int32)) (fun v28 => (pq_sl L xs (x3 + (3 : Int32)) (fun v29 => (pq_o h25 a2 5 (F_X5_length a2 v27 v28 v29 h25 (fun v31 h30 => (pq_br (v26 = v31) (B_L_law_897 L xs a1 a2 x3 (fun z0 hz => L_L_law_18 L xs a1 a2 Q n z0 hz) Q h30) (Q (0 : Int32) h30)))))))))))))))))))), (pq_sl L xs (x3 + (1 : Int32)) (fun v32 => (pq_sl L xs (x3 + (2 : Int32)) (fun v33 => (pq_sl L xs (x3 + (3 : Int32)) (fun v34 => (pq_o h a1 4 (F_X4_mark a1 v32 v33 v34 h (fun v36 h35 => (pq_sl L xs (x3 + (1 : Int32)) (fun v37 => (pq_sl L xs (x3 + (2 : Int32)) (fun v38 => (pq_sl L xs (x3 + (3 : Int32)) (fun v39 => (pq_o h35 a2 5 (F_X5_mark a2 v37 v38 v39 h35 (fun v41 h40 => (pq_br (v36 = v41) (B_L_law_897 L xs a1 a2 x3 (fun z0 hz => L_L_law_18 L xs a1 a2 Q n z0 hz) Q h40) (Q (0 : Int32) h40)))))))))))))))))))), (pq_sl L xs (x3 + (1 : Int32)) (fun v42 => (pq_sl L xs (x3 + (2 : Int32)) (fun v43 => (pq_o h a1 4 (F_X4_about a1 v42 v43 h (fun v45 h44 => (pq_sl L xs (x3 + (1 : Int32)) (fun v46 => (pq_sl L xs (x3 + (2 : Int32)) (fun v47 => (pq_o h44 a2 5 (F_X5_about a2 v46 v47 h44 (fun v49 h48 => (pq_br (v45 = v49) (B_L_law_897 L xs a1 a2 x3 (fun z0 hz => L_L_law_18 L xs a1 a2 Q n z0 hz) Q h48) (Q (0 : Int32) h48)))))))))))))))), (pq_sl L xs (x3 + (1 : Int32)) (fun v50 => (pq_sl L xs (x3 + (2 : Int32)) (fun v51 => (pq_sl L xs (x3 + (3 : Int32)) (fun v52 => (pq_o h a1 4 (F_X4_crease a1 v50 v51 v52 h (fun v54 h53 => (pq_sl L xs (x3 + (1 : Int32)) (fun v55 => (pq_sl L xs (x3 + (2 : Int32)) (fun v56 => (pq_sl L xs (x3 + (3 : Int32)) (fun v57 => (pq_o h53 a2 5 (F_X5_crease a2 v55 v56 v57 h53 (fun v59 h58 => (pq_br (v54 = v59) (B_L_law_897 L xs a1 a2 x3 (fun z0 hz => L_L_law_18 L xs a1 a2 Q n z0 hz) Q h58) (Q (0 : Int32) h58)))))))))))))))))))), (pq_sl L xs (x3 + (1 : Int32)) (fun v60 => (pq_o h a1 4 (F_X4_judge a1 v60 h (fun v62 h61 => (pq_sl L xs (x3 + (1 : Int32)) (fun v63 => (pq_o h61 a2 5 (F_X5_judge a2 v63 h61 (fun v65 h64 => (pq_br (v62 = v65) (B_L_law_897 L xs a1 a2 x3 (fun z0 hz => L_L_law_18 L xs a1 a2 Q n z0 hz) Q h64) (Q (0 : Int32) h64)))))))))))), (pq_sl L xs (x3 + (1 : Int32)) (fun v66 => (pq_o h a1 4 (F_X4_layer a1 v66 h (fun v68 h67 => (pq_sl L xs (x3 + (1 : Int32)) (fun v69 => (pq_o h67 a2 5 (F_X5_layer a2 v69 h67 (fun v71 h70 => (pq_br (v68 = v71) (B_L_law_897 L xs a1 a2 x3 (fun z0 hz => L_L_law_18 L xs a1 a2 Q n z0 hz) Q h70) (Q (0 : Int32) h70)))))))))))), (pq_sl L xs (x3 + (1 : Int32)) (fun v72 => (pq_o h a1 4 (F_X4_turned a1 v72 h (fun v74 h73 => (pq_sl L xs (x3 + (1 : Int32)) (fun v75 => (pq_o h73 a2 5 (F_X5_turned a2 v75 h73 (fun v77 h76 => (pq_br (v74 = v77) (B_L_law_897 L xs a1 a2 x3 (fun z0 hz => L_L_law_18 L xs a1 a2 Q n z0 hz) Q h76) (Q (0 : Int32) h76)))))))))))), (pq_sl L xs (x3 + (1 : Int32)) (fun v78 => (pq_o h a1 4 (F_X4_orders a1 v78 h (fun v80 h79 => (pq_sl L xs (x3 + (1 : Int32)) (fun v81 => (pq_o h79 a2 5 (F_X5_orders a2 v81 h79 (fun v83 h82 => (pq_br (v80 = v83) (B_L_law_897 L xs a1 a2 x3 (fun z0 hz => L_L_law_18 L xs a1 a2 Q n z0 hz) Q h82) (Q (0 : Int32) h82)))))))))))), (pq_sl L xs (x3 + (1 : Int32)) (fun v84 => (pq_sl L xs (x3 + (2 : Int32)) (fun v85 => (pq_o h a1 4 (F_X4_order a1 v84 v85 h (fun v87 h86 => (pq_sl L xs (x3 + (1 : Int32)) (fun v88 => (pq_sl L xs (x3 + (2 : Int32)) (fun v89 => (pq_o h86 a2 5 (F_X5_order a2 v88 v89 h86 (fun v91 h90 => (pq_br ((lg_cmp v87 v91) = 0) (B_L_law_897 L xs a1 a2 x3 (fun z0 hz => L_L_law_18 L xs a1 a2 Q n z0 hz) Q h90) (Q (0 : Int32) h90)))))))))))))))), (pq_sl L xs (x3 + (1 : Int32)) (fun v92 => (pq_sl L xs (x3 + (2 : Int32)) (fun v93 => (pq_sl L xs (x3 + (3 : Int32)) (fun v94 => (pq_o h a1 4 (F_X4_check a1 v92 (((Int32.toInt64 v93) <<< (Int32.toInt64 (32 : Int32) &&& 63)) ||| ((Int32.toInt64 v94) &&& (4294967295 : Int64))) h (fun v96 h95 => (pq_sl L xs (x3 + (1 : Int32)) (fun v97 => (pq_sl L xs (x3 + (2 : Int32)) (fun v98 => (pq_sl L xs (x3 + (3 : Int32)) (fun v99 => (pq_o h95 a2 5 (F_X5_check a2 v97 (((Int32.toInt64 v98) <<< (Int32.toInt64 (32 : Int32) &&& 63)) ||| ((Int32.toInt64 v99) &&& (4294967295 : Int64))) h95 (fun v101 h100 => (pq_br (v96 = v101) (B_L_law_897 L xs a1 a2 x3 (fun z0 hz => L_L_law_18 L xs a1 a2 Q n z0 hz) Q h100) (Q (0 : Int32) h100)))))))))))))))))))), (pq_sl L xs (x3 + (1 : Int32)) (fun v102 => (pq_sl L xs (x3 + (2 : Int32)) (fun v103 => (pq_o h a1 4 (F_X4_forced a1 v102 v103 h (fun v105 h104 => (pq_sl L xs (x3 + (1 : Int32)) (fun v106 => (pq_sl L xs (x3 + (2 : Int32)) (fun v107 => (pq_o h104 a2 5 (F_X5_forced a2 v106 v107 h104 (fun v109 h108 => (pq_br (v105 = v109) (B_L_law_897 L xs a1 a2 x3 (fun z0 hz => L_L_law_18 L xs a1 a2 Q n z0 hz) Q h108) (Q (0 : Int32) h108)))))))))))))))), (pq_sl L xs (x3 + (1 : Int32)) (fun v110 => (pq_sl L xs (x3 + (2 : Int32)) (fun v111 => (pq_sl L xs (x3 + (3 : Int32)) (fun v112 => (pq_o h a1 4 (F_X4_above a1 v110 v111 v112 h (fun v114 h113 => (pq_sl L xs (x3 + (1 : Int32)) (fun v115 => (pq_sl L xs (x3 + (2 : Int32)) (fun v116 => (pq_sl L xs (x3 + (3 : Int32)) (fun v117 => (pq_o h113 a2 5 (F_X5_above a2 v115 v116 v117 h113 (fun v119 h118 => (pq_br (v114 = v119) (B_L_law_897 L xs a1 a2 x3 (fun z0 hz => L_L_law_18 L xs a1 a2 Q n z0 hz) Q h118) (Q (0 : Int32) h118)))))))))))))))))))), (pq_sl L xs (x3 + (1 : Int32)) (fun v120 => (pq_sl L xs (x3 + (2 : Int32)) (fun v121 => (pq_o h a1 4 (F_X4_alike a1 v120 v121 h (fun v123 h122 => (pq_sl L xs (x3 + (1 : Int32)) (fun v124 => (pq_sl L xs (x3 + (2 : Int32)) (fun v125 => (pq_o h122 a2 5 (F_X5_alike a2 v124 v125 h122 (fun v127 h126 => (pq_br (v123 = v127) (B_L_law_897 L xs a1 a2 x3 (fun z0 hz => L_L_law_18 L xs a1 a2 Q n z0 hz) Q h126) (Q (0 : Int32) h126)))))))))))))))), (pq_sl L xs (x3 + (1 : Int32)) (fun v128 => (pq_o h a1 4 (F_X4_foldings a1 v128 h (fun v130 h129 => (pq_sl L xs (x3 + (1 : Int32)) (fun v131 => (pq_o h129 a2 5 (F_X5_foldings a2 v131 h129 (fun v133 h132 => (pq_br (v130 = v133) (B_L_law_897 L xs a1 a2 x3 (fun z0 hz => L_L_law_18 L xs a1 a2 Q n z0 hz) Q h132) (Q (0 : Int32) h132)))))))))))), (pq_sl L xs (x3 + (1 : Int32)) (fun v134 => (pq_o h a1 4 (F_X4_clash a1 v134 h (fun v136 h135 => (pq_sl L xs (x3 + (1 : Int32)) (fun v137 => (pq_o h135 a2 5 (F_X5_clash a2 v137 h135 (fun v139 h138 => (pq_br (v136 = v139) (B_L_law_897 L xs a1 a2 x3 (fun z0 hz => L_L_law_18 L xs a1 a2 Q n z0 hz) Q h138) (Q (0 : Int32) h138)))))))))))), (pq_sl L xs (x3 + (1 : Int32)) (fun v140 => (pq_o h a1 4 (F_X4_inClash a1 v140 h (fun v142 h141 => (pq_sl L xs (x3 + (1 : Int32)) (fun v143 => (pq_o h141 a2 5 (F_X5_inClash a2 v143 h141 (fun v145 h144 => (pq_br (v142 = v145) (B_L_law_897 L xs a1 a2 x3 (fun z0 hz => L_L_law_18 L xs a1 a2 Q n z0 hz) Q h144) (Q (0 : Int32) h144)))))))))))), (pq_sl L xs (x3 + (1 : Int32)) (fun v146 => (pq_o h a1 4 (F_X4_simple a1 v146 h (fun v148 h147 => (pq_sl L xs (x3 + (1 : Int32)) (fun v149 => (pq_o h147 a2 5 (F_X5_simple a2 v149 h147 (fun v151 h150 => (pq_br (v148 = v151) (B_L_law_897 L xs a1 a2 x3 (fun z0 hz => L_L_law_18 L xs a1 a2 Q n z0 hz) Q h150) (Q (0 : Int32) h150)))))))))))), (pq_sl L xs (x3 + (1 : Int32)) (fun v152 => (pq_o h a1 4 (F_X4_step a1 v152 h (fun v154 h153 => (pq_sl L xs (x3 + (1 : Int32)) (fun v155 => (pq_o h153 a2 5 (F_X5_step a2 v155 h153 (fun v157 h156 => (pq_br (v154 = v157) (B_L_law_897 L xs a1 a2 x3 (fun z0 hz => L_L_law_18 L xs a1 a2 Q n z0 hz) Q h156) (Q (0 : Int32) h156)))))))))))), (pq_sl L xs (x3 + (1 : Int32)) (fun v158 => (pq_sl L xs (x3 + (2 : Int32)) (fun v159 => (pq_o h a1 4 (F_X4_fold a1 v158 v159 h (fun v161 h160 => (pq_sl L xs (x3 + (1 : Int32)) (fun v162 => (pq_sl L xs (x3 + (2 : Int32)) (fun v163 => (pq_o h160 a2 5 (F_X5_fold a2 v162 v163 h160 (fun v165 h164 => (pq_br (v161 = v165) (B_L_law_897 L xs a1 a2 x3 (fun z0 hz => L_L_law_18 L xs a1 a2 Q n z0 hz) Q h164) (Q (0 : Int32) h164)))))))))))))))), (pq_sl L xs (x3 + (1 : Int32)) (fun v166 => (pq_o h a1 4 (F_X4_flatten a1 v166 h (fun v168 h167 => (pq_sl L xs (x3 + (1 : Int32)) (fun v169 => (pq_o h167 a2 5 (F_X5_flatten a2 v169 h167 (fun v171 h170 => (pq_br (v168 = v171) (B_L_law_897 L xs a1 a2 x3 (fun z0 hz => L_L_law_18 L xs a1 a2 Q n z0 hz) Q h170) (Q (0 : Int32) h170)))))))))))), (pq_sl L xs (x3 + (1 : Int32)) (fun v172 => (pq_sl L xs (x3 + (2 : Int32)) (fun v173 => (pq_sl L xs (x3 + (3 : Int32)) (fun v174 => (pq_o h a1 4 (F_X4_lies a1 v172 v173 v174 h (fun v176 h175 => (pq_sl L xs (x3 + (1 : Int32)) (fun v177 => (pq_sl L xs (x3 + (2 : Int32)) (fun v178 => (pq_sl L xs (x3 + (3 : Int32)) (fun v179 => (pq_o h175 a2 5 (F_X5_lies a2 v177 v178 v179 h175 (fun v181 h180 => (pq_br (v176 = v181) (B_L_law_897 L xs a1 a2 x3 (fun z0 hz => L_L_law_18 L xs a1 a2 Q n z0 hz) Q h180) (Q (0 : Int32) h180))))))))))))))))))))]))))
set_option maxHeartbeats 8000000 in
set_option maxRecDepth 100000 in
theorem kL_L_law_18 {Ψ : State → Prop} (X : pz_X) (d L : Nat) (xs : Nat → Int32) (bb : Nat) (hΨs : ∀ s, Ψ s → va_X bb L xs s s.heap) (hbB : bb < X.2.2) (a1 : Nat) (a2 : Nat) (Q : Int32 → pz_H → Prop) : ∀ (n : Nat) (x3 : Int32) (h : pz_H) (rc rs : Nat), 20 * n ≤ rc → 400 * n ≤ rs → L_L_law_18 L xs a1 a2 Q n x3 h → pz_W Ψ X M_L_law (d + 8) 18 [(0, .ref bb), (1, .ref a1), (2, .ref a2), (3, .int x3)] [] h rc rs (pq_qI Q) := by
  intro n
  induction n with
  | zero =>
    intro _ _ _ _ _ _ hf
    exact False.elim hf
  | succ n ih =>
    intro x3 h rc rs hc hs hf
    refine pz_less (rc' := 20 * n + 20) (rs' := 400 * n + 400) (by omega) (by omega) ?_
    unfold L_L_law_18 at hf
    refine pz_iload_n dL_law_18 rfl ?_
    refine pz_aload_n dL_law_19 rfl ?_
    refine pz_slen hΨs hbB dL_law_20 ?_
    refine pz_iconst (v := (4 : Int32)) dL_law_21 (by decide) ?_
    refine pz_isub dL_law_22 ?_
    obtain ⟨ha, hb⟩ := hf
    refine pz_icmp_gt dL_law_23 (tgt := 903) (by decide) (fun cc => ?_) (fun cc => ?_)
    · have hf := ha cc
      refine pz_iconst (v := (1 : Int32)) dL_law_903 (by decide) ?_
      exact pz_ireturn dL_law_904 rfl rfl ⟨_, rfl, hf⟩
    · have hf := hb cc
      refine pz_aload_n dL_law_26 rfl ?_
      refine pz_iload_n dL_law_27 rfl ?_
      obtain ⟨h1, hf⟩ := hf
      refine pz_sld hΨs hbB dL_law_28 h1 ?_
      refine pz_bipush (v := (31 : Int32)) dL_law_29 (by decide) ?_
      refine pz_iand dL_law_31 ?_
      refine pz_table [144, 167, 190, 223, 266, 309, 342, 385, 408, 431, 454, 477, 511, 574, 607, 650, 683, 706, 729, 752, 775, 798, 831, 854] dL_law_32 hf (tgt := 897) (by decide) (by decide) (by decide) (fun hf => ?_) (fun k9 hk9 hf => ?_)
      · exact pz_drop (pz_part_of [0, 1, 2, 3] rfl) (kB_L_law_897 X d L xs bb hΨs hbB _ _ _ _ _ _ _ _ (fun z0 hz fz => ih z0 hz _ _ (by omega) (by omega) fz) hf)
      · match k9, hk9, hf with
        | 0, _, hf =>
          refine pz_aload_n dL_law_144 rfl ?_
          refine pz_aload_n dL_law_145 rfl ?_
          refine pz_iload_n dL_law_146 rfl ?_
          refine pz_iconst (v := (1 : Int32)) dL_law_147 (by decide) ?_
          refine pz_iadd dL_law_148 ?_
          obtain ⟨h1, hf⟩ := hf
          refine pz_sld hΨs hbB dL_law_149 h1 ?_
          obtain ⟨_, hO, hf⟩ := hf
          refine pz_callV1 (rc := 20 * n + 7) (rs := 400 * n + 252) (mc := 13) (ms := 148) dL_law_150 (k_X4_strip X (d + 1) _ _ _ _ hf) (Nat.le_of_ble_eq_true rfl) mf_X4_strip ml_L_13 hO rfl mi_X4_strip ms_X4_strip (fun _ h9 hq => ?_)
          obtain ⟨_, rfl, hf⟩ := hq
          refine pz_aload_n dL_law_153 rfl ?_
          refine pz_aload_n dL_law_154 rfl ?_
          refine pz_iload_n dL_law_155 rfl ?_
          refine pz_iconst (v := (1 : Int32)) dL_law_156 (by decide) ?_
          refine pz_iadd dL_law_157 ?_
          obtain ⟨h1, hf⟩ := hf
          refine pz_sld hΨs hbB dL_law_158 h1 ?_
          obtain ⟨_, hO, hf⟩ := hf
          refine pz_callV1 (rc := 20 * n + 7) (rs := 400 * n + 252) (mc := 0) (ms := 0) dL_law_159 (k_X5_strip X (d + 6) _ _ _ _ hf) (Nat.le_of_ble_eq_true rfl) mf_X5_strip ml_L_17 hO rfl mi_X5_strip ms_X5_strip (fun _ h9 hq => ?_)
          obtain ⟨_, rfl, hf⟩ := hq
          obtain ⟨ha, hb⟩ := hf
          refine pz_icmp_eq dL_law_162 (tgt := 897) (by decide) (fun cc => ?_) (fun cc => ?_)
          · have hf := ha cc
            exact pz_drop (pz_part_of [0, 1, 2, 3] rfl) (kB_L_law_897 X d L xs bb hΨs hbB _ _ _ _ _ _ _ _ (fun z0 hz fz => ih z0 hz _ _ (by omega) (by omega) fz) hf)
          · have hf := hb cc
            refine pz_iconst (v := (0 : Int32)) dL_law_165 (by decide) ?_
            exact pz_ireturn dL_law_166 rfl rfl ⟨_, rfl, hf⟩
        | 1, _, hf =>
          refine pz_aload_n dL_law_167 rfl ?_
          refine pz_aload_n dL_law_168 rfl ?_
          refine pz_iload_n dL_law_169 rfl ?_
          refine pz_iconst (v := (1 : Int32)) dL_law_170 (by decide) ?_
          refine pz_iadd dL_law_171 ?_
          obtain ⟨h1, hf⟩ := hf
          refine pz_sld hΨs hbB dL_law_172 h1 ?_
          obtain ⟨_, hO, hf⟩ := hf
          refine pz_callV1 (rc := 20 * n + 7) (rs := 400 * n + 252) (mc := 13) (ms := 148) dL_law_173 (k_X4_corner X (d + 1) _ _ _ _ hf) (Nat.le_of_ble_eq_true rfl) mf_X4_corner ml_L_18 hO rfl mi_X4_corner ms_X4_corner (fun _ h9 hq => ?_)
          obtain ⟨_, rfl, hf⟩ := hq
          refine pz_aload_n dL_law_176 rfl ?_
          refine pz_aload_n dL_law_177 rfl ?_
          refine pz_iload_n dL_law_178 rfl ?_
          refine pz_iconst (v := (1 : Int32)) dL_law_179 (by decide) ?_
          refine pz_iadd dL_law_180 ?_
          obtain ⟨h1, hf⟩ := hf
          refine pz_sld hΨs hbB dL_law_181 h1 ?_
          obtain ⟨_, hO, hf⟩ := hf
          refine pz_callV1 (rc := 20 * n + 7) (rs := 400 * n + 252) (mc := 0) (ms := 0) dL_law_182 (k_X5_corner X (d + 6) _ _ _ _ hf) (Nat.le_of_ble_eq_true rfl) mf_X5_corner ml_L_21 hO rfl mi_X5_corner ms_X5_corner (fun _ h9 hq => ?_)
          obtain ⟨_, rfl, hf⟩ := hq
          obtain ⟨ha, hb⟩ := hf
          refine pz_icmp_eq dL_law_185 (tgt := 897) (by decide) (fun cc => ?_) (fun cc => ?_)
          · have hf := ha cc
            exact pz_drop (pz_part_of [0, 1, 2, 3] rfl) (kB_L_law_897 X d L xs bb hΨs hbB _ _ _ _ _ _ _ _ (fun z0 hz fz => ih z0 hz _ _ (by omega) (by omega) fz) hf)
          · have hf := hb cc
            refine pz_iconst (v := (0 : Int32)) dL_law_188 (by decide) ?_
            exact pz_ireturn dL_law_189 rfl rfl ⟨_, rfl, hf⟩
        | 2, _, hf =>
          refine pz_aload_n dL_law_190 rfl ?_
          refine pz_aload_n dL_law_191 rfl ?_
          refine pz_iload_n dL_law_192 rfl ?_
          refine pz_iconst (v := (1 : Int32)) dL_law_193 (by decide) ?_
          refine pz_iadd dL_law_194 ?_
          obtain ⟨h1, hf⟩ := hf
          refine pz_sld hΨs hbB dL_law_195 h1 ?_
          refine pz_aload_n dL_law_196 rfl ?_
          refine pz_iload_n dL_law_197 rfl ?_
          refine pz_iconst (v := (2 : Int32)) dL_law_198 (by decide) ?_
          refine pz_iadd dL_law_199 ?_
          obtain ⟨h1, hf⟩ := hf
          refine pz_sld hΨs hbB dL_law_200 h1 ?_
          obtain ⟨_, hO, hf⟩ := hf
          refine pz_callV2 (rc := 20 * n + 7) (rs := 400 * n + 252) (mc := 13) (ms := 148) dL_law_201 (k_X4_map X (d + 1) _ _ _ _ _ hf) (Nat.le_of_ble_eq_true rfl) mf_X4_map ml_L_22 hO rfl mi_X4_map ms_X4_map (fun _ h9 hq => ?_)
          obtain ⟨_, rfl, hf⟩ := hq
          refine pz_aload_n dL_law_204 rfl ?_
          refine pz_aload_n dL_law_205 rfl ?_
          refine pz_iload_n dL_law_206 rfl ?_
          refine pz_iconst (v := (1 : Int32)) dL_law_207 (by decide) ?_
          refine pz_iadd dL_law_208 ?_
          obtain ⟨h1, hf⟩ := hf
          refine pz_sld hΨs hbB dL_law_209 h1 ?_
          refine pz_aload_n dL_law_210 rfl ?_
          refine pz_iload_n dL_law_211 rfl ?_
          refine pz_iconst (v := (2 : Int32)) dL_law_212 (by decide) ?_
          refine pz_iadd dL_law_213 ?_
          obtain ⟨h1, hf⟩ := hf
          refine pz_sld hΨs hbB dL_law_214 h1 ?_
          obtain ⟨_, hO, hf⟩ := hf
          refine pz_callV2 (rc := 20 * n + 7) (rs := 400 * n + 252) (mc := 0) (ms := 0) dL_law_215 (k_X5_map X (d + 6) _ _ _ _ _ hf) (Nat.le_of_ble_eq_true rfl) mf_X5_map ml_L_26 hO rfl mi_X5_map ms_X5_map (fun _ h9 hq => ?_)
          obtain ⟨_, rfl, hf⟩ := hq
          obtain ⟨ha, hb⟩ := hf
          refine pz_icmp_eq dL_law_218 (tgt := 897) (by decide) (fun cc => ?_) (fun cc => ?_)
          · have hf := ha cc
            exact pz_drop (pz_part_of [0, 1, 2, 3] rfl) (kB_L_law_897 X d L xs bb hΨs hbB _ _ _ _ _ _ _ _ (fun z0 hz fz => ih z0 hz _ _ (by omega) (by omega) fz) hf)
          · have hf := hb cc
            refine pz_iconst (v := (0 : Int32)) dL_law_221 (by decide) ?_
            exact pz_ireturn dL_law_222 rfl rfl ⟨_, rfl, hf⟩
        | 3, _, hf =>
          refine pz_aload_n dL_law_223 rfl ?_
          refine pz_aload_n dL_law_224 rfl ?_
          refine pz_iload_n dL_law_225 rfl ?_
          refine pz_iconst (v := (1 : Int32)) dL_law_226 (by decide) ?_
          refine pz_iadd dL_law_227 ?_
          obtain ⟨h1, hf⟩ := hf
          refine pz_sld hΨs hbB dL_law_228 h1 ?_
          refine pz_aload_n dL_law_229 rfl ?_
          refine pz_iload_n dL_law_230 rfl ?_
          refine pz_iconst (v := (2 : Int32)) dL_law_231 (by decide) ?_
          refine pz_iadd dL_law_232 ?_
          obtain ⟨h1, hf⟩ := hf
          refine pz_sld hΨs hbB dL_law_233 h1 ?_
          refine pz_aload_n dL_law_234 rfl ?_
          refine pz_iload_n dL_law_235 rfl ?_
          refine pz_iconst (v := (3 : Int32)) dL_law_236 (by decide) ?_
          refine pz_iadd dL_law_237 ?_
          obtain ⟨h1, hf⟩ := hf
          refine pz_sld hΨs hbB dL_law_238 h1 ?_
          obtain ⟨_, hO, hf⟩ := hf
          refine pz_callV3 (rc := 20 * n + 20) (rs := 400 * n + 400) (mc := 0) (ms := 0) dL_law_239 (k_X4_length X (d + 3) _ _ _ _ _ _ hf) (Nat.le_of_ble_eq_true rfl) mf_X4_length ml_L_27 hO rfl mi_X4_length ms_X4_length (fun _ h9 hq => ?_)
          obtain ⟨_, rfl, hf⟩ := hq
          refine pz_aload_n dL_law_242 rfl ?_
          refine pz_aload_n dL_law_243 rfl ?_
          refine pz_iload_n dL_law_244 rfl ?_
          refine pz_iconst (v := (1 : Int32)) dL_law_245 (by decide) ?_
          refine pz_iadd dL_law_246 ?_
          obtain ⟨h1, hf⟩ := hf
          refine pz_sld hΨs hbB dL_law_247 h1 ?_
          refine pz_aload_n dL_law_248 rfl ?_
          refine pz_iload_n dL_law_249 rfl ?_
          refine pz_iconst (v := (2 : Int32)) dL_law_250 (by decide) ?_
          refine pz_iadd dL_law_251 ?_
          obtain ⟨h1, hf⟩ := hf
          refine pz_sld hΨs hbB dL_law_252 h1 ?_
          refine pz_aload_n dL_law_253 rfl ?_
          refine pz_iload_n dL_law_254 rfl ?_
          refine pz_iconst (v := (3 : Int32)) dL_law_255 (by decide) ?_
          refine pz_iadd dL_law_256 ?_
          obtain ⟨h1, hf⟩ := hf
          refine pz_sld hΨs hbB dL_law_257 h1 ?_
          obtain ⟨_, hO, hf⟩ := hf
          refine pz_callV3 (rc := 20 * n + 20) (rs := 400 * n + 400) (mc := 0) (ms := 0) dL_law_258 (k_X5_length X (d + 5) _ _ _ _ _ _ hf) (Nat.le_of_ble_eq_true rfl) mf_X5_length ml_L_31 hO rfl mi_X5_length ms_X5_length (fun _ h9 hq => ?_)
          obtain ⟨_, rfl, hf⟩ := hq
          obtain ⟨ha, hb⟩ := hf
          refine pz_icmp_eq dL_law_261 (tgt := 897) (by decide) (fun cc => ?_) (fun cc => ?_)
          · have hf := ha cc
            exact pz_drop (pz_part_of [0, 1, 2, 3] rfl) (kB_L_law_897 X d L xs bb hΨs hbB _ _ _ _ _ _ _ _ (fun z0 hz fz => ih z0 hz _ _ (by omega) (by omega) fz) hf)
          · have hf := hb cc
            refine pz_iconst (v := (0 : Int32)) dL_law_264 (by decide) ?_
            exact pz_ireturn dL_law_265 rfl rfl ⟨_, rfl, hf⟩
        | 4, _, hf =>
          refine pz_aload_n dL_law_266 rfl ?_
          refine pz_aload_n dL_law_267 rfl ?_
          refine pz_iload_n dL_law_268 rfl ?_
          refine pz_iconst (v := (1 : Int32)) dL_law_269 (by decide) ?_
          refine pz_iadd dL_law_270 ?_
          obtain ⟨h1, hf⟩ := hf
          refine pz_sld hΨs hbB dL_law_271 h1 ?_
          refine pz_aload_n dL_law_272 rfl ?_
          refine pz_iload_n dL_law_273 rfl ?_
          refine pz_iconst (v := (2 : Int32)) dL_law_274 (by decide) ?_
          refine pz_iadd dL_law_275 ?_
          obtain ⟨h1, hf⟩ := hf
          refine pz_sld hΨs hbB dL_law_276 h1 ?_
          refine pz_aload_n dL_law_277 rfl ?_
          refine pz_iload_n dL_law_278 rfl ?_
          refine pz_iconst (v := (3 : Int32)) dL_law_279 (by decide) ?_
          refine pz_iadd dL_law_280 ?_
          obtain ⟨h1, hf⟩ := hf
          refine pz_sld hΨs hbB dL_law_281 h1 ?_
          obtain ⟨_, hO, hf⟩ := hf
          refine pz_callV3 (rc := 20 * n + 20) (rs := 400 * n + 400) (mc := 0) (ms := 0) dL_law_282 (k_X4_mark X (d + 6) _ _ _ _ _ _ hf) (Nat.le_of_ble_eq_true rfl) mf_X4_mark ml_L_32 hO rfl mi_X4_mark ms_X4_mark (fun _ h9 hq => ?_)
          obtain ⟨_, rfl, hf⟩ := hq
          refine pz_aload_n dL_law_285 rfl ?_
          refine pz_aload_n dL_law_286 rfl ?_
          refine pz_iload_n dL_law_287 rfl ?_
          refine pz_iconst (v := (1 : Int32)) dL_law_288 (by decide) ?_
          refine pz_iadd dL_law_289 ?_
          obtain ⟨h1, hf⟩ := hf
          refine pz_sld hΨs hbB dL_law_290 h1 ?_
          refine pz_aload_n dL_law_291 rfl ?_
          refine pz_iload_n dL_law_292 rfl ?_
          refine pz_iconst (v := (2 : Int32)) dL_law_293 (by decide) ?_
          refine pz_iadd dL_law_294 ?_
          obtain ⟨h1, hf⟩ := hf
          refine pz_sld hΨs hbB dL_law_295 h1 ?_
          refine pz_aload_n dL_law_296 rfl ?_
          refine pz_iload_n dL_law_297 rfl ?_
          refine pz_iconst (v := (3 : Int32)) dL_law_298 (by decide) ?_
          refine pz_iadd dL_law_299 ?_
          obtain ⟨h1, hf⟩ := hf
          refine pz_sld hΨs hbB dL_law_300 h1 ?_
          obtain ⟨_, hO, hf⟩ := hf
          refine pz_callV3 (rc := 20 * n + 20) (rs := 400 * n + 400) (mc := 0) (ms := 0) dL_law_301 (k_X5_mark X (d + 5) _ _ _ _ _ _ hf) (Nat.le_of_ble_eq_true rfl) mf_X5_mark ml_L_35 hO rfl mi_X5_mark ms_X5_mark (fun _ h9 hq => ?_)
          obtain ⟨_, rfl, hf⟩ := hq
          obtain ⟨ha, hb⟩ := hf
          refine pz_icmp_eq dL_law_304 (tgt := 897) (by decide) (fun cc => ?_) (fun cc => ?_)
          · have hf := ha cc
            exact pz_drop (pz_part_of [0, 1, 2, 3] rfl) (kB_L_law_897 X d L xs bb hΨs hbB _ _ _ _ _ _ _ _ (fun z0 hz fz => ih z0 hz _ _ (by omega) (by omega) fz) hf)
          · have hf := hb cc
            refine pz_iconst (v := (0 : Int32)) dL_law_307 (by decide) ?_
            exact pz_ireturn dL_law_308 rfl rfl ⟨_, rfl, hf⟩
        | 5, _, hf =>
          refine pz_aload_n dL_law_309 rfl ?_
          refine pz_aload_n dL_law_310 rfl ?_
          refine pz_iload_n dL_law_311 rfl ?_
          refine pz_iconst (v := (1 : Int32)) dL_law_312 (by decide) ?_
          refine pz_iadd dL_law_313 ?_
          obtain ⟨h1, hf⟩ := hf
          refine pz_sld hΨs hbB dL_law_314 h1 ?_
          refine pz_aload_n dL_law_315 rfl ?_
          refine pz_iload_n dL_law_316 rfl ?_
          refine pz_iconst (v := (2 : Int32)) dL_law_317 (by decide) ?_
          refine pz_iadd dL_law_318 ?_
          obtain ⟨h1, hf⟩ := hf
          refine pz_sld hΨs hbB dL_law_319 h1 ?_
          obtain ⟨_, hO, hf⟩ := hf
          refine pz_callV2 (rc := 20 * n + 20) (rs := 400 * n + 400) (mc := 0) (ms := 0) dL_law_320 (k_X4_about X (d + 6) _ _ _ _ _ hf) (Nat.le_of_ble_eq_true rfl) mf_X4_about ml_L_36 hO rfl mi_X4_about ms_X4_about (fun _ h9 hq => ?_)
          obtain ⟨_, rfl, hf⟩ := hq
          refine pz_aload_n dL_law_323 rfl ?_
          refine pz_aload_n dL_law_324 rfl ?_
          refine pz_iload_n dL_law_325 rfl ?_
          refine pz_iconst (v := (1 : Int32)) dL_law_326 (by decide) ?_
          refine pz_iadd dL_law_327 ?_
          obtain ⟨h1, hf⟩ := hf
          refine pz_sld hΨs hbB dL_law_328 h1 ?_
          refine pz_aload_n dL_law_329 rfl ?_
          refine pz_iload_n dL_law_330 rfl ?_
          refine pz_iconst (v := (2 : Int32)) dL_law_331 (by decide) ?_
          refine pz_iadd dL_law_332 ?_
          obtain ⟨h1, hf⟩ := hf
          refine pz_sld hΨs hbB dL_law_333 h1 ?_
          obtain ⟨_, hO, hf⟩ := hf
          refine pz_callV2 (rc := 20 * n + 20) (rs := 400 * n + 400) (mc := 0) (ms := 0) dL_law_334 (k_X5_about X (d + 6) _ _ _ _ _ hf) (Nat.le_of_ble_eq_true rfl) mf_X5_about ml_L_39 hO rfl mi_X5_about ms_X5_about (fun _ h9 hq => ?_)
          obtain ⟨_, rfl, hf⟩ := hq
          obtain ⟨ha, hb⟩ := hf
          refine pz_icmp_eq dL_law_337 (tgt := 897) (by decide) (fun cc => ?_) (fun cc => ?_)
          · have hf := ha cc
            exact pz_drop (pz_part_of [0, 1, 2, 3] rfl) (kB_L_law_897 X d L xs bb hΨs hbB _ _ _ _ _ _ _ _ (fun z0 hz fz => ih z0 hz _ _ (by omega) (by omega) fz) hf)
          · have hf := hb cc
            refine pz_iconst (v := (0 : Int32)) dL_law_340 (by decide) ?_
            exact pz_ireturn dL_law_341 rfl rfl ⟨_, rfl, hf⟩
        | 6, _, hf =>
          refine pz_aload_n dL_law_342 rfl ?_
          refine pz_aload_n dL_law_343 rfl ?_
          refine pz_iload_n dL_law_344 rfl ?_
          refine pz_iconst (v := (1 : Int32)) dL_law_345 (by decide) ?_
          refine pz_iadd dL_law_346 ?_
          obtain ⟨h1, hf⟩ := hf
          refine pz_sld hΨs hbB dL_law_347 h1 ?_
          refine pz_aload_n dL_law_348 rfl ?_
          refine pz_iload_n dL_law_349 rfl ?_
          refine pz_iconst (v := (2 : Int32)) dL_law_350 (by decide) ?_
          refine pz_iadd dL_law_351 ?_
          obtain ⟨h1, hf⟩ := hf
          refine pz_sld hΨs hbB dL_law_352 h1 ?_
          refine pz_aload_n dL_law_353 rfl ?_
          refine pz_iload_n dL_law_354 rfl ?_
          refine pz_iconst (v := (3 : Int32)) dL_law_355 (by decide) ?_
          refine pz_iadd dL_law_356 ?_
          obtain ⟨h1, hf⟩ := hf
          refine pz_sld hΨs hbB dL_law_357 h1 ?_
          obtain ⟨_, hO, hf⟩ := hf
          refine pz_callV3 (rc := 20 * n + 20) (rs := 400 * n + 400) (mc := 0) (ms := 0) dL_law_358 (k_X4_crease X (d + 6) _ _ _ _ _ _ hf) (Nat.le_of_ble_eq_true rfl) mf_X4_crease ml_L_40 hO rfl mi_X4_crease ms_X4_crease (fun _ h9 hq => ?_)
          obtain ⟨_, rfl, hf⟩ := hq
          refine pz_aload_n dL_law_361 rfl ?_
          refine pz_aload_n dL_law_362 rfl ?_
          refine pz_iload_n dL_law_363 rfl ?_
          refine pz_iconst (v := (1 : Int32)) dL_law_364 (by decide) ?_
          refine pz_iadd dL_law_365 ?_
          obtain ⟨h1, hf⟩ := hf
          refine pz_sld hΨs hbB dL_law_366 h1 ?_
          refine pz_aload_n dL_law_367 rfl ?_
          refine pz_iload_n dL_law_368 rfl ?_
          refine pz_iconst (v := (2 : Int32)) dL_law_369 (by decide) ?_
          refine pz_iadd dL_law_370 ?_
          obtain ⟨h1, hf⟩ := hf
          refine pz_sld hΨs hbB dL_law_371 h1 ?_
          refine pz_aload_n dL_law_372 rfl ?_
          refine pz_iload_n dL_law_373 rfl ?_
          refine pz_iconst (v := (3 : Int32)) dL_law_374 (by decide) ?_
          refine pz_iadd dL_law_375 ?_
          obtain ⟨h1, hf⟩ := hf
          refine pz_sld hΨs hbB dL_law_376 h1 ?_
          obtain ⟨_, hO, hf⟩ := hf
          refine pz_callV3 (rc := 20 * n + 20) (rs := 400 * n + 400) (mc := 0) (ms := 0) dL_law_377 (k_X5_crease X (d + 5) _ _ _ _ _ _ hf) (Nat.le_of_ble_eq_true rfl) mf_X5_crease ml_L_43 hO rfl mi_X5_crease ms_X5_crease (fun _ h9 hq => ?_)
          obtain ⟨_, rfl, hf⟩ := hq
          obtain ⟨ha, hb⟩ := hf
          refine pz_icmp_eq dL_law_380 (tgt := 897) (by decide) (fun cc => ?_) (fun cc => ?_)
          · have hf := ha cc
            exact pz_drop (pz_part_of [0, 1, 2, 3] rfl) (kB_L_law_897 X d L xs bb hΨs hbB _ _ _ _ _ _ _ _ (fun z0 hz fz => ih z0 hz _ _ (by omega) (by omega) fz) hf)
          · have hf := hb cc
            refine pz_iconst (v := (0 : Int32)) dL_law_383 (by decide) ?_
            exact pz_ireturn dL_law_384 rfl rfl ⟨_, rfl, hf⟩
        | 7, _, hf =>
          refine pz_aload_n dL_law_385 rfl ?_
          refine pz_aload_n dL_law_386 rfl ?_
          refine pz_iload_n dL_law_387 rfl ?_
          refine pz_iconst (v := (1 : Int32)) dL_law_388 (by decide) ?_
          refine pz_iadd dL_law_389 ?_
          obtain ⟨h1, hf⟩ := hf
          refine pz_sld hΨs hbB dL_law_390 h1 ?_
          obtain ⟨_, hO, hf⟩ := hf
          refine pz_callV1 (rc := 20 * n + 20) (rs := 400 * n + 400) (mc := 0) (ms := 0) dL_law_391 (k_X4_judge X (d + 2) _ _ _ _ hf) (Nat.le_of_ble_eq_true rfl) mf_X4_judge ml_L_44 hO rfl mi_X4_judge ms_X4_judge (fun _ h9 hq => ?_)
          obtain ⟨_, rfl, hf⟩ := hq
          refine pz_aload_n dL_law_394 rfl ?_
          refine pz_aload_n dL_law_395 rfl ?_
          refine pz_iload_n dL_law_396 rfl ?_
          refine pz_iconst (v := (1 : Int32)) dL_law_397 (by decide) ?_
          refine pz_iadd dL_law_398 ?_
          obtain ⟨h1, hf⟩ := hf
          refine pz_sld hΨs hbB dL_law_399 h1 ?_
          obtain ⟨_, hO, hf⟩ := hf
          refine pz_callV1 (rc := 20 * n + 20) (rs := 400 * n + 400) (mc := 0) (ms := 0) dL_law_400 (k_X5_judge X (d + 2) _ _ _ _ hf) (Nat.le_of_ble_eq_true rfl) mf_X5_judge ml_L_47 hO rfl mi_X5_judge ms_X5_judge (fun _ h9 hq => ?_)
          obtain ⟨_, rfl, hf⟩ := hq
          obtain ⟨ha, hb⟩ := hf
          refine pz_icmp_eq dL_law_403 (tgt := 897) (by decide) (fun cc => ?_) (fun cc => ?_)
          · have hf := ha cc
            exact pz_drop (pz_part_of [0, 1, 2, 3] rfl) (kB_L_law_897 X d L xs bb hΨs hbB _ _ _ _ _ _ _ _ (fun z0 hz fz => ih z0 hz _ _ (by omega) (by omega) fz) hf)
          · have hf := hb cc
            refine pz_iconst (v := (0 : Int32)) dL_law_406 (by decide) ?_
            exact pz_ireturn dL_law_407 rfl rfl ⟨_, rfl, hf⟩
        | 8, _, hf =>
          refine pz_aload_n dL_law_408 rfl ?_
          refine pz_aload_n dL_law_409 rfl ?_
          refine pz_iload_n dL_law_410 rfl ?_
          refine pz_iconst (v := (1 : Int32)) dL_law_411 (by decide) ?_
          refine pz_iadd dL_law_412 ?_
          obtain ⟨h1, hf⟩ := hf
          refine pz_sld hΨs hbB dL_law_413 h1 ?_
          obtain ⟨_, hO, hf⟩ := hf
          refine pz_callV1 (rc := 20 * n + 20) (rs := 400 * n + 400) (mc := 0) (ms := 0) dL_law_414 (k_X4_layer X (d + 7) _ _ _ _ hf) (Nat.le_of_ble_eq_true rfl) mf_X4_layer ml_L_48 hO rfl mi_X4_layer ms_X4_layer (fun _ h9 hq => ?_)
          obtain ⟨_, rfl, hf⟩ := hq
          refine pz_aload_n dL_law_417 rfl ?_
          refine pz_aload_n dL_law_418 rfl ?_
          refine pz_iload_n dL_law_419 rfl ?_
          refine pz_iconst (v := (1 : Int32)) dL_law_420 (by decide) ?_
          refine pz_iadd dL_law_421 ?_
          obtain ⟨h1, hf⟩ := hf
          refine pz_sld hΨs hbB dL_law_422 h1 ?_
          obtain ⟨_, hO, hf⟩ := hf
          refine pz_callV1 (rc := 20 * n + 20) (rs := 400 * n + 400) (mc := 0) (ms := 0) dL_law_423 (k_X5_layer X (d + 7) _ _ _ _ hf) (Nat.le_of_ble_eq_true rfl) mf_X5_layer ml_L_51 hO rfl mi_X5_layer ms_X5_layer (fun _ h9 hq => ?_)
          obtain ⟨_, rfl, hf⟩ := hq
          obtain ⟨ha, hb⟩ := hf
          refine pz_icmp_eq dL_law_426 (tgt := 897) (by decide) (fun cc => ?_) (fun cc => ?_)
          · have hf := ha cc
            exact pz_drop (pz_part_of [0, 1, 2, 3] rfl) (kB_L_law_897 X d L xs bb hΨs hbB _ _ _ _ _ _ _ _ (fun z0 hz fz => ih z0 hz _ _ (by omega) (by omega) fz) hf)
          · have hf := hb cc
            refine pz_iconst (v := (0 : Int32)) dL_law_429 (by decide) ?_
            exact pz_ireturn dL_law_430 rfl rfl ⟨_, rfl, hf⟩
        | 9, _, hf =>
          refine pz_aload_n dL_law_431 rfl ?_
          refine pz_aload_n dL_law_432 rfl ?_
          refine pz_iload_n dL_law_433 rfl ?_
          refine pz_iconst (v := (1 : Int32)) dL_law_434 (by decide) ?_
          refine pz_iadd dL_law_435 ?_
          obtain ⟨h1, hf⟩ := hf
          refine pz_sld hΨs hbB dL_law_436 h1 ?_
          obtain ⟨_, hO, hf⟩ := hf
          refine pz_callV1 (rc := 20 * n + 20) (rs := 400 * n + 400) (mc := 0) (ms := 0) dL_law_437 (k_X4_turned X (d + 5) _ _ _ _ hf) (Nat.le_of_ble_eq_true rfl) mf_X4_turned ml_L_52 hO rfl mi_X4_turned ms_X4_turned (fun _ h9 hq => ?_)
          obtain ⟨_, rfl, hf⟩ := hq
          refine pz_aload_n dL_law_440 rfl ?_
          refine pz_aload_n dL_law_441 rfl ?_
          refine pz_iload_n dL_law_442 rfl ?_
          refine pz_iconst (v := (1 : Int32)) dL_law_443 (by decide) ?_
          refine pz_iadd dL_law_444 ?_
          obtain ⟨h1, hf⟩ := hf
          refine pz_sld hΨs hbB dL_law_445 h1 ?_
          obtain ⟨_, hO, hf⟩ := hf
          refine pz_callV1 (rc := 20 * n + 20) (rs := 400 * n + 400) (mc := 0) (ms := 0) dL_law_446 (k_X5_turned X (d + 5) _ _ _ _ hf) (Nat.le_of_ble_eq_true rfl) mf_X5_turned ml_L_55 hO rfl mi_X5_turned ms_X5_turned (fun _ h9 hq => ?_)
          obtain ⟨_, rfl, hf⟩ := hq
          obtain ⟨ha, hb⟩ := hf
          refine pz_icmp_eq dL_law_449 (tgt := 897) (by decide) (fun cc => ?_) (fun cc => ?_)
          · have hf := ha cc
            exact pz_drop (pz_part_of [0, 1, 2, 3] rfl) (kB_L_law_897 X d L xs bb hΨs hbB _ _ _ _ _ _ _ _ (fun z0 hz fz => ih z0 hz _ _ (by omega) (by omega) fz) hf)
          · have hf := hb cc
            refine pz_iconst (v := (0 : Int32)) dL_law_452 (by decide) ?_
            exact pz_ireturn dL_law_453 rfl rfl ⟨_, rfl, hf⟩
        | 10, _, hf =>
          refine pz_aload_n dL_law_454 rfl ?_
          refine pz_aload_n dL_law_455 rfl ?_
          refine pz_iload_n dL_law_456 rfl ?_
          refine pz_iconst (v := (1 : Int32)) dL_law_457 (by decide) ?_
          refine pz_iadd dL_law_458 ?_
          obtain ⟨h1, hf⟩ := hf
          refine pz_sld hΨs hbB dL_law_459 h1 ?_
          obtain ⟨_, hO, hf⟩ := hf
          refine pz_callV1 (rc := 20 * n + 20) (rs := 400 * n + 400) (mc := 0) (ms := 0) dL_law_460 (k_X4_orders X (d + 2) _ _ _ _ hf) (Nat.le_of_ble_eq_true rfl) mf_X4_orders ml_L_56 hO rfl mi_X4_orders ms_X4_orders (fun _ h9 hq => ?_)
          obtain ⟨_, rfl, hf⟩ := hq
          refine pz_aload_n dL_law_463 rfl ?_
          refine pz_aload_n dL_law_464 rfl ?_
          refine pz_iload_n dL_law_465 rfl ?_
          refine pz_iconst (v := (1 : Int32)) dL_law_466 (by decide) ?_
          refine pz_iadd dL_law_467 ?_
          obtain ⟨h1, hf⟩ := hf
          refine pz_sld hΨs hbB dL_law_468 h1 ?_
          obtain ⟨_, hO, hf⟩ := hf
          refine pz_callV1 (rc := 20 * n + 20) (rs := 400 * n + 400) (mc := 0) (ms := 0) dL_law_469 (k_X5_orders X (d + 2) _ _ _ _ hf) (Nat.le_of_ble_eq_true rfl) mf_X5_orders ml_L_59 hO rfl mi_X5_orders ms_X5_orders (fun _ h9 hq => ?_)
          obtain ⟨_, rfl, hf⟩ := hq
          obtain ⟨ha, hb⟩ := hf
          refine pz_icmp_eq dL_law_472 (tgt := 897) (by decide) (fun cc => ?_) (fun cc => ?_)
          · have hf := ha cc
            exact pz_drop (pz_part_of [0, 1, 2, 3] rfl) (kB_L_law_897 X d L xs bb hΨs hbB _ _ _ _ _ _ _ _ (fun z0 hz fz => ih z0 hz _ _ (by omega) (by omega) fz) hf)
          · have hf := hb cc
            refine pz_iconst (v := (0 : Int32)) dL_law_475 (by decide) ?_
            exact pz_ireturn dL_law_476 rfl rfl ⟨_, rfl, hf⟩
        | 11, _, hf =>
          refine pz_aload_n dL_law_477 rfl ?_
          refine pz_aload_n dL_law_478 rfl ?_
          refine pz_iload_n dL_law_479 rfl ?_
          refine pz_iconst (v := (1 : Int32)) dL_law_480 (by decide) ?_
          refine pz_iadd dL_law_481 ?_
          obtain ⟨h1, hf⟩ := hf
          refine pz_sld hΨs hbB dL_law_482 h1 ?_
          refine pz_aload_n dL_law_483 rfl ?_
          refine pz_iload_n dL_law_484 rfl ?_
          refine pz_iconst (v := (2 : Int32)) dL_law_485 (by decide) ?_
          refine pz_iadd dL_law_486 ?_
          obtain ⟨h1, hf⟩ := hf
          refine pz_sld hΨs hbB dL_law_487 h1 ?_
          obtain ⟨_, hO, hf⟩ := hf
          refine pz_callV2 (rc := 20 * n + 20) (rs := 400 * n + 400) (mc := 0) (ms := 0) dL_law_488 (k_X4_order X (d + 2) _ _ _ _ _ hf) (Nat.le_of_ble_eq_true rfl) mf_X4_order ml_L_60 hO rfl mi_X4_order ms_X4_order (fun _ h9 hq => ?_)
          obtain ⟨_, rfl, hf⟩ := hq
          refine pz_aload_n dL_law_491 rfl ?_
          refine pz_aload_n dL_law_492 rfl ?_
          refine pz_iload_n dL_law_493 rfl ?_
          refine pz_iconst (v := (1 : Int32)) dL_law_494 (by decide) ?_
          refine pz_iadd dL_law_495 ?_
          obtain ⟨h1, hf⟩ := hf
          refine pz_sld hΨs hbB dL_law_496 h1 ?_
          refine pz_aload_n dL_law_497 rfl ?_
          refine pz_iload_n dL_law_498 rfl ?_
          refine pz_iconst (v := (2 : Int32)) dL_law_499 (by decide) ?_
          refine pz_iadd dL_law_500 ?_
          obtain ⟨h1, hf⟩ := hf
          refine pz_sld hΨs hbB dL_law_501 h1 ?_
          obtain ⟨_, hO, hf⟩ := hf
          refine pz_callV2 (rc := 20 * n + 20) (rs := 400 * n + 400) (mc := 0) (ms := 0) dL_law_502 (k_X5_order X (d + 2) _ _ _ _ _ hf) (Nat.le_of_ble_eq_true rfl) mf_X5_order ml_L_64 hO rfl mi_X5_order ms_X5_order (fun _ h9 hq => ?_)
          obtain ⟨_, rfl, hf⟩ := hq
          refine pz_lcmp dL_law_505 ?_
          obtain ⟨ha, hb⟩ := hf
          refine pz_if_eq dL_law_506 (tgt := 897) (by decide) (fun cc => ?_) (fun cc => ?_)
          · have hf := ha cc
            exact pz_drop (pz_part_of [0, 1, 2, 3] rfl) (kB_L_law_897 X d L xs bb hΨs hbB _ _ _ _ _ _ _ _ (fun z0 hz fz => ih z0 hz _ _ (by omega) (by omega) fz) hf)
          · have hf := hb cc
            refine pz_iconst (v := (0 : Int32)) dL_law_509 (by decide) ?_
            exact pz_ireturn dL_law_510 rfl rfl ⟨_, rfl, hf⟩
        | 12, _, hf =>
          refine pz_aload_n dL_law_511 rfl ?_
          refine pz_aload_n dL_law_512 rfl ?_
          refine pz_iload_n dL_law_513 rfl ?_
          refine pz_iconst (v := (1 : Int32)) dL_law_514 (by decide) ?_
          refine pz_iadd dL_law_515 ?_
          obtain ⟨h1, hf⟩ := hf
          refine pz_sld hΨs hbB dL_law_516 h1 ?_
          refine pz_aload_n dL_law_517 rfl ?_
          refine pz_iload_n dL_law_518 rfl ?_
          refine pz_iconst (v := (2 : Int32)) dL_law_519 (by decide) ?_
          refine pz_iadd dL_law_520 ?_
          obtain ⟨h1, hf⟩ := hf
          refine pz_sld hΨs hbB dL_law_521 h1 ?_
          refine pz_i2l dL_law_522 ?_
          refine pz_bipush (v := (32 : Int32)) dL_law_523 (by decide) ?_
          refine pz_lshl dL_law_525 rfl ?_
          refine pz_aload_n dL_law_526 rfl ?_
          refine pz_iload_n dL_law_527 rfl ?_
          refine pz_iconst (v := (3 : Int32)) dL_law_528 (by decide) ?_
          refine pz_iadd dL_law_529 ?_
          obtain ⟨h1, hf⟩ := hf
          refine pz_sld hΨs hbB dL_law_530 h1 ?_
          refine pz_i2l dL_law_531 ?_
          refine pz_ldc2 dL_law_532 cn_L_65 ?_
          refine pz_land dL_law_535 ?_
          refine pz_lor dL_law_536 ?_
          obtain ⟨_, hO, hf⟩ := hf
          refine pz_callV2 (rc := 20 * n + 20) (rs := 400 * n + 400) (mc := 0) (ms := 0) dL_law_537 (k_X4_check X (d + 3) _ _ _ _ _ hf) (Nat.le_of_ble_eq_true rfl) mf_X4_check ml_L_67 hO rfl mi_X4_check ms_X4_check (fun _ h9 hq => ?_)
          obtain ⟨_, rfl, hf⟩ := hq
          refine pz_aload_n dL_law_540 rfl ?_
          refine pz_aload_n dL_law_541 rfl ?_
          refine pz_iload_n dL_law_542 rfl ?_
          refine pz_iconst (v := (1 : Int32)) dL_law_543 (by decide) ?_
          refine pz_iadd dL_law_544 ?_
          obtain ⟨h1, hf⟩ := hf
          refine pz_sld hΨs hbB dL_law_545 h1 ?_
          refine pz_aload_n dL_law_546 rfl ?_
          refine pz_iload_n dL_law_547 rfl ?_
          refine pz_iconst (v := (2 : Int32)) dL_law_548 (by decide) ?_
          refine pz_iadd dL_law_549 ?_
          obtain ⟨h1, hf⟩ := hf
          refine pz_sld hΨs hbB dL_law_550 h1 ?_
          refine pz_i2l dL_law_551 ?_
          refine pz_bipush (v := (32 : Int32)) dL_law_552 (by decide) ?_
          refine pz_lshl dL_law_554 rfl ?_
          refine pz_aload_n dL_law_555 rfl ?_
          refine pz_iload_n dL_law_556 rfl ?_
          refine pz_iconst (v := (3 : Int32)) dL_law_557 (by decide) ?_
          refine pz_iadd dL_law_558 ?_
          obtain ⟨h1, hf⟩ := hf
          refine pz_sld hΨs hbB dL_law_559 h1 ?_
          refine pz_i2l dL_law_560 ?_
          refine pz_ldc2 dL_law_561 cn_L_65 ?_
          refine pz_land dL_law_564 ?_
          refine pz_lor dL_law_565 ?_
          obtain ⟨_, hO, hf⟩ := hf
          refine pz_callV2 (rc := 20 * n + 20) (rs := 400 * n + 400) (mc := 0) (ms := 0) dL_law_566 (k_X5_check X (d + 4) _ _ _ _ _ hf) (Nat.le_of_ble_eq_true rfl) mf_X5_check ml_L_71 hO rfl mi_X5_check ms_X5_check (fun _ h9 hq => ?_)
          obtain ⟨_, rfl, hf⟩ := hq
          obtain ⟨ha, hb⟩ := hf
          refine pz_icmp_eq dL_law_569 (tgt := 897) (by decide) (fun cc => ?_) (fun cc => ?_)
          · have hf := ha cc
            exact pz_drop (pz_part_of [0, 1, 2, 3] rfl) (kB_L_law_897 X d L xs bb hΨs hbB _ _ _ _ _ _ _ _ (fun z0 hz fz => ih z0 hz _ _ (by omega) (by omega) fz) hf)
          · have hf := hb cc
            refine pz_iconst (v := (0 : Int32)) dL_law_572 (by decide) ?_
            exact pz_ireturn dL_law_573 rfl rfl ⟨_, rfl, hf⟩
        | 13, _, hf =>
          refine pz_aload_n dL_law_574 rfl ?_
          refine pz_aload_n dL_law_575 rfl ?_
          refine pz_iload_n dL_law_576 rfl ?_
          refine pz_iconst (v := (1 : Int32)) dL_law_577 (by decide) ?_
          refine pz_iadd dL_law_578 ?_
          obtain ⟨h1, hf⟩ := hf
          refine pz_sld hΨs hbB dL_law_579 h1 ?_
          refine pz_aload_n dL_law_580 rfl ?_
          refine pz_iload_n dL_law_581 rfl ?_
          refine pz_iconst (v := (2 : Int32)) dL_law_582 (by decide) ?_
          refine pz_iadd dL_law_583 ?_
          obtain ⟨h1, hf⟩ := hf
          refine pz_sld hΨs hbB dL_law_584 h1 ?_
          obtain ⟨_, hO, hf⟩ := hf
          refine pz_callV2 (rc := 20 * n + 20) (rs := 400 * n + 400) (mc := 0) (ms := 0) dL_law_585 (k_X4_forced X (d + 1) _ _ _ _ _ hf) (Nat.le_of_ble_eq_true rfl) mf_X4_forced ml_L_72 hO rfl mi_X4_forced ms_X4_forced (fun _ h9 hq => ?_)
          obtain ⟨_, rfl, hf⟩ := hq
          refine pz_aload_n dL_law_588 rfl ?_
          refine pz_aload_n dL_law_589 rfl ?_
          refine pz_iload_n dL_law_590 rfl ?_
          refine pz_iconst (v := (1 : Int32)) dL_law_591 (by decide) ?_
          refine pz_iadd dL_law_592 ?_
          obtain ⟨h1, hf⟩ := hf
          refine pz_sld hΨs hbB dL_law_593 h1 ?_
          refine pz_aload_n dL_law_594 rfl ?_
          refine pz_iload_n dL_law_595 rfl ?_
          refine pz_iconst (v := (2 : Int32)) dL_law_596 (by decide) ?_
          refine pz_iadd dL_law_597 ?_
          obtain ⟨h1, hf⟩ := hf
          refine pz_sld hΨs hbB dL_law_598 h1 ?_
          obtain ⟨_, hO, hf⟩ := hf
          refine pz_callV2 (rc := 20 * n + 20) (rs := 400 * n + 400) (mc := 0) (ms := 0) dL_law_599 (k_X5_forced X (d + 2) _ _ _ _ _ hf) (Nat.le_of_ble_eq_true rfl) mf_X5_forced ml_L_75 hO rfl mi_X5_forced ms_X5_forced (fun _ h9 hq => ?_)
          obtain ⟨_, rfl, hf⟩ := hq
          obtain ⟨ha, hb⟩ := hf
          refine pz_icmp_eq dL_law_602 (tgt := 897) (by decide) (fun cc => ?_) (fun cc => ?_)
          · have hf := ha cc
            exact pz_drop (pz_part_of [0, 1, 2, 3] rfl) (kB_L_law_897 X d L xs bb hΨs hbB _ _ _ _ _ _ _ _ (fun z0 hz fz => ih z0 hz _ _ (by omega) (by omega) fz) hf)
          · have hf := hb cc
            refine pz_iconst (v := (0 : Int32)) dL_law_605 (by decide) ?_
            exact pz_ireturn dL_law_606 rfl rfl ⟨_, rfl, hf⟩
        | 14, _, hf =>
          refine pz_aload_n dL_law_607 rfl ?_
          refine pz_aload_n dL_law_608 rfl ?_
          refine pz_iload_n dL_law_609 rfl ?_
          refine pz_iconst (v := (1 : Int32)) dL_law_610 (by decide) ?_
          refine pz_iadd dL_law_611 ?_
          obtain ⟨h1, hf⟩ := hf
          refine pz_sld hΨs hbB dL_law_612 h1 ?_
          refine pz_aload_n dL_law_613 rfl ?_
          refine pz_iload_n dL_law_614 rfl ?_
          refine pz_iconst (v := (2 : Int32)) dL_law_615 (by decide) ?_
          refine pz_iadd dL_law_616 ?_
          obtain ⟨h1, hf⟩ := hf
          refine pz_sld hΨs hbB dL_law_617 h1 ?_
          refine pz_aload_n dL_law_618 rfl ?_
          refine pz_iload_n dL_law_619 rfl ?_
          refine pz_iconst (v := (3 : Int32)) dL_law_620 (by decide) ?_
          refine pz_iadd dL_law_621 ?_
          obtain ⟨h1, hf⟩ := hf
          refine pz_sld hΨs hbB dL_law_622 h1 ?_
          obtain ⟨_, hO, hf⟩ := hf
          refine pz_callV3 (rc := 20 * n + 20) (rs := 400 * n + 400) (mc := 0) (ms := 0) dL_law_623 (k_X4_above X (d + 1) _ _ _ _ _ _ hf) (Nat.le_of_ble_eq_true rfl) mf_X4_above ml_L_76 hO rfl mi_X4_above ms_X4_above (fun _ h9 hq => ?_)
          obtain ⟨_, rfl, hf⟩ := hq
          refine pz_aload_n dL_law_626 rfl ?_
          refine pz_aload_n dL_law_627 rfl ?_
          refine pz_iload_n dL_law_628 rfl ?_
          refine pz_iconst (v := (1 : Int32)) dL_law_629 (by decide) ?_
          refine pz_iadd dL_law_630 ?_
          obtain ⟨h1, hf⟩ := hf
          refine pz_sld hΨs hbB dL_law_631 h1 ?_
          refine pz_aload_n dL_law_632 rfl ?_
          refine pz_iload_n dL_law_633 rfl ?_
          refine pz_iconst (v := (2 : Int32)) dL_law_634 (by decide) ?_
          refine pz_iadd dL_law_635 ?_
          obtain ⟨h1, hf⟩ := hf
          refine pz_sld hΨs hbB dL_law_636 h1 ?_
          refine pz_aload_n dL_law_637 rfl ?_
          refine pz_iload_n dL_law_638 rfl ?_
          refine pz_iconst (v := (3 : Int32)) dL_law_639 (by decide) ?_
          refine pz_iadd dL_law_640 ?_
          obtain ⟨h1, hf⟩ := hf
          refine pz_sld hΨs hbB dL_law_641 h1 ?_
          obtain ⟨_, hO, hf⟩ := hf
          refine pz_callV3 (rc := 20 * n + 20) (rs := 400 * n + 400) (mc := 0) (ms := 0) dL_law_642 (k_X5_above X (d + 2) _ _ _ _ _ _ hf) (Nat.le_of_ble_eq_true rfl) mf_X5_above ml_L_79 hO rfl mi_X5_above ms_X5_above (fun _ h9 hq => ?_)
          obtain ⟨_, rfl, hf⟩ := hq
          obtain ⟨ha, hb⟩ := hf
          refine pz_icmp_eq dL_law_645 (tgt := 897) (by decide) (fun cc => ?_) (fun cc => ?_)
          · have hf := ha cc
            exact pz_drop (pz_part_of [0, 1, 2, 3] rfl) (kB_L_law_897 X d L xs bb hΨs hbB _ _ _ _ _ _ _ _ (fun z0 hz fz => ih z0 hz _ _ (by omega) (by omega) fz) hf)
          · have hf := hb cc
            refine pz_iconst (v := (0 : Int32)) dL_law_648 (by decide) ?_
            exact pz_ireturn dL_law_649 rfl rfl ⟨_, rfl, hf⟩
        | 15, _, hf =>
          refine pz_aload_n dL_law_650 rfl ?_
          refine pz_aload_n dL_law_651 rfl ?_
          refine pz_iload_n dL_law_652 rfl ?_
          refine pz_iconst (v := (1 : Int32)) dL_law_653 (by decide) ?_
          refine pz_iadd dL_law_654 ?_
          obtain ⟨h1, hf⟩ := hf
          refine pz_sld hΨs hbB dL_law_655 h1 ?_
          refine pz_aload_n dL_law_656 rfl ?_
          refine pz_iload_n dL_law_657 rfl ?_
          refine pz_iconst (v := (2 : Int32)) dL_law_658 (by decide) ?_
          refine pz_iadd dL_law_659 ?_
          obtain ⟨h1, hf⟩ := hf
          refine pz_sld hΨs hbB dL_law_660 h1 ?_
          obtain ⟨_, hO, hf⟩ := hf
          refine pz_callV2 (rc := 20 * n + 20) (rs := 400 * n + 400) (mc := 0) (ms := 0) dL_law_661 (k_X4_alike X (d + 1) _ _ _ _ _ hf) (Nat.le_of_ble_eq_true rfl) mf_X4_alike ml_L_80 hO rfl mi_X4_alike ms_X4_alike (fun _ h9 hq => ?_)
          obtain ⟨_, rfl, hf⟩ := hq
          refine pz_aload_n dL_law_664 rfl ?_
          refine pz_aload_n dL_law_665 rfl ?_
          refine pz_iload_n dL_law_666 rfl ?_
          refine pz_iconst (v := (1 : Int32)) dL_law_667 (by decide) ?_
          refine pz_iadd dL_law_668 ?_
          obtain ⟨h1, hf⟩ := hf
          refine pz_sld hΨs hbB dL_law_669 h1 ?_
          refine pz_aload_n dL_law_670 rfl ?_
          refine pz_iload_n dL_law_671 rfl ?_
          refine pz_iconst (v := (2 : Int32)) dL_law_672 (by decide) ?_
          refine pz_iadd dL_law_673 ?_
          obtain ⟨h1, hf⟩ := hf
          refine pz_sld hΨs hbB dL_law_674 h1 ?_
          obtain ⟨_, hO, hf⟩ := hf
          refine pz_callV2 (rc := 20 * n + 20) (rs := 400 * n + 400) (mc := 0) (ms := 0) dL_law_675 (k_X5_alike X (d + 1) _ _ _ _ _ hf) (Nat.le_of_ble_eq_true rfl) mf_X5_alike ml_L_83 hO rfl mi_X5_alike ms_X5_alike (fun _ h9 hq => ?_)
          obtain ⟨_, rfl, hf⟩ := hq
          obtain ⟨ha, hb⟩ := hf
          refine pz_icmp_eq dL_law_678 (tgt := 897) (by decide) (fun cc => ?_) (fun cc => ?_)
          · have hf := ha cc
            exact pz_drop (pz_part_of [0, 1, 2, 3] rfl) (kB_L_law_897 X d L xs bb hΨs hbB _ _ _ _ _ _ _ _ (fun z0 hz fz => ih z0 hz _ _ (by omega) (by omega) fz) hf)
          · have hf := hb cc
            refine pz_iconst (v := (0 : Int32)) dL_law_681 (by decide) ?_
            exact pz_ireturn dL_law_682 rfl rfl ⟨_, rfl, hf⟩
        | 16, _, hf =>
          refine pz_aload_n dL_law_683 rfl ?_
          refine pz_aload_n dL_law_684 rfl ?_
          refine pz_iload_n dL_law_685 rfl ?_
          refine pz_iconst (v := (1 : Int32)) dL_law_686 (by decide) ?_
          refine pz_iadd dL_law_687 ?_
          obtain ⟨h1, hf⟩ := hf
          refine pz_sld hΨs hbB dL_law_688 h1 ?_
          obtain ⟨_, hO, hf⟩ := hf
          refine pz_callV1 (rc := 20 * n + 20) (rs := 400 * n + 400) (mc := 0) (ms := 0) dL_law_689 (k_X4_foldings X (d + 2) _ _ _ _ hf) (Nat.le_of_ble_eq_true rfl) mf_X4_foldings ml_L_84 hO rfl mi_X4_foldings ms_X4_foldings (fun _ h9 hq => ?_)
          obtain ⟨_, rfl, hf⟩ := hq
          refine pz_aload_n dL_law_692 rfl ?_
          refine pz_aload_n dL_law_693 rfl ?_
          refine pz_iload_n dL_law_694 rfl ?_
          refine pz_iconst (v := (1 : Int32)) dL_law_695 (by decide) ?_
          refine pz_iadd dL_law_696 ?_
          obtain ⟨h1, hf⟩ := hf
          refine pz_sld hΨs hbB dL_law_697 h1 ?_
          obtain ⟨_, hO, hf⟩ := hf
          refine pz_callV1 (rc := 20 * n + 20) (rs := 400 * n + 400) (mc := 0) (ms := 0) dL_law_698 (k_X5_foldings X (d + 2) _ _ _ _ hf) (Nat.le_of_ble_eq_true rfl) mf_X5_foldings ml_L_87 hO rfl mi_X5_foldings ms_X5_foldings (fun _ h9 hq => ?_)
          obtain ⟨_, rfl, hf⟩ := hq
          obtain ⟨ha, hb⟩ := hf
          refine pz_icmp_eq dL_law_701 (tgt := 897) (by decide) (fun cc => ?_) (fun cc => ?_)
          · have hf := ha cc
            exact pz_drop (pz_part_of [0, 1, 2, 3] rfl) (kB_L_law_897 X d L xs bb hΨs hbB _ _ _ _ _ _ _ _ (fun z0 hz fz => ih z0 hz _ _ (by omega) (by omega) fz) hf)
          · have hf := hb cc
            refine pz_iconst (v := (0 : Int32)) dL_law_704 (by decide) ?_
            exact pz_ireturn dL_law_705 rfl rfl ⟨_, rfl, hf⟩
        | 17, _, hf =>
          refine pz_aload_n dL_law_706 rfl ?_
          refine pz_aload_n dL_law_707 rfl ?_
          refine pz_iload_n dL_law_708 rfl ?_
          refine pz_iconst (v := (1 : Int32)) dL_law_709 (by decide) ?_
          refine pz_iadd dL_law_710 ?_
          obtain ⟨h1, hf⟩ := hf
          refine pz_sld hΨs hbB dL_law_711 h1 ?_
          obtain ⟨_, hO, hf⟩ := hf
          refine pz_callV1 (rc := 20 * n + 20) (rs := 400 * n + 400) (mc := 0) (ms := 0) dL_law_712 (k_X4_clash X (d + 1) _ _ _ _ hf) (Nat.le_of_ble_eq_true rfl) mf_X4_clash ml_L_88 hO rfl mi_X4_clash ms_X4_clash (fun _ h9 hq => ?_)
          obtain ⟨_, rfl, hf⟩ := hq
          refine pz_aload_n dL_law_715 rfl ?_
          refine pz_aload_n dL_law_716 rfl ?_
          refine pz_iload_n dL_law_717 rfl ?_
          refine pz_iconst (v := (1 : Int32)) dL_law_718 (by decide) ?_
          refine pz_iadd dL_law_719 ?_
          obtain ⟨h1, hf⟩ := hf
          refine pz_sld hΨs hbB dL_law_720 h1 ?_
          obtain ⟨_, hO, hf⟩ := hf
          refine pz_callV1 (rc := 20 * n + 20) (rs := 400 * n + 400) (mc := 0) (ms := 0) dL_law_721 (k_X5_clash X (d + 1) _ _ _ _ hf) (Nat.le_of_ble_eq_true rfl) mf_X5_clash ml_L_91 hO rfl mi_X5_clash ms_X5_clash (fun _ h9 hq => ?_)
          obtain ⟨_, rfl, hf⟩ := hq
          obtain ⟨ha, hb⟩ := hf
          refine pz_icmp_eq dL_law_724 (tgt := 897) (by decide) (fun cc => ?_) (fun cc => ?_)
          · have hf := ha cc
            exact pz_drop (pz_part_of [0, 1, 2, 3] rfl) (kB_L_law_897 X d L xs bb hΨs hbB _ _ _ _ _ _ _ _ (fun z0 hz fz => ih z0 hz _ _ (by omega) (by omega) fz) hf)
          · have hf := hb cc
            refine pz_iconst (v := (0 : Int32)) dL_law_727 (by decide) ?_
            exact pz_ireturn dL_law_728 rfl rfl ⟨_, rfl, hf⟩
        | 18, _, hf =>
          refine pz_aload_n dL_law_729 rfl ?_
          refine pz_aload_n dL_law_730 rfl ?_
          refine pz_iload_n dL_law_731 rfl ?_
          refine pz_iconst (v := (1 : Int32)) dL_law_732 (by decide) ?_
          refine pz_iadd dL_law_733 ?_
          obtain ⟨h1, hf⟩ := hf
          refine pz_sld hΨs hbB dL_law_734 h1 ?_
          obtain ⟨_, hO, hf⟩ := hf
          refine pz_callV1 (rc := 20 * n + 20) (rs := 400 * n + 400) (mc := 0) (ms := 0) dL_law_735 (k_X4_inClash X (d + 7) _ _ _ _ hf) (Nat.le_of_ble_eq_true rfl) mf_X4_inClash ml_L_92 hO rfl mi_X4_inClash ms_X4_inClash (fun _ h9 hq => ?_)
          obtain ⟨_, rfl, hf⟩ := hq
          refine pz_aload_n dL_law_738 rfl ?_
          refine pz_aload_n dL_law_739 rfl ?_
          refine pz_iload_n dL_law_740 rfl ?_
          refine pz_iconst (v := (1 : Int32)) dL_law_741 (by decide) ?_
          refine pz_iadd dL_law_742 ?_
          obtain ⟨h1, hf⟩ := hf
          refine pz_sld hΨs hbB dL_law_743 h1 ?_
          obtain ⟨_, hO, hf⟩ := hf
          refine pz_callV1 (rc := 20 * n + 20) (rs := 400 * n + 400) (mc := 0) (ms := 0) dL_law_744 (k_X5_inClash X (d + 7) _ _ _ _ hf) (Nat.le_of_ble_eq_true rfl) mf_X5_inClash ml_L_95 hO rfl mi_X5_inClash ms_X5_inClash (fun _ h9 hq => ?_)
          obtain ⟨_, rfl, hf⟩ := hq
          obtain ⟨ha, hb⟩ := hf
          refine pz_icmp_eq dL_law_747 (tgt := 897) (by decide) (fun cc => ?_) (fun cc => ?_)
          · have hf := ha cc
            exact pz_drop (pz_part_of [0, 1, 2, 3] rfl) (kB_L_law_897 X d L xs bb hΨs hbB _ _ _ _ _ _ _ _ (fun z0 hz fz => ih z0 hz _ _ (by omega) (by omega) fz) hf)
          · have hf := hb cc
            refine pz_iconst (v := (0 : Int32)) dL_law_750 (by decide) ?_
            exact pz_ireturn dL_law_751 rfl rfl ⟨_, rfl, hf⟩
        | 19, _, hf =>
          refine pz_aload_n dL_law_752 rfl ?_
          refine pz_aload_n dL_law_753 rfl ?_
          refine pz_iload_n dL_law_754 rfl ?_
          refine pz_iconst (v := (1 : Int32)) dL_law_755 (by decide) ?_
          refine pz_iadd dL_law_756 ?_
          obtain ⟨h1, hf⟩ := hf
          refine pz_sld hΨs hbB dL_law_757 h1 ?_
          obtain ⟨_, hO, hf⟩ := hf
          refine pz_callV1 (rc := 20 * n + 20) (rs := 400 * n + 400) (mc := 0) (ms := 0) dL_law_758 (k_X4_simple X d _ _ _ _ hf) (Nat.le_of_ble_eq_true rfl) mf_X4_simple ml_L_96 hO rfl mi_X4_simple ms_X4_simple (fun _ h9 hq => ?_)
          obtain ⟨_, rfl, hf⟩ := hq
          refine pz_aload_n dL_law_761 rfl ?_
          refine pz_aload_n dL_law_762 rfl ?_
          refine pz_iload_n dL_law_763 rfl ?_
          refine pz_iconst (v := (1 : Int32)) dL_law_764 (by decide) ?_
          refine pz_iadd dL_law_765 ?_
          obtain ⟨h1, hf⟩ := hf
          refine pz_sld hΨs hbB dL_law_766 h1 ?_
          obtain ⟨_, hO, hf⟩ := hf
          refine pz_callV1 (rc := 20 * n + 20) (rs := 400 * n + 400) (mc := 0) (ms := 0) dL_law_767 (k_X5_simple X (d + 3) _ _ _ _ hf) (Nat.le_of_ble_eq_true rfl) mf_X5_simple ml_L_99 hO rfl mi_X5_simple ms_X5_simple (fun _ h9 hq => ?_)
          obtain ⟨_, rfl, hf⟩ := hq
          obtain ⟨ha, hb⟩ := hf
          refine pz_icmp_eq dL_law_770 (tgt := 897) (by decide) (fun cc => ?_) (fun cc => ?_)
          · have hf := ha cc
            exact pz_drop (pz_part_of [0, 1, 2, 3] rfl) (kB_L_law_897 X d L xs bb hΨs hbB _ _ _ _ _ _ _ _ (fun z0 hz fz => ih z0 hz _ _ (by omega) (by omega) fz) hf)
          · have hf := hb cc
            refine pz_iconst (v := (0 : Int32)) dL_law_773 (by decide) ?_
            exact pz_ireturn dL_law_774 rfl rfl ⟨_, rfl, hf⟩
        | 20, _, hf =>
          refine pz_aload_n dL_law_775 rfl ?_
          refine pz_aload_n dL_law_776 rfl ?_
          refine pz_iload_n dL_law_777 rfl ?_
          refine pz_iconst (v := (1 : Int32)) dL_law_778 (by decide) ?_
          refine pz_iadd dL_law_779 ?_
          obtain ⟨h1, hf⟩ := hf
          refine pz_sld hΨs hbB dL_law_780 h1 ?_
          obtain ⟨_, hO, hf⟩ := hf
          refine pz_callV1 (rc := 20 * n + 20) (rs := 400 * n + 400) (mc := 0) (ms := 0) dL_law_781 (k_X4_step X (d + 7) _ _ _ _ hf) (Nat.le_of_ble_eq_true rfl) mf_X4_step ml_L_100 hO rfl mi_X4_step ms_X4_step (fun _ h9 hq => ?_)
          obtain ⟨_, rfl, hf⟩ := hq
          refine pz_aload_n dL_law_784 rfl ?_
          refine pz_aload_n dL_law_785 rfl ?_
          refine pz_iload_n dL_law_786 rfl ?_
          refine pz_iconst (v := (1 : Int32)) dL_law_787 (by decide) ?_
          refine pz_iadd dL_law_788 ?_
          obtain ⟨h1, hf⟩ := hf
          refine pz_sld hΨs hbB dL_law_789 h1 ?_
          obtain ⟨_, hO, hf⟩ := hf
          refine pz_callV1 (rc := 20 * n + 20) (rs := 400 * n + 400) (mc := 0) (ms := 0) dL_law_790 (k_X5_step X (d + 7) _ _ _ _ hf) (Nat.le_of_ble_eq_true rfl) mf_X5_step ml_L_103 hO rfl mi_X5_step ms_X5_step (fun _ h9 hq => ?_)
          obtain ⟨_, rfl, hf⟩ := hq
          obtain ⟨ha, hb⟩ := hf
          refine pz_icmp_eq dL_law_793 (tgt := 897) (by decide) (fun cc => ?_) (fun cc => ?_)
          · have hf := ha cc
            exact pz_drop (pz_part_of [0, 1, 2, 3] rfl) (kB_L_law_897 X d L xs bb hΨs hbB _ _ _ _ _ _ _ _ (fun z0 hz fz => ih z0 hz _ _ (by omega) (by omega) fz) hf)
          · have hf := hb cc
            refine pz_iconst (v := (0 : Int32)) dL_law_796 (by decide) ?_
            exact pz_ireturn dL_law_797 rfl rfl ⟨_, rfl, hf⟩
        | 21, _, hf =>
          refine pz_aload_n dL_law_798 rfl ?_
          refine pz_aload_n dL_law_799 rfl ?_
          refine pz_iload_n dL_law_800 rfl ?_
          refine pz_iconst (v := (1 : Int32)) dL_law_801 (by decide) ?_
          refine pz_iadd dL_law_802 ?_
          obtain ⟨h1, hf⟩ := hf
          refine pz_sld hΨs hbB dL_law_803 h1 ?_
          refine pz_aload_n dL_law_804 rfl ?_
          refine pz_iload_n dL_law_805 rfl ?_
          refine pz_iconst (v := (2 : Int32)) dL_law_806 (by decide) ?_
          refine pz_iadd dL_law_807 ?_
          obtain ⟨h1, hf⟩ := hf
          refine pz_sld hΨs hbB dL_law_808 h1 ?_
          obtain ⟨_, hO, hf⟩ := hf
          refine pz_callV2 (rc := 20 * n + 20) (rs := 400 * n + 400) (mc := 0) (ms := 0) dL_law_809 (k_X4_fold X (d + 3) _ _ _ _ _ hf) (Nat.le_of_ble_eq_true rfl) mf_X4_fold ml_L_104 hO rfl mi_X4_fold ms_X4_fold (fun _ h9 hq => ?_)
          obtain ⟨_, rfl, hf⟩ := hq
          refine pz_aload_n dL_law_812 rfl ?_
          refine pz_aload_n dL_law_813 rfl ?_
          refine pz_iload_n dL_law_814 rfl ?_
          refine pz_iconst (v := (1 : Int32)) dL_law_815 (by decide) ?_
          refine pz_iadd dL_law_816 ?_
          obtain ⟨h1, hf⟩ := hf
          refine pz_sld hΨs hbB dL_law_817 h1 ?_
          refine pz_aload_n dL_law_818 rfl ?_
          refine pz_iload_n dL_law_819 rfl ?_
          refine pz_iconst (v := (2 : Int32)) dL_law_820 (by decide) ?_
          refine pz_iadd dL_law_821 ?_
          obtain ⟨h1, hf⟩ := hf
          refine pz_sld hΨs hbB dL_law_822 h1 ?_
          obtain ⟨_, hO, hf⟩ := hf
          refine pz_callV2 (rc := 20 * n + 20) (rs := 400 * n + 400) (mc := 0) (ms := 0) dL_law_823 (k_X5_fold X (d + 4) _ _ _ _ _ hf) (Nat.le_of_ble_eq_true rfl) mf_X5_fold ml_L_107 hO rfl mi_X5_fold ms_X5_fold (fun _ h9 hq => ?_)
          obtain ⟨_, rfl, hf⟩ := hq
          obtain ⟨ha, hb⟩ := hf
          refine pz_icmp_eq dL_law_826 (tgt := 897) (by decide) (fun cc => ?_) (fun cc => ?_)
          · have hf := ha cc
            exact pz_drop (pz_part_of [0, 1, 2, 3] rfl) (kB_L_law_897 X d L xs bb hΨs hbB _ _ _ _ _ _ _ _ (fun z0 hz fz => ih z0 hz _ _ (by omega) (by omega) fz) hf)
          · have hf := hb cc
            refine pz_iconst (v := (0 : Int32)) dL_law_829 (by decide) ?_
            exact pz_ireturn dL_law_830 rfl rfl ⟨_, rfl, hf⟩
        | 22, _, hf =>
          refine pz_aload_n dL_law_831 rfl ?_
          refine pz_aload_n dL_law_832 rfl ?_
          refine pz_iload_n dL_law_833 rfl ?_
          refine pz_iconst (v := (1 : Int32)) dL_law_834 (by decide) ?_
          refine pz_iadd dL_law_835 ?_
          obtain ⟨h1, hf⟩ := hf
          refine pz_sld hΨs hbB dL_law_836 h1 ?_
          obtain ⟨_, hO, hf⟩ := hf
          refine pz_callV1 (rc := 20 * n + 20) (rs := 400 * n + 400) (mc := 0) (ms := 0) dL_law_837 (k_X4_flatten X (d + 5) _ _ _ _ hf) (Nat.le_of_ble_eq_true rfl) mf_X4_flatten ml_L_108 hO rfl mi_X4_flatten ms_X4_flatten (fun _ h9 hq => ?_)
          obtain ⟨_, rfl, hf⟩ := hq
          refine pz_aload_n dL_law_840 rfl ?_
          refine pz_aload_n dL_law_841 rfl ?_
          refine pz_iload_n dL_law_842 rfl ?_
          refine pz_iconst (v := (1 : Int32)) dL_law_843 (by decide) ?_
          refine pz_iadd dL_law_844 ?_
          obtain ⟨h1, hf⟩ := hf
          refine pz_sld hΨs hbB dL_law_845 h1 ?_
          obtain ⟨_, hO, hf⟩ := hf
          refine pz_callV1 (rc := 20 * n + 20) (rs := 400 * n + 400) (mc := 0) (ms := 0) dL_law_846 (k_X5_flatten X (d + 5) _ _ _ _ hf) (Nat.le_of_ble_eq_true rfl) mf_X5_flatten ml_L_111 hO rfl mi_X5_flatten ms_X5_flatten (fun _ h9 hq => ?_)
          obtain ⟨_, rfl, hf⟩ := hq
          obtain ⟨ha, hb⟩ := hf
          refine pz_icmp_eq dL_law_849 (tgt := 897) (by decide) (fun cc => ?_) (fun cc => ?_)
          · have hf := ha cc
            exact pz_drop (pz_part_of [0, 1, 2, 3] rfl) (kB_L_law_897 X d L xs bb hΨs hbB _ _ _ _ _ _ _ _ (fun z0 hz fz => ih z0 hz _ _ (by omega) (by omega) fz) hf)
          · have hf := hb cc
            refine pz_iconst (v := (0 : Int32)) dL_law_852 (by decide) ?_
            exact pz_ireturn dL_law_853 rfl rfl ⟨_, rfl, hf⟩
        | 23, _, hf =>
          refine pz_aload_n dL_law_854 rfl ?_
          refine pz_aload_n dL_law_855 rfl ?_
          refine pz_iload_n dL_law_856 rfl ?_
          refine pz_iconst (v := (1 : Int32)) dL_law_857 (by decide) ?_
          refine pz_iadd dL_law_858 ?_
          obtain ⟨h1, hf⟩ := hf
          refine pz_sld hΨs hbB dL_law_859 h1 ?_
          refine pz_aload_n dL_law_860 rfl ?_
          refine pz_iload_n dL_law_861 rfl ?_
          refine pz_iconst (v := (2 : Int32)) dL_law_862 (by decide) ?_
          refine pz_iadd dL_law_863 ?_
          obtain ⟨h1, hf⟩ := hf
          refine pz_sld hΨs hbB dL_law_864 h1 ?_
          refine pz_aload_n dL_law_865 rfl ?_
          refine pz_iload_n dL_law_866 rfl ?_
          refine pz_iconst (v := (3 : Int32)) dL_law_867 (by decide) ?_
          refine pz_iadd dL_law_868 ?_
          obtain ⟨h1, hf⟩ := hf
          refine pz_sld hΨs hbB dL_law_869 h1 ?_
          obtain ⟨_, hO, hf⟩ := hf
          refine pz_callV3 (rc := 20 * n + 20) (rs := 400 * n + 400) (mc := 0) (ms := 0) dL_law_870 (k_X4_lies X (d + 5) _ _ _ _ _ _ hf) (Nat.le_of_ble_eq_true rfl) mf_X4_lies ml_L_112 hO rfl mi_X4_lies ms_X4_lies (fun _ h9 hq => ?_)
          obtain ⟨_, rfl, hf⟩ := hq
          refine pz_aload_n dL_law_873 rfl ?_
          refine pz_aload_n dL_law_874 rfl ?_
          refine pz_iload_n dL_law_875 rfl ?_
          refine pz_iconst (v := (1 : Int32)) dL_law_876 (by decide) ?_
          refine pz_iadd dL_law_877 ?_
          obtain ⟨h1, hf⟩ := hf
          refine pz_sld hΨs hbB dL_law_878 h1 ?_
          refine pz_aload_n dL_law_879 rfl ?_
          refine pz_iload_n dL_law_880 rfl ?_
          refine pz_iconst (v := (2 : Int32)) dL_law_881 (by decide) ?_
          refine pz_iadd dL_law_882 ?_
          obtain ⟨h1, hf⟩ := hf
          refine pz_sld hΨs hbB dL_law_883 h1 ?_
          refine pz_aload_n dL_law_884 rfl ?_
          refine pz_iload_n dL_law_885 rfl ?_
          refine pz_iconst (v := (3 : Int32)) dL_law_886 (by decide) ?_
          refine pz_iadd dL_law_887 ?_
          obtain ⟨h1, hf⟩ := hf
          refine pz_sld hΨs hbB dL_law_888 h1 ?_
          obtain ⟨_, hO, hf⟩ := hf
          refine pz_callV3 (rc := 20 * n + 20) (rs := 400 * n + 400) (mc := 0) (ms := 0) dL_law_889 (k_X5_lies X (d + 5) _ _ _ _ _ _ hf) (Nat.le_of_ble_eq_true rfl) mf_X5_lies ml_L_115 hO rfl mi_X5_lies ms_X5_lies (fun _ h9 hq => ?_)
          obtain ⟨_, rfl, hf⟩ := hq
          obtain ⟨ha, hb⟩ := hf
          refine pz_icmp_eq dL_law_892 (tgt := 897) (by decide) (fun cc => ?_) (fun cc => ?_)
          · have hf := ha cc
            exact pz_drop (pz_part_of [0, 1, 2, 3] rfl) (kB_L_law_897 X d L xs bb hΨs hbB _ _ _ _ _ _ _ _ (fun z0 hz fz => ih z0 hz _ _ (by omega) (by omega) fz) hf)
          · have hf := hb cc
            refine pz_iconst (v := (0 : Int32)) dL_law_895 (by decide) ?_
            exact pz_ireturn dL_law_896 rfl rfl ⟨_, rfl, hf⟩
        | k9 + 24, hk9, _ => exact absurd hk9 (by simp)
def F_L_law (L : Nat) (xs : Nat → Int32) (h : pz_H) (Q : Int32 → pz_H → Prop) : Prop := (pq_n h (.inr (4, [.null, .int 0, .null, .null, .null, .null, .null, .null, .null, .null, .int 0, .null, .null, .null, .int 0])) (fun q182 h183 => (F_X4_init q182 h183 (fun h184 => (pq_n h184 (.inr (5, [.int 0, .null, .null, .null, .null, .null, .null, .null, .null, .null, .null, .null, .int 0, .int 0, .null, .int 0, .null, .null, .int 0, .null, .null, .null, .null, .null, .int 0, .null, .null, .null, .int 0])) (fun q185 h186 => (F_X5_init q185 h186 (fun h187 => (L_L_law_18 L xs q182 q185 Q 513 (0 : Int32) h187)))))))))
set_option maxHeartbeats 8000000 in
set_option maxRecDepth 100000 in
theorem k_L_law {Ψ : State → Prop} (X : pz_X) (d L : Nat) (xs : Nat → Int32) (bb : Nat) (hΨs : ∀ s, Ψ s → va_X bb L xs s s.heap) (hbB : bb < X.2.2) (h : pz_H) (Q : Int32 → pz_H → Prop) (hf : F_L_law L xs h Q) : pz_W Ψ X M_L_law (d + 8) 0 [(0, .ref bb)] [] h 10314 277604 (pq_qI Q) := by
  unfold F_L_law at hf
  refine pz_new (rc := 10313) (rs := 277589) (N := 15) (ty := tyX4) dL_law_0 (ci := 4) rfl pi_X4 tyX4_ok cl_L_7 ci_X4 cz_X4 (fun j hj => pq_defX4 j hj) (fun hfr => ?_)
  have hf := hf hfr
  refine pz_dup dL_law_3 rfl ?_
  refine pz_callI0 (rc := 10283) (rs := 276518) (mc := 30) (ms := 1071) dL_law_4 (k_X4_init X (d + 5) _ _ _ hf) (Nat.le_of_ble_eq_true rfl) mf_X4_init ml_L_9 rfl rfl mi_X4_init (fun _ h9 hq => ?_)
  obtain ⟨rfl, hf⟩ := hq
  refine pz_astore_n dL_law_7 rfl (by decide) rfl ?_
  refine pz_new (rc := 10282) (rs := 276489) (N := 29) (ty := tyX5) dL_law_8 (ci := 5) rfl pi_X5 tyX5_ok cl_L_10 ci_X5 cz_X5 (fun j hj => pq_defX5 j hj) (fun hfr => ?_)
  have hf := hf hfr
  refine pz_dup dL_law_11 rfl ?_
  refine pz_callI0 (rc := 10260) (rs := 205200) (mc := 22) (ms := 71289) dL_law_12 (k_X5_init X (d + 6) _ _ _ hf) (Nat.le_of_ble_eq_true rfl) mf_X5_init ml_L_12 rfl rfl mi_X5_init (fun _ h9 hq => ?_)
  obtain ⟨rfl, hf⟩ := hq
  refine pz_astore_n dL_law_15 rfl (by decide) rfl ?_
  refine pz_iconst (v := (0 : Int32)) dL_law_16 (by decide) ?_
  refine pz_istore_n dL_law_17 rfl (by decide) rfl ?_
  exact pz_drop (pz_part_of [0, 1, 2, 3] rfl) (kL_L_law_18 X d L xs bb hΨs hbB _ _ _ 513 _ _ _ _ (by decide) (by decide) hf)
