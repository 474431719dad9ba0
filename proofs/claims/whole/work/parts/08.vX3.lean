set_option maxRecDepth 100000 in
set_option maxHeartbeats 4000000 in
theorem vc_X3_hasPoint_0 {K : jj_K} (R : Int32 → wo_T → Prop)  (a1 : Int32) (w : wo_T)
    (h : (a1 < 0 → R 0 w) ∧ (¬ a1 < 0 → ((w.1 1 6) ≤ a1 → R 0 w) ∧ (¬ (w.1 1 6) ≤ a1 → R 1 w))) :
    jj_J K mX3_hasPoint (jj_Ri R) 0 [(0, .ref 1), (1, .int a1)] [] w := by
  refine jj_iload_n (pc := 0) dX3_hasPoint_0 1 rfl ?_
  refine jj_if_lt (pc := 1) (tgt := 16) dX3_hasPoint_1 (by decide) (fun c1 => ?_) (fun c1 => ?_)
  · replace h := h.1 c1
    refine jj_iconst (pc := 16) (v := 0) dX3_hasPoint_16 (by decide) ?_
    exact jj_zret (pc := 17) dX3_hasPoint_17 rfl (Or.inl rfl) h
  · replace h := h.2 c1
    refine jj_iload_n (pc := 4) dX3_hasPoint_4 1 rfl ?_
    refine jj_aload_n (pc := 5) dX3_hasPoint_5 0 rfl ?_
    refine jj_getI (pc := 6) (ci := 3) (k := 6) dX3_hasPoint_6 rfl rfl (by decide) rfl lk_RX3_30 ?_
    refine jj_icmp_ge (pc := 9) (tgt := 16) dX3_hasPoint_9 (by decide) (fun c2 => ?_) (fun c2 => ?_)
    · replace h := h.1 c2
      refine jj_iconst (pc := 16) (v := 0) dX3_hasPoint_16 (by decide) ?_
      exact jj_zret (pc := 17) dX3_hasPoint_17 rfl (Or.inl rfl) h
    · replace h := h.2 c2
      refine jj_iconst (pc := 12) (v := 1) dX3_hasPoint_12 (by decide) ?_
      refine jj_goto (pc := 13) (tgt := 17) dX3_hasPoint_13 (by decide) ?_
      exact jj_zret (pc := 17) dX3_hasPoint_17 rfl (Or.inr rfl) h
theorem en_X3_hasPoint {K : jj_K} (R : Int32 → wo_T → Prop)  (a1 : Int32) (w : wo_T)
    (h : (a1 < 0 → R 0 w) ∧ (¬ a1 < 0 → ((w.1 1 6) ≤ a1 → R 0 w) ∧ (¬ (w.1 1 6) ≤ a1 → R 1 w))) : jj_Ci K mX3_hasPoint [.ref 1, .int a1] w R :=
  jj_Ci_intro pn_RX3 (Nat.le_of_ble_eq_true rfl) (vc_X3_hasPoint_0 R a1 w h)
set_option maxRecDepth 100000 in
set_option maxHeartbeats 4000000 in
theorem vc_X3_isTaken_0 {K : jj_K} (R : Int32 → wo_T → Prop)  (a1 : Int32) (a2 : Int32) (w : wo_T)
    (h : jj_J K mX3_isTaken (jj_Ri R) 2 [(0, .ref 1), (1, .int a1), (2, .int a2), (3, .int 0)] [] w) :
    jj_J K mX3_isTaken (jj_Ri R) 0 [(0, .ref 1), (1, .int a1), (2, .int a2)] [] w := by
  refine jj_iconst (pc := 0) (v := 0) dX3_isTaken_0 (by decide) ?_
  refine jj_istore_n (pc := 1) (l2 := [(3, .int 0), (0, .ref 1), (1, .int a1), (2, .int a2)]) dX3_isTaken_1 (by decide) rfl ?_
  exact jj_sub [1, 2, 3, 0] rfl h
theorem en_X3_isTaken {K : jj_K} (R : Int32 → wo_T → Prop)  (a1 : Int32) (a2 : Int32) (w : wo_T)
    (h : jj_J K mX3_isTaken (jj_Ri R) 2 [(0, .ref 1), (1, .int a1), (2, .int a2), (3, .int 0)] [] w) : jj_Ci K mX3_isTaken [.ref 1, .int a1, .int a2] w R :=
  jj_Ci_intro pn_RX3 (Nat.le_of_ble_eq_true rfl) (vc_X3_isTaken_0 R a1 a2 w h)
set_option maxRecDepth 100000 in
set_option maxHeartbeats 4000000 in
theorem vc_X3_isTaken_2 {K : jj_K} (R : Int32 → wo_T → Prop)  (a1 : Int32) (a2 : Int32) (a3 : Int32) (w : wo_T)
    (h : ((w.1 1 6) ≤ a3 → R 0 w) ∧ (¬ (w.1 1 6) ≤ a3 → vp_in (2 * a3) 10 ∧ ((¬ (w.1 2 (2 * a3).toNatClampNeg) = a1 → jj_J K mX3_isTaken (jj_Ri R) 2 [(0, .ref 1), (1, .int a1), (2, .int a2), (3, .int (a3 + 1))] [] w) ∧ ((w.1 2 (2 * a3).toNatClampNeg) = a1 → vp_in ((2 * a3) + 1) 10 ∧ ((¬ (w.1 2 ((2 * a3) + 1).toNatClampNeg) = a2 → jj_J K mX3_isTaken (jj_Ri R) 2 [(0, .ref 1), (1, .int a1), (2, .int a2), (3, .int (a3 + 1))] [] w) ∧ ((w.1 2 ((2 * a3) + 1).toNatClampNeg) = a2 → R 1 w)))))) :
    jj_J K mX3_isTaken (jj_Ri R) 2 [(0, .ref 1), (1, .int a1), (2, .int a2), (3, .int a3)] [] w := by
  refine jj_iload_n (pc := 2) dX3_isTaken_2 3 rfl ?_
  refine jj_aload_n (pc := 3) dX3_isTaken_3 0 rfl ?_
  refine jj_getI (pc := 4) (ci := 3) (k := 6) dX3_isTaken_4 rfl rfl (by decide) rfl lk_RX3_30 ?_
  refine jj_icmp_ge (pc := 7) (tgt := 44) dX3_isTaken_7 (by decide) (fun c1 => ?_) (fun c1 => ?_)
  · replace h := h.1 c1
    refine jj_iconst (pc := 44) (v := 0) dX3_isTaken_44 (by decide) ?_
    exact jj_zret (pc := 45) dX3_isTaken_45 rfl (Or.inl rfl) h
  · replace h := h.2 c1
    refine jj_aload_n (pc := 10) dX3_isTaken_10 0 rfl ?_
    refine jj_getR (pc := 11) (ci := 3) (k := 0) dX3_isTaken_11 rfl rfl (by decide) rfl lk_RX3_9 ?_
    refine jj_iconst (pc := 14) (v := 2) dX3_isTaken_14 (by decide) ?_
    refine jj_iload_n (pc := 15) dX3_isTaken_15 3 rfl ?_
    refine jj_imul (pc := 16) dX3_isTaken_16 ?_
    refine jj_iald (pc := 17) dX3_isTaken_17 rfl h.1 ?_
    replace h := h.2
    refine jj_iload_n (pc := 18) dX3_isTaken_18 1 rfl ?_
    refine jj_icmp_ne (pc := 19) (tgt := 38) dX3_isTaken_19 (by decide) (fun c2 => ?_) (fun c2 => ?_)
    · replace h := h.1 c2
      refine jj_iinc (pc := 38) (v := a3 + 1) (l2 := [(3, .int (a3 + 1)), (0, .ref 1), (1, .int a1), (2, .int a2)]) dX3_isTaken_38 3 rfl rfl (by decide) rfl ?_
      refine jj_goto (pc := 41) (tgt := 2) dX3_isTaken_41 (by decide) ?_
      exact jj_sub [1, 2, 3, 0] rfl h
    · replace h := h.2 c2
      refine jj_aload_n (pc := 22) dX3_isTaken_22 0 rfl ?_
      refine jj_getR (pc := 23) (ci := 3) (k := 0) dX3_isTaken_23 rfl rfl (by decide) rfl lk_RX3_9 ?_
      refine jj_iconst (pc := 26) (v := 2) dX3_isTaken_26 (by decide) ?_
      refine jj_iload_n (pc := 27) dX3_isTaken_27 3 rfl ?_
      refine jj_imul (pc := 28) dX3_isTaken_28 ?_
      refine jj_iconst (pc := 29) (v := 1) dX3_isTaken_29 (by decide) ?_
      refine jj_iadd (pc := 30) dX3_isTaken_30 ?_
      refine jj_iald (pc := 31) dX3_isTaken_31 rfl h.1 ?_
      replace h := h.2
      refine jj_iload_n (pc := 32) dX3_isTaken_32 2 rfl ?_
      refine jj_icmp_ne (pc := 33) (tgt := 38) dX3_isTaken_33 (by decide) (fun c3 => ?_) (fun c3 => ?_)
      · replace h := h.1 c3
        refine jj_iinc (pc := 38) (v := a3 + 1) (l2 := [(3, .int (a3 + 1)), (0, .ref 1), (1, .int a1), (2, .int a2)]) dX3_isTaken_38 3 rfl rfl (by decide) rfl ?_
        refine jj_goto (pc := 41) (tgt := 2) dX3_isTaken_41 (by decide) ?_
        exact jj_sub [1, 2, 3, 0] rfl h
      · replace h := h.2 c3
        refine jj_iconst (pc := 36) (v := 1) dX3_isTaken_36 (by decide) ?_
        exact jj_zret (pc := 37) dX3_isTaken_37 rfl (Or.inr rfl) h
set_option maxRecDepth 100000 in
set_option maxHeartbeats 4000000 in
theorem vc_X3_add_0 {K : jj_K} (R : Int32 → wo_T → Prop)  (a1 : Int32) (a2 : Int32) (w : wo_T)
    (h : ∀ x1 : Int32, x1 = w.1 1 6 → (vp_in (2 * x1) 10 ∧ (vp_in ((2 * x1) + 1) 10 ∧ (vp_in x1 5 ∧ (∀ x2 : Int32, x2 = 2 * x1 → (jj_J K mX3_add (jj_Ri R) 37 [(0, .ref 1), (1, .int a1), (2, .int a2), (3, .int x1), (4, .int x2)] [] (wo_i (wo_i (wo_i w 2 (2 * x1).toNatClampNeg a1) 2 ((2 * x1) + 1).toNatClampNeg a2) 3 x1.toNatClampNeg 0))))))) :
    jj_J K mX3_add (jj_Ri R) 0 [(0, .ref 1), (1, .int a1), (2, .int a2)] [] w := by
  refine jj_aload_n (pc := 0) dX3_add_0 0 rfl ?_
  refine jj_getI (pc := 1) (ci := 3) (k := 6) dX3_add_1 rfl rfl (by decide) rfl lk_RX3_30 ?_
  refine jj_nmi (fun x1 ex1 => ?_)
  replace h := h x1 ex1
  refine jj_istore_n (pc := 4) (l2 := [(3, .int x1), (0, .ref 1), (1, .int a1), (2, .int a2)]) dX3_add_4 (by decide) rfl ?_
  refine jj_aload_n (pc := 5) dX3_add_5 1 rfl ?_
  refine jj_getR (pc := 6) (ci := 3) (k := 0) dX3_add_6 rfl rfl (by decide) rfl lk_RX3_9 ?_
  refine jj_iconst (pc := 9) (v := 2) dX3_add_9 (by decide) ?_
  refine jj_iload_n (pc := 10) dX3_add_10 0 rfl ?_
  refine jj_imul (pc := 11) dX3_add_11 ?_
  refine jj_iload_n (pc := 12) dX3_add_12 2 rfl ?_
  refine jj_iast (pc := 13) dX3_add_13 rfl h.1 ?_
  replace h := h.2
  refine jj_aload_n (pc := 14) dX3_add_14 1 rfl ?_
  refine jj_getR (pc := 15) (ci := 3) (k := 0) dX3_add_15 rfl rfl (by decide) rfl lk_RX3_9 ?_
  refine jj_iconst (pc := 18) (v := 2) dX3_add_18 (by decide) ?_
  refine jj_iload_n (pc := 19) dX3_add_19 0 rfl ?_
  refine jj_imul (pc := 20) dX3_add_20 ?_
  refine jj_iconst (pc := 21) (v := 1) dX3_add_21 (by decide) ?_
  refine jj_iadd (pc := 22) dX3_add_22 ?_
  refine jj_iload_n (pc := 23) dX3_add_23 3 rfl ?_
  refine jj_iast (pc := 24) dX3_add_24 rfl h.1 ?_
  replace h := h.2
  refine jj_aload_n (pc := 25) dX3_add_25 1 rfl ?_
  refine jj_getR (pc := 26) (ci := 3) (k := 1) dX3_add_26 rfl rfl (by decide) rfl lk_RX3_15 ?_
  refine jj_iload_n (pc := 29) dX3_add_29 0 rfl ?_
  refine jj_iconst (pc := 30) (v := 0) dX3_add_30 (by decide) ?_
  refine jj_iast (pc := 31) dX3_add_31 rfl h.1 ?_
  replace h := h.2
  refine jj_iconst (pc := 32) (v := 2) dX3_add_32 (by decide) ?_
  refine jj_iload_n (pc := 33) dX3_add_33 0 rfl ?_
  refine jj_imul (pc := 34) dX3_add_34 ?_
  refine jj_nmi (fun x2 ex2 => ?_)
  replace h := h x2 ex2
  refine jj_istore (pc := 35) (l2 := [(4, .int x2), (3, .int x1), (0, .ref 1), (1, .int a1), (2, .int a2)]) dX3_add_35 (by decide) rfl ?_
  exact jj_sub [2, 3, 4, 1, 0] rfl h
theorem en_X3_add {K : jj_K} (R : Int32 → wo_T → Prop)  (a1 : Int32) (a2 : Int32) (w : wo_T)
    (h : ∀ x1 : Int32, x1 = w.1 1 6 → (vp_in (2 * x1) 10 ∧ (vp_in ((2 * x1) + 1) 10 ∧ (vp_in x1 5 ∧ (∀ x2 : Int32, x2 = 2 * x1 → (jj_J K mX3_add (jj_Ri R) 37 [(0, .ref 1), (1, .int a1), (2, .int a2), (3, .int x1), (4, .int x2)] [] (wo_i (wo_i (wo_i w 2 (2 * x1).toNatClampNeg a1) 2 ((2 * x1) + 1).toNatClampNeg a2) 3 x1.toNatClampNeg 0))))))) : jj_Ci K mX3_add [.ref 1, .int a1, .int a2] w R :=
  jj_Ci_intro pn_RX3 (Nat.le_of_ble_eq_true rfl) (vc_X3_add_0 R a1 a2 w h)
set_option maxRecDepth 100000 in
set_option maxHeartbeats 4000000 in
theorem vc_X3_add_37 {K : jj_K} (R : Int32 → wo_T → Prop)  (a1 : Int32) (a2 : Int32) (a3 : Int32) (a4 : Int32) (w : wo_T)
    (h : (((2 * a3) + 2) ≤ a4 → jj_Ci K mX3_pairs [.ref 1] w (fun v2 w3 => jj_J K mX3_add (jj_Ri R) 89 [(0, .ref 1), (1, .int a1), (2, .int a2), (3, .int a3), (4, .int v2), (5, .int v2)] [] (wo_i w3 1 6 ((w3.1 1 6) + 1)))) ∧ (¬ ((2 * a3) + 2) ≤ a4 → vp_in a4 10 ∧ (vp_in a4 10 ∧ (jj_J K mX3_add (jj_Ri R) 37 [(0, .ref 1), (1, .int a1), (2, .int a2), (3, .int a3), (4, .int (a4 + 1))] [] (wo_i (wo_i w 4 a4.toNatClampNeg 0) 5 a4.toNatClampNeg 0))))) :
    jj_J K mX3_add (jj_Ri R) 37 [(0, .ref 1), (1, .int a1), (2, .int a2), (3, .int a3), (4, .int a4)] [] w := by
  refine jj_iload (pc := 37) dX3_add_37 4 rfl ?_
  refine jj_iconst (pc := 39) (v := 2) dX3_add_39 (by decide) ?_
  refine jj_iload_n (pc := 40) dX3_add_40 3 rfl ?_
  refine jj_imul (pc := 41) dX3_add_41 ?_
  refine jj_iconst (pc := 42) (v := 2) dX3_add_42 (by decide) ?_
  refine jj_iadd (pc := 43) dX3_add_43 ?_
  refine jj_icmp_ge (pc := 44) (tgt := 69) dX3_add_44 (by decide) (fun c1 => ?_) (fun c1 => ?_)
  · replace h := h.1 c1
    refine jj_aload_n (pc := 69) dX3_add_69 0 rfl ?_
    refine jj_callVi (pc := 70) (N := mX3_pairs) (as := []) (st := []) dX3_add_70 rfl rfl rfl lk_RX3_34 hv_X3_pairs rfl rfl h (fun v2 w3 h => ?_)
    refine jj_istore (pc := 73) (l2 := [(4, .int v2), (0, .ref 1), (1, .int a1), (2, .int a2), (3, .int a3)]) dX3_add_73 (by decide) rfl ?_
    refine jj_aload_n (pc := 75) dX3_add_75 1 rfl ?_
    refine jj_dup (pc := 76) dX3_add_76 rfl ?_
    refine jj_getI (pc := 77) (ci := 3) (k := 6) dX3_add_77 rfl rfl (by decide) rfl lk_RX3_30 ?_
    refine jj_iconst (pc := 80) (v := 1) dX3_add_80 (by decide) ?_
    refine jj_iadd (pc := 81) dX3_add_81 ?_
    refine jj_putI (pc := 82) (ci := 3) (k := 6) (ty := .int) dX3_add_82 rfl rfl (by decide) rfl lk_RX3_30 rfl (by decide) rfl rfl ?_
    refine jj_iload (pc := 85) dX3_add_85 0 rfl ?_
    refine jj_istore (pc := 87) (l2 := [(5, .int v2), (4, .int v2), (0, .ref 1), (1, .int a1), (2, .int a2), (3, .int a3)]) dX3_add_87 (by decide) rfl ?_
    exact jj_sub [2, 3, 4, 5, 1, 0] rfl h
  · replace h := h.2 c1
    refine jj_aload_n (pc := 47) dX3_add_47 0 rfl ?_
    refine jj_getR (pc := 48) (ci := 3) (k := 2) dX3_add_48 rfl rfl (by decide) rfl lk_RX3_18 ?_
    refine jj_iload (pc := 51) dX3_add_51 4 rfl ?_
    refine jj_iconst (pc := 53) (v := 0) dX3_add_53 (by decide) ?_
    refine jj_iast (pc := 54) dX3_add_54 rfl h.1 ?_
    replace h := h.2
    refine jj_aload_n (pc := 55) dX3_add_55 0 rfl ?_
    refine jj_getR (pc := 56) (ci := 3) (k := 3) dX3_add_56 rfl rfl (by decide) rfl lk_RX3_21 ?_
    refine jj_iload (pc := 59) dX3_add_59 4 rfl ?_
    refine jj_iconst (pc := 61) (v := 0) dX3_add_61 (by decide) ?_
    refine jj_iast (pc := 62) dX3_add_62 rfl h.1 ?_
    replace h := h.2
    refine jj_iinc (pc := 63) (v := a4 + 1) (l2 := [(4, .int (a4 + 1)), (0, .ref 1), (1, .int a1), (2, .int a2), (3, .int a3)]) dX3_add_63 4 rfl rfl (by decide) rfl ?_
    refine jj_goto (pc := 66) (tgt := 37) dX3_add_66 (by decide) ?_
    exact jj_sub [1, 2, 3, 4, 0] rfl h
set_option maxRecDepth 100000 in
set_option maxHeartbeats 4000000 in
theorem vc_X3_add_89 {K : jj_K} (R : Int32 → wo_T → Prop)  (a1 : Int32) (a2 : Int32) (a3 : Int32) (a4 : Int32) (a5 : Int32) (w : wo_T)
    (h : jj_Ci K mX3_pairs [.ref 1] w (fun v1 w2 => (v1 ≤ a5 → R a3 w2) ∧ (¬ v1 ≤ a5 → jj_Cv K mX3_measure [.ref 1, .int a5] w2 (fun w5 => jj_J K mX3_add (jj_Ri R) 89 [(0, .ref 1), (1, .int a1), (2, .int a2), (3, .int a3), (4, .int a4), (5, .int (a5 + 1))] [] w5)))) :
    jj_J K mX3_add (jj_Ri R) 89 [(0, .ref 1), (1, .int a1), (2, .int a2), (3, .int a3), (4, .int a4), (5, .int a5)] [] w := by
  refine jj_iload (pc := 89) dX3_add_89 5 rfl ?_
  refine jj_aload_n (pc := 91) dX3_add_91 0 rfl ?_
  refine jj_callVi (pc := 92) (N := mX3_pairs) (as := []) (st := [.int a5]) dX3_add_92 rfl rfl rfl lk_RX3_34 hv_X3_pairs rfl rfl h (fun v1 w2 h => ?_)
  refine jj_icmp_ge (pc := 95) (tgt := 110) dX3_add_95 (by decide) (fun c3 => ?_) (fun c3 => ?_)
  · replace h := h.1 c3
    refine jj_iload_n (pc := 110) dX3_add_110 3 rfl ?_
    exact jj_iret (pc := 111) dX3_add_111 rfl h
  · replace h := h.2 c3
    refine jj_aload_n (pc := 98) dX3_add_98 0 rfl ?_
    refine jj_iload (pc := 99) dX3_add_99 5 rfl ?_
    refine jj_callVv (pc := 101) (N := mX3_measure) (as := [.int a5]) (st := []) dX3_add_101 rfl rfl rfl lk_RX3_38 hv_X3_measure rfl rfl h (fun w5 h => ?_)
    refine jj_iinc (pc := 104) (v := a5 + 1) (l2 := [(5, .int (a5 + 1)), (0, .ref 1), (1, .int a1), (2, .int a2), (3, .int a3), (4, .int a4)]) dX3_add_104 5 rfl rfl (by decide) rfl ?_
    refine jj_goto (pc := 107) (tgt := 89) dX3_add_107 (by decide) ?_
    exact jj_sub [1, 2, 3, 4, 5, 0] rfl h
set_option maxRecDepth 100000 in
set_option maxHeartbeats 4000000 in
theorem vc_X3_measure_0 {K : jj_K} (R : wo_T → Prop)  (a1 : Int32) (w : wo_T)
    (h : vp_in a1 10 ∧ (vp_in (2 * (wo_gre a1.toNatClampNeg)) 10 ∧ (vp_in a1 10 ∧ (vp_in (2 * (wo_les a1.toNatClampNeg)) 10 ∧ (∀ x1 : Int32, x1 = (w.1 2 (2 * (wo_gre a1.toNatClampNeg)).toNatClampNeg) - (w.1 2 (2 * (wo_les a1.toNatClampNeg)).toNatClampNeg) → (vp_in a1 10 ∧ (vp_in ((2 * (wo_gre a1.toNatClampNeg)) + 1) 10 ∧ (vp_in a1 10 ∧ (vp_in ((2 * (wo_les a1.toNatClampNeg)) + 1) 10 ∧ (∀ x2 : Int32, x2 = (w.1 2 ((2 * (wo_gre a1.toNatClampNeg)) + 1).toNatClampNeg) - (w.1 2 ((2 * (wo_les a1.toNatClampNeg)) + 1).toNatClampNeg) → (vp_in (2 * a1) 20 ∧ (vp_in ((2 * a1) + 1) 20 ∧ (vp_in a1 10 ∧ (R (wo_i (wo_i (wo_i w 6 (2 * a1).toNatClampNeg x1) 6 ((2 * a1) + 1).toNatClampNeg x2) 7 a1.toNatClampNeg ((x1 * x1) + (x2 * x2))))))))))))))))) :
    jj_J K mX3_measure (jj_Rv R) 0 [(0, .ref 1), (1, .int a1)] [] w := by
  refine jj_aload_n (pc := 0) dX3_measure_0 0 rfl ?_
  refine jj_getR (pc := 1) (ci := 3) (k := 0) dX3_measure_1 rfl rfl (by decide) rfl lk_RX3_9 ?_
  refine jj_iconst (pc := 4) (v := 2) dX3_measure_4 (by decide) ?_
  refine jj_gsNGREATER (pc := 5) dX3_measure_5 (by decide +kernel) ?_
  refine jj_iload_n (pc := 8) dX3_measure_8 1 rfl ?_
  refine jj_saldGREATER (pc := 9) dX3_measure_9 h.1 ?_
  replace h := h.2
  refine jj_imul (pc := 10) dX3_measure_10 ?_
  refine jj_iald (pc := 11) dX3_measure_11 rfl h.1 ?_
  replace h := h.2
  refine jj_aload_n (pc := 12) dX3_measure_12 0 rfl ?_
  refine jj_getR (pc := 13) (ci := 3) (k := 0) dX3_measure_13 rfl rfl (by decide) rfl lk_RX3_9 ?_
  refine jj_iconst (pc := 16) (v := 2) dX3_measure_16 (by decide) ?_
  refine jj_gsNLESSER (pc := 17) dX3_measure_17 (by decide +kernel) ?_
  refine jj_iload_n (pc := 20) dX3_measure_20 1 rfl ?_
  refine jj_saldLESSER (pc := 21) dX3_measure_21 h.1 ?_
  replace h := h.2
  refine jj_imul (pc := 22) dX3_measure_22 ?_
  refine jj_iald (pc := 23) dX3_measure_23 rfl h.1 ?_
  replace h := h.2
  refine jj_isub (pc := 24) dX3_measure_24 ?_
  refine jj_nmi (fun x1 ex1 => ?_)
  replace h := h x1 ex1
  refine jj_istore_n (pc := 25) (l2 := [(2, .int x1), (0, .ref 1), (1, .int a1)]) dX3_measure_25 (by decide) rfl ?_
  refine jj_aload_n (pc := 26) dX3_measure_26 1 rfl ?_
  refine jj_getR (pc := 27) (ci := 3) (k := 0) dX3_measure_27 rfl rfl (by decide) rfl lk_RX3_9 ?_
  refine jj_iconst (pc := 30) (v := 2) dX3_measure_30 (by decide) ?_
  refine jj_gsNGREATER (pc := 31) dX3_measure_31 (by decide +kernel) ?_
  refine jj_iload_n (pc := 34) dX3_measure_34 2 rfl ?_
  refine jj_saldGREATER (pc := 35) dX3_measure_35 h.1 ?_
  replace h := h.2
  refine jj_imul (pc := 36) dX3_measure_36 ?_
  refine jj_iconst (pc := 37) (v := 1) dX3_measure_37 (by decide) ?_
  refine jj_iadd (pc := 38) dX3_measure_38 ?_
  refine jj_iald (pc := 39) dX3_measure_39 rfl h.1 ?_
  replace h := h.2
  refine jj_aload_n (pc := 40) dX3_measure_40 1 rfl ?_
  refine jj_getR (pc := 41) (ci := 3) (k := 0) dX3_measure_41 rfl rfl (by decide) rfl lk_RX3_9 ?_
  refine jj_iconst (pc := 44) (v := 2) dX3_measure_44 (by decide) ?_
  refine jj_gsNLESSER (pc := 45) dX3_measure_45 (by decide +kernel) ?_
  refine jj_iload_n (pc := 48) dX3_measure_48 2 rfl ?_
  refine jj_saldLESSER (pc := 49) dX3_measure_49 h.1 ?_
  replace h := h.2
  refine jj_imul (pc := 50) dX3_measure_50 ?_
  refine jj_iconst (pc := 51) (v := 1) dX3_measure_51 (by decide) ?_
  refine jj_iadd (pc := 52) dX3_measure_52 ?_
  refine jj_iald (pc := 53) dX3_measure_53 rfl h.1 ?_
  replace h := h.2
  refine jj_isub (pc := 54) dX3_measure_54 ?_
  refine jj_nmi (fun x2 ex2 => ?_)
  replace h := h x2 ex2
  refine jj_istore_n (pc := 55) (l2 := [(3, .int x2), (2, .int x1), (0, .ref 1), (1, .int a1)]) dX3_measure_55 (by decide) rfl ?_
  refine jj_aload_n (pc := 56) dX3_measure_56 2 rfl ?_
  refine jj_getR (pc := 57) (ci := 3) (k := 4) dX3_measure_57 rfl rfl (by decide) rfl lk_RX3_24 ?_
  refine jj_iconst (pc := 60) (v := 2) dX3_measure_60 (by decide) ?_
  refine jj_iload_n (pc := 61) dX3_measure_61 3 rfl ?_
  refine jj_imul (pc := 62) dX3_measure_62 ?_
  refine jj_iload_n (pc := 63) dX3_measure_63 1 rfl ?_
  refine jj_iast (pc := 64) dX3_measure_64 rfl h.1 ?_
  replace h := h.2
  refine jj_aload_n (pc := 65) dX3_measure_65 2 rfl ?_
  refine jj_getR (pc := 66) (ci := 3) (k := 4) dX3_measure_66 rfl rfl (by decide) rfl lk_RX3_24 ?_
  refine jj_iconst (pc := 69) (v := 2) dX3_measure_69 (by decide) ?_
  refine jj_iload_n (pc := 70) dX3_measure_70 3 rfl ?_
  refine jj_imul (pc := 71) dX3_measure_71 ?_
  refine jj_iconst (pc := 72) (v := 1) dX3_measure_72 (by decide) ?_
  refine jj_iadd (pc := 73) dX3_measure_73 ?_
  refine jj_iload_n (pc := 74) dX3_measure_74 0 rfl ?_
  refine jj_iast (pc := 75) dX3_measure_75 rfl h.1 ?_
  replace h := h.2
  refine jj_aload_n (pc := 76) dX3_measure_76 2 rfl ?_
  refine jj_getR (pc := 77) (ci := 3) (k := 5) dX3_measure_77 rfl rfl (by decide) rfl lk_RX3_27 ?_
  refine jj_iload_n (pc := 80) dX3_measure_80 3 rfl ?_
  refine jj_iload_n (pc := 81) dX3_measure_81 1 rfl ?_
  refine jj_iload_n (pc := 82) dX3_measure_82 1 rfl ?_
  refine jj_imul (pc := 83) dX3_measure_83 ?_
  refine jj_iload_n (pc := 84) dX3_measure_84 0 rfl ?_
  refine jj_iload_n (pc := 85) dX3_measure_85 0 rfl ?_
  refine jj_imul (pc := 86) dX3_measure_86 ?_
  refine jj_iadd (pc := 87) dX3_measure_87 ?_
  refine jj_iast (pc := 88) dX3_measure_88 rfl h.1 ?_
  replace h := h.2
  exact jj_vret (pc := 89) dX3_measure_89 rfl h
theorem en_X3_measure {K : jj_K} (R : wo_T → Prop)  (a1 : Int32) (w : wo_T)
    (h : vp_in a1 10 ∧ (vp_in (2 * (wo_gre a1.toNatClampNeg)) 10 ∧ (vp_in a1 10 ∧ (vp_in (2 * (wo_les a1.toNatClampNeg)) 10 ∧ (∀ x1 : Int32, x1 = (w.1 2 (2 * (wo_gre a1.toNatClampNeg)).toNatClampNeg) - (w.1 2 (2 * (wo_les a1.toNatClampNeg)).toNatClampNeg) → (vp_in a1 10 ∧ (vp_in ((2 * (wo_gre a1.toNatClampNeg)) + 1) 10 ∧ (vp_in a1 10 ∧ (vp_in ((2 * (wo_les a1.toNatClampNeg)) + 1) 10 ∧ (∀ x2 : Int32, x2 = (w.1 2 ((2 * (wo_gre a1.toNatClampNeg)) + 1).toNatClampNeg) - (w.1 2 ((2 * (wo_les a1.toNatClampNeg)) + 1).toNatClampNeg) → (vp_in (2 * a1) 20 ∧ (vp_in ((2 * a1) + 1) 20 ∧ (vp_in a1 10 ∧ (R (wo_i (wo_i (wo_i w 6 (2 * a1).toNatClampNeg x1) 6 ((2 * a1) + 1).toNatClampNeg x2) 7 a1.toNatClampNeg ((x1 * x1) + (x2 * x2))))))))))))))))) : jj_Cv K mX3_measure [.ref 1, .int a1] w R :=
  jj_Cv_intro pn_RX3 (Nat.le_of_ble_eq_true rfl) (vc_X3_measure_0 R a1 w h)
set_option maxRecDepth 100000 in
set_option maxHeartbeats 4000000 in
theorem vc_X3_pairs_0 {K : jj_K} (R : Int32 → wo_T → Prop)   (w : wo_T)
    (h : R (((w.1 1 6) * ((w.1 1 6) - 1)) / 2) w) :
    jj_J K mX3_pairs (jj_Ri R) 0 [(0, .ref 1)] [] w := by
  refine jj_aload_n (pc := 0) dX3_pairs_0 0 rfl ?_
  refine jj_getI (pc := 1) (ci := 3) (k := 6) dX3_pairs_1 rfl rfl (by decide) rfl lk_RX3_30 ?_
  refine jj_aload_n (pc := 4) dX3_pairs_4 0 rfl ?_
  refine jj_getI (pc := 5) (ci := 3) (k := 6) dX3_pairs_5 rfl rfl (by decide) rfl lk_RX3_30 ?_
  refine jj_iconst (pc := 8) (v := 1) dX3_pairs_8 (by decide) ?_
  refine jj_isub (pc := 9) dX3_pairs_9 ?_
  refine jj_imul (pc := 10) dX3_pairs_10 ?_
  refine jj_iconst (pc := 11) (v := 2) dX3_pairs_11 (by decide) ?_
  refine jj_idiv (pc := 12) dX3_pairs_12 (by decide) ?_
  exact jj_iret (pc := 13) dX3_pairs_13 rfl h
theorem en_X3_pairs {K : jj_K} (R : Int32 → wo_T → Prop)   (w : wo_T)
    (h : R (((w.1 1 6) * ((w.1 1 6) - 1)) / 2) w) : jj_Ci K mX3_pairs [.ref 1] w R :=
  jj_Ci_intro pn_RX3 (Nat.le_of_ble_eq_true rfl) (vc_X3_pairs_0 R  w h)
set_option maxRecDepth 100000 in
set_option maxHeartbeats 4000000 in
theorem vc_X3_everyPair_0 {K : jj_K} (R : Int32 → wo_T → Prop)   (w : wo_T)
    (h : jj_Ci K mX3_pairs [.ref 1] w (fun v1 w2 => R (((1 : Int32) <<< (v1 &&& 31)) - 1) w2)) :
    jj_J K mX3_everyPair (jj_Ri R) 0 [(0, .ref 1)] [] w := by
  refine jj_iconst (pc := 0) (v := 1) dX3_everyPair_0 (by decide) ?_
  refine jj_aload_n (pc := 1) dX3_everyPair_1 0 rfl ?_
  refine jj_callVi (pc := 2) (N := mX3_pairs) (as := []) (st := [.int 1]) dX3_everyPair_2 rfl rfl rfl lk_RX3_34 hv_X3_pairs rfl rfl h (fun v1 w2 h => ?_)
  refine jj_ishl (pc := 5) dX3_everyPair_5 ?_
  refine jj_iconst (pc := 6) (v := 1) dX3_everyPair_6 (by decide) ?_
  refine jj_isub (pc := 7) dX3_everyPair_7 ?_
  exact jj_iret (pc := 8) dX3_everyPair_8 rfl h
theorem en_X3_everyPair {K : jj_K} (R : Int32 → wo_T → Prop)   (w : wo_T)
    (h : jj_Ci K mX3_pairs [.ref 1] w (fun v1 w2 => R (((1 : Int32) <<< (v1 &&& 31)) - 1) w2)) : jj_Ci K mX3_everyPair [.ref 1] w R :=
  jj_Ci_intro pn_RX3 (Nat.le_of_ble_eq_true rfl) (vc_X3_everyPair_0 R  w h)
set_option maxRecDepth 100000 in
set_option maxHeartbeats 4000000 in
theorem vc_X3_hasPair_0 {K : jj_K} (R : Int32 → wo_T → Prop)  (a1 : Int32) (w : wo_T)
    (h : (a1 < 0 → R 0 w) ∧ (¬ a1 < 0 → jj_Ci K mX3_pairs [.ref 1] w (fun v2 w3 => (v2 ≤ a1 → R 0 w3) ∧ (¬ v2 ≤ a1 → R 1 w3)))) :
    jj_J K mX3_hasPair (jj_Ri R) 0 [(0, .ref 1), (1, .int a1)] [] w := by
  refine jj_iload_n (pc := 0) dX3_hasPair_0 1 rfl ?_
  refine jj_if_lt (pc := 1) (tgt := 16) dX3_hasPair_1 (by decide) (fun c1 => ?_) (fun c1 => ?_)
  · replace h := h.1 c1
    refine jj_iconst (pc := 16) (v := 0) dX3_hasPair_16 (by decide) ?_
    exact jj_zret (pc := 17) dX3_hasPair_17 rfl (Or.inl rfl) h
  · replace h := h.2 c1
    refine jj_iload_n (pc := 4) dX3_hasPair_4 1 rfl ?_
    refine jj_aload_n (pc := 5) dX3_hasPair_5 0 rfl ?_
    refine jj_callVi (pc := 6) (N := mX3_pairs) (as := []) (st := [.int a1]) dX3_hasPair_6 rfl rfl rfl lk_RX3_34 hv_X3_pairs rfl rfl h (fun v2 w3 h => ?_)
    refine jj_icmp_ge (pc := 9) (tgt := 16) dX3_hasPair_9 (by decide) (fun c4 => ?_) (fun c4 => ?_)
    · replace h := h.1 c4
      refine jj_iconst (pc := 16) (v := 0) dX3_hasPair_16 (by decide) ?_
      exact jj_zret (pc := 17) dX3_hasPair_17 rfl (Or.inl rfl) h
    · replace h := h.2 c4
      refine jj_iconst (pc := 12) (v := 1) dX3_hasPair_12 (by decide) ?_
      refine jj_goto (pc := 13) (tgt := 17) dX3_hasPair_13 (by decide) ?_
      exact jj_zret (pc := 17) dX3_hasPair_17 rfl (Or.inr rfl) h
theorem en_X3_hasPair {K : jj_K} (R : Int32 → wo_T → Prop)  (a1 : Int32) (w : wo_T)
    (h : (a1 < 0 → R 0 w) ∧ (¬ a1 < 0 → jj_Ci K mX3_pairs [.ref 1] w (fun v2 w3 => (v2 ≤ a1 → R 0 w3) ∧ (¬ v2 ≤ a1 → R 1 w3)))) : jj_Ci K mX3_hasPair [.ref 1, .int a1] w R :=
  jj_Ci_intro pn_RX3 (Nat.le_of_ble_eq_true rfl) (vc_X3_hasPair_0 R a1 w h)
set_option maxRecDepth 100000 in
set_option maxHeartbeats 4000000 in
theorem vc_X3_isFree_0 {K : jj_K} (R : Int32 → wo_T → Prop)  (a1 : Int32) (w : wo_T)
    (h : vp_in (a1 / 2) 5 ∧ ((¬ (((w.1 3 (a1 / 2).toNatClampNeg) >>> ((a1 - a1 / 2 * 2) &&& 31)) &&& 1) = 0 → R 0 w) ∧ ((((w.1 3 (a1 / 2).toNatClampNeg) >>> ((a1 - a1 / 2 * 2) &&& 31)) &&& 1) = 0 → R 1 w))) :
    jj_J K mX3_isFree (jj_Ri R) 0 [(0, .ref 1), (1, .int a1)] [] w := by
  refine jj_aload_n (pc := 0) dX3_isFree_0 0 rfl ?_
  refine jj_getR (pc := 1) (ci := 3) (k := 1) dX3_isFree_1 rfl rfl (by decide) rfl lk_RX3_15 ?_
  refine jj_iload_n (pc := 4) dX3_isFree_4 1 rfl ?_
  refine jj_iconst (pc := 5) (v := 2) dX3_isFree_5 (by decide) ?_
  refine jj_idiv (pc := 6) dX3_isFree_6 (by decide) ?_
  refine jj_iald (pc := 7) dX3_isFree_7 rfl h.1 ?_
  replace h := h.2
  refine jj_iload_n (pc := 8) dX3_isFree_8 1 rfl ?_
  refine jj_iconst (pc := 9) (v := 2) dX3_isFree_9 (by decide) ?_
  refine jj_irem (pc := 10) dX3_isFree_10 (by decide) ?_
  refine jj_ishr (pc := 11) dX3_isFree_11 ?_
  refine jj_iconst (pc := 12) (v := 1) dX3_isFree_12 (by decide) ?_
  refine jj_iand (pc := 13) dX3_isFree_13 ?_
  refine jj_if_ne (pc := 14) (tgt := 21) dX3_isFree_14 (by decide) (fun c1 => ?_) (fun c1 => ?_)
  · replace h := h.1 c1
    refine jj_iconst (pc := 21) (v := 0) dX3_isFree_21 (by decide) ?_
    exact jj_zret (pc := 22) dX3_isFree_22 rfl (Or.inl rfl) h
  · replace h := h.2 c1
    refine jj_iconst (pc := 17) (v := 1) dX3_isFree_17 (by decide) ?_
    refine jj_goto (pc := 18) (tgt := 22) dX3_isFree_18 (by decide) ?_
    exact jj_zret (pc := 22) dX3_isFree_22 rfl (Or.inr rfl) h
theorem en_X3_isFree {K : jj_K} (R : Int32 → wo_T → Prop)  (a1 : Int32) (w : wo_T)
    (h : vp_in (a1 / 2) 5 ∧ ((¬ (((w.1 3 (a1 / 2).toNatClampNeg) >>> ((a1 - a1 / 2 * 2) &&& 31)) &&& 1) = 0 → R 0 w) ∧ ((((w.1 3 (a1 / 2).toNatClampNeg) >>> ((a1 - a1 / 2 * 2) &&& 31)) &&& 1) = 0 → R 1 w))) : jj_Ci K mX3_isFree [.ref 1, .int a1] w R :=
  jj_Ci_intro pn_RX3 (Nat.le_of_ble_eq_true rfl) (vc_X3_isFree_0 R a1 w h)
set_option maxRecDepth 100000 in
set_option maxHeartbeats 4000000 in
theorem vc_X3_ways_0 {K : jj_K} (R : Int32 → wo_T → Prop)   (w : wo_T)
    (h : jj_J K mX3_ways (jj_Ri R) 4 [(0, .ref 1), (1, .int 0), (2, .int 0)] [] w) :
    jj_J K mX3_ways (jj_Ri R) 0 [(0, .ref 1)] [] w := by
  refine jj_iconst (pc := 0) (v := 0) dX3_ways_0 (by decide) ?_
  refine jj_istore_n (pc := 1) (l2 := [(1, .int 0), (0, .ref 1)]) dX3_ways_1 (by decide) rfl ?_
  refine jj_iconst (pc := 2) (v := 0) dX3_ways_2 (by decide) ?_
  refine jj_istore_n (pc := 3) (l2 := [(2, .int 0), (1, .int 0), (0, .ref 1)]) dX3_ways_3 (by decide) rfl ?_
  exact jj_sub [2, 1, 0] rfl h
theorem en_X3_ways {K : jj_K} (R : Int32 → wo_T → Prop)   (w : wo_T)
    (h : jj_J K mX3_ways (jj_Ri R) 4 [(0, .ref 1), (1, .int 0), (2, .int 0)] [] w) : jj_Ci K mX3_ways [.ref 1] w R :=
  jj_Ci_intro pn_RX3 (Nat.le_of_ble_eq_true rfl) (vc_X3_ways_0 R  w h)
set_option maxRecDepth 100000 in
set_option maxHeartbeats 4000000 in
theorem vc_X3_ways_4 {K : jj_K} (R : Int32 → wo_T → Prop)  (a1 : Int32) (a2 : Int32) (w : wo_T)
    (h : ((2 * (w.1 1 6)) ≤ a2 → R a1 w) ∧ (¬ (2 * (w.1 1 6)) ≤ a2 → jj_Ci K mX3_isFree [.ref 1, .int a2] w (fun v2 w3 => (v2 = 0 → ∀ x5 : Int32, x5 = a1 + 0 → (jj_J K mX3_ways (jj_Ri R) 4 [(0, .ref 1), (1, .int x5), (2, .int (a2 + 1))] [] w3)) ∧ (¬ v2 = 0 → ∀ x6 : Int32, x6 = a1 + 1 → (jj_J K mX3_ways (jj_Ri R) 4 [(0, .ref 1), (1, .int x6), (2, .int (a2 + 1))] [] w3))))) :
    jj_J K mX3_ways (jj_Ri R) 4 [(0, .ref 1), (1, .int a1), (2, .int a2)] [] w := by
  refine jj_iload_n (pc := 4) dX3_ways_4 2 rfl ?_
  refine jj_iconst (pc := 5) (v := 2) dX3_ways_5 (by decide) ?_
  refine jj_aload_n (pc := 6) dX3_ways_6 0 rfl ?_
  refine jj_getI (pc := 7) (ci := 3) (k := 6) dX3_ways_7 rfl rfl (by decide) rfl lk_RX3_30 ?_
  refine jj_imul (pc := 10) dX3_ways_10 ?_
  refine jj_icmp_ge (pc := 11) (tgt := 36) dX3_ways_11 (by decide) (fun c1 => ?_) (fun c1 => ?_)
  · replace h := h.1 c1
    refine jj_iload_n (pc := 36) dX3_ways_36 1 rfl ?_
    exact jj_iret (pc := 37) dX3_ways_37 rfl h
  · replace h := h.2 c1
    refine jj_iload_n (pc := 14) dX3_ways_14 1 rfl ?_
    refine jj_aload_n (pc := 15) dX3_ways_15 0 rfl ?_
    refine jj_iload_n (pc := 16) dX3_ways_16 2 rfl ?_
    refine jj_callVi (pc := 17) (N := mX3_isFree) (as := [.int a2]) (st := [.int a1]) dX3_ways_17 rfl rfl rfl lk_RX3_48 hv_X3_isFree rfl rfl h (fun v2 w3 h => ?_)
    refine jj_if_eq (pc := 20) (tgt := 27) dX3_ways_20 (by decide) (fun c4 => ?_) (fun c4 => ?_)
    · replace h := h.1 c4
      refine jj_iconst (pc := 27) (v := 0) dX3_ways_27 (by decide) ?_
      refine jj_iadd (pc := 28) dX3_ways_28 ?_
      refine jj_nmi (fun x5 ex5 => ?_)
      replace h := h x5 ex5
      refine jj_istore_n (pc := 29) (l2 := [(1, .int x5), (0, .ref 1), (2, .int a2)]) dX3_ways_29 (by decide) rfl ?_
      refine jj_iinc (pc := 30) (v := a2 + 1) (l2 := [(2, .int (a2 + 1)), (1, .int x5), (0, .ref 1)]) dX3_ways_30 2 rfl rfl (by decide) rfl ?_
      refine jj_goto (pc := 33) (tgt := 4) dX3_ways_33 (by decide) ?_
      exact jj_sub [2, 1, 0] rfl h
    · replace h := h.2 c4
      refine jj_iconst (pc := 23) (v := 1) dX3_ways_23 (by decide) ?_
      refine jj_goto (pc := 24) (tgt := 28) dX3_ways_24 (by decide) ?_
      refine jj_iadd (pc := 28) dX3_ways_28 ?_
      refine jj_nmi (fun x6 ex6 => ?_)
      replace h := h x6 ex6
      refine jj_istore_n (pc := 29) (l2 := [(1, .int x6), (0, .ref 1), (2, .int a2)]) dX3_ways_29 (by decide) rfl ?_
      refine jj_iinc (pc := 30) (v := a2 + 1) (l2 := [(2, .int (a2 + 1)), (1, .int x6), (0, .ref 1)]) dX3_ways_30 2 rfl rfl (by decide) rfl ?_
      refine jj_goto (pc := 33) (tgt := 4) dX3_ways_33 (by decide) ?_
      exact jj_sub [2, 1, 0] rfl h
set_option maxRecDepth 100000 in
set_option maxHeartbeats 4000000 in
theorem vc_X3_brought_0 {K : jj_K} (R : Int32 → wo_T → Prop)  (a1 : Int32) (a2 : Int32) (w : wo_T)
    (h : vp_in ((2 * a1) + (a2 - a2 / 2 * 2)) 20 ∧ (∀ x1 : Int32, x1 = w.1 6 ((2 * a1) + (a2 - a2 / 2 * 2)).toNatClampNeg → (vp_in a1 10 ∧ ((¬ (a2 / 2) = (wo_les a1.toNatClampNeg) → vp_in a1 10 ∧ ((¬ (a2 / 2) = (wo_gre a1.toNatClampNeg) → R 0 w) ∧ ((a2 / 2) = (wo_gre a1.toNatClampNeg) → R (-x1) w))) ∧ ((a2 / 2) = (wo_les a1.toNatClampNeg) → R x1 w))))) :
    jj_J K mX3_brought (jj_Ri R) 0 [(0, .ref 1), (1, .int a1), (2, .int a2)] [] w := by
  refine jj_aload_n (pc := 0) dX3_brought_0 0 rfl ?_
  refine jj_getR (pc := 1) (ci := 3) (k := 4) dX3_brought_1 rfl rfl (by decide) rfl lk_RX3_24 ?_
  refine jj_iconst (pc := 4) (v := 2) dX3_brought_4 (by decide) ?_
  refine jj_iload_n (pc := 5) dX3_brought_5 1 rfl ?_
  refine jj_imul (pc := 6) dX3_brought_6 ?_
  refine jj_iload_n (pc := 7) dX3_brought_7 2 rfl ?_
  refine jj_iconst (pc := 8) (v := 2) dX3_brought_8 (by decide) ?_
  refine jj_irem (pc := 9) dX3_brought_9 (by decide) ?_
  refine jj_iadd (pc := 10) dX3_brought_10 ?_
  refine jj_iald (pc := 11) dX3_brought_11 rfl h.1 ?_
  replace h := h.2
  refine jj_nmi (fun x1 ex1 => ?_)
  replace h := h x1 ex1
  refine jj_istore_n (pc := 12) (l2 := [(3, .int x1), (0, .ref 1), (1, .int a1), (2, .int a2)]) dX3_brought_12 (by decide) rfl ?_
  refine jj_iload_n (pc := 13) dX3_brought_13 3 rfl ?_
  refine jj_iconst (pc := 14) (v := 2) dX3_brought_14 (by decide) ?_
  refine jj_idiv (pc := 15) dX3_brought_15 (by decide) ?_
  refine jj_gsNLESSER (pc := 16) dX3_brought_16 (by decide +kernel) ?_
  refine jj_iload_n (pc := 19) dX3_brought_19 2 rfl ?_
  refine jj_saldLESSER (pc := 20) dX3_brought_20 h.1 ?_
  replace h := h.2
  refine jj_icmp_ne (pc := 21) (tgt := 26) dX3_brought_21 (by decide) (fun c2 => ?_) (fun c2 => ?_)
  · replace h := h.1 c2
    refine jj_iload_n (pc := 26) dX3_brought_26 3 rfl ?_
    refine jj_iconst (pc := 27) (v := 2) dX3_brought_27 (by decide) ?_
    refine jj_idiv (pc := 28) dX3_brought_28 (by decide) ?_
    refine jj_gsNGREATER (pc := 29) dX3_brought_29 (by decide +kernel) ?_
    refine jj_iload_n (pc := 32) dX3_brought_32 2 rfl ?_
    refine jj_saldGREATER (pc := 33) dX3_brought_33 h.1 ?_
    replace h := h.2
    refine jj_icmp_ne (pc := 34) (tgt := 42) dX3_brought_34 (by decide) (fun c3 => ?_) (fun c3 => ?_)
    · replace h := h.1 c3
      refine jj_iconst (pc := 42) (v := 0) dX3_brought_42 (by decide) ?_
      exact jj_iret (pc := 43) dX3_brought_43 rfl h
    · replace h := h.2 c3
      refine jj_iload_n (pc := 37) dX3_brought_37 0 rfl ?_
      refine jj_ineg (pc := 38) dX3_brought_38 ?_
      refine jj_goto (pc := 39) (tgt := 43) dX3_brought_39 (by decide) ?_
      exact jj_iret (pc := 43) dX3_brought_43 rfl h
  · replace h := h.2 c2
    refine jj_iload_n (pc := 24) dX3_brought_24 0 rfl ?_
    exact jj_iret (pc := 25) dX3_brought_25 rfl h
theorem en_X3_brought {K : jj_K} (R : Int32 → wo_T → Prop)  (a1 : Int32) (a2 : Int32) (w : wo_T)
    (h : vp_in ((2 * a1) + (a2 - a2 / 2 * 2)) 20 ∧ (∀ x1 : Int32, x1 = w.1 6 ((2 * a1) + (a2 - a2 / 2 * 2)).toNatClampNeg → (vp_in a1 10 ∧ ((¬ (a2 / 2) = (wo_les a1.toNatClampNeg) → vp_in a1 10 ∧ ((¬ (a2 / 2) = (wo_gre a1.toNatClampNeg) → R 0 w) ∧ ((a2 / 2) = (wo_gre a1.toNatClampNeg) → R (-x1) w))) ∧ ((a2 / 2) = (wo_les a1.toNatClampNeg) → R x1 w))))) : jj_Ci K mX3_brought [.ref 1, .int a1, .int a2] w R :=
  jj_Ci_intro pn_RX3 (Nat.le_of_ble_eq_true rfl) (vc_X3_brought_0 R a1 a2 w h)
set_option maxRecDepth 100000 in
set_option maxHeartbeats 4000000 in
theorem vc_X3_stretchParts_0 {K : jj_K} (R : Int64 → wo_T → Prop)  (a1 : Int32) (w : wo_T)
    (h : jj_J K mX3_stretchParts (jj_Rl R) 4 [(0, .ref 1), (1, .int a1), (2, .int 0), (3, .int 0)] [] w) :
    jj_J K mX3_stretchParts (jj_Rl R) 0 [(0, .ref 1), (1, .int a1)] [] w := by
  refine jj_iconst (pc := 0) (v := 0) dX3_stretchParts_0 (by decide) ?_
  refine jj_istore_n (pc := 1) (l2 := [(2, .int 0), (0, .ref 1), (1, .int a1)]) dX3_stretchParts_1 (by decide) rfl ?_
  refine jj_iconst (pc := 2) (v := 0) dX3_stretchParts_2 (by decide) ?_
  refine jj_istore_n (pc := 3) (l2 := [(3, .int 0), (2, .int 0), (0, .ref 1), (1, .int a1)]) dX3_stretchParts_3 (by decide) rfl ?_
  exact jj_sub [2, 3, 1, 0] rfl h
theorem en_X3_stretchParts {K : jj_K} (R : Int64 → wo_T → Prop)  (a1 : Int32) (w : wo_T)
    (h : jj_J K mX3_stretchParts (jj_Rl R) 4 [(0, .ref 1), (1, .int a1), (2, .int 0), (3, .int 0)] [] w) : jj_Cl K mX3_stretchParts [.ref 1, .int a1] w R :=
  jj_Cl_intro pn_RX3 (Nat.le_of_ble_eq_true rfl) (vc_X3_stretchParts_0 R a1 w h)
set_option maxRecDepth 100000 in
set_option maxHeartbeats 4000000 in
theorem vc_X3_stretchParts_4 {K : jj_K} (R : Int64 → wo_T → Prop)  (a1 : Int32) (a2 : Int32) (a3 : Int32) (w : wo_T)
    (h : (2 ≤ a3 → R a2.toInt64 w) ∧ (¬ 2 ≤ a3 → vp_in a1 10 ∧ (jj_Ci K mX3_freeShift [.ref 1, .int ((2 * (wo_gre a1.toNatClampNeg)) + a3)] w (fun v2 w3 => vp_in a1 10 ∧ (jj_Ci K mX3_freeShift [.ref 1, .int ((2 * (wo_les a1.toNatClampNeg)) + a3)] w3 (fun v4 w5 => ∀ x6 : Int32, x6 = v2 - v4 → (vp_in ((2 * a1) + a3) 20 ∧ (∀ x7 : Int32, x7 = a2 + (x6 * (w5.1 6 ((2 * a1) + a3).toNatClampNeg)) → (jj_J K mX3_stretchParts (jj_Rl R) 4 [(0, .ref 1), (1, .int a1), (2, .int x7), (3, .int (a3 + 1))] [] w5))))))))) :
    jj_J K mX3_stretchParts (jj_Rl R) 4 [(0, .ref 1), (1, .int a1), (2, .int a2), (3, .int a3)] [] w := by
  refine jj_iload_n (pc := 4) dX3_stretchParts_4 3 rfl ?_
  refine jj_iconst (pc := 5) (v := 2) dX3_stretchParts_5 (by decide) ?_
  refine jj_icmp_ge (pc := 6) (tgt := 60) dX3_stretchParts_6 (by decide) (fun c1 => ?_) (fun c1 => ?_)
  · replace h := h.1 c1
    refine jj_iload_n (pc := 60) dX3_stretchParts_60 2 rfl ?_
    refine jj_i2l (pc := 61) dX3_stretchParts_61 ?_
    exact jj_lret (pc := 62) dX3_stretchParts_62 rfl h
  · replace h := h.2 c1
    refine jj_aload_n (pc := 9) dX3_stretchParts_9 0 rfl ?_
    refine jj_iconst (pc := 10) (v := 2) dX3_stretchParts_10 (by decide) ?_
    refine jj_gsNGREATER (pc := 11) dX3_stretchParts_11 (by decide +kernel) ?_
    refine jj_iload_n (pc := 14) dX3_stretchParts_14 1 rfl ?_
    refine jj_saldGREATER (pc := 15) dX3_stretchParts_15 h.1 ?_
    replace h := h.2
    refine jj_imul (pc := 16) dX3_stretchParts_16 ?_
    refine jj_iload_n (pc := 17) dX3_stretchParts_17 3 rfl ?_
    refine jj_iadd (pc := 18) dX3_stretchParts_18 ?_
    refine jj_callVi (pc := 19) (N := mX3_freeShift) (as := [.int ((2 * (wo_gre a1.toNatClampNeg)) + a3)]) (st := []) dX3_stretchParts_19 rfl rfl rfl lk_RX3_52 hv_X3_freeShift rfl rfl h (fun v2 w3 h => ?_)
    refine jj_aload_n (pc := 22) dX3_stretchParts_22 0 rfl ?_
    refine jj_iconst (pc := 23) (v := 2) dX3_stretchParts_23 (by decide) ?_
    refine jj_gsNLESSER (pc := 24) dX3_stretchParts_24 (by decide +kernel) ?_
    refine jj_iload_n (pc := 27) dX3_stretchParts_27 1 rfl ?_
    refine jj_saldLESSER (pc := 28) dX3_stretchParts_28 h.1 ?_
    replace h := h.2
    refine jj_imul (pc := 29) dX3_stretchParts_29 ?_
    refine jj_iload_n (pc := 30) dX3_stretchParts_30 3 rfl ?_
    refine jj_iadd (pc := 31) dX3_stretchParts_31 ?_
    refine jj_callVi (pc := 32) (N := mX3_freeShift) (as := [.int ((2 * (wo_les a1.toNatClampNeg)) + a3)]) (st := [.int v2]) dX3_stretchParts_32 rfl rfl rfl lk_RX3_52 hv_X3_freeShift rfl rfl h (fun v4 w5 h => ?_)
    refine jj_isub (pc := 35) dX3_stretchParts_35 ?_
    refine jj_nmi (fun x6 ex6 => ?_)
    replace h := h x6 ex6
    refine jj_istore (pc := 36) (l2 := [(4, .int x6), (0, .ref 1), (1, .int a1), (2, .int a2), (3, .int a3)]) dX3_stretchParts_36 (by decide) rfl ?_
    refine jj_iload_n (pc := 38) dX3_stretchParts_38 3 rfl ?_
    refine jj_iload (pc := 39) dX3_stretchParts_39 0 rfl ?_
    refine jj_aload_n (pc := 41) dX3_stretchParts_41 1 rfl ?_
    refine jj_getR (pc := 42) (ci := 3) (k := 4) dX3_stretchParts_42 rfl rfl (by decide) rfl lk_RX3_24 ?_
    refine jj_iconst (pc := 45) (v := 2) dX3_stretchParts_45 (by decide) ?_
    refine jj_iload_n (pc := 46) dX3_stretchParts_46 2 rfl ?_
    refine jj_imul (pc := 47) dX3_stretchParts_47 ?_
    refine jj_iload_n (pc := 48) dX3_stretchParts_48 4 rfl ?_
    refine jj_iadd (pc := 49) dX3_stretchParts_49 ?_
    refine jj_iald (pc := 50) dX3_stretchParts_50 rfl h.1 ?_
    replace h := h.2
    refine jj_imul (pc := 51) dX3_stretchParts_51 ?_
    refine jj_iadd (pc := 52) dX3_stretchParts_52 ?_
    refine jj_nmi (fun x7 ex7 => ?_)
    replace h := h x7 ex7
    refine jj_istore_n (pc := 53) (l2 := [(2, .int x7), (4, .int x6), (0, .ref 1), (1, .int a1), (3, .int a3)]) dX3_stretchParts_53 (by decide) rfl ?_
    refine jj_iinc (pc := 54) (v := a3 + 1) (l2 := [(3, .int (a3 + 1)), (2, .int x7), (4, .int x6), (0, .ref 1), (1, .int a1)]) dX3_stretchParts_54 4 rfl rfl (by decide) rfl ?_
    refine jj_goto (pc := 57) (tgt := 4) dX3_stretchParts_57 (by decide) ?_
    exact jj_sub [3, 4, 1, 0] rfl h
set_option maxRecDepth 100000 in
set_option maxHeartbeats 4000000 in
theorem vc_X3_workParts_0 {K : jj_K} (R : Int64 → wo_T → Prop)   (w : wo_T)
    (h : jj_J K mX3_workParts (jj_Rl R) 4 [(0, .ref 1), (1, .int 0), (2, .int 0)] [] w) :
    jj_J K mX3_workParts (jj_Rl R) 0 [(0, .ref 1)] [] w := by
  refine jj_iconst (pc := 0) (v := 0) dX3_workParts_0 (by decide) ?_
  refine jj_istore_n (pc := 1) (l2 := [(1, .int 0), (0, .ref 1)]) dX3_workParts_1 (by decide) rfl ?_
  refine jj_iconst (pc := 2) (v := 0) dX3_workParts_2 (by decide) ?_
  refine jj_istore_n (pc := 3) (l2 := [(2, .int 0), (1, .int 0), (0, .ref 1)]) dX3_workParts_3 (by decide) rfl ?_
  exact jj_sub [2, 1, 0] rfl h
theorem en_X3_workParts {K : jj_K} (R : Int64 → wo_T → Prop)   (w : wo_T)
    (h : jj_J K mX3_workParts (jj_Rl R) 4 [(0, .ref 1), (1, .int 0), (2, .int 0)] [] w) : jj_Cl K mX3_workParts [.ref 1] w R :=
  jj_Cl_intro pn_RX3 (Nat.le_of_ble_eq_true rfl) (vc_X3_workParts_0 R  w h)
set_option maxRecDepth 100000 in
set_option maxHeartbeats 4000000 in
theorem vc_X3_workParts_4 {K : jj_K} (R : Int64 → wo_T → Prop)  (a1 : Int32) (a2 : Int32) (w : wo_T)
    (h : ((2 * (w.1 1 6)) ≤ a2 → R a1.toInt64 w) ∧ (¬ (2 * (w.1 1 6)) ≤ a2 → vp_in a2 10 ∧ (jj_Ci K mX3_freeShift [.ref 1, .int a2] w (fun v2 w3 => ∀ x4 : Int32, x4 = a1 + ((w.1 4 a2.toNatClampNeg) * v2) → (jj_J K mX3_workParts (jj_Rl R) 4 [(0, .ref 1), (1, .int x4), (2, .int (a2 + 1))] [] w3))))) :
    jj_J K mX3_workParts (jj_Rl R) 4 [(0, .ref 1), (1, .int a1), (2, .int a2)] [] w := by
  refine jj_iload_n (pc := 4) dX3_workParts_4 2 rfl ?_
  refine jj_iconst (pc := 5) (v := 2) dX3_workParts_5 (by decide) ?_
  refine jj_aload_n (pc := 6) dX3_workParts_6 0 rfl ?_
  refine jj_getI (pc := 7) (ci := 3) (k := 6) dX3_workParts_7 rfl rfl (by decide) rfl lk_RX3_30 ?_
  refine jj_imul (pc := 10) dX3_workParts_10 ?_
  refine jj_icmp_ge (pc := 11) (tgt := 35) dX3_workParts_11 (by decide) (fun c1 => ?_) (fun c1 => ?_)
  · replace h := h.1 c1
    refine jj_iload_n (pc := 35) dX3_workParts_35 1 rfl ?_
    refine jj_i2l (pc := 36) dX3_workParts_36 ?_
    exact jj_lret (pc := 37) dX3_workParts_37 rfl h
  · replace h := h.2 c1
    refine jj_iload_n (pc := 14) dX3_workParts_14 1 rfl ?_
    refine jj_aload_n (pc := 15) dX3_workParts_15 0 rfl ?_
    refine jj_getR (pc := 16) (ci := 3) (k := 2) dX3_workParts_16 rfl rfl (by decide) rfl lk_RX3_18 ?_
    refine jj_iload_n (pc := 19) dX3_workParts_19 2 rfl ?_
    refine jj_iald (pc := 20) dX3_workParts_20 rfl h.1 ?_
    replace h := h.2
    refine jj_aload_n (pc := 21) dX3_workParts_21 0 rfl ?_
    refine jj_iload_n (pc := 22) dX3_workParts_22 2 rfl ?_
    refine jj_callVi (pc := 23) (N := mX3_freeShift) (as := [.int a2]) (st := [.int (w.1 4 a2.toNatClampNeg), .int a1]) dX3_workParts_23 rfl rfl rfl lk_RX3_52 hv_X3_freeShift rfl rfl h (fun v2 w3 h => ?_)
    refine jj_imul (pc := 26) dX3_workParts_26 ?_
    refine jj_iadd (pc := 27) dX3_workParts_27 ?_
    refine jj_nmi (fun x4 ex4 => ?_)
    replace h := h x4 ex4
    refine jj_istore_n (pc := 28) (l2 := [(1, .int x4), (0, .ref 1), (2, .int a2)]) dX3_workParts_28 (by decide) rfl ?_
    refine jj_iinc (pc := 29) (v := a2 + 1) (l2 := [(2, .int (a2 + 1)), (1, .int x4), (0, .ref 1)]) dX3_workParts_29 2 rfl rfl (by decide) rfl ?_
    refine jj_goto (pc := 32) (tgt := 4) dX3_workParts_32 (by decide) ?_
    exact jj_sub [2, 1, 0] rfl h
set_option maxRecDepth 100000 in
set_option maxHeartbeats 4000000 in
theorem vc_X3_freeShift_0 {K : jj_K} (R : Int32 → wo_T → Prop)  (a1 : Int32) (w : wo_T)
    (h : jj_Ci K mX3_isFree [.ref 1, .int a1] w (fun v1 w2 => (v1 = 0 → R 0 w2) ∧ (¬ v1 = 0 → vp_in a1 10 ∧ (R (w2.1 5 a1.toNatClampNeg) w2)))) :
    jj_J K mX3_freeShift (jj_Ri R) 0 [(0, .ref 1), (1, .int a1)] [] w := by
  refine jj_aload_n (pc := 0) dX3_freeShift_0 0 rfl ?_
  refine jj_iload_n (pc := 1) dX3_freeShift_1 1 rfl ?_
  refine jj_callVi (pc := 2) (N := mX3_isFree) (as := [.int a1]) (st := []) dX3_freeShift_2 rfl rfl rfl lk_RX3_48 hv_X3_isFree rfl rfl h (fun v1 w2 h => ?_)
  refine jj_if_eq (pc := 5) (tgt := 17) dX3_freeShift_5 (by decide) (fun c3 => ?_) (fun c3 => ?_)
  · replace h := h.1 c3
    refine jj_iconst (pc := 17) (v := 0) dX3_freeShift_17 (by decide) ?_
    exact jj_iret (pc := 18) dX3_freeShift_18 rfl h
  · replace h := h.2 c3
    refine jj_aload_n (pc := 8) dX3_freeShift_8 0 rfl ?_
    refine jj_getR (pc := 9) (ci := 3) (k := 3) dX3_freeShift_9 rfl rfl (by decide) rfl lk_RX3_21 ?_
    refine jj_iload_n (pc := 12) dX3_freeShift_12 1 rfl ?_
    refine jj_iald (pc := 13) dX3_freeShift_13 rfl h.1 ?_
    replace h := h.2
    refine jj_goto (pc := 14) (tgt := 18) dX3_freeShift_14 (by decide) ?_
    exact jj_iret (pc := 18) dX3_freeShift_18 rfl h
theorem en_X3_freeShift {K : jj_K} (R : Int32 → wo_T → Prop)  (a1 : Int32) (w : wo_T)
    (h : jj_Ci K mX3_isFree [.ref 1, .int a1] w (fun v1 w2 => (v1 = 0 → R 0 w2) ∧ (¬ v1 = 0 → vp_in a1 10 ∧ (R (w2.1 5 a1.toNatClampNeg) w2)))) : jj_Ci K mX3_freeShift [.ref 1, .int a1] w R :=
  jj_Ci_intro pn_RX3 (Nat.le_of_ble_eq_true rfl) (vc_X3_freeShift_0 R a1 w h)
