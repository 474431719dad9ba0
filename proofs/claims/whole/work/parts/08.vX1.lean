set_option maxRecDepth 100000 in
set_option maxHeartbeats 4000000 in
theorem vc_X1_pass_0 {K : jj_K} (R : Int32 → wo_T → Prop)  (a2 : Int32) (a3 : Int32) (w : wo_T)
    (h : jj_J K mX1_pass (jj_Ri R) 6 [(0, .ref 48), (1, .ref 1), (2, .int a2), (3, .int a3), (4, .int 0), (5, .int 0)] [] w) :
    jj_J K mX1_pass (jj_Ri R) 0 [(0, .ref 48), (1, .ref 1), (2, .int a2), (3, .int a3)] [] w := by
  refine jj_iconst (pc := 0) (v := 0) dX1_pass_0 (by decide) ?_
  refine jj_istore (pc := 1) (l2 := [(4, .int 0), (0, .ref 48), (1, .ref 1), (2, .int a2), (3, .int a3)]) dX1_pass_1 (by decide) rfl ?_
  refine jj_iconst (pc := 3) (v := 0) dX1_pass_3 (by decide) ?_
  refine jj_istore (pc := 4) (l2 := [(5, .int 0), (4, .int 0), (0, .ref 48), (1, .ref 1), (2, .int a2), (3, .int a3)]) dX1_pass_4 (by decide) rfl ?_
  exact jj_sub [2, 3, 4, 5, 1, 0] rfl h
theorem en_X1_pass {K : jj_K} (R : Int32 → wo_T → Prop)  (a2 : Int32) (a3 : Int32) (w : wo_T)
    (h : jj_J K mX1_pass (jj_Ri R) 6 [(0, .ref 48), (1, .ref 1), (2, .int a2), (3, .int a3), (4, .int 0), (5, .int 0)] [] w) : jj_Ci K mX1_pass [.ref 48, .ref 1, .int a2, .int a3] w R :=
  jj_Ci_intro pn_RX1 (Nat.le_of_ble_eq_true rfl) (vc_X1_pass_0 R a2 a3 w h)
set_option maxRecDepth 100000 in
set_option maxHeartbeats 4000000 in
theorem vc_X1_pass_6 {K : jj_K} (R : Int32 → wo_T → Prop)  (a2 : Int32) (a3 : Int32) (a4 : Int32) (a5 : Int32) (w : wo_T)
    (h : (10 ≤ a5 → R a4 w) ∧ (¬ 10 ≤ a5 → ∀ x2 : Int32, x2 = a5 + 1 → (jj_J K mX1_pass (jj_Ri R) 19 [(0, .ref 48), (1, .ref 1), (2, .int a2), (3, .int a3), (4, .int a4), (5, .int a5), (6, .int x2)] [] w))) :
    jj_J K mX1_pass (jj_Ri R) 6 [(0, .ref 48), (1, .ref 1), (2, .int a2), (3, .int a3), (4, .int a4), (5, .int a5)] [] w := by
  refine jj_iload (pc := 6) dX1_pass_6 5 rfl ?_
  refine jj_bipush (pc := 8) (v := 10) dX1_pass_8 (by decide) ?_
  refine jj_icmp_ge (pc := 10) (tgt := 94) dX1_pass_10 (by decide) (fun c1 => ?_) (fun c1 => ?_)
  · replace h := h.1 c1
    refine jj_iload (pc := 94) dX1_pass_94 4 rfl ?_
    exact jj_iret (pc := 96) dX1_pass_96 rfl h
  · replace h := h.2 c1
    refine jj_iload (pc := 13) dX1_pass_13 5 rfl ?_
    refine jj_iconst (pc := 15) (v := 1) dX1_pass_15 (by decide) ?_
    refine jj_iadd (pc := 16) dX1_pass_16 ?_
    refine jj_nmi (fun x2 ex2 => ?_)
    replace h := h x2 ex2
    refine jj_istore (pc := 17) (l2 := [(6, .int x2), (0, .ref 48), (1, .ref 1), (2, .int a2), (3, .int a3), (4, .int a4), (5, .int a5)]) dX1_pass_17 (by decide) rfl ?_
    exact jj_sub [1, 2, 3, 4, 5, 6, 0] rfl h
set_option maxRecDepth 100000 in
set_option maxHeartbeats 4000000 in
theorem vc_X1_pass_19 {K : jj_K} (R : Int32 → wo_T → Prop)  (a2 : Int32) (a3 : Int32) (a4 : Int32) (a5 : Int32) (a6 : Int32) (w : wo_T)
    (h : (10 ≤ a6 → jj_J K mX1_pass (jj_Ri R) 6 [(0, .ref 48), (1, .ref 1), (2, .int a2), (3, .int a3), (4, .int a4), (5, .int (a5 + 1))] [] w) ∧ (¬ 10 ≤ a6 → (((a2 >>> (a5 &&& 31)) &&& 1) = 0 → jj_J K mX1_pass (jj_Ri R) 19 [(0, .ref 48), (1, .ref 1), (2, .int a2), (3, .int a3), (4, .int a4), (5, .int a5), (6, .int (a6 + 1))] [] w) ∧ (¬ ((a2 >>> (a5 &&& 31)) &&& 1) = 0 → (((a2 >>> (a6 &&& 31)) &&& 1) = 0 → jj_J K mX1_pass (jj_Ri R) 19 [(0, .ref 48), (1, .ref 1), (2, .int a2), (3, .int a3), (4, .int a4), (5, .int a5), (6, .int (a6 + 1))] [] w) ∧ (¬ ((a2 >>> (a6 &&& 31)) &&& 1) = 0 → jj_Ci K mX1_meet [.ref 48, .ref 1, .int a5, .int a6] w (fun v7 w8 => (v7 = 0 → jj_J K mX1_pass (jj_Ri R) 19 [(0, .ref 48), (1, .ref 1), (2, .int a2), (3, .int a3), (4, .int a4), (5, .int a5), (6, .int (a6 + 1))] [] w8) ∧ (¬ v7 = 0 → (¬ ((a4 + 1) - 1) = a3 → jj_J K mX1_pass (jj_Ri R) 19 [(0, .ref 48), (1, .ref 1), (2, .int a2), (3, .int a3), (4, .int (a4 + 1)), (5, .int a5), (6, .int (a6 + 1))] [] w8) ∧ (((a4 + 1) - 1) = a3 → R (a4 + 1) w8))))))) :
    jj_J K mX1_pass (jj_Ri R) 19 [(0, .ref 48), (1, .ref 1), (2, .int a2), (3, .int a3), (4, .int a4), (5, .int a5), (6, .int a6)] [] w := by
  refine jj_iload (pc := 19) dX1_pass_19 6 rfl ?_
  refine jj_bipush (pc := 21) (v := 10) dX1_pass_21 (by decide) ?_
  refine jj_icmp_ge (pc := 23) (tgt := 88) dX1_pass_23 (by decide) (fun c1 => ?_) (fun c1 => ?_)
  · replace h := h.1 c1
    refine jj_iinc (pc := 88) (v := a5 + 1) (l2 := [(5, .int (a5 + 1)), (0, .ref 48), (1, .ref 1), (2, .int a2), (3, .int a3), (4, .int a4), (6, .int a6)]) dX1_pass_88 5 rfl rfl (by decide) rfl ?_
    refine jj_goto (pc := 91) (tgt := 6) dX1_pass_91 (by decide) ?_
    exact jj_sub [1, 2, 3, 4, 5, 0] rfl h
  · replace h := h.2 c1
    refine jj_iload_n (pc := 26) dX1_pass_26 2 rfl ?_
    refine jj_iload (pc := 27) dX1_pass_27 5 rfl ?_
    refine jj_ishr (pc := 29) dX1_pass_29 ?_
    refine jj_iconst (pc := 30) (v := 1) dX1_pass_30 (by decide) ?_
    refine jj_iand (pc := 31) dX1_pass_31 ?_
    refine jj_if_eq (pc := 32) (tgt := 48) dX1_pass_32 (by decide) (fun c2 => ?_) (fun c2 => ?_)
    · replace h := h.1 c2
      refine jj_iconst (pc := 48) (v := 0) dX1_pass_48 (by decide) ?_
      refine jj_istore (pc := 49) (l2 := [(7, .int 0), (0, .ref 48), (1, .ref 1), (2, .int a2), (3, .int a3), (4, .int a4), (5, .int a5), (6, .int a6)]) dX1_pass_49 (by decide) rfl ?_
      refine jj_iload (pc := 51) dX1_pass_51 0 rfl ?_
      refine jj_if_eq (pc := 53) (tgt := 82) dX1_pass_53 (by decide) (fun _ => ?_) (fun z => absurd z (by decide))
      refine jj_iinc (pc := 82) (v := a6 + 1) (l2 := [(6, .int (a6 + 1)), (7, .int 0), (0, .ref 48), (1, .ref 1), (2, .int a2), (3, .int a3), (4, .int a4), (5, .int a5)]) dX1_pass_82 7 rfl rfl (by decide) rfl ?_
      refine jj_goto (pc := 85) (tgt := 19) dX1_pass_85 (by decide) ?_
      exact jj_sub [2, 3, 4, 5, 6, 7, 0] rfl h
    · replace h := h.2 c2
      refine jj_iload_n (pc := 35) dX1_pass_35 2 rfl ?_
      refine jj_iload (pc := 36) dX1_pass_36 6 rfl ?_
      refine jj_ishr (pc := 38) dX1_pass_38 ?_
      refine jj_iconst (pc := 39) (v := 1) dX1_pass_39 (by decide) ?_
      refine jj_iand (pc := 40) dX1_pass_40 ?_
      refine jj_if_eq (pc := 41) (tgt := 48) dX1_pass_41 (by decide) (fun c4 => ?_) (fun c4 => ?_)
      · replace h := h.1 c4
        refine jj_iconst (pc := 48) (v := 0) dX1_pass_48 (by decide) ?_
        refine jj_istore (pc := 49) (l2 := [(7, .int 0), (0, .ref 48), (1, .ref 1), (2, .int a2), (3, .int a3), (4, .int a4), (5, .int a5), (6, .int a6)]) dX1_pass_49 (by decide) rfl ?_
        refine jj_iload (pc := 51) dX1_pass_51 0 rfl ?_
        refine jj_if_eq (pc := 53) (tgt := 82) dX1_pass_53 (by decide) (fun _ => ?_) (fun z => absurd z (by decide))
        refine jj_iinc (pc := 82) (v := a6 + 1) (l2 := [(6, .int (a6 + 1)), (7, .int 0), (0, .ref 48), (1, .ref 1), (2, .int a2), (3, .int a3), (4, .int a4), (5, .int a5)]) dX1_pass_82 7 rfl rfl (by decide) rfl ?_
        refine jj_goto (pc := 85) (tgt := 19) dX1_pass_85 (by decide) ?_
        exact jj_sub [2, 3, 4, 5, 6, 7, 0] rfl h
      · replace h := h.2 c4
        refine jj_iconst (pc := 44) (v := 1) dX1_pass_44 (by decide) ?_
        refine jj_goto (pc := 45) (tgt := 49) dX1_pass_45 (by decide) ?_
        refine jj_istore (pc := 49) (l2 := [(7, .int 1), (0, .ref 48), (1, .ref 1), (2, .int a2), (3, .int a3), (4, .int a4), (5, .int a5), (6, .int a6)]) dX1_pass_49 (by decide) rfl ?_
        refine jj_iload (pc := 51) dX1_pass_51 0 rfl ?_
        refine jj_if_eq (pc := 53) (tgt := 82) dX1_pass_53 (by decide) (fun z => absurd z (by decide)) (fun _ => ?_)
        refine jj_aload_n (pc := 56) dX1_pass_56 1 rfl ?_
        refine jj_aload_n (pc := 57) dX1_pass_57 2 rfl ?_
        refine jj_iload (pc := 58) dX1_pass_58 6 rfl ?_
        refine jj_iload (pc := 60) dX1_pass_60 7 rfl ?_
        refine jj_callVi (pc := 62) (N := mX1_meet) (as := [.ref 1, .int a5, .int a6]) (st := []) dX1_pass_62 rfl rfl rfl lk_RX1_9 hv_X1_meet rfl rfl h (fun v7 w8 h => ?_)
        refine jj_if_eq (pc := 65) (tgt := 82) dX1_pass_65 (by decide) (fun c9 => ?_) (fun c9 => ?_)
        · replace h := h.1 c9
          refine jj_iinc (pc := 82) (v := a6 + 1) (l2 := [(6, .int (a6 + 1)), (7, .int 1), (0, .ref 48), (1, .ref 1), (2, .int a2), (3, .int a3), (4, .int a4), (5, .int a5)]) dX1_pass_82 7 rfl rfl (by decide) rfl ?_
          refine jj_goto (pc := 85) (tgt := 19) dX1_pass_85 (by decide) ?_
          exact jj_sub [2, 3, 4, 5, 6, 7, 0] rfl h
        · replace h := h.2 c9
          refine jj_iinc (pc := 68) (v := a4 + 1) (l2 := [(4, .int (a4 + 1)), (7, .int 1), (0, .ref 48), (1, .ref 1), (2, .int a2), (3, .int a3), (5, .int a5), (6, .int a6)]) dX1_pass_68 5 rfl rfl (by decide) rfl ?_
          refine jj_iload (pc := 71) dX1_pass_71 0 rfl ?_
          refine jj_iconst (pc := 73) (v := 1) dX1_pass_73 (by decide) ?_
          refine jj_isub (pc := 74) dX1_pass_74 ?_
          refine jj_iload_n (pc := 75) dX1_pass_75 5 rfl ?_
          refine jj_icmp_ne (pc := 76) (tgt := 82) dX1_pass_76 (by decide) (fun c10 => ?_) (fun c10 => ?_)
          · replace h := h.1 c10
            refine jj_iinc (pc := 82) (v := a6 + 1) (l2 := [(6, .int (a6 + 1)), (4, .int (a4 + 1)), (7, .int 1), (0, .ref 48), (1, .ref 1), (2, .int a2), (3, .int a3), (5, .int a5)]) dX1_pass_82 7 rfl rfl (by decide) rfl ?_
            refine jj_goto (pc := 85) (tgt := 19) dX1_pass_85 (by decide) ?_
            exact jj_sub [3, 4, 5, 6, 1, 7, 0] rfl h
          · replace h := h.2 c10
            refine jj_iload (pc := 79) dX1_pass_79 0 rfl ?_
            exact jj_iret (pc := 81) dX1_pass_81 rfl h
set_option maxRecDepth 100000 in
set_option maxHeartbeats 4000000 in
theorem vc_X1_meet_0 {K : jj_K} (R : Int32 → wo_T → Prop)  (a2 : Int32) (a3 : Int32) (w : wo_T)
    (h : vp_in (2 * a2) 20 ∧ (∀ x1 : Int32, x1 = w.1 6 (2 * a2).toNatClampNeg → (vp_in ((2 * a2) + 1) 20 ∧ (∀ x2 : Int32, x2 = w.1 6 ((2 * a2) + 1).toNatClampNeg → (vp_in (2 * a3) 20 ∧ (∀ x3 : Int32, x3 = w.1 6 (2 * a3).toNatClampNeg → (vp_in ((2 * a3) + 1) 20 ∧ (∀ x4 : Int32, x4 = w.1 6 ((2 * a3) + 1).toNatClampNeg → (vp_in a2 10 ∧ (vp_in (2 * (wo_les a2.toNatClampNeg)) 10 ∧ (∀ x5 : Int32, x5 = w.1 2 (2 * (wo_les a2.toNatClampNeg)).toNatClampNeg → (vp_in a2 10 ∧ (vp_in ((2 * (wo_les a2.toNatClampNeg)) + 1) 10 ∧ (∀ x6 : Int32, x6 = w.1 2 ((2 * (wo_les a2.toNatClampNeg)) + 1).toNatClampNeg → (vp_in a3 10 ∧ (vp_in (2 * (wo_les a3.toNatClampNeg)) 10 ∧ (∀ x7 : Int32, x7 = (w.1 2 (2 * (wo_les a3.toNatClampNeg)).toNatClampNeg) - x5 → (vp_in a3 10 ∧ (vp_in ((2 * (wo_les a3.toNatClampNeg)) + 1) 10 ∧ (∀ x8 : Int32, x8 = (w.1 2 ((2 * (wo_les a3.toNatClampNeg)) + 1).toNatClampNeg) - x6 → ∀ x9 : Int32, x9 = (x1 * x4) - (x2 * x3) → ∀ x10 : Int32, x10 = (x7 * x4) - (x8 * x3) → ∀ x11 : Int32, x11 = (x7 * x2) - (x8 * x1) → (jj_Ci K mX1_isInside [.int x10, .int x9] w (fun v12 w13 => (v12 = 0 → R 0 w13) ∧ (¬ v12 = 0 → jj_Ci K mX1_isInside [.int x11, .int x9] w13 (fun v15 w16 => (¬ v15 = 0 → R 1 (wo_l (wo_l (wo_l (wo_i (wo_i w16 48 0 a2) 48 1 a3) 48 4 x9.toInt64) 48 2 ((x5.toInt64 * x9.toInt64) + (x10.toInt64 * x1.toInt64))) 48 3 ((x6.toInt64 * x9.toInt64) + (x10.toInt64 * x2.toInt64)))) ∧ (v15 = 0 → R 0 w16))))))))))))))))))))))))) :
    jj_J K mX1_meet (jj_Ri R) 0 [(0, .ref 48), (1, .ref 1), (2, .int a2), (3, .int a3)] [] w := by
  refine jj_aload_n (pc := 0) dX1_meet_0 1 rfl ?_
  refine jj_getR (pc := 1) (ci := 3) (k := 4) dX1_meet_1 rfl rfl (by decide) rfl lk_RX1_15 ?_
  refine jj_iconst (pc := 4) (v := 2) dX1_meet_4 (by decide) ?_
  refine jj_iload_n (pc := 5) dX1_meet_5 2 rfl ?_
  refine jj_imul (pc := 6) dX1_meet_6 ?_
  refine jj_iald (pc := 7) dX1_meet_7 rfl h.1 ?_
  replace h := h.2
  refine jj_nmi (fun x1 ex1 => ?_)
  replace h := h x1 ex1
  refine jj_istore (pc := 8) (l2 := [(4, .int x1), (0, .ref 48), (1, .ref 1), (2, .int a2), (3, .int a3)]) dX1_meet_8 (by decide) rfl ?_
  refine jj_aload_n (pc := 10) dX1_meet_10 2 rfl ?_
  refine jj_getR (pc := 11) (ci := 3) (k := 4) dX1_meet_11 rfl rfl (by decide) rfl lk_RX1_15 ?_
  refine jj_iconst (pc := 14) (v := 2) dX1_meet_14 (by decide) ?_
  refine jj_iload_n (pc := 15) dX1_meet_15 3 rfl ?_
  refine jj_imul (pc := 16) dX1_meet_16 ?_
  refine jj_iconst (pc := 17) (v := 1) dX1_meet_17 (by decide) ?_
  refine jj_iadd (pc := 18) dX1_meet_18 ?_
  refine jj_iald (pc := 19) dX1_meet_19 rfl h.1 ?_
  replace h := h.2
  refine jj_nmi (fun x2 ex2 => ?_)
  replace h := h x2 ex2
  refine jj_istore (pc := 20) (l2 := [(5, .int x2), (4, .int x1), (0, .ref 48), (1, .ref 1), (2, .int a2), (3, .int a3)]) dX1_meet_20 (by decide) rfl ?_
  refine jj_aload_n (pc := 22) dX1_meet_22 3 rfl ?_
  refine jj_getR (pc := 23) (ci := 3) (k := 4) dX1_meet_23 rfl rfl (by decide) rfl lk_RX1_15 ?_
  refine jj_iconst (pc := 26) (v := 2) dX1_meet_26 (by decide) ?_
  refine jj_iload_n (pc := 27) dX1_meet_27 5 rfl ?_
  refine jj_imul (pc := 28) dX1_meet_28 ?_
  refine jj_iald (pc := 29) dX1_meet_29 rfl h.1 ?_
  replace h := h.2
  refine jj_nmi (fun x3 ex3 => ?_)
  replace h := h x3 ex3
  refine jj_istore (pc := 30) (l2 := [(6, .int x3), (5, .int x2), (4, .int x1), (0, .ref 48), (1, .ref 1), (2, .int a2), (3, .int a3)]) dX1_meet_30 (by decide) rfl ?_
  refine jj_aload_n (pc := 32) dX1_meet_32 4 rfl ?_
  refine jj_getR (pc := 33) (ci := 3) (k := 4) dX1_meet_33 rfl rfl (by decide) rfl lk_RX1_15 ?_
  refine jj_iconst (pc := 36) (v := 2) dX1_meet_36 (by decide) ?_
  refine jj_iload_n (pc := 37) dX1_meet_37 6 rfl ?_
  refine jj_imul (pc := 38) dX1_meet_38 ?_
  refine jj_iconst (pc := 39) (v := 1) dX1_meet_39 (by decide) ?_
  refine jj_iadd (pc := 40) dX1_meet_40 ?_
  refine jj_iald (pc := 41) dX1_meet_41 rfl h.1 ?_
  replace h := h.2
  refine jj_nmi (fun x4 ex4 => ?_)
  replace h := h x4 ex4
  refine jj_istore (pc := 42) (l2 := [(7, .int x4), (6, .int x3), (5, .int x2), (4, .int x1), (0, .ref 48), (1, .ref 1), (2, .int a2), (3, .int a3)]) dX1_meet_42 (by decide) rfl ?_
  refine jj_aload_n (pc := 44) dX1_meet_44 5 rfl ?_
  refine jj_getR (pc := 45) (ci := 3) (k := 0) dX1_meet_45 rfl rfl (by decide) rfl lk_RX1_21 ?_
  refine jj_iconst (pc := 48) (v := 2) dX1_meet_48 (by decide) ?_
  refine jj_gsNLESSER (pc := 49) dX1_meet_49 (by decide +kernel) ?_
  refine jj_iload_n (pc := 52) dX1_meet_52 6 rfl ?_
  refine jj_saldLESSER (pc := 53) dX1_meet_53 h.1 ?_
  replace h := h.2
  refine jj_imul (pc := 54) dX1_meet_54 ?_
  refine jj_iald (pc := 55) dX1_meet_55 rfl h.1 ?_
  replace h := h.2
  refine jj_nmi (fun x5 ex5 => ?_)
  replace h := h x5 ex5
  refine jj_istore (pc := 56) (l2 := [(8, .int x5), (7, .int x4), (6, .int x3), (5, .int x2), (4, .int x1), (0, .ref 48), (1, .ref 1), (2, .int a2), (3, .int a3)]) dX1_meet_56 (by decide) rfl ?_
  refine jj_aload_n (pc := 58) dX1_meet_58 6 rfl ?_
  refine jj_getR (pc := 59) (ci := 3) (k := 0) dX1_meet_59 rfl rfl (by decide) rfl lk_RX1_21 ?_
  refine jj_iconst (pc := 62) (v := 2) dX1_meet_62 (by decide) ?_
  refine jj_gsNLESSER (pc := 63) dX1_meet_63 (by decide +kernel) ?_
  refine jj_iload_n (pc := 66) dX1_meet_66 7 rfl ?_
  refine jj_saldLESSER (pc := 67) dX1_meet_67 h.1 ?_
  replace h := h.2
  refine jj_imul (pc := 68) dX1_meet_68 ?_
  refine jj_iconst (pc := 69) (v := 1) dX1_meet_69 (by decide) ?_
  refine jj_iadd (pc := 70) dX1_meet_70 ?_
  refine jj_iald (pc := 71) dX1_meet_71 rfl h.1 ?_
  replace h := h.2
  refine jj_nmi (fun x6 ex6 => ?_)
  replace h := h x6 ex6
  refine jj_istore (pc := 72) (l2 := [(9, .int x6), (8, .int x5), (7, .int x4), (6, .int x3), (5, .int x2), (4, .int x1), (0, .ref 48), (1, .ref 1), (2, .int a2), (3, .int a3)]) dX1_meet_72 (by decide) rfl ?_
  refine jj_aload_n (pc := 74) dX1_meet_74 7 rfl ?_
  refine jj_getR (pc := 75) (ci := 3) (k := 0) dX1_meet_75 rfl rfl (by decide) rfl lk_RX1_21 ?_
  refine jj_iconst (pc := 78) (v := 2) dX1_meet_78 (by decide) ?_
  refine jj_gsNLESSER (pc := 79) dX1_meet_79 (by decide +kernel) ?_
  refine jj_iload_n (pc := 82) dX1_meet_82 9 rfl ?_
  refine jj_saldLESSER (pc := 83) dX1_meet_83 h.1 ?_
  replace h := h.2
  refine jj_imul (pc := 84) dX1_meet_84 ?_
  refine jj_iald (pc := 85) dX1_meet_85 rfl h.1 ?_
  replace h := h.2
  refine jj_iload (pc := 86) dX1_meet_86 1 rfl ?_
  refine jj_isub (pc := 88) dX1_meet_88 ?_
  refine jj_nmi (fun x7 ex7 => ?_)
  replace h := h x7 ex7
  refine jj_istore (pc := 89) (l2 := [(10, .int x7), (9, .int x6), (8, .int x5), (7, .int x4), (6, .int x3), (5, .int x2), (4, .int x1), (0, .ref 48), (1, .ref 1), (2, .int a2), (3, .int a3)]) dX1_meet_89 (by decide) rfl ?_
  refine jj_aload_n (pc := 91) dX1_meet_91 8 rfl ?_
  refine jj_getR (pc := 92) (ci := 3) (k := 0) dX1_meet_92 rfl rfl (by decide) rfl lk_RX1_21 ?_
  refine jj_iconst (pc := 95) (v := 2) dX1_meet_95 (by decide) ?_
  refine jj_gsNLESSER (pc := 96) dX1_meet_96 (by decide +kernel) ?_
  refine jj_iload_n (pc := 99) dX1_meet_99 10 rfl ?_
  refine jj_saldLESSER (pc := 100) dX1_meet_100 h.1 ?_
  replace h := h.2
  refine jj_imul (pc := 101) dX1_meet_101 ?_
  refine jj_iconst (pc := 102) (v := 1) dX1_meet_102 (by decide) ?_
  refine jj_iadd (pc := 103) dX1_meet_103 ?_
  refine jj_iald (pc := 104) dX1_meet_104 rfl h.1 ?_
  replace h := h.2
  refine jj_iload (pc := 105) dX1_meet_105 1 rfl ?_
  refine jj_isub (pc := 107) dX1_meet_107 ?_
  refine jj_nmi (fun x8 ex8 => ?_)
  replace h := h x8 ex8
  refine jj_istore (pc := 108) (l2 := [(11, .int x8), (10, .int x7), (9, .int x6), (8, .int x5), (7, .int x4), (6, .int x3), (5, .int x2), (4, .int x1), (0, .ref 48), (1, .ref 1), (2, .int a2), (3, .int a3)]) dX1_meet_108 (by decide) rfl ?_
  refine jj_iload (pc := 110) dX1_meet_110 7 rfl ?_
  refine jj_iload (pc := 112) dX1_meet_112 4 rfl ?_
  refine jj_imul (pc := 114) dX1_meet_114 ?_
  refine jj_iload (pc := 115) dX1_meet_115 6 rfl ?_
  refine jj_iload (pc := 117) dX1_meet_117 5 rfl ?_
  refine jj_imul (pc := 119) dX1_meet_119 ?_
  refine jj_isub (pc := 120) dX1_meet_120 ?_
  refine jj_nmi (fun x9 ex9 => ?_)
  replace h := h x9 ex9
  refine jj_istore (pc := 121) (l2 := [(12, .int x9), (11, .int x8), (10, .int x7), (9, .int x6), (8, .int x5), (7, .int x4), (6, .int x3), (5, .int x2), (4, .int x1), (0, .ref 48), (1, .ref 1), (2, .int a2), (3, .int a3)]) dX1_meet_121 (by decide) rfl ?_
  refine jj_iload (pc := 123) dX1_meet_123 2 rfl ?_
  refine jj_iload (pc := 125) dX1_meet_125 5 rfl ?_
  refine jj_imul (pc := 127) dX1_meet_127 ?_
  refine jj_iload (pc := 128) dX1_meet_128 1 rfl ?_
  refine jj_iload (pc := 130) dX1_meet_130 6 rfl ?_
  refine jj_imul (pc := 132) dX1_meet_132 ?_
  refine jj_isub (pc := 133) dX1_meet_133 ?_
  refine jj_nmi (fun x10 ex10 => ?_)
  replace h := h x10 ex10
  refine jj_istore (pc := 134) (l2 := [(13, .int x10), (12, .int x9), (11, .int x8), (10, .int x7), (9, .int x6), (8, .int x5), (7, .int x4), (6, .int x3), (5, .int x2), (4, .int x1), (0, .ref 48), (1, .ref 1), (2, .int a2), (3, .int a3)]) dX1_meet_134 (by decide) rfl ?_
  refine jj_iload (pc := 136) dX1_meet_136 3 rfl ?_
  refine jj_iload (pc := 138) dX1_meet_138 8 rfl ?_
  refine jj_imul (pc := 140) dX1_meet_140 ?_
  refine jj_iload (pc := 141) dX1_meet_141 2 rfl ?_
  refine jj_iload (pc := 143) dX1_meet_143 9 rfl ?_
  refine jj_imul (pc := 145) dX1_meet_145 ?_
  refine jj_isub (pc := 146) dX1_meet_146 ?_
  refine jj_nmi (fun x11 ex11 => ?_)
  replace h := h x11 ex11
  refine jj_istore (pc := 147) (l2 := [(14, .int x11), (13, .int x10), (12, .int x9), (11, .int x8), (10, .int x7), (9, .int x6), (8, .int x5), (7, .int x4), (6, .int x3), (5, .int x2), (4, .int x1), (0, .ref 48), (1, .ref 1), (2, .int a2), (3, .int a3)]) dX1_meet_147 (by decide) rfl ?_
  refine jj_iload (pc := 149) dX1_meet_149 1 rfl ?_
  refine jj_iload (pc := 151) dX1_meet_151 2 rfl ?_
  refine jj_callSi (pc := 153) (N := mX1_isInside) (as := [.int x10, .int x9]) (st := []) dX1_meet_153 lk_RX1_27 hv_X1_isInside rfl rfl h (fun v12 w13 h => ?_)
  refine jj_if_eq (pc := 156) (tgt := 169) dX1_meet_156 (by decide) (fun c14 => ?_) (fun c14 => ?_)
  · replace h := h.1 c14
    refine jj_iconst (pc := 169) (v := 0) dX1_meet_169 (by decide) ?_
    exact jj_zret (pc := 170) dX1_meet_170 rfl (Or.inl rfl) h
  · replace h := h.2 c14
    refine jj_iload (pc := 159) dX1_meet_159 0 rfl ?_
    refine jj_iload (pc := 161) dX1_meet_161 2 rfl ?_
    refine jj_callSi (pc := 163) (N := mX1_isInside) (as := [.int x11, .int x9]) (st := []) dX1_meet_163 lk_RX1_27 hv_X1_isInside rfl rfl h (fun v15 w16 h => ?_)
    refine jj_if_ne (pc := 166) (tgt := 171) dX1_meet_166 (by decide) (fun c17 => ?_) (fun c17 => ?_)
    · replace h := h.1 c17
      refine jj_aload_n (pc := 171) dX1_meet_171 11 rfl ?_
      refine jj_iload_n (pc := 172) dX1_meet_172 13 rfl ?_
      refine jj_putI (pc := 173) (ci := 1) (k := 0) (ty := .int) dX1_meet_173 rfl rfl (by decide) rfl lk_RX1_31 rfl (by decide) rfl rfl ?_
      refine jj_aload_n (pc := 176) dX1_meet_176 11 rfl ?_
      refine jj_iload_n (pc := 177) dX1_meet_177 14 rfl ?_
      refine jj_putI (pc := 178) (ci := 1) (k := 1) (ty := .int) dX1_meet_178 rfl rfl (by decide) rfl lk_RX1_35 rfl (by decide) rfl rfl ?_
      refine jj_aload_n (pc := 181) dX1_meet_181 11 rfl ?_
      refine jj_iload (pc := 182) dX1_meet_182 2 rfl ?_
      refine jj_i2l (pc := 184) dX1_meet_184 ?_
      refine jj_putL (pc := 185) (ci := 1) (k := 4) (ty := .long) dX1_meet_185 rfl rfl (by decide) rfl lk_RX1_38 rfl (by decide) rfl rfl ?_
      refine jj_aload_n (pc := 188) dX1_meet_188 11 rfl ?_
      refine jj_iload (pc := 189) dX1_meet_189 6 rfl ?_
      refine jj_i2l (pc := 191) dX1_meet_191 ?_
      refine jj_iload (pc := 192) dX1_meet_192 2 rfl ?_
      refine jj_i2l (pc := 194) dX1_meet_194 ?_
      refine jj_lmul (pc := 195) dX1_meet_195 ?_
      refine jj_iload (pc := 196) dX1_meet_196 1 rfl ?_
      refine jj_i2l (pc := 198) dX1_meet_198 ?_
      refine jj_iload (pc := 199) dX1_meet_199 10 rfl ?_
      refine jj_i2l (pc := 201) dX1_meet_201 ?_
      refine jj_lmul (pc := 202) dX1_meet_202 ?_
      refine jj_ladd (pc := 203) dX1_meet_203 ?_
      refine jj_putL (pc := 204) (ci := 1) (k := 2) (ty := .long) dX1_meet_204 rfl rfl (by decide) rfl lk_RX1_42 rfl (by decide) rfl rfl ?_
      refine jj_aload_n (pc := 207) dX1_meet_207 11 rfl ?_
      refine jj_iload (pc := 208) dX1_meet_208 5 rfl ?_
      refine jj_i2l (pc := 210) dX1_meet_210 ?_
      refine jj_iload (pc := 211) dX1_meet_211 2 rfl ?_
      refine jj_i2l (pc := 213) dX1_meet_213 ?_
      refine jj_lmul (pc := 214) dX1_meet_214 ?_
      refine jj_iload (pc := 215) dX1_meet_215 1 rfl ?_
      refine jj_i2l (pc := 217) dX1_meet_217 ?_
      refine jj_iload (pc := 218) dX1_meet_218 9 rfl ?_
      refine jj_i2l (pc := 220) dX1_meet_220 ?_
      refine jj_lmul (pc := 221) dX1_meet_221 ?_
      refine jj_ladd (pc := 222) dX1_meet_222 ?_
      refine jj_putL (pc := 223) (ci := 1) (k := 3) (ty := .long) dX1_meet_223 rfl rfl (by decide) rfl lk_RX1_45 rfl (by decide) rfl rfl ?_
      refine jj_iconst (pc := 226) (v := 1) dX1_meet_226 (by decide) ?_
      exact jj_zret (pc := 227) dX1_meet_227 rfl (Or.inr rfl) h
    · replace h := h.2 c17
      refine jj_iconst (pc := 169) (v := 0) dX1_meet_169 (by decide) ?_
      exact jj_zret (pc := 170) dX1_meet_170 rfl (Or.inl rfl) h
theorem en_X1_meet {K : jj_K} (R : Int32 → wo_T → Prop)  (a2 : Int32) (a3 : Int32) (w : wo_T)
    (h : vp_in (2 * a2) 20 ∧ (∀ x1 : Int32, x1 = w.1 6 (2 * a2).toNatClampNeg → (vp_in ((2 * a2) + 1) 20 ∧ (∀ x2 : Int32, x2 = w.1 6 ((2 * a2) + 1).toNatClampNeg → (vp_in (2 * a3) 20 ∧ (∀ x3 : Int32, x3 = w.1 6 (2 * a3).toNatClampNeg → (vp_in ((2 * a3) + 1) 20 ∧ (∀ x4 : Int32, x4 = w.1 6 ((2 * a3) + 1).toNatClampNeg → (vp_in a2 10 ∧ (vp_in (2 * (wo_les a2.toNatClampNeg)) 10 ∧ (∀ x5 : Int32, x5 = w.1 2 (2 * (wo_les a2.toNatClampNeg)).toNatClampNeg → (vp_in a2 10 ∧ (vp_in ((2 * (wo_les a2.toNatClampNeg)) + 1) 10 ∧ (∀ x6 : Int32, x6 = w.1 2 ((2 * (wo_les a2.toNatClampNeg)) + 1).toNatClampNeg → (vp_in a3 10 ∧ (vp_in (2 * (wo_les a3.toNatClampNeg)) 10 ∧ (∀ x7 : Int32, x7 = (w.1 2 (2 * (wo_les a3.toNatClampNeg)).toNatClampNeg) - x5 → (vp_in a3 10 ∧ (vp_in ((2 * (wo_les a3.toNatClampNeg)) + 1) 10 ∧ (∀ x8 : Int32, x8 = (w.1 2 ((2 * (wo_les a3.toNatClampNeg)) + 1).toNatClampNeg) - x6 → ∀ x9 : Int32, x9 = (x1 * x4) - (x2 * x3) → ∀ x10 : Int32, x10 = (x7 * x4) - (x8 * x3) → ∀ x11 : Int32, x11 = (x7 * x2) - (x8 * x1) → (jj_Ci K mX1_isInside [.int x10, .int x9] w (fun v12 w13 => (v12 = 0 → R 0 w13) ∧ (¬ v12 = 0 → jj_Ci K mX1_isInside [.int x11, .int x9] w13 (fun v15 w16 => (¬ v15 = 0 → R 1 (wo_l (wo_l (wo_l (wo_i (wo_i w16 48 0 a2) 48 1 a3) 48 4 x9.toInt64) 48 2 ((x5.toInt64 * x9.toInt64) + (x10.toInt64 * x1.toInt64))) 48 3 ((x6.toInt64 * x9.toInt64) + (x10.toInt64 * x2.toInt64)))) ∧ (v15 = 0 → R 0 w16))))))))))))))))))))))))) : jj_Ci K mX1_meet [.ref 48, .ref 1, .int a2, .int a3] w R :=
  jj_Ci_intro pn_RX1 (Nat.le_of_ble_eq_true rfl) (vc_X1_meet_0 R a2 a3 w h)
set_option maxRecDepth 100000 in
set_option maxHeartbeats 4000000 in
theorem vc_X1_isInside_0 {K : jj_K} (R : Int32 → wo_T → Prop)  (a0 : Int32) (a1 : Int32) (w : wo_T)
    (h : (a1 ≤ 0 → (0 ≤ a0 → R 0 w) ∧ (¬ 0 ≤ a0 → (a0 ≤ a1 → R 0 w) ∧ (¬ a0 ≤ a1 → R 1 w))) ∧ (¬ a1 ≤ 0 → (a0 ≤ 0 → R 0 w) ∧ (¬ a0 ≤ 0 → (a1 ≤ a0 → R 0 w) ∧ (¬ a1 ≤ a0 → R 1 w)))) :
    jj_J K mX1_isInside (jj_Ri R) 0 [(0, .int a0), (1, .int a1)] [] w := by
  refine jj_iload_n (pc := 0) dX1_isInside_0 1 rfl ?_
  refine jj_if_le (pc := 1) (tgt := 21) dX1_isInside_1 (by decide) (fun c1 => ?_) (fun c1 => ?_)
  · replace h := h.1 c1
    refine jj_iload_n (pc := 21) dX1_isInside_21 0 rfl ?_
    refine jj_if_ge (pc := 22) (tgt := 34) dX1_isInside_22 (by decide) (fun c2 => ?_) (fun c2 => ?_)
    · replace h := h.1 c2
      refine jj_iconst (pc := 34) (v := 0) dX1_isInside_34 (by decide) ?_
      exact jj_zret (pc := 35) dX1_isInside_35 rfl (Or.inl rfl) h
    · replace h := h.2 c2
      refine jj_iload_n (pc := 25) dX1_isInside_25 0 rfl ?_
      refine jj_iload_n (pc := 26) dX1_isInside_26 1 rfl ?_
      refine jj_icmp_le (pc := 27) (tgt := 34) dX1_isInside_27 (by decide) (fun c3 => ?_) (fun c3 => ?_)
      · replace h := h.1 c3
        refine jj_iconst (pc := 34) (v := 0) dX1_isInside_34 (by decide) ?_
        exact jj_zret (pc := 35) dX1_isInside_35 rfl (Or.inl rfl) h
      · replace h := h.2 c3
        refine jj_iconst (pc := 30) (v := 1) dX1_isInside_30 (by decide) ?_
        refine jj_goto (pc := 31) (tgt := 35) dX1_isInside_31 (by decide) ?_
        exact jj_zret (pc := 35) dX1_isInside_35 rfl (Or.inr rfl) h
  · replace h := h.2 c1
    refine jj_iload_n (pc := 4) dX1_isInside_4 0 rfl ?_
    refine jj_if_le (pc := 5) (tgt := 17) dX1_isInside_5 (by decide) (fun c4 => ?_) (fun c4 => ?_)
    · replace h := h.1 c4
      refine jj_iconst (pc := 17) (v := 0) dX1_isInside_17 (by decide) ?_
      refine jj_goto (pc := 18) (tgt := 35) dX1_isInside_18 (by decide) ?_
      exact jj_zret (pc := 35) dX1_isInside_35 rfl (Or.inl rfl) h
    · replace h := h.2 c4
      refine jj_iload_n (pc := 8) dX1_isInside_8 0 rfl ?_
      refine jj_iload_n (pc := 9) dX1_isInside_9 1 rfl ?_
      refine jj_icmp_ge (pc := 10) (tgt := 17) dX1_isInside_10 (by decide) (fun c5 => ?_) (fun c5 => ?_)
      · replace h := h.1 c5
        refine jj_iconst (pc := 17) (v := 0) dX1_isInside_17 (by decide) ?_
        refine jj_goto (pc := 18) (tgt := 35) dX1_isInside_18 (by decide) ?_
        exact jj_zret (pc := 35) dX1_isInside_35 rfl (Or.inl rfl) h
      · replace h := h.2 c5
        refine jj_iconst (pc := 13) (v := 1) dX1_isInside_13 (by decide) ?_
        refine jj_goto (pc := 14) (tgt := 35) dX1_isInside_14 (by decide) ?_
        exact jj_zret (pc := 35) dX1_isInside_35 rfl (Or.inr rfl) h
theorem en_X1_isInside {K : jj_K} (R : Int32 → wo_T → Prop)  (a0 : Int32) (a1 : Int32) (w : wo_T)
    (h : (a1 ≤ 0 → (0 ≤ a0 → R 0 w) ∧ (¬ 0 ≤ a0 → (a0 ≤ a1 → R 0 w) ∧ (¬ a0 ≤ a1 → R 1 w))) ∧ (¬ a1 ≤ 0 → (a0 ≤ 0 → R 0 w) ∧ (¬ a0 ≤ 0 → (a1 ≤ a0 → R 0 w) ∧ (¬ a1 ≤ a0 → R 1 w)))) : jj_Ci K mX1_isInside [.int a0, .int a1] w R :=
  jj_Ci_intro pn_RX1 (Nat.le_of_ble_eq_true rfl) (vc_X1_isInside_0 R a0 a1 w h)
