set_option maxRecDepth 100000 in
set_option maxHeartbeats 4000000 in
theorem vc_X2_first_0 {K : jj_K} (R : Int32 → wo_T → Prop)  (a2 : Int32) (w : wo_T)
    (h : jj_Ci K mX3_pairs [.ref 1] w (fun v1 w2 => jj_J K mX2_first (jj_Ri R) 13 [(0, .ref 35), (1, .ref 1), (2, .int a2), (3, .int 0), (4, .int 0)] [] (wo_i w2 35 2 v1))) :
    jj_J K mX2_first (jj_Ri R) 0 [(0, .ref 35), (1, .ref 1), (2, .int a2)] [] w := by
  refine jj_iconst (pc := 0) (v := 0) dX2_first_0 (by decide) ?_
  refine jj_istore_n (pc := 1) (l2 := [(3, .int 0), (0, .ref 35), (1, .ref 1), (2, .int a2)]) dX2_first_1 (by decide) rfl ?_
  refine jj_aload_n (pc := 2) dX2_first_2 1 rfl ?_
  refine jj_aload_n (pc := 3) dX2_first_3 2 rfl ?_
  refine jj_callVi (pc := 4) (N := mX3_pairs) (as := []) (st := [.ref 35]) dX2_first_4 rfl rfl rfl lk_RX2_22 hv_X3_pairs rfl rfl h (fun v1 w2 h => ?_)
  refine jj_putI (pc := 7) (ci := 2) (k := 2) (ty := .int) dX2_first_7 rfl rfl (by decide) rfl lk_RX2_28 rfl (by decide) rfl rfl ?_
  refine jj_iconst (pc := 10) (v := 0) dX2_first_10 (by decide) ?_
  refine jj_istore (pc := 11) (l2 := [(4, .int 0), (3, .int 0), (0, .ref 35), (1, .ref 1), (2, .int a2)]) dX2_first_11 (by decide) rfl ?_
  exact jj_sub [2, 3, 4, 1, 0] rfl h
theorem en_X2_first {K : jj_K} (R : Int32 → wo_T → Prop)  (a2 : Int32) (w : wo_T)
    (h : jj_Ci K mX3_pairs [.ref 1] w (fun v1 w2 => jj_J K mX2_first (jj_Ri R) 13 [(0, .ref 35), (1, .ref 1), (2, .int a2), (3, .int 0), (4, .int 0)] [] (wo_i w2 35 2 v1))) : jj_Ci K mX2_first [.ref 35, .ref 1, .int a2] w R :=
  jj_Ci_intro pn_RX2 (Nat.le_of_ble_eq_true rfl) (vc_X2_first_0 R a2 w h)
set_option maxRecDepth 100000 in
set_option maxHeartbeats 4000000 in
theorem vc_X2_first_13 {K : jj_K} (R : Int32 → wo_T → Prop)  (a2 : Int32) (a3 : Int32) (a4 : Int32) (w : wo_T)
    (h : ((2 * (w.1 1 6)) ≤ a4 → R (-1) w) ∧ (¬ (2 * (w.1 1 6)) ≤ a4 → jj_Ci K mX3_isFree [.ref 1, .int a4] w (fun v2 w3 => (¬ v2 = 0 → vp_in a3 10 ∧ (jj_Cv K mX2_lay [.ref 35, .ref (37 + 1 * a3.toNatClampNeg), .ref 1, .int a2, .int a4] w3 (fun w7 => jj_Cv K mX2_reduce [.ref 35, .int a3] w7 (fun w9 => vp_in a3 10 ∧ (jj_Ci K mX2_firstOther [.ref 35, .ref (37 + 1 * a3.toNatClampNeg)] w9 (fun v11 w12 => ((w12.1 35 2) ≤ v11 → vp_in a3 10 ∧ (vp_in (w12.1 35 2) 11 ∧ (((w12.2 (37 + 1 * a3.toNatClampNeg) (w12.1 35 2).toNatClampNeg) = 0 → jj_J K mX2_first (jj_Ri R) 13 [(0, .ref 35), (1, .ref 1), (2, .int a2), (3, .int a3), (4, .int (a4 + 1))] [] w12) ∧ (¬ (w12.2 (37 + 1 * a3.toNatClampNeg) (w12.1 35 2).toNatClampNeg) = 0 → R a4 w12)))) ∧ (¬ (w12.1 35 2) ≤ v11 → vp_in a3 10 ∧ (jj_J K mX2_first (jj_Ri R) 13 [(0, .ref 35), (1, .ref 1), (2, .int a2), (3, .int (a3 + 1)), (4, .int (a4 + 1))] [] (wo_i w12 47 a3.toNatClampNeg v11))))))))) ∧ (v2 = 0 → jj_J K mX2_first (jj_Ri R) 13 [(0, .ref 35), (1, .ref 1), (2, .int a2), (3, .int a3), (4, .int (a4 + 1))] [] w3)))) :
    jj_J K mX2_first (jj_Ri R) 13 [(0, .ref 35), (1, .ref 1), (2, .int a2), (3, .int a3), (4, .int a4)] [] w := by
  refine jj_iload (pc := 13) dX2_first_13 4 rfl ?_
  refine jj_iconst (pc := 15) (v := 2) dX2_first_15 (by decide) ?_
  refine jj_aload_n (pc := 16) dX2_first_16 1 rfl ?_
  refine jj_getI (pc := 17) (ci := 3) (k := 6) dX2_first_17 rfl rfl (by decide) rfl lk_RX2_32 ?_
  refine jj_imul (pc := 20) dX2_first_20 ?_
  refine jj_icmp_ge (pc := 21) (tgt := 115) dX2_first_21 (by decide) (fun c1 => ?_) (fun c1 => ?_)
  · replace h := h.1 c1
    refine jj_iconst (pc := 115) (v := (-1)) dX2_first_115 (by decide) ?_
    exact jj_iret (pc := 116) dX2_first_116 rfl h
  · replace h := h.2 c1
    refine jj_aload_n (pc := 24) dX2_first_24 1 rfl ?_
    refine jj_iload (pc := 25) dX2_first_25 4 rfl ?_
    refine jj_callVi (pc := 27) (N := mX3_isFree) (as := [.int a4]) (st := []) dX2_first_27 rfl rfl rfl lk_RX2_35 hv_X3_isFree rfl rfl h (fun v2 w3 h => ?_)
    refine jj_if_ne (pc := 30) (tgt := 36) dX2_first_30 (by decide) (fun c4 => ?_) (fun c4 => ?_)
    · replace h := h.1 c4
      refine jj_aload_n (pc := 36) dX2_first_36 0 rfl ?_
      refine jj_aload_n (pc := 37) dX2_first_37 0 rfl ?_
      refine jj_getR (pc := 38) (ci := 2) (k := 0) dX2_first_38 rfl rfl (by decide) rfl lk_RX2_15 ?_
      refine jj_iload_n (pc := 41) dX2_first_41 3 rfl ?_
      refine jj_aald4 (pc := 42) dX2_first_42 rfl h.1 ?_
      have hb5 := h.1
      replace h := h.2
      refine jj_aload_n (pc := 43) dX2_first_43 1 rfl ?_
      refine jj_iload_n (pc := 44) dX2_first_44 2 rfl ?_
      refine jj_iload (pc := 45) dX2_first_45 4 rfl ?_
      refine jj_callVv (pc := 47) (N := mX2_lay) (as := [.ref (37 + 1 * a3.toNatClampNeg), .ref 1, .int a2, .int a4]) (st := []) dX2_first_47 rfl rfl rfl lk_RX2_39 hv_X2_lay rfl rfl h (fun w7 h => ?_)
      refine jj_aload_n (pc := 50) dX2_first_50 0 rfl ?_
      refine jj_iload_n (pc := 51) dX2_first_51 3 rfl ?_
      refine jj_callVv (pc := 52) (N := mX2_reduce) (as := [.int a3]) (st := []) dX2_first_52 rfl rfl rfl lk_RX2_43 hv_X2_reduce rfl rfl h (fun w9 h => ?_)
      refine jj_aload_n (pc := 55) dX2_first_55 0 rfl ?_
      refine jj_aload_n (pc := 56) dX2_first_56 0 rfl ?_
      refine jj_getR (pc := 57) (ci := 2) (k := 0) dX2_first_57 rfl rfl (by decide) rfl lk_RX2_15 ?_
      refine jj_iload_n (pc := 60) dX2_first_60 3 rfl ?_
      refine jj_aald4 (pc := 61) dX2_first_61 rfl h.1 ?_
      have hb10 := h.1
      replace h := h.2
      refine jj_callVi (pc := 62) (N := mX2_firstOther) (as := [.ref (37 + 1 * a3.toNatClampNeg)]) (st := []) dX2_first_62 rfl rfl rfl lk_RX2_47 hv_X2_firstOther rfl rfl h (fun v11 w12 h => ?_)
      refine jj_istore (pc := 65) (l2 := [(5, .int v11), (0, .ref 35), (1, .ref 1), (2, .int a2), (3, .int a3), (4, .int a4)]) dX2_first_65 (by decide) rfl ?_
      refine jj_iload (pc := 67) dX2_first_67 0 rfl ?_
      refine jj_aload_n (pc := 69) dX2_first_69 1 rfl ?_
      refine jj_getI (pc := 70) (ci := 2) (k := 2) dX2_first_70 rfl rfl (by decide) rfl lk_RX2_28 ?_
      refine jj_icmp_ge (pc := 73) (tgt := 90) dX2_first_73 (by decide) (fun c13 => ?_) (fun c13 => ?_)
      · replace h := h.1 c13
        refine jj_aload_n (pc := 90) dX2_first_90 1 rfl ?_
        refine jj_getR (pc := 91) (ci := 2) (k := 0) dX2_first_91 rfl rfl (by decide) rfl lk_RX2_15 ?_
        refine jj_iload_n (pc := 94) dX2_first_94 4 rfl ?_
        refine jj_aald4 (pc := 95) dX2_first_95 rfl h.1 ?_
        have hb14 := h.1
        replace h := h.2
        refine jj_aload_n (pc := 96) dX2_first_96 1 rfl ?_
        refine jj_getI (pc := 97) (ci := 2) (k := 2) dX2_first_97 rfl rfl (by decide) rfl lk_RX2_28 ?_
        refine jj_lald (pc := 100) dX2_first_100 (wo_l37 _ (wo_inlt hb14)) h.1 ?_
        replace h := h.2
        refine jj_lconst (pc := 101) (v := 0) dX2_first_101 (by decide) ?_
        refine jj_lcmp_eq (pc := 102) (tgt := 109) dX2_first_102 dX2_first_103 (by decide) (fun c15 => ?_) (fun c15 => ?_)
        · replace h := h.1 c15
          refine jj_iinc (pc := 109) (v := a4 + 1) (l2 := [(4, .int (a4 + 1)), (5, .int v11), (0, .ref 35), (1, .ref 1), (2, .int a2), (3, .int a3)]) dX2_first_109 5 rfl rfl (by decide) rfl ?_
          refine jj_goto (pc := 112) (tgt := 13) dX2_first_112 (by decide) ?_
          exact jj_sub [2, 3, 4, 5, 0] rfl h
        · replace h := h.2 c15
          refine jj_iload (pc := 106) dX2_first_106 5 rfl ?_
          exact jj_iret (pc := 108) dX2_first_108 rfl h
      · replace h := h.2 c13
        refine jj_aload_n (pc := 76) dX2_first_76 1 rfl ?_
        refine jj_getR (pc := 77) (ci := 2) (k := 1) dX2_first_77 rfl rfl (by decide) rfl lk_RX2_18 ?_
        refine jj_iload_n (pc := 80) dX2_first_80 4 rfl ?_
        refine jj_iload (pc := 81) dX2_first_81 0 rfl ?_
        refine jj_iast (pc := 83) dX2_first_83 rfl h.1 ?_
        replace h := h.2
        refine jj_iinc (pc := 84) (v := a3 + 1) (l2 := [(3, .int (a3 + 1)), (5, .int v11), (0, .ref 35), (1, .ref 1), (2, .int a2), (4, .int a4)]) dX2_first_84 4 rfl rfl (by decide) rfl ?_
        refine jj_goto (pc := 87) (tgt := 109) dX2_first_87 (by decide) ?_
        refine jj_iinc (pc := 109) (v := a4 + 1) (l2 := [(4, .int (a4 + 1)), (3, .int (a3 + 1)), (5, .int v11), (0, .ref 35), (1, .ref 1), (2, .int a2)]) dX2_first_109 5 rfl rfl (by decide) rfl ?_
        refine jj_goto (pc := 112) (tgt := 13) dX2_first_112 (by decide) ?_
        exact jj_sub [3, 4, 5, 1, 0] rfl h
    · replace h := h.2 c4
      refine jj_goto (pc := 33) (tgt := 109) dX2_first_33 (by decide) ?_
      refine jj_iinc (pc := 109) (v := a4 + 1) (l2 := [(4, .int (a4 + 1)), (0, .ref 35), (1, .ref 1), (2, .int a2), (3, .int a3)]) dX2_first_109 4 rfl rfl (by decide) rfl ?_
      refine jj_goto (pc := 112) (tgt := 13) dX2_first_112 (by decide) ?_
      exact jj_sub [1, 2, 3, 4, 0] rfl h
set_option maxRecDepth 100000 in
set_option maxHeartbeats 4000000 in
theorem vc_X2_lay_0 {K : jj_K} (R : wo_T → Prop) (r1 : Nat) (hr1 : wo_lay[r1]? = some (.inr (1, 11, 0, 0))) (a3 : Int32) (a4 : Int32) (w : wo_T)
    (h : jj_J K mX2_lay (jj_Rv R) 3 [(0, .ref 35), (1, .ref r1), (2, .ref 1), (3, .int a3), (4, .int a4), (5, .int 0)] [] w) :
    jj_J K mX2_lay (jj_Rv R) 0 [(0, .ref 35), (1, .ref r1), (2, .ref 1), (3, .int a3), (4, .int a4)] [] w := by
  refine jj_iconst (pc := 0) (v := 0) dX2_lay_0 (by decide) ?_
  refine jj_istore (pc := 1) (l2 := [(5, .int 0), (0, .ref 35), (1, .ref r1), (2, .ref 1), (3, .int a3), (4, .int a4)]) dX2_lay_1 (by decide) rfl ?_
  exact jj_sub [1, 2, 3, 4, 5, 0] rfl h
theorem en_X2_lay {K : jj_K} (R : wo_T → Prop) (r1 : Nat) (hr1 : wo_lay[r1]? = some (.inr (1, 11, 0, 0))) (a3 : Int32) (a4 : Int32) (w : wo_T)
    (h : jj_J K mX2_lay (jj_Rv R) 3 [(0, .ref 35), (1, .ref r1), (2, .ref 1), (3, .int a3), (4, .int a4), (5, .int 0)] [] w) : jj_Cv K mX2_lay [.ref 35, .ref r1, .ref 1, .int a3, .int a4] w R :=
  jj_Cv_intro pn_RX2 (Nat.le_of_ble_eq_true rfl) (vc_X2_lay_0 R r1 hr1 a3 a4 w h)
set_option maxRecDepth 100000 in
set_option maxHeartbeats 4000000 in
theorem vc_X2_lay_3 {K : jj_K} (R : wo_T → Prop) (r1 : Nat) (hr1 : wo_lay[r1]? = some (.inr (1, 11, 0, 0))) (a1 : Nat) (ha1 : wo_lay[a1]? = some (.inr (1, 11, 0, 0))) (a3 : Int32) (a4 : Int32) (a5 : Int32) (w : wo_T)
    (h : ((w.1 35 2) ≤ a5 → vp_in a4 10 ∧ (vp_in (w.1 35 2) 11 ∧ (R (wo_l w a1 (w.1 35 2).toNatClampNeg ((-(w.1 4 a4.toNatClampNeg)).toInt64))))) ∧ (¬ (w.1 35 2) ≤ a5 → (¬ ((a3 >>> (a5 &&& 31)) &&& 1) = 0 → jj_Ci K mX3_brought [.ref 1, .int a5, .int a4] w (fun v3 w4 => vp_in a5 11 ∧ (jj_J K mX2_lay (jj_Rv R) 3 [(0, .ref 35), (1, .ref a1), (2, .ref 1), (3, .int a3), (4, .int a4), (5, .int (a5 + 1))] [] (wo_l w4 a1 a5.toNatClampNeg v3.toInt64)))) ∧ (((a3 >>> (a5 &&& 31)) &&& 1) = 0 → vp_in a5 11 ∧ (jj_J K mX2_lay (jj_Rv R) 3 [(0, .ref 35), (1, .ref a1), (2, .ref 1), (3, .int a3), (4, .int a4), (5, .int (a5 + 1))] [] (wo_l w a1 a5.toNatClampNeg 0))))) :
    jj_J K mX2_lay (jj_Rv R) 3 [(0, .ref 35), (1, .ref a1), (2, .ref 1), (3, .int a3), (4, .int a4), (5, .int a5)] [] w := by
  refine jj_iload (pc := 3) dX2_lay_3 5 rfl ?_
  refine jj_aload_n (pc := 5) dX2_lay_5 0 rfl ?_
  refine jj_getI (pc := 6) (ci := 2) (k := 2) dX2_lay_6 rfl rfl (by decide) rfl lk_RX2_28 ?_
  refine jj_icmp_ge (pc := 9) (tgt := 44) dX2_lay_9 (by decide) (fun c1 => ?_) (fun c1 => ?_)
  · replace h := h.1 c1
    refine jj_aload_n (pc := 44) dX2_lay_44 1 rfl ?_
    refine jj_aload_n (pc := 45) dX2_lay_45 0 rfl ?_
    refine jj_getI (pc := 46) (ci := 2) (k := 2) dX2_lay_46 rfl rfl (by decide) rfl lk_RX2_28 ?_
    refine jj_aload_n (pc := 49) dX2_lay_49 2 rfl ?_
    refine jj_getR (pc := 50) (ci := 3) (k := 2) dX2_lay_50 rfl rfl (by decide) rfl lk_RX2_55 ?_
    refine jj_iload (pc := 53) dX2_lay_53 4 rfl ?_
    refine jj_iald (pc := 55) dX2_lay_55 rfl h.1 ?_
    replace h := h.2
    refine jj_ineg (pc := 56) dX2_lay_56 ?_
    refine jj_i2l (pc := 57) dX2_lay_57 ?_
    refine jj_last (pc := 58) dX2_lay_58 ha1 h.1 ?_
    replace h := h.2
    exact jj_vret (pc := 59) dX2_lay_59 rfl h
  · replace h := h.2 c1
    refine jj_aload_n (pc := 12) dX2_lay_12 1 rfl ?_
    refine jj_iload (pc := 13) dX2_lay_13 5 rfl ?_
    refine jj_iload_n (pc := 15) dX2_lay_15 3 rfl ?_
    refine jj_iload (pc := 16) dX2_lay_16 5 rfl ?_
    refine jj_ishr (pc := 18) dX2_lay_18 ?_
    refine jj_iconst (pc := 19) (v := 1) dX2_lay_19 (by decide) ?_
    refine jj_iand (pc := 20) dX2_lay_20 ?_
    refine jj_if_ne (pc := 21) (tgt := 28) dX2_lay_21 (by decide) (fun c2 => ?_) (fun c2 => ?_)
    · replace h := h.1 c2
      refine jj_aload_n (pc := 28) dX2_lay_28 2 rfl ?_
      refine jj_iload (pc := 29) dX2_lay_29 5 rfl ?_
      refine jj_iload (pc := 31) dX2_lay_31 4 rfl ?_
      refine jj_callVi (pc := 33) (N := mX3_brought) (as := [.int a5, .int a4]) (st := [.int a5, .ref a1]) dX2_lay_33 rfl rfl rfl lk_RX2_51 hv_X3_brought rfl rfl h (fun v3 w4 h => ?_)
      refine jj_i2l (pc := 36) dX2_lay_36 ?_
      refine jj_last (pc := 37) dX2_lay_37 ha1 h.1 ?_
      replace h := h.2
      refine jj_iinc (pc := 38) (v := a5 + 1) (l2 := [(5, .int (a5 + 1)), (0, .ref 35), (1, .ref a1), (2, .ref 1), (3, .int a3), (4, .int a4)]) dX2_lay_38 5 rfl rfl (by decide) rfl ?_
      refine jj_goto (pc := 41) (tgt := 3) dX2_lay_41 (by decide) ?_
      exact jj_sub [1, 2, 3, 4, 5, 0] rfl h
    · replace h := h.2 c2
      refine jj_lconst (pc := 24) (v := 0) dX2_lay_24 (by decide) ?_
      refine jj_goto (pc := 25) (tgt := 37) dX2_lay_25 (by decide) ?_
      refine jj_last (pc := 37) dX2_lay_37 ha1 h.1 ?_
      replace h := h.2
      refine jj_iinc (pc := 38) (v := a5 + 1) (l2 := [(5, .int (a5 + 1)), (0, .ref 35), (1, .ref a1), (2, .ref 1), (3, .int a3), (4, .int a4)]) dX2_lay_38 5 rfl rfl (by decide) rfl ?_
      refine jj_goto (pc := 41) (tgt := 3) dX2_lay_41 (by decide) ?_
      exact jj_sub [1, 2, 3, 4, 5, 0] rfl h
set_option maxRecDepth 100000 in
set_option maxHeartbeats 4000000 in
theorem vc_X2_reduce_0 {K : jj_K} (R : wo_T → Prop)  (a1 : Int32) (w : wo_T)
    (h : vp_in a1 10 ∧ (jj_J K mX2_reduce (jj_Rv R) 12 [(0, .ref 35), (1, .int a1), (2, .ref (37 + 1 * a1.toNatClampNeg)), (3, .long 1), (5, .int 0)] [] w)) :
    jj_J K mX2_reduce (jj_Rv R) 0 [(0, .ref 35), (1, .int a1)] [] w := by
  refine jj_aload_n (pc := 0) dX2_reduce_0 0 rfl ?_
  refine jj_getR (pc := 1) (ci := 2) (k := 0) dX2_reduce_1 rfl rfl (by decide) rfl lk_RX2_15 ?_
  refine jj_iload_n (pc := 4) dX2_reduce_4 1 rfl ?_
  refine jj_aald4 (pc := 5) dX2_reduce_5 rfl h.1 ?_
  have hb1 := h.1
  replace h := h.2
  refine jj_astore_n (pc := 6) (l2 := [(2, .ref (37 + 1 * a1.toNatClampNeg)), (0, .ref 35), (1, .int a1)]) dX2_reduce_6 (by decide) rfl ?_
  refine jj_lconst (pc := 7) (v := 1) dX2_reduce_7 (by decide) ?_
  refine jj_lstore_n (pc := 8) (l2 := [(3, .long 1), (2, .ref (37 + 1 * a1.toNatClampNeg)), (0, .ref 35), (1, .int a1)]) dX2_reduce_8 (by decide) rfl ?_
  refine jj_iconst (pc := 9) (v := 0) dX2_reduce_9 (by decide) ?_
  refine jj_istore (pc := 10) (l2 := [(5, .int 0), (3, .long 1), (2, .ref (37 + 1 * a1.toNatClampNeg)), (0, .ref 35), (1, .int a1)]) dX2_reduce_10 (by decide) rfl ?_
  exact jj_sub [3, 4, 2, 1, 0] rfl h
theorem en_X2_reduce {K : jj_K} (R : wo_T → Prop)  (a1 : Int32) (w : wo_T)
    (h : vp_in a1 10 ∧ (jj_J K mX2_reduce (jj_Rv R) 12 [(0, .ref 35), (1, .int a1), (2, .ref (37 + 1 * a1.toNatClampNeg)), (3, .long 1), (5, .int 0)] [] w)) : jj_Cv K mX2_reduce [.ref 35, .int a1] w R :=
  jj_Cv_intro pn_RX2 (Nat.le_of_ble_eq_true rfl) (vc_X2_reduce_0 R a1 w h)
set_option maxRecDepth 100000 in
set_option maxHeartbeats 4000000 in
theorem vc_X2_reduce_12 {K : jj_K} (R : wo_T → Prop)  (a1 : Int32) (a2 : Nat) (ha2 : wo_lay[a2]? = some (.inr (1, 11, 0, 0))) (a3 : Int64) (a5 : Int32) (w : wo_T)
    (h : (a1 ≤ a5 → R w) ∧ (¬ a1 ≤ a5 → (a3 = 0 → R w) ∧ (¬ a3 = 0 → vp_in a5 10 ∧ (vp_in a5 10 ∧ (vp_in (w.1 47 a5.toNatClampNeg) 11 ∧ (∀ x4 : Int64, x4 = w.2 (37 + 1 * a5.toNatClampNeg) (w.1 47 a5.toNatClampNeg).toNatClampNeg → (vp_in a5 10 ∧ (vp_in (w.1 47 a5.toNatClampNeg) 11 ∧ (∀ x5 : Int64, x5 = w.2 a2 (w.1 47 a5.toNatClampNeg).toNatClampNeg → (jj_J K mX2_reduce (jj_Rv R) 59 [(0, .ref 35), (1, .int a1), (2, .ref a2), (3, .long a3), (5, .int a5), (6, .ref (37 + 1 * a5.toNatClampNeg)), (7, .long x4), (9, .long x5), (11, .int 0)] [] w)))))))))) :
    jj_J K mX2_reduce (jj_Rv R) 12 [(0, .ref 35), (1, .int a1), (2, .ref a2), (3, .long a3), (5, .int a5)] [] w := by
  refine jj_iload (pc := 12) dX2_reduce_12 4 rfl ?_
  refine jj_iload_n (pc := 14) dX2_reduce_14 1 rfl ?_
  refine jj_icmp_ge (pc := 15) (tgt := 105) dX2_reduce_15 (by decide) (fun c1 => ?_) (fun c1 => ?_)
  · replace h := h.1 c1
    exact jj_vret (pc := 105) dX2_reduce_105 rfl h
  · replace h := h.2 c1
    refine jj_lload_n (pc := 18) dX2_reduce_18 3 rfl ?_
    refine jj_lconst (pc := 19) (v := 0) dX2_reduce_19 (by decide) ?_
    refine jj_lcmp_eq (pc := 20) (tgt := 105) dX2_reduce_20 dX2_reduce_21 (by decide) (fun c2 => ?_) (fun c2 => ?_)
    · replace h := h.1 c2
      exact jj_vret (pc := 105) dX2_reduce_105 rfl h
    · replace h := h.2 c2
      refine jj_aload_n (pc := 24) dX2_reduce_24 0 rfl ?_
      refine jj_getR (pc := 25) (ci := 2) (k := 0) dX2_reduce_25 rfl rfl (by decide) rfl lk_RX2_15 ?_
      refine jj_iload (pc := 28) dX2_reduce_28 4 rfl ?_
      refine jj_aald4 (pc := 30) dX2_reduce_30 rfl h.1 ?_
      have hb3 := h.1
      replace h := h.2
      refine jj_astore (pc := 31) (l2 := [(6, .ref (37 + 1 * a5.toNatClampNeg)), (0, .ref 35), (1, .int a1), (2, .ref a2), (3, .long a3), (5, .int a5)]) dX2_reduce_31 (by decide) rfl ?_
      refine jj_aload (pc := 33) dX2_reduce_33 0 rfl ?_
      refine jj_aload_n (pc := 35) dX2_reduce_35 1 rfl ?_
      refine jj_getR (pc := 36) (ci := 2) (k := 1) dX2_reduce_36 rfl rfl (by decide) rfl lk_RX2_18 ?_
      refine jj_iload (pc := 39) dX2_reduce_39 5 rfl ?_
      refine jj_iald (pc := 41) dX2_reduce_41 rfl h.1 ?_
      replace h := h.2
      refine jj_lald (pc := 42) dX2_reduce_42 (wo_l37 _ (wo_inlt hb3)) h.1 ?_
      replace h := h.2
      refine jj_nml (fun x4 ex4 => ?_)
      replace h := h x4 ex4
      refine jj_lstore (pc := 43) (l2 := [(7, .long x4), (6, .ref (37 + 1 * a5.toNatClampNeg)), (0, .ref 35), (1, .int a1), (2, .ref a2), (3, .long a3), (5, .int a5)]) dX2_reduce_43 (by decide) rfl ?_
      refine jj_aload_n (pc := 45) dX2_reduce_45 4 rfl ?_
      refine jj_aload_n (pc := 46) dX2_reduce_46 2 rfl ?_
      refine jj_getR (pc := 47) (ci := 2) (k := 1) dX2_reduce_47 rfl rfl (by decide) rfl lk_RX2_18 ?_
      refine jj_iload (pc := 50) dX2_reduce_50 6 rfl ?_
      refine jj_iald (pc := 52) dX2_reduce_52 rfl h.1 ?_
      replace h := h.2
      refine jj_lald (pc := 53) dX2_reduce_53 ha2 h.1 ?_
      replace h := h.2
      refine jj_nml (fun x5 ex5 => ?_)
      replace h := h x5 ex5
      refine jj_lstore (pc := 54) (l2 := [(9, .long x5), (7, .long x4), (6, .ref (37 + 1 * a5.toNatClampNeg)), (0, .ref 35), (1, .int a1), (2, .ref a2), (3, .long a3), (5, .int a5)]) dX2_reduce_54 (by decide) rfl ?_
      refine jj_iconst (pc := 56) (v := 0) dX2_reduce_56 (by decide) ?_
      refine jj_istore (pc := 57) (l2 := [(11, .int 0), (9, .long x5), (7, .long x4), (6, .ref (37 + 1 * a5.toNatClampNeg)), (0, .ref 35), (1, .int a1), (2, .ref a2), (3, .long a3), (5, .int a5)]) dX2_reduce_57 (by decide) rfl ?_
      exact jj_sub [4, 5, 6, 7, 8, 3, 2, 1, 0] rfl h
set_option maxRecDepth 100000 in
set_option maxHeartbeats 4000000 in
theorem vc_X2_reduce_59 {K : jj_K} (R : wo_T → Prop)  (a1 : Int32) (a2 : Nat) (ha2 : wo_lay[a2]? = some (.inr (1, 11, 0, 0))) (a3 : Int64) (a5 : Int32) (a6 : Nat) (ha6 : wo_lay[a6]? = some (.inr (1, 11, 0, 0))) (a7 : Int64) (a9 : Int64) (a11 : Int32) (w : wo_T)
    (h : ((w.1 35 2) < a11 → jj_J K mX2_reduce (jj_Rv R) 12 [(0, .ref 35), (1, .int a1), (2, .ref a2), (3, .long a7), (5, .int (a5 + 1))] [] w) ∧ (¬ (w.1 35 2) < a11 → vp_in a11 11 ∧ (vp_in a11 11 ∧ ((¬ a3 = 0) ∧ (vp_in a11 11 ∧ (jj_J K mX2_reduce (jj_Rv R) 59 [(0, .ref 35), (1, .int a1), (2, .ref a2), (3, .long a3), (5, .int a5), (6, .ref a6), (7, .long a7), (9, .long a9), (11, .int (a11 + 1))] [] (wo_l w a2 a11.toNatClampNeg (((a7 * (w.2 a2 a11.toNatClampNeg)) - (a9 * (w.2 a6 a11.toNatClampNeg))) / a3)))))))) :
    jj_J K mX2_reduce (jj_Rv R) 59 [(0, .ref 35), (1, .int a1), (2, .ref a2), (3, .long a3), (5, .int a5), (6, .ref a6), (7, .long a7), (9, .long a9), (11, .int a11)] [] w := by
  refine jj_iload (pc := 59) dX2_reduce_59 8 rfl ?_
  refine jj_aload_n (pc := 61) dX2_reduce_61 0 rfl ?_
  refine jj_getI (pc := 62) (ci := 2) (k := 2) dX2_reduce_62 rfl rfl (by decide) rfl lk_RX2_28 ?_
  refine jj_icmp_gt (pc := 65) (tgt := 96) dX2_reduce_65 (by decide) (fun c1 => ?_) (fun c1 => ?_)
  · replace h := h.1 c1
    refine jj_lload (pc := 96) dX2_reduce_96 6 rfl ?_
    refine jj_lstore_n (pc := 98) (l2 := [(3, .long a7), (0, .ref 35), (1, .int a1), (2, .ref a2), (5, .int a5), (6, .ref a6), (7, .long a7), (9, .long a9), (11, .int a11)]) dX2_reduce_98 (by decide) rfl ?_
    refine jj_iinc (pc := 99) (v := a5 + 1) (l2 := [(5, .int (a5 + 1)), (3, .long a7), (0, .ref 35), (1, .int a1), (2, .ref a2), (6, .ref a6), (7, .long a7), (9, .long a9), (11, .int a11)]) dX2_reduce_99 4 rfl rfl (by decide) rfl ?_
    refine jj_goto (pc := 102) (tgt := 12) dX2_reduce_102 (by decide) ?_
    exact jj_sub [2, 3, 4, 1, 0] rfl h
  · replace h := h.2 c1
    refine jj_aload_n (pc := 68) dX2_reduce_68 2 rfl ?_
    refine jj_iload (pc := 69) dX2_reduce_69 8 rfl ?_
    refine jj_lload (pc := 71) dX2_reduce_71 6 rfl ?_
    refine jj_aload_n (pc := 73) dX2_reduce_73 2 rfl ?_
    refine jj_iload (pc := 74) dX2_reduce_74 8 rfl ?_
    refine jj_lald (pc := 76) dX2_reduce_76 ha2 h.1 ?_
    replace h := h.2
    refine jj_lmul (pc := 77) dX2_reduce_77 ?_
    refine jj_lload (pc := 78) dX2_reduce_78 7 rfl ?_
    refine jj_aload (pc := 80) dX2_reduce_80 5 rfl ?_
    refine jj_iload (pc := 82) dX2_reduce_82 8 rfl ?_
    refine jj_lald (pc := 84) dX2_reduce_84 ha6 h.1 ?_
    replace h := h.2
    refine jj_lmul (pc := 85) dX2_reduce_85 ?_
    refine jj_lsub (pc := 86) dX2_reduce_86 ?_
    refine jj_lload_n (pc := 87) dX2_reduce_87 3 rfl ?_
    refine jj_ldiv (pc := 88) dX2_reduce_88 h.1 ?_
    replace h := h.2
    refine jj_last (pc := 89) dX2_reduce_89 ha2 h.1 ?_
    replace h := h.2
    refine jj_iinc (pc := 90) (v := a11 + 1) (l2 := [(11, .int (a11 + 1)), (0, .ref 35), (1, .int a1), (2, .ref a2), (3, .long a3), (5, .int a5), (6, .ref a6), (7, .long a7), (9, .long a9)]) dX2_reduce_90 8 rfl rfl (by decide) rfl ?_
    refine jj_goto (pc := 93) (tgt := 59) dX2_reduce_93 (by decide) ?_
    exact jj_sub [1, 2, 3, 4, 5, 6, 7, 8, 0] rfl h
set_option maxRecDepth 100000 in
set_option maxHeartbeats 4000000 in
theorem vc_X2_firstOther_0 {K : jj_K} (R : Int32 → wo_T → Prop) (r1 : Nat) (hr1 : wo_lay[r1]? = some (.inr (1, 11, 0, 0)))  (w : wo_T)
    (h : jj_J K mX2_firstOther (jj_Ri R) 2 [(0, .ref 35), (1, .ref r1), (2, .int 0)] [] w) :
    jj_J K mX2_firstOther (jj_Ri R) 0 [(0, .ref 35), (1, .ref r1)] [] w := by
  refine jj_iconst (pc := 0) (v := 0) dX2_firstOther_0 (by decide) ?_
  refine jj_istore_n (pc := 1) (l2 := [(2, .int 0), (0, .ref 35), (1, .ref r1)]) dX2_firstOther_1 (by decide) rfl ?_
  exact jj_sub [1, 2, 0] rfl h
theorem en_X2_firstOther {K : jj_K} (R : Int32 → wo_T → Prop) (r1 : Nat) (hr1 : wo_lay[r1]? = some (.inr (1, 11, 0, 0)))  (w : wo_T)
    (h : jj_J K mX2_firstOther (jj_Ri R) 2 [(0, .ref 35), (1, .ref r1), (2, .int 0)] [] w) : jj_Ci K mX2_firstOther [.ref 35, .ref r1] w R :=
  jj_Ci_intro pn_RX2 (Nat.le_of_ble_eq_true rfl) (vc_X2_firstOther_0 R r1 hr1 w h)
set_option maxRecDepth 100000 in
set_option maxHeartbeats 4000000 in
theorem vc_X2_firstOther_2 {K : jj_K} (R : Int32 → wo_T → Prop) (r1 : Nat) (hr1 : wo_lay[r1]? = some (.inr (1, 11, 0, 0))) (a1 : Nat) (ha1 : wo_lay[a1]? = some (.inr (1, 11, 0, 0))) (a2 : Int32) (w : wo_T)
    (h : ((w.1 35 2) ≤ a2 → R a2 w) ∧ (¬ (w.1 35 2) ≤ a2 → vp_in a2 11 ∧ ((¬ (w.2 a1 a2.toNatClampNeg) = 0 → R a2 w) ∧ ((w.2 a1 a2.toNatClampNeg) = 0 → jj_J K mX2_firstOther (jj_Ri R) 2 [(0, .ref 35), (1, .ref a1), (2, .int (a2 + 1))] [] w)))) :
    jj_J K mX2_firstOther (jj_Ri R) 2 [(0, .ref 35), (1, .ref a1), (2, .int a2)] [] w := by
  refine jj_iload_n (pc := 2) dX2_firstOther_2 2 rfl ?_
  refine jj_aload_n (pc := 3) dX2_firstOther_3 0 rfl ?_
  refine jj_getI (pc := 4) (ci := 2) (k := 2) dX2_firstOther_4 rfl rfl (by decide) rfl lk_RX2_28 ?_
  refine jj_icmp_ge (pc := 7) (tgt := 24) dX2_firstOther_7 (by decide) (fun c1 => ?_) (fun c1 => ?_)
  · replace h := h.1 c1
    refine jj_iload_n (pc := 24) dX2_firstOther_24 2 rfl ?_
    exact jj_iret (pc := 25) dX2_firstOther_25 rfl h
  · replace h := h.2 c1
    refine jj_aload_n (pc := 10) dX2_firstOther_10 1 rfl ?_
    refine jj_iload_n (pc := 11) dX2_firstOther_11 2 rfl ?_
    refine jj_lald (pc := 12) dX2_firstOther_12 ha1 h.1 ?_
    replace h := h.2
    refine jj_lconst (pc := 13) (v := 0) dX2_firstOther_13 (by decide) ?_
    refine jj_lcmp_ne (pc := 14) (tgt := 24) dX2_firstOther_14 dX2_firstOther_15 (by decide) (fun c2 => ?_) (fun c2 => ?_)
    · replace h := h.1 c2
      refine jj_iload_n (pc := 24) dX2_firstOther_24 2 rfl ?_
      exact jj_iret (pc := 25) dX2_firstOther_25 rfl h
    · replace h := h.2 c2
      refine jj_iinc (pc := 18) (v := a2 + 1) (l2 := [(2, .int (a2 + 1)), (0, .ref 35), (1, .ref a1)]) dX2_firstOther_18 2 rfl rfl (by decide) rfl ?_
      refine jj_goto (pc := 21) (tgt := 2) dX2_firstOther_21 (by decide) ?_
      exact jj_sub [1, 2, 0] rfl h
