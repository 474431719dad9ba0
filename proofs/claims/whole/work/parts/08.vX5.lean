set_option maxRecDepth 100000 in
set_option maxHeartbeats 4000000 in
theorem vc_X5_lay_0 {K : jj_K} (R : wo_T → Prop)  (a2 : Int32) (w : wo_T)
    (h : vp_in 0 8 ∧ (jj_Ci K mX3_pairs [.ref 1] w (fun v2 w3 => vp_in 0 8 ∧ (vp_in 0 8 ∧ (jj_J K mX5_lay (jj_Rv R) 37 [(0, .ref 8), (1, .ref 1), (2, .int a2), (3, .ref (10 + 1 * 0)), (4, .int 0)] [] (wo_l (wo_i (wo_i (wo_i w3 8 7 v2) 8 6 0) 20 0 0) 21 0 1)))))) :
    jj_J K mX5_lay (jj_Rv R) 0 [(0, .ref 8), (1, .ref 1), (2, .int a2)] [] w := by
  refine jj_aload_n (pc := 0) dX5_lay_0 0 rfl ?_
  refine jj_getR (pc := 1) (ci := 5) (k := 0) dX5_lay_1 rfl rfl (by decide) rfl lk_RX5_13 ?_
  refine jj_iconst (pc := 4) (v := 0) dX5_lay_4 (by decide) ?_
  refine jj_aald4 (pc := 5) dX5_lay_5 rfl h.1 ?_
  have hb1 := h.1
  replace h := h.2
  refine jj_astore_n (pc := 6) (l2 := [(3, .ref (10 + 1 * 0)), (0, .ref 8), (1, .ref 1), (2, .int a2)]) dX5_lay_6 (by decide) rfl ?_
  refine jj_aload_n (pc := 7) dX5_lay_7 1 rfl ?_
  refine jj_aload_n (pc := 8) dX5_lay_8 2 rfl ?_
  refine jj_callVi (pc := 9) (N := mX3_pairs) (as := []) (st := [.ref 8]) dX5_lay_9 rfl rfl rfl lk_RX5_33 hv_X3_pairs rfl rfl h (fun v2 w3 h => ?_)
  refine jj_putI (pc := 12) (ci := 5) (k := 7) (ty := .int) dX5_lay_12 rfl rfl (by decide) rfl lk_RX5_39 rfl (by decide) rfl rfl ?_
  refine jj_aload_n (pc := 15) dX5_lay_15 1 rfl ?_
  refine jj_iconst (pc := 16) (v := 0) dX5_lay_16 (by decide) ?_
  refine jj_putI (pc := 17) (ci := 5) (k := 6) (ty := .int) dX5_lay_17 rfl rfl (by decide) rfl lk_RX5_43 rfl (by decide) rfl rfl ?_
  refine jj_aload_n (pc := 20) dX5_lay_20 1 rfl ?_
  refine jj_getR (pc := 21) (ci := 5) (k := 3) dX5_lay_21 rfl rfl (by decide) rfl lk_RX5_23 ?_
  refine jj_iconst (pc := 24) (v := 0) dX5_lay_24 (by decide) ?_
  refine jj_iconst (pc := 25) (v := 0) dX5_lay_25 (by decide) ?_
  refine jj_iast (pc := 26) dX5_lay_26 rfl h.1 ?_
  replace h := h.2
  refine jj_aload_n (pc := 27) dX5_lay_27 1 rfl ?_
  refine jj_getR (pc := 28) (ci := 5) (k := 4) dX5_lay_28 rfl rfl (by decide) rfl lk_RX5_26 ?_
  refine jj_iconst (pc := 31) (v := 0) dX5_lay_31 (by decide) ?_
  refine jj_lconst (pc := 32) (v := 1) dX5_lay_32 (by decide) ?_
  refine jj_last (pc := 33) dX5_lay_33 rfl h.1 ?_
  replace h := h.2
  refine jj_iconst (pc := 34) (v := 0) dX5_lay_34 (by decide) ?_
  refine jj_istore (pc := 35) (l2 := [(4, .int 0), (3, .ref (10 + 1 * 0)), (0, .ref 8), (1, .ref 1), (2, .int a2)]) dX5_lay_35 (by decide) rfl ?_
  exact jj_sub [2, 3, 4, 1, 0] rfl h
theorem en_X5_lay {K : jj_K} (R : wo_T → Prop)  (a2 : Int32) (w : wo_T)
    (h : vp_in 0 8 ∧ (jj_Ci K mX3_pairs [.ref 1] w (fun v2 w3 => vp_in 0 8 ∧ (vp_in 0 8 ∧ (jj_J K mX5_lay (jj_Rv R) 37 [(0, .ref 8), (1, .ref 1), (2, .int a2), (3, .ref (10 + 1 * 0)), (4, .int 0)] [] (wo_l (wo_i (wo_i (wo_i w3 8 7 v2) 8 6 0) 20 0 0) 21 0 1)))))) : jj_Cv K mX5_lay [.ref 8, .ref 1, .int a2] w R :=
  jj_Cv_intro pn_RX5 (Nat.le_of_ble_eq_true rfl) (vc_X5_lay_0 R a2 w h)
set_option maxRecDepth 100000 in
set_option maxHeartbeats 4000000 in
theorem vc_X5_lay_37 {K : jj_K} (R : wo_T → Prop)  (a2 : Int32) (a3 : Nat) (ha3 : wo_lay[a3]? = some (.inr (1, 110, 0, 0))) (a4 : Int32) (w : wo_T)
    (h : ((2 * (w.1 1 6)) ≤ a4 → R w) ∧ (¬ (2 * (w.1 1 6)) ≤ a4 → jj_Ci K mX3_isFree [.ref 1, .int a4] w (fun v2 w3 => (¬ v2 = 0 → ∀ x5 : Int32, x5 = (w3.1 8 6) * 11 → (jj_J K mX5_lay (jj_Rv R) 72 [(0, .ref 8), (1, .ref 1), (2, .int a2), (3, .ref a3), (4, .int a4), (5, .int x5), (6, .int 0)] [] w3)) ∧ (v2 = 0 → jj_J K mX5_lay (jj_Rv R) 37 [(0, .ref 8), (1, .ref 1), (2, .int a2), (3, .ref a3), (4, .int (a4 + 1))] [] w3)))) :
    jj_J K mX5_lay (jj_Rv R) 37 [(0, .ref 8), (1, .ref 1), (2, .int a2), (3, .ref a3), (4, .int a4)] [] w := by
  refine jj_iload (pc := 37) dX5_lay_37 4 rfl ?_
  refine jj_iconst (pc := 39) (v := 2) dX5_lay_39 (by decide) ?_
  refine jj_aload_n (pc := 40) dX5_lay_40 1 rfl ?_
  refine jj_getI (pc := 41) (ci := 3) (k := 6) dX5_lay_41 rfl rfl (by decide) rfl lk_RX5_46 ?_
  refine jj_imul (pc := 44) dX5_lay_44 ?_
  refine jj_icmp_ge (pc := 45) (tgt := 150) dX5_lay_45 (by decide) (fun c1 => ?_) (fun c1 => ?_)
  · replace h := h.1 c1
    exact jj_vret (pc := 150) dX5_lay_150 rfl h
  · replace h := h.2 c1
    refine jj_aload_n (pc := 48) dX5_lay_48 1 rfl ?_
    refine jj_iload (pc := 49) dX5_lay_49 4 rfl ?_
    refine jj_callVi (pc := 51) (N := mX3_isFree) (as := [.int a4]) (st := []) dX5_lay_51 rfl rfl rfl lk_RX5_49 hv_X3_isFree rfl rfl h (fun v2 w3 h => ?_)
    refine jj_if_ne (pc := 54) (tgt := 60) dX5_lay_54 (by decide) (fun c4 => ?_) (fun c4 => ?_)
    · replace h := h.1 c4
      refine jj_aload_n (pc := 60) dX5_lay_60 0 rfl ?_
      refine jj_getI (pc := 61) (ci := 5) (k := 6) dX5_lay_61 rfl rfl (by decide) rfl lk_RX5_43 ?_
      refine jj_bipush (pc := 64) (v := 11) dX5_lay_64 (by decide) ?_
      refine jj_imul (pc := 66) dX5_lay_66 ?_
      refine jj_nmi (fun x5 ex5 => ?_)
      replace h := h x5 ex5
      refine jj_istore (pc := 67) (l2 := [(5, .int x5), (0, .ref 8), (1, .ref 1), (2, .int a2), (3, .ref a3), (4, .int a4)]) dX5_lay_67 (by decide) rfl ?_
      refine jj_iconst (pc := 69) (v := 0) dX5_lay_69 (by decide) ?_
      refine jj_istore (pc := 70) (l2 := [(6, .int 0), (5, .int x5), (0, .ref 8), (1, .ref 1), (2, .int a2), (3, .ref a3), (4, .int a4)]) dX5_lay_70 (by decide) rfl ?_
      exact jj_sub [2, 3, 4, 5, 6, 1, 0] rfl h
    · replace h := h.2 c4
      refine jj_goto (pc := 57) (tgt := 144) dX5_lay_57 (by decide) ?_
      refine jj_iinc (pc := 144) (v := a4 + 1) (l2 := [(4, .int (a4 + 1)), (0, .ref 8), (1, .ref 1), (2, .int a2), (3, .ref a3)]) dX5_lay_144 4 rfl rfl (by decide) rfl ?_
      refine jj_goto (pc := 147) (tgt := 37) dX5_lay_147 (by decide) ?_
      exact jj_sub [1, 2, 3, 4, 0] rfl h
set_option maxRecDepth 100000 in
set_option maxHeartbeats 4000000 in
theorem vc_X5_lay_72 {K : jj_K} (R : wo_T → Prop)  (a2 : Int32) (a3 : Nat) (ha3 : wo_lay[a3]? = some (.inr (1, 110, 0, 0))) (a4 : Int32) (a5 : Int32) (a6 : Int32) (w : wo_T)
    (h : ((w.1 8 7) ≤ a6 → vp_in a4 10 ∧ (vp_in (a5 + (w.1 8 7)) 110 ∧ (jj_J K mX5_lay (jj_Rv R) 37 [(0, .ref 8), (1, .ref 1), (2, .int a2), (3, .ref a3), (4, .int (a4 + 1))] [] (wo_i (wo_l w a3 (a5 + (w.1 8 7)).toNatClampNeg ((-(w.1 4 a4.toNatClampNeg)).toInt64)) 8 6 (((wo_l w a3 (a5 + (w.1 8 7)).toNatClampNeg ((-(w.1 4 a4.toNatClampNeg)).toInt64)).1 8 6) + 1))))) ∧ (¬ (w.1 8 7) ≤ a6 → (¬ ((a2 >>> (a6 &&& 31)) &&& 1) = 0 → jj_Ci K mX3_brought [.ref 1, .int a6, .int a4] w (fun v3 w4 => vp_in (a5 + a6) 110 ∧ (jj_J K mX5_lay (jj_Rv R) 72 [(0, .ref 8), (1, .ref 1), (2, .int a2), (3, .ref a3), (4, .int a4), (5, .int a5), (6, .int (a6 + 1))] [] (wo_l w4 a3 (a5 + a6).toNatClampNeg v3.toInt64)))) ∧ (((a2 >>> (a6 &&& 31)) &&& 1) = 0 → vp_in (a5 + a6) 110 ∧ (jj_J K mX5_lay (jj_Rv R) 72 [(0, .ref 8), (1, .ref 1), (2, .int a2), (3, .ref a3), (4, .int a4), (5, .int a5), (6, .int (a6 + 1))] [] (wo_l w a3 (a5 + a6).toNatClampNeg 0))))) :
    jj_J K mX5_lay (jj_Rv R) 72 [(0, .ref 8), (1, .ref 1), (2, .int a2), (3, .ref a3), (4, .int a4), (5, .int a5), (6, .int a6)] [] w := by
  refine jj_iload (pc := 72) dX5_lay_72 6 rfl ?_
  refine jj_aload_n (pc := 74) dX5_lay_74 0 rfl ?_
  refine jj_getI (pc := 75) (ci := 5) (k := 7) dX5_lay_75 rfl rfl (by decide) rfl lk_RX5_39 ?_
  refine jj_icmp_ge (pc := 78) (tgt := 116) dX5_lay_78 (by decide) (fun c1 => ?_) (fun c1 => ?_)
  · replace h := h.1 c1
    refine jj_aload_n (pc := 116) dX5_lay_116 3 rfl ?_
    refine jj_iload (pc := 117) dX5_lay_117 5 rfl ?_
    refine jj_aload_n (pc := 119) dX5_lay_119 0 rfl ?_
    refine jj_getI (pc := 120) (ci := 5) (k := 7) dX5_lay_120 rfl rfl (by decide) rfl lk_RX5_39 ?_
    refine jj_iadd (pc := 123) dX5_lay_123 ?_
    refine jj_aload_n (pc := 124) dX5_lay_124 1 rfl ?_
    refine jj_getR (pc := 125) (ci := 3) (k := 2) dX5_lay_125 rfl rfl (by decide) rfl lk_RX5_57 ?_
    refine jj_iload (pc := 128) dX5_lay_128 4 rfl ?_
    refine jj_iald (pc := 130) dX5_lay_130 rfl h.1 ?_
    replace h := h.2
    refine jj_ineg (pc := 131) dX5_lay_131 ?_
    refine jj_i2l (pc := 132) dX5_lay_132 ?_
    refine jj_last (pc := 133) dX5_lay_133 ha3 h.1 ?_
    replace h := h.2
    refine jj_aload_n (pc := 134) dX5_lay_134 0 rfl ?_
    refine jj_dup (pc := 135) dX5_lay_135 rfl ?_
    refine jj_getI (pc := 136) (ci := 5) (k := 6) dX5_lay_136 rfl rfl (by decide) rfl lk_RX5_43 ?_
    refine jj_iconst (pc := 139) (v := 1) dX5_lay_139 (by decide) ?_
    refine jj_iadd (pc := 140) dX5_lay_140 ?_
    refine jj_putI (pc := 141) (ci := 5) (k := 6) (ty := .int) dX5_lay_141 rfl rfl (by decide) rfl lk_RX5_43 rfl (by decide) rfl rfl ?_
    refine jj_iinc (pc := 144) (v := a4 + 1) (l2 := [(4, .int (a4 + 1)), (0, .ref 8), (1, .ref 1), (2, .int a2), (3, .ref a3), (5, .int a5), (6, .int a6)]) dX5_lay_144 4 rfl rfl (by decide) rfl ?_
    refine jj_goto (pc := 147) (tgt := 37) dX5_lay_147 (by decide) ?_
    exact jj_sub [1, 2, 3, 4, 0] rfl h
  · replace h := h.2 c1
    refine jj_aload_n (pc := 81) dX5_lay_81 3 rfl ?_
    refine jj_iload (pc := 82) dX5_lay_82 5 rfl ?_
    refine jj_iload (pc := 84) dX5_lay_84 6 rfl ?_
    refine jj_iadd (pc := 86) dX5_lay_86 ?_
    refine jj_iload_n (pc := 87) dX5_lay_87 2 rfl ?_
    refine jj_iload (pc := 88) dX5_lay_88 6 rfl ?_
    refine jj_ishr (pc := 90) dX5_lay_90 ?_
    refine jj_iconst (pc := 91) (v := 1) dX5_lay_91 (by decide) ?_
    refine jj_iand (pc := 92) dX5_lay_92 ?_
    refine jj_if_ne (pc := 93) (tgt := 100) dX5_lay_93 (by decide) (fun c2 => ?_) (fun c2 => ?_)
    · replace h := h.1 c2
      refine jj_aload_n (pc := 100) dX5_lay_100 1 rfl ?_
      refine jj_iload (pc := 101) dX5_lay_101 6 rfl ?_
      refine jj_iload (pc := 103) dX5_lay_103 4 rfl ?_
      refine jj_callVi (pc := 105) (N := mX3_brought) (as := [.int a6, .int a4]) (st := [.int (a5 + a6), .ref a3]) dX5_lay_105 rfl rfl rfl lk_RX5_53 hv_X3_brought rfl rfl h (fun v3 w4 h => ?_)
      refine jj_i2l (pc := 108) dX5_lay_108 ?_
      refine jj_last (pc := 109) dX5_lay_109 ha3 h.1 ?_
      replace h := h.2
      refine jj_iinc (pc := 110) (v := a6 + 1) (l2 := [(6, .int (a6 + 1)), (0, .ref 8), (1, .ref 1), (2, .int a2), (3, .ref a3), (4, .int a4), (5, .int a5)]) dX5_lay_110 6 rfl rfl (by decide) rfl ?_
      refine jj_goto (pc := 113) (tgt := 72) dX5_lay_113 (by decide) ?_
      exact jj_sub [1, 2, 3, 4, 5, 6, 0] rfl h
    · replace h := h.2 c2
      refine jj_lconst (pc := 96) (v := 0) dX5_lay_96 (by decide) ?_
      refine jj_goto (pc := 97) (tgt := 109) dX5_lay_97 (by decide) ?_
      refine jj_last (pc := 109) dX5_lay_109 ha3 h.1 ?_
      replace h := h.2
      refine jj_iinc (pc := 110) (v := a6 + 1) (l2 := [(6, .int (a6 + 1)), (0, .ref 8), (1, .ref 1), (2, .int a2), (3, .ref a3), (4, .int a4), (5, .int a5)]) dX5_lay_110 6 rfl rfl (by decide) rfl ?_
      refine jj_goto (pc := 113) (tgt := 72) dX5_lay_113 (by decide) ?_
      exact jj_sub [1, 2, 3, 4, 5, 6, 0] rfl h
set_option maxRecDepth 100000 in
set_option maxHeartbeats 4000000 in
theorem vc_X5_enter_0 {K : jj_K} (R : Int32 → wo_T → Prop)  (a1 : Int32) (a2 : Int32) (w : wo_T)
    (h : jj_Ci K mX5_pivotRow [.ref 8, .int a1, .int a2] w (fun v1 w2 => (0 ≤ v1 → vp_in a1 8 ∧ (vp_in (a1 + 1) 8 ∧ (∀ x6 : Int32, x6 = v1 * 11 → (vp_in (x6 + a2) 110 ∧ (∀ x7 : Int64, x7 = w2.2 (10 + 1 * a1.toNatClampNeg) (x6 + a2).toNatClampNeg → (vp_in a1 8 ∧ (∀ x8 : Int64, x8 = w2.2 21 a1.toNatClampNeg → (vp_in a1 8 ∧ (∀ x9 : Int32, x9 = (w2.1 20 a1.toNatClampNeg) ||| ((1 : Int32) <<< (v1 &&& 31)) → (jj_J K mX5_enter (jj_Ri R) 69 [(0, .ref 8), (1, .int a1), (2, .int a2), (3, .int v1), (4, .ref (10 + 1 * a1.toNatClampNeg)), (5, .ref (10 + 1 * (a1 + 1).toNatClampNeg)), (6, .int x6), (7, .long x7), (9, .long x8), (11, .int x9), (12, .int 0)] [] w2)))))))))) ∧ (¬ 0 ≤ v1 → R 0 w2))) :
    jj_J K mX5_enter (jj_Ri R) 0 [(0, .ref 8), (1, .int a1), (2, .int a2)] [] w := by
  refine jj_aload_n (pc := 0) dX5_enter_0 0 rfl ?_
  refine jj_iload_n (pc := 1) dX5_enter_1 1 rfl ?_
  refine jj_iload_n (pc := 2) dX5_enter_2 2 rfl ?_
  refine jj_callVi (pc := 3) (N := mX5_pivotRow) (as := [.int a1, .int a2]) (st := []) dX5_enter_3 rfl rfl rfl lk_RX5_60 hv_X5_pivotRow rfl rfl h (fun v1 w2 h => ?_)
  refine jj_istore_n (pc := 6) (l2 := [(3, .int v1), (0, .ref 8), (1, .int a1), (2, .int a2)]) dX5_enter_6 (by decide) rfl ?_
  refine jj_iload_n (pc := 7) dX5_enter_7 0 rfl ?_
  refine jj_if_ge (pc := 8) (tgt := 13) dX5_enter_8 (by decide) (fun c3 => ?_) (fun c3 => ?_)
  · replace h := h.1 c3
    refine jj_aload_n (pc := 13) dX5_enter_13 1 rfl ?_
    refine jj_getR (pc := 14) (ci := 5) (k := 0) dX5_enter_14 rfl rfl (by decide) rfl lk_RX5_13 ?_
    refine jj_iload_n (pc := 17) dX5_enter_17 2 rfl ?_
    refine jj_aald4 (pc := 18) dX5_enter_18 rfl h.1 ?_
    have hb4 := h.1
    replace h := h.2
    refine jj_astore (pc := 19) (l2 := [(4, .ref (10 + 1 * a1.toNatClampNeg)), (3, .int v1), (0, .ref 8), (1, .int a1), (2, .int a2)]) dX5_enter_19 (by decide) rfl ?_
    refine jj_aload_n (pc := 21) dX5_enter_21 2 rfl ?_
    refine jj_getR (pc := 22) (ci := 5) (k := 0) dX5_enter_22 rfl rfl (by decide) rfl lk_RX5_13 ?_
    refine jj_iload_n (pc := 25) dX5_enter_25 3 rfl ?_
    refine jj_iconst (pc := 26) (v := 1) dX5_enter_26 (by decide) ?_
    refine jj_iadd (pc := 27) dX5_enter_27 ?_
    refine jj_aald4 (pc := 28) dX5_enter_28 rfl h.1 ?_
    have hb5 := h.1
    replace h := h.2
    refine jj_astore (pc := 29) (l2 := [(5, .ref (10 + 1 * (a1 + 1).toNatClampNeg)), (4, .ref (10 + 1 * a1.toNatClampNeg)), (3, .int v1), (0, .ref 8), (1, .int a1), (2, .int a2)]) dX5_enter_29 (by decide) rfl ?_
    refine jj_iload_n (pc := 31) dX5_enter_31 2 rfl ?_
    refine jj_bipush (pc := 32) (v := 11) dX5_enter_32 (by decide) ?_
    refine jj_imul (pc := 34) dX5_enter_34 ?_
    refine jj_nmi (fun x6 ex6 => ?_)
    replace h := h x6 ex6
    refine jj_istore (pc := 35) (l2 := [(6, .int x6), (5, .ref (10 + 1 * (a1 + 1).toNatClampNeg)), (4, .ref (10 + 1 * a1.toNatClampNeg)), (3, .int v1), (0, .ref 8), (1, .int a1), (2, .int a2)]) dX5_enter_35 (by decide) rfl ?_
    refine jj_aload (pc := 37) dX5_enter_37 2 rfl ?_
    refine jj_iload (pc := 39) dX5_enter_39 0 rfl ?_
    refine jj_iload_n (pc := 41) dX5_enter_41 6 rfl ?_
    refine jj_iadd (pc := 42) dX5_enter_42 ?_
    refine jj_lald (pc := 43) dX5_enter_43 (wo_l10 _ (wo_inlt hb4)) h.1 ?_
    replace h := h.2
    refine jj_nml (fun x7 ex7 => ?_)
    replace h := h x7 ex7
    refine jj_lstore (pc := 44) (l2 := [(7, .long x7), (6, .int x6), (5, .ref (10 + 1 * (a1 + 1).toNatClampNeg)), (4, .ref (10 + 1 * a1.toNatClampNeg)), (3, .int v1), (0, .ref 8), (1, .int a1), (2, .int a2)]) dX5_enter_44 (by decide) rfl ?_
    refine jj_aload_n (pc := 46) dX5_enter_46 5 rfl ?_
    refine jj_getR (pc := 47) (ci := 5) (k := 4) dX5_enter_47 rfl rfl (by decide) rfl lk_RX5_26 ?_
    refine jj_iload_n (pc := 50) dX5_enter_50 6 rfl ?_
    refine jj_lald (pc := 51) dX5_enter_51 rfl h.1 ?_
    replace h := h.2
    refine jj_nml (fun x8 ex8 => ?_)
    replace h := h x8 ex8
    refine jj_lstore (pc := 52) (l2 := [(9, .long x8), (7, .long x7), (6, .int x6), (5, .ref (10 + 1 * (a1 + 1).toNatClampNeg)), (4, .ref (10 + 1 * a1.toNatClampNeg)), (3, .int v1), (0, .ref 8), (1, .int a1), (2, .int a2)]) dX5_enter_52 (by decide) rfl ?_
    refine jj_aload_n (pc := 54) dX5_enter_54 6 rfl ?_
    refine jj_getR (pc := 55) (ci := 5) (k := 3) dX5_enter_55 rfl rfl (by decide) rfl lk_RX5_23 ?_
    refine jj_iload_n (pc := 58) dX5_enter_58 7 rfl ?_
    refine jj_iald (pc := 59) dX5_enter_59 rfl h.1 ?_
    replace h := h.2
    refine jj_iconst (pc := 60) (v := 1) dX5_enter_60 (by decide) ?_
    refine jj_iload_n (pc := 61) dX5_enter_61 5 rfl ?_
    refine jj_ishl (pc := 62) dX5_enter_62 ?_
    refine jj_ior (pc := 63) dX5_enter_63 ?_
    refine jj_nmi (fun x9 ex9 => ?_)
    replace h := h x9 ex9
    refine jj_istore (pc := 64) (l2 := [(11, .int x9), (9, .long x8), (7, .long x7), (6, .int x6), (5, .ref (10 + 1 * (a1 + 1).toNatClampNeg)), (4, .ref (10 + 1 * a1.toNatClampNeg)), (3, .int v1), (0, .ref 8), (1, .int a1), (2, .int a2)]) dX5_enter_64 (by decide) rfl ?_
    refine jj_iconst (pc := 66) (v := 0) dX5_enter_66 (by decide) ?_
    refine jj_istore (pc := 67) (l2 := [(12, .int 0), (11, .int x9), (9, .long x8), (7, .long x7), (6, .int x6), (5, .ref (10 + 1 * (a1 + 1).toNatClampNeg)), (4, .ref (10 + 1 * a1.toNatClampNeg)), (3, .int v1), (0, .ref 8), (1, .int a1), (2, .int a2)]) dX5_enter_67 (by decide) rfl ?_
    exact jj_sub [8, 9, 10, 7, 6, 5, 4, 3, 2, 1, 0] rfl h
  · replace h := h.2 c3
    refine jj_iconst (pc := 11) (v := 0) dX5_enter_11 (by decide) ?_
    exact jj_zret (pc := 12) dX5_enter_12 rfl (Or.inl rfl) h
theorem en_X5_enter {K : jj_K} (R : Int32 → wo_T → Prop)  (a1 : Int32) (a2 : Int32) (w : wo_T)
    (h : jj_Ci K mX5_pivotRow [.ref 8, .int a1, .int a2] w (fun v1 w2 => (0 ≤ v1 → vp_in a1 8 ∧ (vp_in (a1 + 1) 8 ∧ (∀ x6 : Int32, x6 = v1 * 11 → (vp_in (x6 + a2) 110 ∧ (∀ x7 : Int64, x7 = w2.2 (10 + 1 * a1.toNatClampNeg) (x6 + a2).toNatClampNeg → (vp_in a1 8 ∧ (∀ x8 : Int64, x8 = w2.2 21 a1.toNatClampNeg → (vp_in a1 8 ∧ (∀ x9 : Int32, x9 = (w2.1 20 a1.toNatClampNeg) ||| ((1 : Int32) <<< (v1 &&& 31)) → (jj_J K mX5_enter (jj_Ri R) 69 [(0, .ref 8), (1, .int a1), (2, .int a2), (3, .int v1), (4, .ref (10 + 1 * a1.toNatClampNeg)), (5, .ref (10 + 1 * (a1 + 1).toNatClampNeg)), (6, .int x6), (7, .long x7), (9, .long x8), (11, .int x9), (12, .int 0)] [] w2)))))))))) ∧ (¬ 0 ≤ v1 → R 0 w2))) : jj_Ci K mX5_enter [.ref 8, .int a1, .int a2] w R :=
  jj_Ci_intro pn_RX5 (Nat.le_of_ble_eq_true rfl) (vc_X5_enter_0 R a1 a2 w h)
set_option maxRecDepth 100000 in
set_option maxHeartbeats 4000000 in
theorem vc_X5_enter_69 {K : jj_K} (R : Int32 → wo_T → Prop)  (a1 : Int32) (a2 : Int32) (a3 : Int32) (a4 : Nat) (ha4 : wo_lay[a4]? = some (.inr (1, 110, 0, 0))) (a5 : Nat) (ha5 : wo_lay[a5]? = some (.inr (1, 110, 0, 0))) (a6 : Int32) (a7 : Int64) (a9 : Int64) (a11 : Int32) (a12 : Int32) (w : wo_T)
    (h : ((w.1 8 6) ≤ a12 → vp_in a1 8 ∧ (vp_in a1 8 ∧ (vp_in (a1 + 1) 8 ∧ (vp_in (a1 + 1) 8 ∧ (R 1 (wo_l (wo_i (wo_i (wo_i w 18 a1.toNatClampNeg a2) 19 a1.toNatClampNeg a3) 20 (a1 + 1).toNatClampNeg a11) 21 (a1 + 1).toNatClampNeg a7)))))) ∧ (¬ (w.1 8 6) ≤ a12 → (a9 = 0 → vp_in a1 8 ∧ (vp_in a1 8 ∧ (vp_in (a1 + 1) 8 ∧ (vp_in (a1 + 1) 8 ∧ (R 1 (wo_l (wo_i (wo_i (wo_i w 18 a1.toNatClampNeg a2) 19 a1.toNatClampNeg a3) 20 (a1 + 1).toNatClampNeg a11) 21 (a1 + 1).toNatClampNeg a7)))))) ∧ (¬ a9 = 0 → (((a11 >>> (a12 &&& 31)) &&& 1) = 0 → ∀ x4 : Int32, x4 = a12 * 11 → (vp_in (x4 + a2) 110 ∧ (∀ x5 : Int64, x5 = w.2 a4 (x4 + a2).toNatClampNeg → ∀ x6 : Int32, x6 = a2 + 1 → (jj_J K mX5_enter (jj_Ri R) 119 [(0, .ref 8), (1, .int a1), (2, .int a2), (3, .int a3), (4, .ref a4), (5, .ref a5), (6, .int a6), (7, .long a7), (9, .long a9), (11, .int a11), (12, .int a12), (13, .int x4), (14, .long x5), (16, .int x6)] [] w)))) ∧ (¬ ((a11 >>> (a12 &&& 31)) &&& 1) = 0 → jj_J K mX5_enter (jj_Ri R) 69 [(0, .ref 8), (1, .int a1), (2, .int a2), (3, .int a3), (4, .ref a4), (5, .ref a5), (6, .int a6), (7, .long a7), (9, .long a9), (11, .int a11), (12, .int (a12 + 1))] [] w)))) :
    jj_J K mX5_enter (jj_Ri R) 69 [(0, .ref 8), (1, .int a1), (2, .int a2), (3, .int a3), (4, .ref a4), (5, .ref a5), (6, .int a6), (7, .long a7), (9, .long a9), (11, .int a11), (12, .int a12)] [] w := by
  refine jj_iload (pc := 69) dX5_enter_69 10 rfl ?_
  refine jj_aload_n (pc := 71) dX5_enter_71 0 rfl ?_
  refine jj_getI (pc := 72) (ci := 5) (k := 6) dX5_enter_72 rfl rfl (by decide) rfl lk_RX5_43 ?_
  refine jj_icmp_ge (pc := 75) (tgt := 174) dX5_enter_75 (by decide) (fun c1 => ?_) (fun c1 => ?_)
  · replace h := h.1 c1
    refine jj_aload_n (pc := 174) dX5_enter_174 0 rfl ?_
    refine jj_getR (pc := 175) (ci := 5) (k := 1) dX5_enter_175 rfl rfl (by decide) rfl lk_RX5_16 ?_
    refine jj_iload_n (pc := 178) dX5_enter_178 1 rfl ?_
    refine jj_iload_n (pc := 179) dX5_enter_179 2 rfl ?_
    refine jj_iast (pc := 180) dX5_enter_180 rfl h.1 ?_
    replace h := h.2
    refine jj_aload_n (pc := 181) dX5_enter_181 0 rfl ?_
    refine jj_getR (pc := 182) (ci := 5) (k := 2) dX5_enter_182 rfl rfl (by decide) rfl lk_RX5_20 ?_
    refine jj_iload_n (pc := 185) dX5_enter_185 1 rfl ?_
    refine jj_iload_n (pc := 186) dX5_enter_186 3 rfl ?_
    refine jj_iast (pc := 187) dX5_enter_187 rfl h.1 ?_
    replace h := h.2
    refine jj_aload_n (pc := 188) dX5_enter_188 0 rfl ?_
    refine jj_getR (pc := 189) (ci := 5) (k := 3) dX5_enter_189 rfl rfl (by decide) rfl lk_RX5_23 ?_
    refine jj_iload_n (pc := 192) dX5_enter_192 1 rfl ?_
    refine jj_iconst (pc := 193) (v := 1) dX5_enter_193 (by decide) ?_
    refine jj_iadd (pc := 194) dX5_enter_194 ?_
    refine jj_iload (pc := 195) dX5_enter_195 9 rfl ?_
    refine jj_iast (pc := 197) dX5_enter_197 rfl h.1 ?_
    replace h := h.2
    refine jj_aload_n (pc := 198) dX5_enter_198 0 rfl ?_
    refine jj_getR (pc := 199) (ci := 5) (k := 4) dX5_enter_199 rfl rfl (by decide) rfl lk_RX5_26 ?_
    refine jj_iload_n (pc := 202) dX5_enter_202 1 rfl ?_
    refine jj_iconst (pc := 203) (v := 1) dX5_enter_203 (by decide) ?_
    refine jj_iadd (pc := 204) dX5_enter_204 ?_
    refine jj_lload (pc := 205) dX5_enter_205 7 rfl ?_
    refine jj_last (pc := 207) dX5_enter_207 rfl h.1 ?_
    replace h := h.2
    refine jj_iconst (pc := 208) (v := 1) dX5_enter_208 (by decide) ?_
    exact jj_zret (pc := 209) dX5_enter_209 rfl (Or.inr rfl) h
  · replace h := h.2 c1
    refine jj_lload (pc := 78) dX5_enter_78 8 rfl ?_
    refine jj_lconst (pc := 80) (v := 0) dX5_enter_80 (by decide) ?_
    refine jj_lcmp_eq (pc := 81) (tgt := 174) dX5_enter_81 dX5_enter_82 (by decide) (fun c2 => ?_) (fun c2 => ?_)
    · replace h := h.1 c2
      refine jj_aload_n (pc := 174) dX5_enter_174 0 rfl ?_
      refine jj_getR (pc := 175) (ci := 5) (k := 1) dX5_enter_175 rfl rfl (by decide) rfl lk_RX5_16 ?_
      refine jj_iload_n (pc := 178) dX5_enter_178 1 rfl ?_
      refine jj_iload_n (pc := 179) dX5_enter_179 2 rfl ?_
      refine jj_iast (pc := 180) dX5_enter_180 rfl h.1 ?_
      replace h := h.2
      refine jj_aload_n (pc := 181) dX5_enter_181 0 rfl ?_
      refine jj_getR (pc := 182) (ci := 5) (k := 2) dX5_enter_182 rfl rfl (by decide) rfl lk_RX5_20 ?_
      refine jj_iload_n (pc := 185) dX5_enter_185 1 rfl ?_
      refine jj_iload_n (pc := 186) dX5_enter_186 3 rfl ?_
      refine jj_iast (pc := 187) dX5_enter_187 rfl h.1 ?_
      replace h := h.2
      refine jj_aload_n (pc := 188) dX5_enter_188 0 rfl ?_
      refine jj_getR (pc := 189) (ci := 5) (k := 3) dX5_enter_189 rfl rfl (by decide) rfl lk_RX5_23 ?_
      refine jj_iload_n (pc := 192) dX5_enter_192 1 rfl ?_
      refine jj_iconst (pc := 193) (v := 1) dX5_enter_193 (by decide) ?_
      refine jj_iadd (pc := 194) dX5_enter_194 ?_
      refine jj_iload (pc := 195) dX5_enter_195 9 rfl ?_
      refine jj_iast (pc := 197) dX5_enter_197 rfl h.1 ?_
      replace h := h.2
      refine jj_aload_n (pc := 198) dX5_enter_198 0 rfl ?_
      refine jj_getR (pc := 199) (ci := 5) (k := 4) dX5_enter_199 rfl rfl (by decide) rfl lk_RX5_26 ?_
      refine jj_iload_n (pc := 202) dX5_enter_202 1 rfl ?_
      refine jj_iconst (pc := 203) (v := 1) dX5_enter_203 (by decide) ?_
      refine jj_iadd (pc := 204) dX5_enter_204 ?_
      refine jj_lload (pc := 205) dX5_enter_205 7 rfl ?_
      refine jj_last (pc := 207) dX5_enter_207 rfl h.1 ?_
      replace h := h.2
      refine jj_iconst (pc := 208) (v := 1) dX5_enter_208 (by decide) ?_
      exact jj_zret (pc := 209) dX5_enter_209 rfl (Or.inr rfl) h
    · replace h := h.2 c2
      refine jj_iload (pc := 85) dX5_enter_85 9 rfl ?_
      refine jj_iload (pc := 87) dX5_enter_87 10 rfl ?_
      refine jj_ishr (pc := 89) dX5_enter_89 ?_
      refine jj_iconst (pc := 90) (v := 1) dX5_enter_90 (by decide) ?_
      refine jj_iand (pc := 91) dX5_enter_91 ?_
      refine jj_if_eq (pc := 92) (tgt := 98) dX5_enter_92 (by decide) (fun c3 => ?_) (fun c3 => ?_)
      · replace h := h.1 c3
        refine jj_iload (pc := 98) dX5_enter_98 10 rfl ?_
        refine jj_bipush (pc := 100) (v := 11) dX5_enter_100 (by decide) ?_
        refine jj_imul (pc := 102) dX5_enter_102 ?_
        refine jj_nmi (fun x4 ex4 => ?_)
        replace h := h x4 ex4
        refine jj_istore (pc := 103) (l2 := [(13, .int x4), (0, .ref 8), (1, .int a1), (2, .int a2), (3, .int a3), (4, .ref a4), (5, .ref a5), (6, .int a6), (7, .long a7), (9, .long a9), (11, .int a11), (12, .int a12)]) dX5_enter_103 (by decide) rfl ?_
        refine jj_aload (pc := 105) dX5_enter_105 5 rfl ?_
        refine jj_iload (pc := 107) dX5_enter_107 0 rfl ?_
        refine jj_iload_n (pc := 109) dX5_enter_109 3 rfl ?_
        refine jj_iadd (pc := 110) dX5_enter_110 ?_
        refine jj_lald (pc := 111) dX5_enter_111 ha4 h.1 ?_
        replace h := h.2
        refine jj_nml (fun x5 ex5 => ?_)
        replace h := h x5 ex5
        refine jj_lstore (pc := 112) (l2 := [(14, .long x5), (13, .int x4), (0, .ref 8), (1, .int a1), (2, .int a2), (3, .int a3), (4, .ref a4), (5, .ref a5), (6, .int a6), (7, .long a7), (9, .long a9), (11, .int a11), (12, .int a12)]) dX5_enter_112 (by decide) rfl ?_
        refine jj_iload_n (pc := 114) dX5_enter_114 4 rfl ?_
        refine jj_iconst (pc := 115) (v := 1) dX5_enter_115 (by decide) ?_
        refine jj_iadd (pc := 116) dX5_enter_116 ?_
        refine jj_nmi (fun x6 ex6 => ?_)
        replace h := h x6 ex6
        refine jj_istore (pc := 117) (l2 := [(16, .int x6), (14, .long x5), (13, .int x4), (0, .ref 8), (1, .int a1), (2, .int a2), (3, .int a3), (4, .ref a4), (5, .ref a5), (6, .int a6), (7, .long a7), (9, .long a9), (11, .int a11), (12, .int a12)]) dX5_enter_117 (by decide) rfl ?_
        exact jj_sub [3, 4, 5, 6, 7, 8, 9, 10, 11, 12, 13, 2, 1, 0] rfl h
      · replace h := h.2 c3
        refine jj_goto (pc := 95) (tgt := 168) dX5_enter_95 (by decide) ?_
        refine jj_iinc (pc := 168) (v := a12 + 1) (l2 := [(12, .int (a12 + 1)), (0, .ref 8), (1, .int a1), (2, .int a2), (3, .int a3), (4, .ref a4), (5, .ref a5), (6, .int a6), (7, .long a7), (9, .long a9), (11, .int a11)]) dX5_enter_168 10 rfl rfl (by decide) rfl ?_
        refine jj_goto (pc := 171) (tgt := 69) dX5_enter_171 (by decide) ?_
        exact jj_sub [1, 2, 3, 4, 5, 6, 7, 8, 9, 10, 0] rfl h
set_option maxRecDepth 100000 in
set_option maxHeartbeats 4000000 in
theorem vc_X5_enter_119 {K : jj_K} (R : Int32 → wo_T → Prop)  (a1 : Int32) (a2 : Int32) (a3 : Int32) (a4 : Nat) (ha4 : wo_lay[a4]? = some (.inr (1, 110, 0, 0))) (a5 : Nat) (ha5 : wo_lay[a5]? = some (.inr (1, 110, 0, 0))) (a6 : Int32) (a7 : Int64) (a9 : Int64) (a11 : Int32) (a12 : Int32) (a13 : Int32) (a14 : Int64) (a16 : Int32) (w : wo_T)
    (h : ((w.1 8 7) < a16 → jj_J K mX5_enter (jj_Ri R) 69 [(0, .ref 8), (1, .int a1), (2, .int a2), (3, .int a3), (4, .ref a4), (5, .ref a5), (6, .int a6), (7, .long a7), (9, .long a9), (11, .int a11), (12, .int (a12 + 1))] [] w) ∧ (¬ (w.1 8 7) < a16 → vp_in (a13 + a16) 110 ∧ (vp_in (a6 + a16) 110 ∧ ((¬ a9 = 0) ∧ (vp_in (a13 + a16) 110 ∧ (jj_J K mX5_enter (jj_Ri R) 119 [(0, .ref 8), (1, .int a1), (2, .int a2), (3, .int a3), (4, .ref a4), (5, .ref a5), (6, .int a6), (7, .long a7), (9, .long a9), (11, .int a11), (12, .int a12), (13, .int a13), (14, .long a14), (16, .int (a16 + 1))] [] (wo_l w a5 (a13 + a16).toNatClampNeg (((a7 * (w.2 a4 (a13 + a16).toNatClampNeg)) - (a14 * (w.2 a4 (a6 + a16).toNatClampNeg))) / a9)))))))) :
    jj_J K mX5_enter (jj_Ri R) 119 [(0, .ref 8), (1, .int a1), (2, .int a2), (3, .int a3), (4, .ref a4), (5, .ref a5), (6, .int a6), (7, .long a7), (9, .long a9), (11, .int a11), (12, .int a12), (13, .int a13), (14, .long a14), (16, .int a16)] [] w := by
  refine jj_iload (pc := 119) dX5_enter_119 13 rfl ?_
  refine jj_aload_n (pc := 121) dX5_enter_121 0 rfl ?_
  refine jj_getI (pc := 122) (ci := 5) (k := 7) dX5_enter_122 rfl rfl (by decide) rfl lk_RX5_39 ?_
  refine jj_icmp_gt (pc := 125) (tgt := 168) dX5_enter_125 (by decide) (fun c1 => ?_) (fun c1 => ?_)
  · replace h := h.1 c1
    refine jj_iinc (pc := 168) (v := a12 + 1) (l2 := [(12, .int (a12 + 1)), (0, .ref 8), (1, .int a1), (2, .int a2), (3, .int a3), (4, .ref a4), (5, .ref a5), (6, .int a6), (7, .long a7), (9, .long a9), (11, .int a11), (13, .int a13), (14, .long a14), (16, .int a16)]) dX5_enter_168 10 rfl rfl (by decide) rfl ?_
    refine jj_goto (pc := 171) (tgt := 69) dX5_enter_171 (by decide) ?_
    exact jj_sub [1, 2, 3, 4, 5, 6, 7, 8, 9, 10, 0] rfl h
  · replace h := h.2 c1
    refine jj_aload (pc := 128) dX5_enter_128 5 rfl ?_
    refine jj_iload (pc := 130) dX5_enter_130 11 rfl ?_
    refine jj_iload (pc := 132) dX5_enter_132 13 rfl ?_
    refine jj_iadd (pc := 134) dX5_enter_134 ?_
    refine jj_lload (pc := 135) dX5_enter_135 7 rfl ?_
    refine jj_aload (pc := 137) dX5_enter_137 4 rfl ?_
    refine jj_iload (pc := 139) dX5_enter_139 11 rfl ?_
    refine jj_iload (pc := 141) dX5_enter_141 13 rfl ?_
    refine jj_iadd (pc := 143) dX5_enter_143 ?_
    refine jj_lald (pc := 144) dX5_enter_144 ha4 h.1 ?_
    replace h := h.2
    refine jj_lmul (pc := 145) dX5_enter_145 ?_
    refine jj_lload (pc := 146) dX5_enter_146 12 rfl ?_
    refine jj_aload (pc := 148) dX5_enter_148 4 rfl ?_
    refine jj_iload (pc := 150) dX5_enter_150 6 rfl ?_
    refine jj_iload (pc := 152) dX5_enter_152 13 rfl ?_
    refine jj_iadd (pc := 154) dX5_enter_154 ?_
    refine jj_lald (pc := 155) dX5_enter_155 ha4 h.1 ?_
    replace h := h.2
    refine jj_lmul (pc := 156) dX5_enter_156 ?_
    refine jj_lsub (pc := 157) dX5_enter_157 ?_
    refine jj_lload (pc := 158) dX5_enter_158 8 rfl ?_
    refine jj_ldiv (pc := 160) dX5_enter_160 h.1 ?_
    replace h := h.2
    refine jj_last (pc := 161) dX5_enter_161 ha5 h.1 ?_
    replace h := h.2
    refine jj_iinc (pc := 162) (v := a16 + 1) (l2 := [(16, .int (a16 + 1)), (0, .ref 8), (1, .int a1), (2, .int a2), (3, .int a3), (4, .ref a4), (5, .ref a5), (6, .int a6), (7, .long a7), (9, .long a9), (11, .int a11), (12, .int a12), (13, .int a13), (14, .long a14)]) dX5_enter_162 13 rfl rfl (by decide) rfl ?_
    refine jj_goto (pc := 165) (tgt := 119) dX5_enter_165 (by decide) ?_
    exact jj_sub [1, 2, 3, 4, 5, 6, 7, 8, 9, 10, 11, 12, 13, 0] rfl h
set_option maxRecDepth 100000 in
set_option maxHeartbeats 4000000 in
theorem vc_X5_pivotRow_0 {K : jj_K} (R : Int32 → wo_T → Prop)  (a1 : Int32) (a2 : Int32) (w : wo_T)
    (h : ((a1 + 1) < 8 → jj_J K mX5_pivotRow (jj_Ri R) 12 [(0, .ref 8), (1, .int a1), (2, .int a2), (3, .int 0)] [] w) ∧ (¬ (a1 + 1) < 8 → R (-1) w)) :
    jj_J K mX5_pivotRow (jj_Ri R) 0 [(0, .ref 8), (1, .int a1), (2, .int a2)] [] w := by
  refine jj_iload_n (pc := 0) dX5_pivotRow_0 1 rfl ?_
  refine jj_iconst (pc := 1) (v := 1) dX5_pivotRow_1 (by decide) ?_
  refine jj_iadd (pc := 2) dX5_pivotRow_2 ?_
  refine jj_bipush (pc := 3) (v := 8) dX5_pivotRow_3 (by decide) ?_
  refine jj_icmp_lt (pc := 5) (tgt := 10) dX5_pivotRow_5 (by decide) (fun c1 => ?_) (fun c1 => ?_)
  · replace h := h.1 c1
    refine jj_iconst (pc := 10) (v := 0) dX5_pivotRow_10 (by decide) ?_
    refine jj_istore_n (pc := 11) (l2 := [(3, .int 0), (0, .ref 8), (1, .int a1), (2, .int a2)]) dX5_pivotRow_11 (by decide) rfl ?_
    exact jj_sub [1, 2, 3, 0] rfl h
  · replace h := h.2 c1
    refine jj_iconst (pc := 8) (v := (-1)) dX5_pivotRow_8 (by decide) ?_
    exact jj_iret (pc := 9) dX5_pivotRow_9 rfl h
theorem en_X5_pivotRow {K : jj_K} (R : Int32 → wo_T → Prop)  (a1 : Int32) (a2 : Int32) (w : wo_T)
    (h : ((a1 + 1) < 8 → jj_J K mX5_pivotRow (jj_Ri R) 12 [(0, .ref 8), (1, .int a1), (2, .int a2), (3, .int 0)] [] w) ∧ (¬ (a1 + 1) < 8 → R (-1) w)) : jj_Ci K mX5_pivotRow [.ref 8, .int a1, .int a2] w R :=
  jj_Ci_intro pn_RX5 (Nat.le_of_ble_eq_true rfl) (vc_X5_pivotRow_0 R a1 a2 w h)
set_option maxRecDepth 100000 in
set_option maxHeartbeats 4000000 in
theorem vc_X5_pivotRow_12 {K : jj_K} (R : Int32 → wo_T → Prop)  (a1 : Int32) (a2 : Int32) (a3 : Int32) (w : wo_T)
    (h : ((w.1 8 6) ≤ a3 → R (-1) w) ∧ (¬ (w.1 8 6) ≤ a3 → vp_in a1 8 ∧ ((¬ (((w.1 20 a1.toNatClampNeg) >>> (a3 &&& 31)) &&& 1) = 0 → jj_J K mX5_pivotRow (jj_Ri R) 12 [(0, .ref 8), (1, .int a1), (2, .int a2), (3, .int (a3 + 1))] [] w) ∧ ((((w.1 20 a1.toNatClampNeg) >>> (a3 &&& 31)) &&& 1) = 0 → vp_in a1 8 ∧ (vp_in ((a3 * 11) + a2) 110 ∧ (((w.2 (10 + 1 * a1.toNatClampNeg) ((a3 * 11) + a2).toNatClampNeg) = 0 → jj_J K mX5_pivotRow (jj_Ri R) 12 [(0, .ref 8), (1, .int a1), (2, .int a2), (3, .int (a3 + 1))] [] w) ∧ (¬ (w.2 (10 + 1 * a1.toNatClampNeg) ((a3 * 11) + a2).toNatClampNeg) = 0 → R a3 w))))))) :
    jj_J K mX5_pivotRow (jj_Ri R) 12 [(0, .ref 8), (1, .int a1), (2, .int a2), (3, .int a3)] [] w := by
  refine jj_iload_n (pc := 12) dX5_pivotRow_12 3 rfl ?_
  refine jj_aload_n (pc := 13) dX5_pivotRow_13 0 rfl ?_
  refine jj_getI (pc := 14) (ci := 5) (k := 6) dX5_pivotRow_14 rfl rfl (by decide) rfl lk_RX5_43 ?_
  refine jj_icmp_ge (pc := 17) (tgt := 59) dX5_pivotRow_17 (by decide) (fun c1 => ?_) (fun c1 => ?_)
  · replace h := h.1 c1
    refine jj_iconst (pc := 59) (v := (-1)) dX5_pivotRow_59 (by decide) ?_
    exact jj_iret (pc := 60) dX5_pivotRow_60 rfl h
  · replace h := h.2 c1
    refine jj_aload_n (pc := 20) dX5_pivotRow_20 0 rfl ?_
    refine jj_getR (pc := 21) (ci := 5) (k := 3) dX5_pivotRow_21 rfl rfl (by decide) rfl lk_RX5_23 ?_
    refine jj_iload_n (pc := 24) dX5_pivotRow_24 1 rfl ?_
    refine jj_iald (pc := 25) dX5_pivotRow_25 rfl h.1 ?_
    replace h := h.2
    refine jj_iload_n (pc := 26) dX5_pivotRow_26 3 rfl ?_
    refine jj_ishr (pc := 27) dX5_pivotRow_27 ?_
    refine jj_iconst (pc := 28) (v := 1) dX5_pivotRow_28 (by decide) ?_
    refine jj_iand (pc := 29) dX5_pivotRow_29 ?_
    refine jj_if_ne (pc := 30) (tgt := 53) dX5_pivotRow_30 (by decide) (fun c2 => ?_) (fun c2 => ?_)
    · replace h := h.1 c2
      refine jj_iinc (pc := 53) (v := a3 + 1) (l2 := [(3, .int (a3 + 1)), (0, .ref 8), (1, .int a1), (2, .int a2)]) dX5_pivotRow_53 3 rfl rfl (by decide) rfl ?_
      refine jj_goto (pc := 56) (tgt := 12) dX5_pivotRow_56 (by decide) ?_
      exact jj_sub [1, 2, 3, 0] rfl h
    · replace h := h.2 c2
      refine jj_aload_n (pc := 33) dX5_pivotRow_33 0 rfl ?_
      refine jj_getR (pc := 34) (ci := 5) (k := 0) dX5_pivotRow_34 rfl rfl (by decide) rfl lk_RX5_13 ?_
      refine jj_iload_n (pc := 37) dX5_pivotRow_37 1 rfl ?_
      refine jj_aald4 (pc := 38) dX5_pivotRow_38 rfl h.1 ?_
      have hb3 := h.1
      replace h := h.2
      refine jj_iload_n (pc := 39) dX5_pivotRow_39 3 rfl ?_
      refine jj_bipush (pc := 40) (v := 11) dX5_pivotRow_40 (by decide) ?_
      refine jj_imul (pc := 42) dX5_pivotRow_42 ?_
      refine jj_iload_n (pc := 43) dX5_pivotRow_43 2 rfl ?_
      refine jj_iadd (pc := 44) dX5_pivotRow_44 ?_
      refine jj_lald (pc := 45) dX5_pivotRow_45 (wo_l10 _ (wo_inlt hb3)) h.1 ?_
      replace h := h.2
      refine jj_lconst (pc := 46) (v := 0) dX5_pivotRow_46 (by decide) ?_
      refine jj_lcmp_eq (pc := 47) (tgt := 53) dX5_pivotRow_47 dX5_pivotRow_48 (by decide) (fun c4 => ?_) (fun c4 => ?_)
      · replace h := h.1 c4
        refine jj_iinc (pc := 53) (v := a3 + 1) (l2 := [(3, .int (a3 + 1)), (0, .ref 8), (1, .int a1), (2, .int a2)]) dX5_pivotRow_53 3 rfl rfl (by decide) rfl ?_
        refine jj_goto (pc := 56) (tgt := 12) dX5_pivotRow_56 (by decide) ?_
        exact jj_sub [1, 2, 3, 0] rfl h
      · replace h := h.2 c4
        refine jj_iload_n (pc := 51) dX5_pivotRow_51 3 rfl ?_
        exact jj_iret (pc := 52) dX5_pivotRow_52 rfl h
set_option maxRecDepth 100000 in
set_option maxHeartbeats 4000000 in
theorem vc_X5_bears_0 {K : jj_K} (R : Int32 → wo_T → Prop)  (a1 : Int32) (w : wo_T)
    (h : jj_J K mX5_bears (jj_Ri R) 2 [(0, .ref 8), (1, .int a1), (2, .int 0)] [] w) :
    jj_J K mX5_bears (jj_Ri R) 0 [(0, .ref 8), (1, .int a1)] [] w := by
  refine jj_iconst (pc := 0) (v := 0) dX5_bears_0 (by decide) ?_
  refine jj_istore_n (pc := 1) (l2 := [(2, .int 0), (0, .ref 8), (1, .int a1)]) dX5_bears_1 (by decide) rfl ?_
  exact jj_sub [1, 2, 0] rfl h
theorem en_X5_bears {K : jj_K} (R : Int32 → wo_T → Prop)  (a1 : Int32) (w : wo_T)
    (h : jj_J K mX5_bears (jj_Ri R) 2 [(0, .ref 8), (1, .int a1), (2, .int 0)] [] w) : jj_Ci K mX5_bears [.ref 8, .int a1] w R :=
  jj_Ci_intro pn_RX5 (Nat.le_of_ble_eq_true rfl) (vc_X5_bears_0 R a1 w h)
set_option maxRecDepth 100000 in
set_option maxHeartbeats 4000000 in
theorem vc_X5_bears_2 {K : jj_K} (R : Int32 → wo_T → Prop)  (a1 : Int32) (a2 : Int32) (w : wo_T)
    (h : ((w.1 8 6) ≤ a2 → R 1 w) ∧ (¬ (w.1 8 6) ≤ a2 → vp_in a1 8 ∧ ((¬ (((w.1 20 a1.toNatClampNeg) >>> (a2 &&& 31)) &&& 1) = 0 → jj_J K mX5_bears (jj_Ri R) 2 [(0, .ref 8), (1, .int a1), (2, .int (a2 + 1))] [] w) ∧ ((((w.1 20 a1.toNatClampNeg) >>> (a2 &&& 31)) &&& 1) = 0 → vp_in a1 8 ∧ (vp_in ((a2 * 11) + (w.1 8 7)) 110 ∧ (((w.2 (10 + 1 * a1.toNatClampNeg) ((a2 * 11) + (w.1 8 7)).toNatClampNeg) = 0 → jj_J K mX5_bears (jj_Ri R) 2 [(0, .ref 8), (1, .int a1), (2, .int (a2 + 1))] [] w) ∧ (¬ (w.2 (10 + 1 * a1.toNatClampNeg) ((a2 * 11) + (w.1 8 7)).toNatClampNeg) = 0 → R 0 w))))))) :
    jj_J K mX5_bears (jj_Ri R) 2 [(0, .ref 8), (1, .int a1), (2, .int a2)] [] w := by
  refine jj_iload_n (pc := 2) dX5_bears_2 2 rfl ?_
  refine jj_aload_n (pc := 3) dX5_bears_3 0 rfl ?_
  refine jj_getI (pc := 4) (ci := 5) (k := 6) dX5_bears_4 rfl rfl (by decide) rfl lk_RX5_43 ?_
  refine jj_icmp_ge (pc := 7) (tgt := 52) dX5_bears_7 (by decide) (fun c1 => ?_) (fun c1 => ?_)
  · replace h := h.1 c1
    refine jj_iconst (pc := 52) (v := 1) dX5_bears_52 (by decide) ?_
    exact jj_zret (pc := 53) dX5_bears_53 rfl (Or.inr rfl) h
  · replace h := h.2 c1
    refine jj_aload_n (pc := 10) dX5_bears_10 0 rfl ?_
    refine jj_getR (pc := 11) (ci := 5) (k := 3) dX5_bears_11 rfl rfl (by decide) rfl lk_RX5_23 ?_
    refine jj_iload_n (pc := 14) dX5_bears_14 1 rfl ?_
    refine jj_iald (pc := 15) dX5_bears_15 rfl h.1 ?_
    replace h := h.2
    refine jj_iload_n (pc := 16) dX5_bears_16 2 rfl ?_
    refine jj_ishr (pc := 17) dX5_bears_17 ?_
    refine jj_iconst (pc := 18) (v := 1) dX5_bears_18 (by decide) ?_
    refine jj_iand (pc := 19) dX5_bears_19 ?_
    refine jj_if_ne (pc := 20) (tgt := 46) dX5_bears_20 (by decide) (fun c2 => ?_) (fun c2 => ?_)
    · replace h := h.1 c2
      refine jj_iinc (pc := 46) (v := a2 + 1) (l2 := [(2, .int (a2 + 1)), (0, .ref 8), (1, .int a1)]) dX5_bears_46 2 rfl rfl (by decide) rfl ?_
      refine jj_goto (pc := 49) (tgt := 2) dX5_bears_49 (by decide) ?_
      exact jj_sub [1, 2, 0] rfl h
    · replace h := h.2 c2
      refine jj_aload_n (pc := 23) dX5_bears_23 0 rfl ?_
      refine jj_getR (pc := 24) (ci := 5) (k := 0) dX5_bears_24 rfl rfl (by decide) rfl lk_RX5_13 ?_
      refine jj_iload_n (pc := 27) dX5_bears_27 1 rfl ?_
      refine jj_aald4 (pc := 28) dX5_bears_28 rfl h.1 ?_
      have hb3 := h.1
      replace h := h.2
      refine jj_iload_n (pc := 29) dX5_bears_29 2 rfl ?_
      refine jj_bipush (pc := 30) (v := 11) dX5_bears_30 (by decide) ?_
      refine jj_imul (pc := 32) dX5_bears_32 ?_
      refine jj_aload_n (pc := 33) dX5_bears_33 0 rfl ?_
      refine jj_getI (pc := 34) (ci := 5) (k := 7) dX5_bears_34 rfl rfl (by decide) rfl lk_RX5_39 ?_
      refine jj_iadd (pc := 37) dX5_bears_37 ?_
      refine jj_lald (pc := 38) dX5_bears_38 (wo_l10 _ (wo_inlt hb3)) h.1 ?_
      replace h := h.2
      refine jj_lconst (pc := 39) (v := 0) dX5_bears_39 (by decide) ?_
      refine jj_lcmp_eq (pc := 40) (tgt := 46) dX5_bears_40 dX5_bears_41 (by decide) (fun c4 => ?_) (fun c4 => ?_)
      · replace h := h.1 c4
        refine jj_iinc (pc := 46) (v := a2 + 1) (l2 := [(2, .int (a2 + 1)), (0, .ref 8), (1, .int a1)]) dX5_bears_46 2 rfl rfl (by decide) rfl ?_
        refine jj_goto (pc := 49) (tgt := 2) dX5_bears_49 (by decide) ?_
        exact jj_sub [1, 2, 0] rfl h
      · replace h := h.2 c4
        refine jj_iconst (pc := 44) (v := 0) dX5_bears_44 (by decide) ?_
        exact jj_zret (pc := 45) dX5_bears_45 rfl (Or.inl rfl) h
set_option maxRecDepth 100000 in
set_option maxHeartbeats 4000000 in
theorem vc_X5_solve_0 {K : jj_K} (R : wo_T → Prop)  (a1 : Int32) (w : wo_T)
    (h : ∀ x1 : Int32, x1 = a1 - 1 → (jj_J K mX5_solve (jj_Rv R) 4 [(0, .ref 8), (1, .int a1), (2, .int x1)] [] w)) :
    jj_J K mX5_solve (jj_Rv R) 0 [(0, .ref 8), (1, .int a1)] [] w := by
  refine jj_iload_n (pc := 0) dX5_solve_0 1 rfl ?_
  refine jj_iconst (pc := 1) (v := 1) dX5_solve_1 (by decide) ?_
  refine jj_isub (pc := 2) dX5_solve_2 ?_
  refine jj_nmi (fun x1 ex1 => ?_)
  replace h := h x1 ex1
  refine jj_istore_n (pc := 3) (l2 := [(2, .int x1), (0, .ref 8), (1, .int a1)]) dX5_solve_3 (by decide) rfl ?_
  exact jj_sub [1, 2, 0] rfl h
theorem en_X5_solve {K : jj_K} (R : wo_T → Prop)  (a1 : Int32) (w : wo_T)
    (h : ∀ x1 : Int32, x1 = a1 - 1 → (jj_J K mX5_solve (jj_Rv R) 4 [(0, .ref 8), (1, .int a1), (2, .int x1)] [] w)) : jj_Cv K mX5_solve [.ref 8, .int a1] w R :=
  jj_Cv_intro pn_RX5 (Nat.le_of_ble_eq_true rfl) (vc_X5_solve_0 R a1 w h)
set_option maxRecDepth 100000 in
set_option maxHeartbeats 4000000 in
theorem vc_X5_solve_4 {K : jj_K} (R : wo_T → Prop)  (a1 : Int32) (a2 : Int32) (w : wo_T)
    (h : (a2 < 0 → R w) ∧ (¬ a2 < 0 → vp_in a2 8 ∧ (vp_in a2 8 ∧ (∀ x3 : Int32, x3 = (w.1 19 a2.toNatClampNeg) * 11 → (vp_in a1 8 ∧ (vp_in (x3 + (w.1 8 7)) 110 ∧ (∀ x4 : Int64, x4 = (w.2 21 a1.toNatClampNeg) * (w.2 (10 + 1 * a2.toNatClampNeg) (x3 + (w.1 8 7)).toNatClampNeg) → ∀ x5 : Int32, x5 = a2 + 1 → (jj_J K mX5_solve (jj_Rv R) 49 [(0, .ref 8), (1, .int a1), (2, .int a2), (3, .ref (10 + 1 * a2.toNatClampNeg)), (4, .int x3), (5, .long x4), (7, .int x5)] [] w)))))))) :
    jj_J K mX5_solve (jj_Rv R) 4 [(0, .ref 8), (1, .int a1), (2, .int a2)] [] w := by
  refine jj_iload_n (pc := 4) dX5_solve_4 2 rfl ?_
  refine jj_if_lt (pc := 5) (tgt := 127) dX5_solve_5 (by decide) (fun c1 => ?_) (fun c1 => ?_)
  · replace h := h.1 c1
    exact jj_vret (pc := 127) dX5_solve_127 rfl h
  · replace h := h.2 c1
    refine jj_aload_n (pc := 8) dX5_solve_8 0 rfl ?_
    refine jj_getR (pc := 9) (ci := 5) (k := 0) dX5_solve_9 rfl rfl (by decide) rfl lk_RX5_13 ?_
    refine jj_iload_n (pc := 12) dX5_solve_12 2 rfl ?_
    refine jj_aald4 (pc := 13) dX5_solve_13 rfl h.1 ?_
    have hb2 := h.1
    replace h := h.2
    refine jj_astore_n (pc := 14) (l2 := [(3, .ref (10 + 1 * a2.toNatClampNeg)), (0, .ref 8), (1, .int a1), (2, .int a2)]) dX5_solve_14 (by decide) rfl ?_
    refine jj_aload_n (pc := 15) dX5_solve_15 1 rfl ?_
    refine jj_getR (pc := 16) (ci := 5) (k := 2) dX5_solve_16 rfl rfl (by decide) rfl lk_RX5_20 ?_
    refine jj_iload_n (pc := 19) dX5_solve_19 3 rfl ?_
    refine jj_iald (pc := 20) dX5_solve_20 rfl h.1 ?_
    replace h := h.2
    refine jj_bipush (pc := 21) (v := 11) dX5_solve_21 (by decide) ?_
    refine jj_imul (pc := 23) dX5_solve_23 ?_
    refine jj_nmi (fun x3 ex3 => ?_)
    replace h := h x3 ex3
    refine jj_istore (pc := 24) (l2 := [(4, .int x3), (3, .ref (10 + 1 * a2.toNatClampNeg)), (0, .ref 8), (1, .int a1), (2, .int a2)]) dX5_solve_24 (by decide) rfl ?_
    refine jj_aload_n (pc := 26) dX5_solve_26 2 rfl ?_
    refine jj_getR (pc := 27) (ci := 5) (k := 4) dX5_solve_27 rfl rfl (by decide) rfl lk_RX5_26 ?_
    refine jj_iload_n (pc := 30) dX5_solve_30 3 rfl ?_
    refine jj_lald (pc := 31) dX5_solve_31 rfl h.1 ?_
    replace h := h.2
    refine jj_aload_n (pc := 32) dX5_solve_32 1 rfl ?_
    refine jj_iload (pc := 33) dX5_solve_33 0 rfl ?_
    refine jj_aload_n (pc := 35) dX5_solve_35 2 rfl ?_
    refine jj_getI (pc := 36) (ci := 5) (k := 7) dX5_solve_36 rfl rfl (by decide) rfl lk_RX5_39 ?_
    refine jj_iadd (pc := 39) dX5_solve_39 ?_
    refine jj_lald (pc := 40) dX5_solve_40 (wo_l10 _ (wo_inlt hb2)) h.1 ?_
    replace h := h.2
    refine jj_lmul (pc := 41) dX5_solve_41 ?_
    refine jj_nml (fun x4 ex4 => ?_)
    replace h := h x4 ex4
    refine jj_lstore (pc := 42) (l2 := [(5, .long x4), (4, .int x3), (3, .ref (10 + 1 * a2.toNatClampNeg)), (0, .ref 8), (1, .int a1), (2, .int a2)]) dX5_solve_42 (by decide) rfl ?_
    refine jj_iload_n (pc := 44) dX5_solve_44 5 rfl ?_
    refine jj_iconst (pc := 45) (v := 1) dX5_solve_45 (by decide) ?_
    refine jj_iadd (pc := 46) dX5_solve_46 ?_
    refine jj_nmi (fun x5 ex5 => ?_)
    replace h := h x5 ex5
    refine jj_istore (pc := 47) (l2 := [(7, .int x5), (5, .long x4), (4, .int x3), (3, .ref (10 + 1 * a2.toNatClampNeg)), (0, .ref 8), (1, .int a1), (2, .int a2)]) dX5_solve_47 (by decide) rfl ?_
    exact jj_sub [4, 5, 6, 3, 2, 1, 0] rfl h
set_option maxRecDepth 100000 in
set_option maxHeartbeats 4000000 in
theorem vc_X5_solve_49 {K : jj_K} (R : wo_T → Prop)  (a1 : Int32) (a2 : Int32) (a3 : Nat) (ha3 : wo_lay[a3]? = some (.inr (1, 110, 0, 0))) (a4 : Int32) (a5 : Int64) (a7 : Int32) (w : wo_T)
    (h : (a1 ≤ a7 → vp_in a2 8 ∧ (vp_in (a4 + (w.1 18 a2.toNatClampNeg)) 110 ∧ (∀ x2 : Int64, x2 = w.2 a3 (a4 + (w.1 18 a2.toNatClampNeg)).toNatClampNeg → ((¬ x2 = 0 → (¬ x2 = 0) ∧ (vp_in a2 8 ∧ (jj_J K mX5_solve (jj_Rv R) 4 [(0, .ref 8), (1, .int a1), (2, .int (a2 + (-1)))] [] (wo_l w 22 a2.toNatClampNeg (a5 / x2))))) ∧ (x2 = 0 → vp_in a2 8 ∧ (jj_J K mX5_solve (jj_Rv R) 4 [(0, .ref 8), (1, .int a1), (2, .int (a2 + (-1)))] [] (wo_l w 22 a2.toNatClampNeg 0))))))) ∧ (¬ a1 ≤ a7 → vp_in a7 8 ∧ (vp_in (a4 + (w.1 18 a7.toNatClampNeg)) 110 ∧ (vp_in a7 8 ∧ (∀ x4 : Int64, x4 = a5 - ((w.2 a3 (a4 + (w.1 18 a7.toNatClampNeg)).toNatClampNeg) * (w.2 22 a7.toNatClampNeg)) → (jj_J K mX5_solve (jj_Rv R) 49 [(0, .ref 8), (1, .int a1), (2, .int a2), (3, .ref a3), (4, .int a4), (5, .long x4), (7, .int (a7 + 1))] [] w)))))) :
    jj_J K mX5_solve (jj_Rv R) 49 [(0, .ref 8), (1, .int a1), (2, .int a2), (3, .ref a3), (4, .int a4), (5, .long a5), (7, .int a7)] [] w := by
  refine jj_iload (pc := 49) dX5_solve_49 6 rfl ?_
  refine jj_iload_n (pc := 51) dX5_solve_51 1 rfl ?_
  refine jj_icmp_ge (pc := 52) (tgt := 86) dX5_solve_52 (by decide) (fun c1 => ?_) (fun c1 => ?_)
  · replace h := h.1 c1
    refine jj_aload_n (pc := 86) dX5_solve_86 3 rfl ?_
    refine jj_iload (pc := 87) dX5_solve_87 4 rfl ?_
    refine jj_aload_n (pc := 89) dX5_solve_89 0 rfl ?_
    refine jj_getR (pc := 90) (ci := 5) (k := 1) dX5_solve_90 rfl rfl (by decide) rfl lk_RX5_16 ?_
    refine jj_iload_n (pc := 93) dX5_solve_93 2 rfl ?_
    refine jj_iald (pc := 94) dX5_solve_94 rfl h.1 ?_
    replace h := h.2
    refine jj_iadd (pc := 95) dX5_solve_95 ?_
    refine jj_lald (pc := 96) dX5_solve_96 ha3 h.1 ?_
    replace h := h.2
    refine jj_nml (fun x2 ex2 => ?_)
    replace h := h x2 ex2
    refine jj_lstore (pc := 97) (l2 := [(7, .long x2), (0, .ref 8), (1, .int a1), (2, .int a2), (3, .ref a3), (4, .int a4), (5, .long a5)]) dX5_solve_97 (by decide) rfl ?_
    refine jj_aload_n (pc := 99) dX5_solve_99 1 rfl ?_
    refine jj_getR (pc := 100) (ci := 5) (k := 5) dX5_solve_100 rfl rfl (by decide) rfl lk_RX5_30 ?_
    refine jj_iload_n (pc := 103) dX5_solve_103 3 rfl ?_
    refine jj_lload (pc := 104) dX5_solve_104 0 rfl ?_
    refine jj_lconst (pc := 106) (v := 0) dX5_solve_106 (by decide) ?_
    refine jj_lcmp_ne (pc := 107) (tgt := 115) dX5_solve_107 dX5_solve_108 (by decide) (fun c3 => ?_) (fun c3 => ?_)
    · replace h := h.1 c3
      refine jj_lload (pc := 115) dX5_solve_115 6 rfl ?_
      refine jj_lload (pc := 117) dX5_solve_117 0 rfl ?_
      refine jj_ldiv (pc := 119) dX5_solve_119 h.1 ?_
      replace h := h.2
      refine jj_last (pc := 120) dX5_solve_120 rfl h.1 ?_
      replace h := h.2
      refine jj_iinc (pc := 121) (v := a2 + (-1)) (l2 := [(2, .int (a2 + (-1))), (7, .long x2), (0, .ref 8), (1, .int a1), (3, .ref a3), (4, .int a4), (5, .long a5)]) dX5_solve_121 3 rfl rfl (by decide) rfl ?_
      refine jj_goto (pc := 124) (tgt := 4) dX5_solve_124 (by decide) ?_
      exact jj_sub [2, 3, 0] rfl h
    · replace h := h.2 c3
      refine jj_lconst (pc := 111) (v := 0) dX5_solve_111 (by decide) ?_
      refine jj_goto (pc := 112) (tgt := 120) dX5_solve_112 (by decide) ?_
      refine jj_last (pc := 120) dX5_solve_120 rfl h.1 ?_
      replace h := h.2
      refine jj_iinc (pc := 121) (v := a2 + (-1)) (l2 := [(2, .int (a2 + (-1))), (7, .long x2), (0, .ref 8), (1, .int a1), (3, .ref a3), (4, .int a4), (5, .long a5)]) dX5_solve_121 3 rfl rfl (by decide) rfl ?_
      refine jj_goto (pc := 124) (tgt := 4) dX5_solve_124 (by decide) ?_
      exact jj_sub [2, 3, 0] rfl h
  · replace h := h.2 c1
    refine jj_lload (pc := 55) dX5_solve_55 5 rfl ?_
    refine jj_aload_n (pc := 57) dX5_solve_57 3 rfl ?_
    refine jj_iload (pc := 58) dX5_solve_58 4 rfl ?_
    refine jj_aload_n (pc := 60) dX5_solve_60 0 rfl ?_
    refine jj_getR (pc := 61) (ci := 5) (k := 1) dX5_solve_61 rfl rfl (by decide) rfl lk_RX5_16 ?_
    refine jj_iload (pc := 64) dX5_solve_64 6 rfl ?_
    refine jj_iald (pc := 66) dX5_solve_66 rfl h.1 ?_
    replace h := h.2
    refine jj_iadd (pc := 67) dX5_solve_67 ?_
    refine jj_lald (pc := 68) dX5_solve_68 ha3 h.1 ?_
    replace h := h.2
    refine jj_aload_n (pc := 69) dX5_solve_69 0 rfl ?_
    refine jj_getR (pc := 70) (ci := 5) (k := 5) dX5_solve_70 rfl rfl (by decide) rfl lk_RX5_30 ?_
    refine jj_iload (pc := 73) dX5_solve_73 6 rfl ?_
    refine jj_lald (pc := 75) dX5_solve_75 rfl h.1 ?_
    replace h := h.2
    refine jj_lmul (pc := 76) dX5_solve_76 ?_
    refine jj_lsub (pc := 77) dX5_solve_77 ?_
    refine jj_nml (fun x4 ex4 => ?_)
    replace h := h x4 ex4
    refine jj_lstore (pc := 78) (l2 := [(5, .long x4), (0, .ref 8), (1, .int a1), (2, .int a2), (3, .ref a3), (4, .int a4), (7, .int a7)]) dX5_solve_78 (by decide) rfl ?_
    refine jj_iinc (pc := 80) (v := a7 + 1) (l2 := [(7, .int (a7 + 1)), (5, .long x4), (0, .ref 8), (1, .int a1), (2, .int a2), (3, .ref a3), (4, .int a4)]) dX5_solve_80 6 rfl rfl (by decide) rfl ?_
    refine jj_goto (pc := 83) (tgt := 49) dX5_solve_83 (by decide) ?_
    exact jj_sub [2, 3, 4, 5, 6, 1, 0] rfl h
