set_option maxRecDepth 100000 in
set_option maxHeartbeats 4000000 in
theorem vc_X6_point_0 {K : jj_K} (R : Int32 → wo_T → Prop)  (a1 : Int32) (a2 : Int32) (w : wo_T)
    (h : jj_Ci K mX6_isWithin [.int a1, .int 0, .int 4] w (fun v1 w2 => (v1 = 0 → R (-2) w2) ∧ (¬ v1 = 0 → jj_Ci K mX6_isWithin [.int a2, .int 0, .int 4] w2 (fun v4 w5 => (¬ v4 = 0 → jj_Ci K mX3_isTaken [.ref 1, .int a1, .int a2] w5 (fun v7 w8 => (v7 = 0 → ((w8.1 1 6) < 5 → jj_Ci K mX3_add [.ref 1, .int a1, .int a2] (wo_i w8 0 8 1) (fun v11 w12 => R v11 w12)) ∧ (¬ (w8.1 1 6) < 5 → R (-4) w8)) ∧ (¬ v7 = 0 → R (-3) w8))) ∧ (v4 = 0 → R (-2) w5))))) :
    jj_J K mX6_point (jj_Ri R) 0 [(0, .ref 0), (1, .int a1), (2, .int a2)] [] w := by
  refine jj_iload_n (pc := 0) dX6_point_0 1 rfl ?_
  refine jj_iconst (pc := 1) (v := 0) dX6_point_1 (by decide) ?_
  refine jj_iconst (pc := 2) (v := 4) dX6_point_2 (by decide) ?_
  refine jj_callSi (pc := 3) (N := mX6_isWithin) (as := [.int a1, .int 0, .int 4]) (st := []) dX6_point_3 lk_RX6_56 hv_X6_isWithin rfl rfl h (fun v1 w2 h => ?_)
  refine jj_if_eq (pc := 6) (tgt := 18) dX6_point_6 (by decide) (fun c3 => ?_) (fun c3 => ?_)
  · replace h := h.1 c3
    refine jj_bipush (pc := 18) (v := (-2)) dX6_point_18 (by decide) ?_
    exact jj_iret (pc := 20) dX6_point_20 rfl h
  · replace h := h.2 c3
    refine jj_iload_n (pc := 9) dX6_point_9 2 rfl ?_
    refine jj_iconst (pc := 10) (v := 0) dX6_point_10 (by decide) ?_
    refine jj_iconst (pc := 11) (v := 4) dX6_point_11 (by decide) ?_
    refine jj_callSi (pc := 12) (N := mX6_isWithin) (as := [.int a2, .int 0, .int 4]) (st := []) dX6_point_12 lk_RX6_56 hv_X6_isWithin rfl rfl h (fun v4 w5 h => ?_)
    refine jj_if_ne (pc := 15) (tgt := 21) dX6_point_15 (by decide) (fun c6 => ?_) (fun c6 => ?_)
    · replace h := h.1 c6
      refine jj_aload_n (pc := 21) dX6_point_21 0 rfl ?_
      refine jj_getR (pc := 22) (ci := 6) (k := 0) dX6_point_22 rfl rfl (by decide) rfl lk_RX6_13 ?_
      refine jj_iload_n (pc := 25) dX6_point_25 1 rfl ?_
      refine jj_iload_n (pc := 26) dX6_point_26 2 rfl ?_
      refine jj_callVi (pc := 27) (N := mX3_isTaken) (as := [.int a1, .int a2]) (st := []) dX6_point_27 rfl rfl rfl lk_RX6_60 hv_X3_isTaken rfl rfl h (fun v7 w8 h => ?_)
      refine jj_if_eq (pc := 30) (tgt := 36) dX6_point_30 (by decide) (fun c9 => ?_) (fun c9 => ?_)
      · replace h := h.1 c9
        refine jj_aload_n (pc := 36) dX6_point_36 0 rfl ?_
        refine jj_getR (pc := 37) (ci := 6) (k := 0) dX6_point_37 rfl rfl (by decide) rfl lk_RX6_13 ?_
        refine jj_getI (pc := 40) (ci := 3) (k := 6) dX6_point_40 rfl rfl (by decide) rfl lk_RX6_64 ?_
        refine jj_iconst (pc := 43) (v := 5) dX6_point_43 (by decide) ?_
        refine jj_icmp_lt (pc := 44) (tgt := 50) dX6_point_44 (by decide) (fun c10 => ?_) (fun c10 => ?_)
        · replace h := h.1 c10
          refine jj_aload_n (pc := 50) dX6_point_50 0 rfl ?_
          refine jj_iconst (pc := 51) (v := 1) dX6_point_51 (by decide) ?_
          refine jj_putI (pc := 52) (ci := 6) (k := 8) (ty := .boolean) dX6_point_52 rfl rfl (by decide) rfl lk_RX6_52 rfl (by decide) rfl rfl ?_
          refine jj_aload_n (pc := 55) dX6_point_55 0 rfl ?_
          refine jj_getR (pc := 56) (ci := 6) (k := 0) dX6_point_56 rfl rfl (by decide) rfl lk_RX6_13 ?_
          refine jj_iload_n (pc := 59) dX6_point_59 1 rfl ?_
          refine jj_iload_n (pc := 60) dX6_point_60 2 rfl ?_
          refine jj_callVi (pc := 61) (N := mX3_add) (as := [.int a1, .int a2]) (st := []) dX6_point_61 rfl rfl rfl lk_RX6_68 hv_X3_add rfl rfl h (fun v11 w12 h => ?_)
          exact jj_iret (pc := 64) dX6_point_64 rfl h
        · replace h := h.2 c10
          refine jj_bipush (pc := 47) (v := (-4)) dX6_point_47 (by decide) ?_
          exact jj_iret (pc := 49) dX6_point_49 rfl h
      · replace h := h.2 c9
        refine jj_bipush (pc := 33) (v := (-3)) dX6_point_33 (by decide) ?_
        exact jj_iret (pc := 35) dX6_point_35 rfl h
    · replace h := h.2 c6
      refine jj_bipush (pc := 18) (v := (-2)) dX6_point_18 (by decide) ?_
      exact jj_iret (pc := 20) dX6_point_20 rfl h
theorem en_X6_point {K : jj_K} (R : Int32 → wo_T → Prop)  (a1 : Int32) (a2 : Int32) (w : wo_T)
    (h : jj_Ci K mX6_isWithin [.int a1, .int 0, .int 4] w (fun v1 w2 => (v1 = 0 → R (-2) w2) ∧ (¬ v1 = 0 → jj_Ci K mX6_isWithin [.int a2, .int 0, .int 4] w2 (fun v4 w5 => (¬ v4 = 0 → jj_Ci K mX3_isTaken [.ref 1, .int a1, .int a2] w5 (fun v7 w8 => (v7 = 0 → ((w8.1 1 6) < 5 → jj_Ci K mX3_add [.ref 1, .int a1, .int a2] (wo_i w8 0 8 1) (fun v11 w12 => R v11 w12)) ∧ (¬ (w8.1 1 6) < 5 → R (-4) w8)) ∧ (¬ v7 = 0 → R (-3) w8))) ∧ (v4 = 0 → R (-2) w5))))) : jj_Ci K mX6_point [.ref 0, .int a1, .int a2] w R :=
  jj_Ci_intro pn_RX6 (Nat.le_of_ble_eq_true rfl) (vc_X6_point_0 R a1 a2 w h)
set_option maxRecDepth 100000 in
set_option maxHeartbeats 4000000 in
theorem vc_X6_back_0 {K : jj_K} (R : Int32 → wo_T → Prop)   (w : wo_T)
    (h : (0 < (w.1 1 6) → jj_Ci K mX3_everyPair [.ref 1] (wo_i w 1 6 ((w.1 1 6) - 1)) (fun v2 w3 => R ((wo_i (wo_i w3 0 6 (((wo_i w 1 6 ((w.1 1 6) - 1)).1 0 6) &&& v2)) 0 8 1).1 1 6) (wo_i (wo_i w3 0 6 (((wo_i w 1 6 ((w.1 1 6) - 1)).1 0 6) &&& v2)) 0 8 1))) ∧ (¬ 0 < (w.1 1 6) → R (-3) w)) :
    jj_J K mX6_back (jj_Ri R) 0 [(0, .ref 0)] [] w := by
  refine jj_aload_n (pc := 0) dX6_back_0 0 rfl ?_
  refine jj_getR (pc := 1) (ci := 6) (k := 0) dX6_back_1 rfl rfl (by decide) rfl lk_RX6_13 ?_
  refine jj_getI (pc := 4) (ci := 3) (k := 6) dX6_back_4 rfl rfl (by decide) rfl lk_RX6_64 ?_
  refine jj_if_gt (pc := 7) (tgt := 13) dX6_back_7 (by decide) (fun c1 => ?_) (fun c1 => ?_)
  · replace h := h.1 c1
    refine jj_aload_n (pc := 13) dX6_back_13 0 rfl ?_
    refine jj_getR (pc := 14) (ci := 6) (k := 0) dX6_back_14 rfl rfl (by decide) rfl lk_RX6_13 ?_
    refine jj_dup (pc := 17) dX6_back_17 rfl ?_
    refine jj_getI (pc := 18) (ci := 3) (k := 6) dX6_back_18 rfl rfl (by decide) rfl lk_RX6_64 ?_
    refine jj_iconst (pc := 21) (v := 1) dX6_back_21 (by decide) ?_
    refine jj_isub (pc := 22) dX6_back_22 ?_
    refine jj_putI (pc := 23) (ci := 3) (k := 6) (ty := .int) dX6_back_23 rfl rfl (by decide) rfl lk_RX6_64 rfl (by decide) rfl rfl ?_
    refine jj_aload_n (pc := 26) dX6_back_26 0 rfl ?_
    refine jj_dup (pc := 27) dX6_back_27 rfl ?_
    refine jj_getI (pc := 28) (ci := 6) (k := 6) dX6_back_28 rfl rfl (by decide) rfl lk_RX6_72 ?_
    refine jj_aload_n (pc := 31) dX6_back_31 0 rfl ?_
    refine jj_getR (pc := 32) (ci := 6) (k := 0) dX6_back_32 rfl rfl (by decide) rfl lk_RX6_13 ?_
    refine jj_callVi (pc := 35) (N := mX3_everyPair) (as := []) (st := [.int ((wo_i w 1 6 ((w.1 1 6) - 1)).1 0 6), .ref 0]) dX6_back_35 rfl rfl rfl lk_RX6_75 hv_X3_everyPair rfl rfl h (fun v2 w3 h => ?_)
    refine jj_iand (pc := 38) dX6_back_38 ?_
    refine jj_putI (pc := 39) (ci := 6) (k := 6) (ty := .int) dX6_back_39 rfl rfl (by decide) rfl lk_RX6_72 rfl (by decide) rfl rfl ?_
    refine jj_aload_n (pc := 42) dX6_back_42 0 rfl ?_
    refine jj_iconst (pc := 43) (v := 1) dX6_back_43 (by decide) ?_
    refine jj_putI (pc := 44) (ci := 6) (k := 8) (ty := .boolean) dX6_back_44 rfl rfl (by decide) rfl lk_RX6_52 rfl (by decide) rfl rfl ?_
    refine jj_aload_n (pc := 47) dX6_back_47 0 rfl ?_
    refine jj_getR (pc := 48) (ci := 6) (k := 0) dX6_back_48 rfl rfl (by decide) rfl lk_RX6_13 ?_
    refine jj_getI (pc := 51) (ci := 3) (k := 6) dX6_back_51 rfl rfl (by decide) rfl lk_RX6_64 ?_
    exact jj_iret (pc := 54) dX6_back_54 rfl h
  · replace h := h.2 c1
    refine jj_bipush (pc := 10) (v := (-3)) dX6_back_10 (by decide) ?_
    exact jj_iret (pc := 12) dX6_back_12 rfl h
theorem en_X6_back {K : jj_K} (R : Int32 → wo_T → Prop)   (w : wo_T)
    (h : (0 < (w.1 1 6) → jj_Ci K mX3_everyPair [.ref 1] (wo_i w 1 6 ((w.1 1 6) - 1)) (fun v2 w3 => R ((wo_i (wo_i w3 0 6 (((wo_i w 1 6 ((w.1 1 6) - 1)).1 0 6) &&& v2)) 0 8 1).1 1 6) (wo_i (wo_i w3 0 6 (((wo_i w 1 6 ((w.1 1 6) - 1)).1 0 6) &&& v2)) 0 8 1))) ∧ (¬ 0 < (w.1 1 6) → R (-3) w)) : jj_Ci K mX6_back [.ref 0] w R :=
  jj_Ci_intro pn_RX6 (Nat.le_of_ble_eq_true rfl) (vc_X6_back_0 R  w h)
set_option maxRecDepth 100000 in
set_option maxHeartbeats 4000000 in
theorem vc_X6_hold_0 {K : jj_K} (R : Int32 → wo_T → Prop)  (a1 : Int32) (a2 : Int32) (w : wo_T)
    (h : jj_Ci K mX3_hasPoint [.ref 1, .int a1] w (fun v1 w2 => (v1 = 0 → R (-2) w2) ∧ (¬ v1 = 0 → jj_Ci K mX6_isWithin [.int a2, .int 0, .int 3] w2 (fun v4 w5 => (¬ v4 = 0 → vp_in a1 5 ∧ (∀ x7 : Int32, x7 = w5.1 3 a1.toNatClampNeg → (vp_in a1 5 ∧ (R x7 (wo_i (wo_i w5 3 a1.toNatClampNeg a2) 0 8 1))))) ∧ (v4 = 0 → R (-2) w5))))) :
    jj_J K mX6_hold (jj_Ri R) 0 [(0, .ref 0), (1, .int a1), (2, .int a2)] [] w := by
  refine jj_aload_n (pc := 0) dX6_hold_0 0 rfl ?_
  refine jj_getR (pc := 1) (ci := 6) (k := 0) dX6_hold_1 rfl rfl (by decide) rfl lk_RX6_13 ?_
  refine jj_iload_n (pc := 4) dX6_hold_4 1 rfl ?_
  refine jj_callVi (pc := 5) (N := mX3_hasPoint) (as := [.int a1]) (st := []) dX6_hold_5 rfl rfl rfl lk_RX6_79 hv_X3_hasPoint rfl rfl h (fun v1 w2 h => ?_)
  refine jj_if_eq (pc := 8) (tgt := 20) dX6_hold_8 (by decide) (fun c3 => ?_) (fun c3 => ?_)
  · replace h := h.1 c3
    refine jj_bipush (pc := 20) (v := (-2)) dX6_hold_20 (by decide) ?_
    exact jj_iret (pc := 22) dX6_hold_22 rfl h
  · replace h := h.2 c3
    refine jj_iload_n (pc := 11) dX6_hold_11 2 rfl ?_
    refine jj_iconst (pc := 12) (v := 0) dX6_hold_12 (by decide) ?_
    refine jj_iconst (pc := 13) (v := 3) dX6_hold_13 (by decide) ?_
    refine jj_callSi (pc := 14) (N := mX6_isWithin) (as := [.int a2, .int 0, .int 3]) (st := []) dX6_hold_14 lk_RX6_56 hv_X6_isWithin rfl rfl h (fun v4 w5 h => ?_)
    refine jj_if_ne (pc := 17) (tgt := 23) dX6_hold_17 (by decide) (fun c6 => ?_) (fun c6 => ?_)
    · replace h := h.1 c6
      refine jj_aload_n (pc := 23) dX6_hold_23 0 rfl ?_
      refine jj_getR (pc := 24) (ci := 6) (k := 0) dX6_hold_24 rfl rfl (by decide) rfl lk_RX6_13 ?_
      refine jj_getR (pc := 27) (ci := 3) (k := 1) dX6_hold_27 rfl rfl (by decide) rfl lk_RX6_83 ?_
      refine jj_iload_n (pc := 30) dX6_hold_30 1 rfl ?_
      refine jj_iald (pc := 31) dX6_hold_31 rfl h.1 ?_
      replace h := h.2
      refine jj_nmi (fun x7 ex7 => ?_)
      replace h := h x7 ex7
      refine jj_istore_n (pc := 32) (l2 := [(3, .int x7), (0, .ref 0), (1, .int a1), (2, .int a2)]) dX6_hold_32 (by decide) rfl ?_
      refine jj_aload_n (pc := 33) dX6_hold_33 1 rfl ?_
      refine jj_getR (pc := 34) (ci := 6) (k := 0) dX6_hold_34 rfl rfl (by decide) rfl lk_RX6_13 ?_
      refine jj_getR (pc := 37) (ci := 3) (k := 1) dX6_hold_37 rfl rfl (by decide) rfl lk_RX6_83 ?_
      refine jj_iload_n (pc := 40) dX6_hold_40 2 rfl ?_
      refine jj_iload_n (pc := 41) dX6_hold_41 3 rfl ?_
      refine jj_iast (pc := 42) dX6_hold_42 rfl h.1 ?_
      replace h := h.2
      refine jj_aload_n (pc := 43) dX6_hold_43 1 rfl ?_
      refine jj_iconst (pc := 44) (v := 1) dX6_hold_44 (by decide) ?_
      refine jj_putI (pc := 45) (ci := 6) (k := 8) (ty := .boolean) dX6_hold_45 rfl rfl (by decide) rfl lk_RX6_52 rfl (by decide) rfl rfl ?_
      refine jj_iload_n (pc := 48) dX6_hold_48 0 rfl ?_
      exact jj_iret (pc := 49) dX6_hold_49 rfl h
    · replace h := h.2 c6
      refine jj_bipush (pc := 20) (v := (-2)) dX6_hold_20 (by decide) ?_
      exact jj_iret (pc := 22) dX6_hold_22 rfl h
theorem en_X6_hold {K : jj_K} (R : Int32 → wo_T → Prop)  (a1 : Int32) (a2 : Int32) (w : wo_T)
    (h : jj_Ci K mX3_hasPoint [.ref 1, .int a1] w (fun v1 w2 => (v1 = 0 → R (-2) w2) ∧ (¬ v1 = 0 → jj_Ci K mX6_isWithin [.int a2, .int 0, .int 3] w2 (fun v4 w5 => (¬ v4 = 0 → vp_in a1 5 ∧ (∀ x7 : Int32, x7 = w5.1 3 a1.toNatClampNeg → (vp_in a1 5 ∧ (R x7 (wo_i (wo_i w5 3 a1.toNatClampNeg a2) 0 8 1))))) ∧ (v4 = 0 → R (-2) w5))))) : jj_Ci K mX6_hold [.ref 0, .int a1, .int a2] w R :=
  jj_Ci_intro pn_RX6 (Nat.le_of_ble_eq_true rfl) (vc_X6_hold_0 R a1 a2 w h)
set_option maxRecDepth 100000 in
set_option maxHeartbeats 4000000 in
theorem vc_X6_load_0 {K : jj_K} (R : Int32 → wo_T → Prop)  (a1 : Int32) (a2 : Int32) (a3 : Int32) (w : wo_T)
    (h : jj_Ci K mX3_hasPoint [.ref 1, .int a1] w (fun v1 w2 => (v1 = 0 → R (-2147483648) w2) ∧ (¬ v1 = 0 → jj_Ci K mX6_isWithin [.int a2, .int 0, .int 1] w2 (fun v4 w5 => (v4 = 0 → R (-2147483648) w5) ∧ (¬ v4 = 0 → jj_Ci K mX6_isLoad [.long a3.toInt64] w5 (fun v7 w8 => (¬ v7 = 0 → vp_in ((2 * a1) + a2) 10 ∧ (∀ x10 : Int32, x10 = w8.1 4 ((2 * a1) + a2).toNatClampNeg → (vp_in ((2 * a1) + a2) 10 ∧ (R x10 (wo_i (wo_i w8 4 ((2 * a1) + a2).toNatClampNeg a3) 0 8 1))))) ∧ (v7 = 0 → R (-2147483648) w8))))))) :
    jj_J K mX6_load (jj_Ri R) 0 [(0, .ref 0), (1, .int a1), (2, .int a2), (3, .int a3)] [] w := by
  refine jj_aload_n (pc := 0) dX6_load_0 0 rfl ?_
  refine jj_getR (pc := 1) (ci := 6) (k := 0) dX6_load_1 rfl rfl (by decide) rfl lk_RX6_13 ?_
  refine jj_iload_n (pc := 4) dX6_load_4 1 rfl ?_
  refine jj_callVi (pc := 5) (N := mX3_hasPoint) (as := [.int a1]) (st := []) dX6_load_5 rfl rfl rfl lk_RX6_79 hv_X3_hasPoint rfl rfl h (fun v1 w2 h => ?_)
  refine jj_if_eq (pc := 8) (tgt := 28) dX6_load_8 (by decide) (fun c3 => ?_) (fun c3 => ?_)
  · replace h := h.1 c3
    refine jj_ldc (pc := 28) (v := (-2147483648)) dX6_load_28 lk_RX6_91 ?_
    exact jj_iret (pc := 30) dX6_load_30 rfl h
  · replace h := h.2 c3
    refine jj_iload_n (pc := 11) dX6_load_11 2 rfl ?_
    refine jj_iconst (pc := 12) (v := 0) dX6_load_12 (by decide) ?_
    refine jj_iconst (pc := 13) (v := 1) dX6_load_13 (by decide) ?_
    refine jj_callSi (pc := 14) (N := mX6_isWithin) (as := [.int a2, .int 0, .int 1]) (st := []) dX6_load_14 lk_RX6_56 hv_X6_isWithin rfl rfl h (fun v4 w5 h => ?_)
    refine jj_if_eq (pc := 17) (tgt := 28) dX6_load_17 (by decide) (fun c6 => ?_) (fun c6 => ?_)
    · replace h := h.1 c6
      refine jj_ldc (pc := 28) (v := (-2147483648)) dX6_load_28 lk_RX6_91 ?_
      exact jj_iret (pc := 30) dX6_load_30 rfl h
    · replace h := h.2 c6
      refine jj_iload_n (pc := 20) dX6_load_20 3 rfl ?_
      refine jj_i2l (pc := 21) dX6_load_21 ?_
      refine jj_callSi (pc := 22) (N := mX6_isLoad) (as := [.long a3.toInt64]) (st := []) dX6_load_22 lk_RX6_87 hv_X6_isLoad rfl rfl h (fun v7 w8 h => ?_)
      refine jj_if_ne (pc := 25) (tgt := 31) dX6_load_25 (by decide) (fun c9 => ?_) (fun c9 => ?_)
      · replace h := h.1 c9
        refine jj_aload_n (pc := 31) dX6_load_31 0 rfl ?_
        refine jj_getR (pc := 32) (ci := 6) (k := 0) dX6_load_32 rfl rfl (by decide) rfl lk_RX6_13 ?_
        refine jj_getR (pc := 35) (ci := 3) (k := 2) dX6_load_35 rfl rfl (by decide) rfl lk_RX6_92 ?_
        refine jj_iconst (pc := 38) (v := 2) dX6_load_38 (by decide) ?_
        refine jj_iload_n (pc := 39) dX6_load_39 1 rfl ?_
        refine jj_imul (pc := 40) dX6_load_40 ?_
        refine jj_iload_n (pc := 41) dX6_load_41 2 rfl ?_
        refine jj_iadd (pc := 42) dX6_load_42 ?_
        refine jj_iald (pc := 43) dX6_load_43 rfl h.1 ?_
        replace h := h.2
        refine jj_nmi (fun x10 ex10 => ?_)
        replace h := h x10 ex10
        refine jj_istore (pc := 44) (l2 := [(4, .int x10), (0, .ref 0), (1, .int a1), (2, .int a2), (3, .int a3)]) dX6_load_44 (by decide) rfl ?_
        refine jj_aload_n (pc := 46) dX6_load_46 1 rfl ?_
        refine jj_getR (pc := 47) (ci := 6) (k := 0) dX6_load_47 rfl rfl (by decide) rfl lk_RX6_13 ?_
        refine jj_getR (pc := 50) (ci := 3) (k := 2) dX6_load_50 rfl rfl (by decide) rfl lk_RX6_92 ?_
        refine jj_iconst (pc := 53) (v := 2) dX6_load_53 (by decide) ?_
        refine jj_iload_n (pc := 54) dX6_load_54 2 rfl ?_
        refine jj_imul (pc := 55) dX6_load_55 ?_
        refine jj_iload_n (pc := 56) dX6_load_56 3 rfl ?_
        refine jj_iadd (pc := 57) dX6_load_57 ?_
        refine jj_iload_n (pc := 58) dX6_load_58 4 rfl ?_
        refine jj_iast (pc := 59) dX6_load_59 rfl h.1 ?_
        replace h := h.2
        refine jj_aload_n (pc := 60) dX6_load_60 1 rfl ?_
        refine jj_iconst (pc := 61) (v := 1) dX6_load_61 (by decide) ?_
        refine jj_putI (pc := 62) (ci := 6) (k := 8) (ty := .boolean) dX6_load_62 rfl rfl (by decide) rfl lk_RX6_52 rfl (by decide) rfl rfl ?_
        refine jj_iload (pc := 65) dX6_load_65 0 rfl ?_
        exact jj_iret (pc := 67) dX6_load_67 rfl h
      · replace h := h.2 c9
        refine jj_ldc (pc := 28) (v := (-2147483648)) dX6_load_28 lk_RX6_91 ?_
        exact jj_iret (pc := 30) dX6_load_30 rfl h
theorem en_X6_load {K : jj_K} (R : Int32 → wo_T → Prop)  (a1 : Int32) (a2 : Int32) (a3 : Int32) (w : wo_T)
    (h : jj_Ci K mX3_hasPoint [.ref 1, .int a1] w (fun v1 w2 => (v1 = 0 → R (-2147483648) w2) ∧ (¬ v1 = 0 → jj_Ci K mX6_isWithin [.int a2, .int 0, .int 1] w2 (fun v4 w5 => (v4 = 0 → R (-2147483648) w5) ∧ (¬ v4 = 0 → jj_Ci K mX6_isLoad [.long a3.toInt64] w5 (fun v7 w8 => (¬ v7 = 0 → vp_in ((2 * a1) + a2) 10 ∧ (∀ x10 : Int32, x10 = w8.1 4 ((2 * a1) + a2).toNatClampNeg → (vp_in ((2 * a1) + a2) 10 ∧ (R x10 (wo_i (wo_i w8 4 ((2 * a1) + a2).toNatClampNeg a3) 0 8 1))))) ∧ (v7 = 0 → R (-2147483648) w8))))))) : jj_Ci K mX6_load [.ref 0, .int a1, .int a2, .int a3] w R :=
  jj_Ci_intro pn_RX6 (Nat.le_of_ble_eq_true rfl) (vc_X6_load_0 R a1 a2 a3 w h)
set_option maxRecDepth 100000 in
set_option maxHeartbeats 4000000 in
theorem vc_X6_bar_0 {K : jj_K} (R : Int32 → wo_T → Prop)  (a1 : Int32) (w : wo_T)
    (h : jj_Ci K mX3_hasPair [.ref 1, .int a1] w (fun v1 w2 => (¬ v1 = 0 → R ((wo_i w2 0 6 ((w2.1 0 6) ^^^ ((1 : Int32) <<< (a1 &&& 31)))).1 0 6) (wo_i w2 0 6 ((w2.1 0 6) ^^^ ((1 : Int32) <<< (a1 &&& 31))))) ∧ (v1 = 0 → R (-2) w2))) :
    jj_J K mX6_bar (jj_Ri R) 0 [(0, .ref 0), (1, .int a1)] [] w := by
  refine jj_aload_n (pc := 0) dX6_bar_0 0 rfl ?_
  refine jj_getR (pc := 1) (ci := 6) (k := 0) dX6_bar_1 rfl rfl (by decide) rfl lk_RX6_13 ?_
  refine jj_iload_n (pc := 4) dX6_bar_4 1 rfl ?_
  refine jj_callVi (pc := 5) (N := mX3_hasPair) (as := [.int a1]) (st := []) dX6_bar_5 rfl rfl rfl lk_RX6_95 hv_X3_hasPair rfl rfl h (fun v1 w2 h => ?_)
  refine jj_if_ne (pc := 8) (tgt := 14) dX6_bar_8 (by decide) (fun c3 => ?_) (fun c3 => ?_)
  · replace h := h.1 c3
    refine jj_aload_n (pc := 14) dX6_bar_14 0 rfl ?_
    refine jj_dup (pc := 15) dX6_bar_15 rfl ?_
    refine jj_getI (pc := 16) (ci := 6) (k := 6) dX6_bar_16 rfl rfl (by decide) rfl lk_RX6_72 ?_
    refine jj_iconst (pc := 19) (v := 1) dX6_bar_19 (by decide) ?_
    refine jj_iload_n (pc := 20) dX6_bar_20 1 rfl ?_
    refine jj_ishl (pc := 21) dX6_bar_21 ?_
    refine jj_ixor (pc := 22) dX6_bar_22 ?_
    refine jj_putI (pc := 23) (ci := 6) (k := 6) (ty := .int) dX6_bar_23 rfl rfl (by decide) rfl lk_RX6_72 rfl (by decide) rfl rfl ?_
    refine jj_aload_n (pc := 26) dX6_bar_26 0 rfl ?_
    refine jj_getI (pc := 27) (ci := 6) (k := 6) dX6_bar_27 rfl rfl (by decide) rfl lk_RX6_72 ?_
    exact jj_iret (pc := 30) dX6_bar_30 rfl h
  · replace h := h.2 c3
    refine jj_bipush (pc := 11) (v := (-2)) dX6_bar_11 (by decide) ?_
    exact jj_iret (pc := 13) dX6_bar_13 rfl h
theorem en_X6_bar {K : jj_K} (R : Int32 → wo_T → Prop)  (a1 : Int32) (w : wo_T)
    (h : jj_Ci K mX3_hasPair [.ref 1, .int a1] w (fun v1 w2 => (¬ v1 = 0 → R ((wo_i w2 0 6 ((w2.1 0 6) ^^^ ((1 : Int32) <<< (a1 &&& 31)))).1 0 6) (wo_i w2 0 6 ((w2.1 0 6) ^^^ ((1 : Int32) <<< (a1 &&& 31))))) ∧ (v1 = 0 → R (-2) w2))) : jj_Ci K mX6_bar [.ref 0, .int a1] w R :=
  jj_Ci_intro pn_RX6 (Nat.le_of_ble_eq_true rfl) (vc_X6_bar_0 R a1 w h)
set_option maxRecDepth 100000 in
set_option maxHeartbeats 4000000 in
theorem vc_X6_all_0 {K : jj_K} (R : Int32 → wo_T → Prop)   (w : wo_T)
    (h : jj_Ci K mX3_everyPair [.ref 1] w (fun v1 w2 => jj_Ci K mX3_pairs [.ref 1] (wo_i w2 0 6 v1) (fun v3 w4 => R v3 w4))) :
    jj_J K mX6_all (jj_Ri R) 0 [(0, .ref 0)] [] w := by
  refine jj_aload_n (pc := 0) dX6_all_0 0 rfl ?_
  refine jj_aload_n (pc := 1) dX6_all_1 0 rfl ?_
  refine jj_getR (pc := 2) (ci := 6) (k := 0) dX6_all_2 rfl rfl (by decide) rfl lk_RX6_13 ?_
  refine jj_callVi (pc := 5) (N := mX3_everyPair) (as := []) (st := [.ref 0]) dX6_all_5 rfl rfl rfl lk_RX6_75 hv_X3_everyPair rfl rfl h (fun v1 w2 h => ?_)
  refine jj_putI (pc := 8) (ci := 6) (k := 6) (ty := .int) dX6_all_8 rfl rfl (by decide) rfl lk_RX6_72 rfl (by decide) rfl rfl ?_
  refine jj_aload_n (pc := 11) dX6_all_11 0 rfl ?_
  refine jj_getR (pc := 12) (ci := 6) (k := 0) dX6_all_12 rfl rfl (by decide) rfl lk_RX6_13 ?_
  refine jj_callVi (pc := 15) (N := mX3_pairs) (as := []) (st := []) dX6_all_15 rfl rfl rfl lk_RX6_98 hv_X3_pairs rfl rfl h (fun v3 w4 h => ?_)
  exact jj_iret (pc := 18) dX6_all_18 rfl h
theorem en_X6_all {K : jj_K} (R : Int32 → wo_T → Prop)   (w : wo_T)
    (h : jj_Ci K mX3_everyPair [.ref 1] w (fun v1 w2 => jj_Ci K mX3_pairs [.ref 1] (wo_i w2 0 6 v1) (fun v3 w4 => R v3 w4))) : jj_Ci K mX6_all [.ref 0] w R :=
  jj_Ci_intro pn_RX6 (Nat.le_of_ble_eq_true rfl) (vc_X6_all_0 R  w h)
set_option maxRecDepth 100000 in
set_option maxHeartbeats 4000000 in
theorem vc_X6_read_0 {K : jj_K} (R : Int32 → wo_T → Prop)  (a1 : Int32) (w : wo_T)
    (h : jj_Ci K mX6_isSheet [.int a1] w (fun v1 w2 => (¬ v1 = 0 → vp_in a1 4 ∧ (((w2.1 (50 + 2 * a1.toNatClampNeg) 1) = 0 → ∀ x6 : Int32, x6 = (if (2 * (w2.1 1 6)) < (w2.1 (50 + 2 * a1.toNatClampNeg) 3) then (2 * (w2.1 1 6)) else (w2.1 (50 + 2 * a1.toNatClampNeg) 3)) → (jj_J K mX6_read (jj_Ri R) 50 [(0, .ref 0), (1, .int a1), (2, .ref (50 + 2 * a1.toNatClampNeg)), (3, .int x6), (4, .int 0)] [] w2)) ∧ (¬ (w2.1 (50 + 2 * a1.toNatClampNeg) 1) = 0 → jj_Ci K mX6_found [.ref 0, .int 1] w2 (fun v7 w8 => R v7 w8)))) ∧ (v1 = 0 → R (-2) w2))) :
    jj_J K mX6_read (jj_Ri R) 0 [(0, .ref 0), (1, .int a1)] [] w := by
  refine jj_iload_n (pc := 0) dX6_read_0 1 rfl ?_
  refine jj_callSi (pc := 1) (N := mX6_isSheet) (as := [.int a1]) (st := []) dX6_read_1 lk_RX6_101 hv_X6_isSheet rfl rfl h (fun v1 w2 h => ?_)
  refine jj_if_ne (pc := 4) (tgt := 10) dX6_read_4 (by decide) (fun c3 => ?_) (fun c3 => ?_)
  · replace h := h.1 c3
    refine jj_aload_n (pc := 10) dX6_read_10 0 rfl ?_
    refine jj_getR (pc := 11) (ci := 6) (k := 5) dX6_read_11 rfl rfl (by decide) rfl lk_RX6_47 ?_
    refine jj_iload_n (pc := 14) dX6_read_14 1 rfl ?_
    refine jj_aald3 (pc := 15) dX6_read_15 rfl h.1 ?_
    have hb4 := h.1
    replace h := h.2
    refine jj_astore_n (pc := 16) (l2 := [(2, .ref (50 + 2 * a1.toNatClampNeg)), (0, .ref 0), (1, .int a1)]) dX6_read_16 (by decide) rfl ?_
    refine jj_aload_n (pc := 17) dX6_read_17 0 rfl ?_
    refine jj_getI (pc := 18) (ci := 4) (k := 1) dX6_read_18 (wo_l50 _ (wo_inlt hb4)) rfl (by decide) rfl lk_RX6_104 ?_
    refine jj_if_eq (pc := 21) (tgt := 30) dX6_read_21 (by decide) (fun c5 => ?_) (fun c5 => ?_)
    · replace h := h.1 c5
      refine jj_aload_n (pc := 30) dX6_read_30 0 rfl ?_
      refine jj_getI (pc := 31) (ci := 4) (k := 3) dX6_read_31 (wo_l50 _ (wo_inlt hb4)) rfl (by decide) rfl lk_RX6_111 ?_
      refine jj_iconst (pc := 34) (v := 2) dX6_read_34 (by decide) ?_
      refine jj_aload_n (pc := 35) dX6_read_35 1 rfl ?_
      refine jj_getR (pc := 36) (ci := 6) (k := 0) dX6_read_36 rfl rfl (by decide) rfl lk_RX6_13 ?_
      refine jj_getI (pc := 39) (ci := 3) (k := 6) dX6_read_39 rfl rfl (by decide) rfl lk_RX6_64 ?_
      refine jj_imul (pc := 42) dX6_read_42 ?_
      refine jj_mmin (pc := 43) dX6_read_43 lk_RX6_112 lk_Smin lk_IMath lk_Cmin (by decide) (Nat.le_of_ble_eq_true rfl) ?_
      refine jj_nmi (fun x6 ex6 => ?_)
      replace h := h x6 ex6
      refine jj_istore_n (pc := 46) (l2 := [(3, .int x6), (2, .ref (50 + 2 * a1.toNatClampNeg)), (0, .ref 0), (1, .int a1)]) dX6_read_46 (by decide) rfl ?_
      refine jj_iconst (pc := 47) (v := 0) dX6_read_47 (by decide) ?_
      refine jj_istore (pc := 48) (l2 := [(4, .int 0), (3, .int x6), (2, .ref (50 + 2 * a1.toNatClampNeg)), (0, .ref 0), (1, .int a1)]) dX6_read_48 (by decide) rfl ?_
      exact jj_sub [3, 4, 2, 1, 0] rfl h
    · replace h := h.2 c5
      refine jj_aload_n (pc := 24) dX6_read_24 1 rfl ?_
      refine jj_iconst (pc := 25) (v := 1) dX6_read_25 (by decide) ?_
      refine jj_callVi (pc := 26) (N := mX6_found) (as := [.int 1]) (st := []) dX6_read_26 rfl rfl rfl lk_RX6_107 hv_X6_found rfl rfl h (fun v7 w8 h => ?_)
      exact jj_iret (pc := 29) dX6_read_29 rfl h
  · replace h := h.2 c3
    refine jj_bipush (pc := 7) (v := (-2)) dX6_read_7 (by decide) ?_
    exact jj_iret (pc := 9) dX6_read_9 rfl h
theorem en_X6_read {K : jj_K} (R : Int32 → wo_T → Prop)  (a1 : Int32) (w : wo_T)
    (h : jj_Ci K mX6_isSheet [.int a1] w (fun v1 w2 => (¬ v1 = 0 → vp_in a1 4 ∧ (((w2.1 (50 + 2 * a1.toNatClampNeg) 1) = 0 → ∀ x6 : Int32, x6 = (if (2 * (w2.1 1 6)) < (w2.1 (50 + 2 * a1.toNatClampNeg) 3) then (2 * (w2.1 1 6)) else (w2.1 (50 + 2 * a1.toNatClampNeg) 3)) → (jj_J K mX6_read (jj_Ri R) 50 [(0, .ref 0), (1, .int a1), (2, .ref (50 + 2 * a1.toNatClampNeg)), (3, .int x6), (4, .int 0)] [] w2)) ∧ (¬ (w2.1 (50 + 2 * a1.toNatClampNeg) 1) = 0 → jj_Ci K mX6_found [.ref 0, .int 1] w2 (fun v7 w8 => R v7 w8)))) ∧ (v1 = 0 → R (-2) w2))) : jj_Ci K mX6_read [.ref 0, .int a1] w R :=
  jj_Ci_intro pn_RX6 (Nat.le_of_ble_eq_true rfl) (vc_X6_read_0 R a1 w h)
set_option maxRecDepth 100000 in
set_option maxHeartbeats 4000000 in
theorem vc_X6_read_50 {K : jj_K} (R : Int32 → wo_T → Prop)  (a1 : Int32) (ja2 : Nat) (hja2 : ja2 < 4) (a3 : Int32) (a4 : Int32) (w : wo_T)
    (h : (a3 ≤ a4 → R a4 (wo_i w 0 8 1)) ∧ (¬ a3 ≤ a4 → vp_in a4 40 ∧ (jj_Ci K mX6_isLoad [.long (w.2 (50 + 2 * ja2 + 1) a4.toNatClampNeg)] w (fun v2 w3 => (v2 = 0 → R a4 (wo_i w3 0 8 1)) ∧ (¬ v2 = 0 → vp_in a4 40 ∧ (vp_in a4 10 ∧ (jj_J K mX6_read (jj_Ri R) 50 [(0, .ref 0), (1, .int a1), (2, .ref (50 + 2 * ja2)), (3, .int a3), (4, .int (a4 + 1))] [] (wo_i w3 4 a4.toNatClampNeg ((w3.2 (50 + 2 * ja2 + 1) a4.toNatClampNeg).toInt32))))))))) :
    jj_J K mX6_read (jj_Ri R) 50 [(0, .ref 0), (1, .int a1), (2, .ref (50 + 2 * ja2)), (3, .int a3), (4, .int a4)] [] w := by
  refine jj_iload (pc := 50) dX6_read_50 4 rfl ?_
  refine jj_iload_n (pc := 52) dX6_read_52 3 rfl ?_
  refine jj_icmp_ge (pc := 53) (tgt := 93) dX6_read_53 (by decide) (fun c1 => ?_) (fun c1 => ?_)
  · replace h := h.1 c1
    refine jj_aload_n (pc := 93) dX6_read_93 0 rfl ?_
    refine jj_iconst (pc := 94) (v := 1) dX6_read_94 (by decide) ?_
    refine jj_putI (pc := 95) (ci := 6) (k := 8) (ty := .boolean) dX6_read_95 rfl rfl (by decide) rfl lk_RX6_52 rfl (by decide) rfl rfl ?_
    refine jj_iload (pc := 98) dX6_read_98 4 rfl ?_
    exact jj_iret (pc := 100) dX6_read_100 rfl h
  · replace h := h.2 c1
    refine jj_aload_n (pc := 56) dX6_read_56 2 rfl ?_
    refine jj_getR (pc := 57) (ci := 4) (k := 0) dX6_read_57 (wo_l50 _ hja2) rfl (by decide) rfl lk_RX6_117 ?_
    refine jj_iload (pc := 60) dX6_read_60 4 rfl ?_
    refine jj_lald (pc := 62) dX6_read_62 (wo_l51 _ hja2) h.1 ?_
    replace h := h.2
    refine jj_callSi (pc := 63) (N := mX6_isLoad) (as := [.long (w.2 (50 + 2 * ja2 + 1) a4.toNatClampNeg)]) (st := []) dX6_read_63 lk_RX6_87 hv_X6_isLoad rfl rfl h (fun v2 w3 h => ?_)
    refine jj_if_eq (pc := 66) (tgt := 93) dX6_read_66 (by decide) (fun c4 => ?_) (fun c4 => ?_)
    · replace h := h.1 c4
      refine jj_aload_n (pc := 93) dX6_read_93 0 rfl ?_
      refine jj_iconst (pc := 94) (v := 1) dX6_read_94 (by decide) ?_
      refine jj_putI (pc := 95) (ci := 6) (k := 8) (ty := .boolean) dX6_read_95 rfl rfl (by decide) rfl lk_RX6_52 rfl (by decide) rfl rfl ?_
      refine jj_iload (pc := 98) dX6_read_98 4 rfl ?_
      exact jj_iret (pc := 100) dX6_read_100 rfl h
    · replace h := h.2 c4
      refine jj_aload_n (pc := 69) dX6_read_69 0 rfl ?_
      refine jj_getR (pc := 70) (ci := 6) (k := 0) dX6_read_70 rfl rfl (by decide) rfl lk_RX6_13 ?_
      refine jj_getR (pc := 73) (ci := 3) (k := 2) dX6_read_73 rfl rfl (by decide) rfl lk_RX6_92 ?_
      refine jj_iload (pc := 76) dX6_read_76 4 rfl ?_
      refine jj_aload_n (pc := 78) dX6_read_78 2 rfl ?_
      refine jj_getR (pc := 79) (ci := 4) (k := 0) dX6_read_79 (wo_l50 _ hja2) rfl (by decide) rfl lk_RX6_117 ?_
      refine jj_iload (pc := 82) dX6_read_82 4 rfl ?_
      refine jj_lald (pc := 84) dX6_read_84 (wo_l51 _ hja2) h.1 ?_
      replace h := h.2
      refine jj_l2i (pc := 85) dX6_read_85 ?_
      refine jj_iast (pc := 86) dX6_read_86 rfl h.1 ?_
      replace h := h.2
      refine jj_iinc (pc := 87) (v := a4 + 1) (l2 := [(4, .int (a4 + 1)), (0, .ref 0), (1, .int a1), (2, .ref (50 + 2 * ja2)), (3, .int a3)]) dX6_read_87 4 rfl rfl (by decide) rfl ?_
      refine jj_goto (pc := 90) (tgt := 50) dX6_read_90 (by decide) ?_
      exact jj_sub [1, 2, 3, 4, 0] rfl h
set_option maxRecDepth 100000 in
set_option maxHeartbeats 4000000 in
theorem vc_X6_info_0 {K : jj_K} (R : Int32 → wo_T → Prop)  (a1 : Int32) (a2 : Int32) (w : wo_T)
    (h : jj_Ci K mX3_hasPoint [.ref 1, .int a1] w (fun v1 w2 => (¬ v1 = 0 → (a2 = 0 → vp_in (2 * a1) 10 ∧ (R (w2.1 2 (2 * a1).toNatClampNeg) w2)) ∧ (a2 = 1 → vp_in ((2 * a1) + 1) 10 ∧ (R (w2.1 2 ((2 * a1) + 1).toNatClampNeg) w2)) ∧ (a2 = 2 → vp_in a1 5 ∧ (R (w2.1 3 a1.toNatClampNeg) w2)) ∧ (a2 = 3 → vp_in (2 * a1) 10 ∧ (R (w2.1 4 (2 * a1).toNatClampNeg) w2)) ∧ (a2 = 4 → vp_in ((2 * a1) + 1) 10 ∧ (R (w2.1 4 ((2 * a1) + 1).toNatClampNeg) w2)) ∧ (a2 = 5 → vp_in (2 * a1) 10 ∧ (R (w2.1 5 (2 * a1).toNatClampNeg) w2)) ∧ (a2 = 6 → vp_in ((2 * a1) + 1) 10 ∧ (R (w2.1 5 ((2 * a1) + 1).toNatClampNeg) w2)) ∧ (¬ a2 = 0 → ¬ a2 = 1 → ¬ a2 = 2 → ¬ a2 = 3 → ¬ a2 = 4 → ¬ a2 = 5 → ¬ a2 = 6 → R (-2147483648) w2)) ∧ (v1 = 0 → R (-2147483648) w2))) :
    jj_J K mX6_info (jj_Ri R) 0 [(0, .ref 0), (1, .int a1), (2, .int a2)] [] w := by
  refine jj_aload_n (pc := 0) dX6_info_0 0 rfl ?_
  refine jj_getR (pc := 1) (ci := 6) (k := 0) dX6_info_1 rfl rfl (by decide) rfl lk_RX6_13 ?_
  refine jj_iload_n (pc := 4) dX6_info_4 1 rfl ?_
  refine jj_callVi (pc := 5) (N := mX3_hasPoint) (as := [.int a1]) (st := []) dX6_info_5 rfl rfl rfl lk_RX6_79 hv_X3_hasPoint rfl rfl h (fun v1 w2 h => ?_)
  refine jj_if_ne (pc := 8) (tgt := 14) dX6_info_8 (by decide) (fun c3 => ?_) (fun c3 => ?_)
  · replace h := h.1 c3
    refine jj_iload_n (pc := 14) dX6_info_14 2 rfl ?_
    by_cases c4 : a2 = 0
    · replace h := h.1 c4
      refine jj_swIn (pc := 15) (tgt := 56) dX6_info_15 (by rw [c4]; decide) (by rw [c4]; decide) (by rw [c4]; rfl) (by decide) ?_
      refine jj_aload_n (pc := 56) dX6_info_56 0 rfl ?_
      refine jj_getR (pc := 57) (ci := 6) (k := 0) dX6_info_57 rfl rfl (by decide) rfl lk_RX6_13 ?_
      refine jj_getR (pc := 60) (ci := 3) (k := 0) dX6_info_60 rfl rfl (by decide) rfl lk_RX6_121 ?_
      refine jj_iconst (pc := 63) (v := 2) dX6_info_63 (by decide) ?_
      refine jj_iload_n (pc := 64) dX6_info_64 1 rfl ?_
      refine jj_imul (pc := 65) dX6_info_65 ?_
      refine jj_iald (pc := 66) dX6_info_66 rfl h.1 ?_
      replace h := h.2
      exact jj_iret (pc := 67) dX6_info_67 rfl h
    replace h := h.2
    by_cases c5 : a2 = 1
    · replace h := h.1 c5
      refine jj_swIn (pc := 15) (tgt := 68) dX6_info_15 (by rw [c5]; decide) (by rw [c5]; decide) (by rw [c5]; rfl) (by decide) ?_
      refine jj_aload_n (pc := 68) dX6_info_68 0 rfl ?_
      refine jj_getR (pc := 69) (ci := 6) (k := 0) dX6_info_69 rfl rfl (by decide) rfl lk_RX6_13 ?_
      refine jj_getR (pc := 72) (ci := 3) (k := 0) dX6_info_72 rfl rfl (by decide) rfl lk_RX6_121 ?_
      refine jj_iconst (pc := 75) (v := 2) dX6_info_75 (by decide) ?_
      refine jj_iload_n (pc := 76) dX6_info_76 1 rfl ?_
      refine jj_imul (pc := 77) dX6_info_77 ?_
      refine jj_iconst (pc := 78) (v := 1) dX6_info_78 (by decide) ?_
      refine jj_iadd (pc := 79) dX6_info_79 ?_
      refine jj_iald (pc := 80) dX6_info_80 rfl h.1 ?_
      replace h := h.2
      exact jj_iret (pc := 81) dX6_info_81 rfl h
    replace h := h.2
    by_cases c6 : a2 = 2
    · replace h := h.1 c6
      refine jj_swIn (pc := 15) (tgt := 82) dX6_info_15 (by rw [c6]; decide) (by rw [c6]; decide) (by rw [c6]; rfl) (by decide) ?_
      refine jj_aload_n (pc := 82) dX6_info_82 0 rfl ?_
      refine jj_getR (pc := 83) (ci := 6) (k := 0) dX6_info_83 rfl rfl (by decide) rfl lk_RX6_13 ?_
      refine jj_getR (pc := 86) (ci := 3) (k := 1) dX6_info_86 rfl rfl (by decide) rfl lk_RX6_83 ?_
      refine jj_iload_n (pc := 89) dX6_info_89 1 rfl ?_
      refine jj_iald (pc := 90) dX6_info_90 rfl h.1 ?_
      replace h := h.2
      exact jj_iret (pc := 91) dX6_info_91 rfl h
    replace h := h.2
    by_cases c7 : a2 = 3
    · replace h := h.1 c7
      refine jj_swIn (pc := 15) (tgt := 92) dX6_info_15 (by rw [c7]; decide) (by rw [c7]; decide) (by rw [c7]; rfl) (by decide) ?_
      refine jj_aload_n (pc := 92) dX6_info_92 0 rfl ?_
      refine jj_getR (pc := 93) (ci := 6) (k := 0) dX6_info_93 rfl rfl (by decide) rfl lk_RX6_13 ?_
      refine jj_getR (pc := 96) (ci := 3) (k := 2) dX6_info_96 rfl rfl (by decide) rfl lk_RX6_92 ?_
      refine jj_iconst (pc := 99) (v := 2) dX6_info_99 (by decide) ?_
      refine jj_iload_n (pc := 100) dX6_info_100 1 rfl ?_
      refine jj_imul (pc := 101) dX6_info_101 ?_
      refine jj_iald (pc := 102) dX6_info_102 rfl h.1 ?_
      replace h := h.2
      exact jj_iret (pc := 103) dX6_info_103 rfl h
    replace h := h.2
    by_cases c8 : a2 = 4
    · replace h := h.1 c8
      refine jj_swIn (pc := 15) (tgt := 104) dX6_info_15 (by rw [c8]; decide) (by rw [c8]; decide) (by rw [c8]; rfl) (by decide) ?_
      refine jj_aload_n (pc := 104) dX6_info_104 0 rfl ?_
      refine jj_getR (pc := 105) (ci := 6) (k := 0) dX6_info_105 rfl rfl (by decide) rfl lk_RX6_13 ?_
      refine jj_getR (pc := 108) (ci := 3) (k := 2) dX6_info_108 rfl rfl (by decide) rfl lk_RX6_92 ?_
      refine jj_iconst (pc := 111) (v := 2) dX6_info_111 (by decide) ?_
      refine jj_iload_n (pc := 112) dX6_info_112 1 rfl ?_
      refine jj_imul (pc := 113) dX6_info_113 ?_
      refine jj_iconst (pc := 114) (v := 1) dX6_info_114 (by decide) ?_
      refine jj_iadd (pc := 115) dX6_info_115 ?_
      refine jj_iald (pc := 116) dX6_info_116 rfl h.1 ?_
      replace h := h.2
      exact jj_iret (pc := 117) dX6_info_117 rfl h
    replace h := h.2
    by_cases c9 : a2 = 5
    · replace h := h.1 c9
      refine jj_swIn (pc := 15) (tgt := 118) dX6_info_15 (by rw [c9]; decide) (by rw [c9]; decide) (by rw [c9]; rfl) (by decide) ?_
      refine jj_aload_n (pc := 118) dX6_info_118 0 rfl ?_
      refine jj_getR (pc := 119) (ci := 6) (k := 0) dX6_info_119 rfl rfl (by decide) rfl lk_RX6_13 ?_
      refine jj_getR (pc := 122) (ci := 3) (k := 3) dX6_info_122 rfl rfl (by decide) rfl lk_RX6_124 ?_
      refine jj_iconst (pc := 125) (v := 2) dX6_info_125 (by decide) ?_
      refine jj_iload_n (pc := 126) dX6_info_126 1 rfl ?_
      refine jj_imul (pc := 127) dX6_info_127 ?_
      refine jj_iald (pc := 128) dX6_info_128 rfl h.1 ?_
      replace h := h.2
      exact jj_iret (pc := 129) dX6_info_129 rfl h
    replace h := h.2
    by_cases c10 : a2 = 6
    · replace h := h.1 c10
      refine jj_swIn (pc := 15) (tgt := 130) dX6_info_15 (by rw [c10]; decide) (by rw [c10]; decide) (by rw [c10]; rfl) (by decide) ?_
      refine jj_aload_n (pc := 130) dX6_info_130 0 rfl ?_
      refine jj_getR (pc := 131) (ci := 6) (k := 0) dX6_info_131 rfl rfl (by decide) rfl lk_RX6_13 ?_
      refine jj_getR (pc := 134) (ci := 3) (k := 3) dX6_info_134 rfl rfl (by decide) rfl lk_RX6_124 ?_
      refine jj_iconst (pc := 137) (v := 2) dX6_info_137 (by decide) ?_
      refine jj_iload_n (pc := 138) dX6_info_138 1 rfl ?_
      refine jj_imul (pc := 139) dX6_info_139 ?_
      refine jj_iconst (pc := 140) (v := 1) dX6_info_140 (by decide) ?_
      refine jj_iadd (pc := 141) dX6_info_141 ?_
      refine jj_iald (pc := 142) dX6_info_142 rfl h.1 ?_
      replace h := h.2
      exact jj_iret (pc := 143) dX6_info_143 rfl h
    replace h := h.2
    replace h := h c4 c5 c6 c7 c8 c9 c10
    refine jj_swOut (pc := 15) (tgt := 144) dX6_info_15 (jj_swo 7 (by decide) (fun j hj => match j, hj with | 0, _ => c4 | 1, _ => c5 | 2, _ => c6 | 3, _ => c7 | 4, _ => c8 | 5, _ => c9 | 6, _ => c10 | j + 7, hj => absurd hj (by omega))) (by decide) ?_
    refine jj_ldc (pc := 144) (v := (-2147483648)) dX6_info_144 lk_RX6_91 ?_
    exact jj_iret (pc := 146) dX6_info_146 rfl h
  · replace h := h.2 c3
    refine jj_ldc (pc := 11) (v := (-2147483648)) dX6_info_11 lk_RX6_91 ?_
    exact jj_iret (pc := 13) dX6_info_13 rfl h
theorem en_X6_info {K : jj_K} (R : Int32 → wo_T → Prop)  (a1 : Int32) (a2 : Int32) (w : wo_T)
    (h : jj_Ci K mX3_hasPoint [.ref 1, .int a1] w (fun v1 w2 => (¬ v1 = 0 → (a2 = 0 → vp_in (2 * a1) 10 ∧ (R (w2.1 2 (2 * a1).toNatClampNeg) w2)) ∧ (a2 = 1 → vp_in ((2 * a1) + 1) 10 ∧ (R (w2.1 2 ((2 * a1) + 1).toNatClampNeg) w2)) ∧ (a2 = 2 → vp_in a1 5 ∧ (R (w2.1 3 a1.toNatClampNeg) w2)) ∧ (a2 = 3 → vp_in (2 * a1) 10 ∧ (R (w2.1 4 (2 * a1).toNatClampNeg) w2)) ∧ (a2 = 4 → vp_in ((2 * a1) + 1) 10 ∧ (R (w2.1 4 ((2 * a1) + 1).toNatClampNeg) w2)) ∧ (a2 = 5 → vp_in (2 * a1) 10 ∧ (R (w2.1 5 (2 * a1).toNatClampNeg) w2)) ∧ (a2 = 6 → vp_in ((2 * a1) + 1) 10 ∧ (R (w2.1 5 ((2 * a1) + 1).toNatClampNeg) w2)) ∧ (¬ a2 = 0 → ¬ a2 = 1 → ¬ a2 = 2 → ¬ a2 = 3 → ¬ a2 = 4 → ¬ a2 = 5 → ¬ a2 = 6 → R (-2147483648) w2)) ∧ (v1 = 0 → R (-2147483648) w2))) : jj_Ci K mX6_info [.ref 0, .int a1, .int a2] w R :=
  jj_Ci_intro pn_RX6 (Nat.le_of_ble_eq_true rfl) (vc_X6_info_0 R a1 a2 w h)
set_option maxRecDepth 100000 in
set_option maxHeartbeats 4000000 in
theorem vc_X6_pair_0 {K : jj_K} (R : Int32 → wo_T → Prop)  (a1 : Int32) (a2 : Int32) (w : wo_T)
    (h : jj_Ci K mX3_hasPair [.ref 1, .int a1] w (fun v1 w2 => (¬ v1 = 0 → (a2 = 0 → vp_in a1 10 ∧ (R (wo_les a1.toNatClampNeg) w2)) ∧ (a2 = 1 → vp_in a1 10 ∧ (R (wo_gre a1.toNatClampNeg) w2)) ∧ (a2 = 2 → vp_in a1 10 ∧ (R (w2.1 7 a1.toNatClampNeg) w2)) ∧ (a2 = 3 → jj_Ci K mX6_isBar [.ref 0, .int a1] w2 (fun v8 w9 => (v8 = 0 → R 0 w9) ∧ (¬ v8 = 0 → R 1 w9))) ∧ (¬ a2 = 0 → ¬ a2 = 1 → ¬ a2 = 2 → ¬ a2 = 3 → R (-2) w2)) ∧ (v1 = 0 → R (-2) w2))) :
    jj_J K mX6_pair (jj_Ri R) 0 [(0, .ref 0), (1, .int a1), (2, .int a2)] [] w := by
  refine jj_aload_n (pc := 0) dX6_pair_0 0 rfl ?_
  refine jj_getR (pc := 1) (ci := 6) (k := 0) dX6_pair_1 rfl rfl (by decide) rfl lk_RX6_13 ?_
  refine jj_iload_n (pc := 4) dX6_pair_4 1 rfl ?_
  refine jj_callVi (pc := 5) (N := mX3_hasPair) (as := [.int a1]) (st := []) dX6_pair_5 rfl rfl rfl lk_RX6_95 hv_X3_hasPair rfl rfl h (fun v1 w2 h => ?_)
  refine jj_if_ne (pc := 8) (tgt := 14) dX6_pair_8 (by decide) (fun c3 => ?_) (fun c3 => ?_)
  · replace h := h.1 c3
    refine jj_iload_n (pc := 14) dX6_pair_14 2 rfl ?_
    by_cases c4 : a2 = 0
    · replace h := h.1 c4
      refine jj_swIn (pc := 15) (tgt := 44) dX6_pair_15 (by rw [c4]; decide) (by rw [c4]; decide) (by rw [c4]; rfl) (by decide) ?_
      refine jj_gsLESSER (pc := 44) dX6_pair_44 lk_RX6_127 ?_
      refine jj_iload_n (pc := 47) dX6_pair_47 1 rfl ?_
      refine jj_saldLESSER (pc := 48) dX6_pair_48 h.1 ?_
      replace h := h.2
      exact jj_iret (pc := 49) dX6_pair_49 rfl h
    replace h := h.2
    by_cases c5 : a2 = 1
    · replace h := h.1 c5
      refine jj_swIn (pc := 15) (tgt := 50) dX6_pair_15 (by rw [c5]; decide) (by rw [c5]; decide) (by rw [c5]; rfl) (by decide) ?_
      refine jj_gsGREATER (pc := 50) dX6_pair_50 lk_RX6_130 ?_
      refine jj_iload_n (pc := 53) dX6_pair_53 1 rfl ?_
      refine jj_saldGREATER (pc := 54) dX6_pair_54 h.1 ?_
      replace h := h.2
      exact jj_iret (pc := 55) dX6_pair_55 rfl h
    replace h := h.2
    by_cases c6 : a2 = 2
    · replace h := h.1 c6
      refine jj_swIn (pc := 15) (tgt := 56) dX6_pair_15 (by rw [c6]; decide) (by rw [c6]; decide) (by rw [c6]; rfl) (by decide) ?_
      refine jj_aload_n (pc := 56) dX6_pair_56 0 rfl ?_
      refine jj_getR (pc := 57) (ci := 6) (k := 0) dX6_pair_57 rfl rfl (by decide) rfl lk_RX6_13 ?_
      refine jj_getR (pc := 60) (ci := 3) (k := 5) dX6_pair_60 rfl rfl (by decide) rfl lk_RX6_133 ?_
      refine jj_iload_n (pc := 63) dX6_pair_63 1 rfl ?_
      refine jj_iald (pc := 64) dX6_pair_64 rfl h.1 ?_
      replace h := h.2
      exact jj_iret (pc := 65) dX6_pair_65 rfl h
    replace h := h.2
    by_cases c7 : a2 = 3
    · replace h := h.1 c7
      refine jj_swIn (pc := 15) (tgt := 66) dX6_pair_15 (by rw [c7]; decide) (by rw [c7]; decide) (by rw [c7]; rfl) (by decide) ?_
      refine jj_aload_n (pc := 66) dX6_pair_66 0 rfl ?_
      refine jj_iload_n (pc := 67) dX6_pair_67 1 rfl ?_
      refine jj_callVi (pc := 68) (N := mX6_isBar) (as := [.int a1]) (st := []) dX6_pair_68 rfl rfl rfl lk_RX6_136 hv_X6_isBar rfl rfl h (fun v8 w9 h => ?_)
      refine jj_if_eq (pc := 71) (tgt := 78) dX6_pair_71 (by decide) (fun c10 => ?_) (fun c10 => ?_)
      · replace h := h.1 c10
        refine jj_iconst (pc := 78) (v := 0) dX6_pair_78 (by decide) ?_
        exact jj_iret (pc := 79) dX6_pair_79 rfl h
      · replace h := h.2 c10
        refine jj_iconst (pc := 74) (v := 1) dX6_pair_74 (by decide) ?_
        refine jj_goto (pc := 75) (tgt := 79) dX6_pair_75 (by decide) ?_
        exact jj_iret (pc := 79) dX6_pair_79 rfl h
    replace h := h.2
    replace h := h c4 c5 c6 c7
    refine jj_swOut (pc := 15) (tgt := 80) dX6_pair_15 (jj_swo 4 (by decide) (fun j hj => match j, hj with | 0, _ => c4 | 1, _ => c5 | 2, _ => c6 | 3, _ => c7 | j + 4, hj => absurd hj (by omega))) (by decide) ?_
    refine jj_bipush (pc := 80) (v := (-2)) dX6_pair_80 (by decide) ?_
    exact jj_iret (pc := 82) dX6_pair_82 rfl h
  · replace h := h.2 c3
    refine jj_bipush (pc := 11) (v := (-2)) dX6_pair_11 (by decide) ?_
    exact jj_iret (pc := 13) dX6_pair_13 rfl h
theorem en_X6_pair {K : jj_K} (R : Int32 → wo_T → Prop)  (a1 : Int32) (a2 : Int32) (w : wo_T)
    (h : jj_Ci K mX3_hasPair [.ref 1, .int a1] w (fun v1 w2 => (¬ v1 = 0 → (a2 = 0 → vp_in a1 10 ∧ (R (wo_les a1.toNatClampNeg) w2)) ∧ (a2 = 1 → vp_in a1 10 ∧ (R (wo_gre a1.toNatClampNeg) w2)) ∧ (a2 = 2 → vp_in a1 10 ∧ (R (w2.1 7 a1.toNatClampNeg) w2)) ∧ (a2 = 3 → jj_Ci K mX6_isBar [.ref 0, .int a1] w2 (fun v8 w9 => (v8 = 0 → R 0 w9) ∧ (¬ v8 = 0 → R 1 w9))) ∧ (¬ a2 = 0 → ¬ a2 = 1 → ¬ a2 = 2 → ¬ a2 = 3 → R (-2) w2)) ∧ (v1 = 0 → R (-2) w2))) : jj_Ci K mX6_pair [.ref 0, .int a1, .int a2] w R :=
  jj_Ci_intro pn_RX6 (Nat.le_of_ble_eq_true rfl) (vc_X6_pair_0 R a1 a2 w h)
set_option maxRecDepth 100000 in
set_option maxHeartbeats 4000000 in
theorem vc_X6_least_0 {K : jj_K} (R : Int64 → wo_T → Prop)  (a1 : Int32) (w : wo_T)
    (h : jj_Ci K mX6_isPart [.int a1] w (fun v1 w2 => (¬ v1 = 0 → jj_Ci K mX6_bestNow [.ref 0] w2 (fun v4 w5 => jj_Cl K mX0_volume [.ref 23, .int v4, .int a1] w5 (fun v6 w7 => R v6 w7))) ∧ (v1 = 0 → jj_Cl K mX6_asLong [.int (-2)] w2 (fun v8 w9 => R v8 w9)))) :
    jj_J K mX6_least (jj_Rl R) 0 [(0, .ref 0), (1, .int a1)] [] w := by
  refine jj_iload_n (pc := 0) dX6_least_0 1 rfl ?_
  refine jj_callSi (pc := 1) (N := mX6_isPart) (as := [.int a1]) (st := []) dX6_least_1 lk_RX6_139 hv_X6_isPart rfl rfl h (fun v1 w2 h => ?_)
  refine jj_if_ne (pc := 4) (tgt := 13) dX6_least_4 (by decide) (fun c3 => ?_) (fun c3 => ?_)
  · replace h := h.1 c3
    refine jj_aload_n (pc := 13) dX6_least_13 0 rfl ?_
    refine jj_getR (pc := 14) (ci := 6) (k := 1) dX6_least_14 rfl rfl (by decide) rfl lk_RX6_24 ?_
    refine jj_aload_n (pc := 17) dX6_least_17 0 rfl ?_
    refine jj_callVi (pc := 18) (N := mX6_bestNow) (as := []) (st := [.ref 23]) dX6_least_18 rfl rfl rfl lk_RX6_146 hv_X6_bestNow rfl rfl h (fun v4 w5 h => ?_)
    refine jj_iload_n (pc := 21) dX6_least_21 1 rfl ?_
    refine jj_callVl (pc := 22) (N := mX0_volume) (as := [.int v4, .int a1]) (st := []) dX6_least_22 rfl rfl rfl lk_RX6_149 hv_X0_volume rfl rfl h (fun v6 w7 h => ?_)
    exact jj_lret (pc := 25) dX6_least_25 rfl h
  · replace h := h.2 c3
    refine jj_bipush (pc := 7) (v := (-2)) dX6_least_7 (by decide) ?_
    refine jj_callSl (pc := 9) (N := mX6_asLong) (as := [.int (-2)]) (st := []) dX6_least_9 lk_RX6_142 hv_X6_asLong rfl rfl h (fun v8 w9 h => ?_)
    exact jj_lret (pc := 12) dX6_least_12 rfl h
theorem en_X6_least {K : jj_K} (R : Int64 → wo_T → Prop)  (a1 : Int32) (w : wo_T)
    (h : jj_Ci K mX6_isPart [.int a1] w (fun v1 w2 => (¬ v1 = 0 → jj_Ci K mX6_bestNow [.ref 0] w2 (fun v4 w5 => jj_Cl K mX0_volume [.ref 23, .int v4, .int a1] w5 (fun v6 w7 => R v6 w7))) ∧ (v1 = 0 → jj_Cl K mX6_asLong [.int (-2)] w2 (fun v8 w9 => R v8 w9)))) : jj_Cl K mX6_least [.ref 0, .int a1] w R :=
  jj_Cl_intro pn_RX6 (Nat.le_of_ble_eq_true rfl) (vc_X6_least_0 R a1 w h)
set_option maxRecDepth 100000 in
set_option maxHeartbeats 4000000 in
theorem vc_X6_fault_0 {K : jj_K} (R : Int32 → wo_T → Prop)   (w : wo_T)
    (h : jj_Ci K mX2_first [.ref 35, .ref 1, .int (w.1 0 6)] w (fun v1 w2 => R v1 w2)) :
    jj_J K mX6_fault (jj_Ri R) 0 [(0, .ref 0)] [] w := by
  refine jj_aload_n (pc := 0) dX6_fault_0 0 rfl ?_
  refine jj_getR (pc := 1) (ci := 6) (k := 3) dX6_fault_1 rfl rfl (by decide) rfl lk_RX6_34 ?_
  refine jj_aload_n (pc := 4) dX6_fault_4 0 rfl ?_
  refine jj_getR (pc := 5) (ci := 6) (k := 0) dX6_fault_5 rfl rfl (by decide) rfl lk_RX6_13 ?_
  refine jj_aload_n (pc := 8) dX6_fault_8 0 rfl ?_
  refine jj_getI (pc := 9) (ci := 6) (k := 6) dX6_fault_9 rfl rfl (by decide) rfl lk_RX6_72 ?_
  refine jj_callVi (pc := 12) (N := mX2_first) (as := [.ref 1, .int (w.1 0 6)]) (st := []) dX6_fault_12 rfl rfl rfl lk_RX6_153 hv_X2_first rfl rfl h (fun v1 w2 h => ?_)
  exact jj_iret (pc := 15) dX6_fault_15 rfl h
theorem en_X6_fault {K : jj_K} (R : Int32 → wo_T → Prop)   (w : wo_T)
    (h : jj_Ci K mX2_first [.ref 35, .ref 1, .int (w.1 0 6)] w (fun v1 w2 => R v1 w2)) : jj_Ci K mX6_fault [.ref 0] w R :=
  jj_Ci_intro pn_RX6 (Nat.le_of_ble_eq_true rfl) (vc_X6_fault_0 R  w h)
set_option maxRecDepth 100000 in
set_option maxHeartbeats 4000000 in
theorem vc_X6_frame_0 {K : jj_K} (R : Int32 → wo_T → Prop)   (w : wo_T)
    (h : jj_Ci K mX6_bestNow [.ref 0] w (fun v1 w2 => (0 ≤ v1 → vp_in v1 252 ∧ (R (w2.1 24 v1.toNatClampNeg) w2)) ∧ (¬ 0 ≤ v1 → R (-3) w2))) :
    jj_J K mX6_frame (jj_Ri R) 0 [(0, .ref 0)] [] w := by
  refine jj_aload_n (pc := 0) dX6_frame_0 0 rfl ?_
  refine jj_callVi (pc := 1) (N := mX6_bestNow) (as := []) (st := []) dX6_frame_1 rfl rfl rfl lk_RX6_146 hv_X6_bestNow rfl rfl h (fun v1 w2 h => ?_)
  refine jj_istore_n (pc := 4) (l2 := [(1, .int v1), (0, .ref 0)]) dX6_frame_4 (by decide) rfl ?_
  refine jj_iload_n (pc := 5) dX6_frame_5 0 rfl ?_
  refine jj_if_ge (pc := 6) (tgt := 14) dX6_frame_6 (by decide) (fun c3 => ?_) (fun c3 => ?_)
  · replace h := h.1 c3
    refine jj_aload_n (pc := 14) dX6_frame_14 1 rfl ?_
    refine jj_getR (pc := 15) (ci := 6) (k := 1) dX6_frame_15 rfl rfl (by decide) rfl lk_RX6_24 ?_
    refine jj_getR (pc := 18) (ci := 0) (k := 0) dX6_frame_18 rfl rfl (by decide) rfl lk_RX6_157 ?_
    refine jj_iload_n (pc := 21) dX6_frame_21 0 rfl ?_
    refine jj_iald (pc := 22) dX6_frame_22 rfl h.1 ?_
    replace h := h.2
    exact jj_iret (pc := 23) dX6_frame_23 rfl h
  · replace h := h.2 c3
    refine jj_bipush (pc := 9) (v := (-3)) dX6_frame_9 (by decide) ?_
    refine jj_goto (pc := 11) (tgt := 23) dX6_frame_11 (by decide) ?_
    exact jj_iret (pc := 23) dX6_frame_23 rfl h
theorem en_X6_frame {K : jj_K} (R : Int32 → wo_T → Prop)   (w : wo_T)
    (h : jj_Ci K mX6_bestNow [.ref 0] w (fun v1 w2 => (0 ≤ v1 → vp_in v1 252 ∧ (R (w2.1 24 v1.toNatClampNeg) w2)) ∧ (¬ 0 ≤ v1 → R (-3) w2))) : jj_Ci K mX6_frame [.ref 0] w R :=
  jj_Ci_intro pn_RX6 (Nat.le_of_ble_eq_true rfl) (vc_X6_frame_0 R  w h)
set_option maxRecDepth 100000 in
set_option maxHeartbeats 4000000 in
theorem vc_X6_pull_0 {K : jj_K} (R : Int64 → wo_T → Prop)  (a1 : Int32) (a2 : Int32) (w : wo_T)
    (h : jj_Ci K mX3_hasPair [.ref 1, .int a1] w (fun v1 w2 => (v1 = 0 → jj_Cl K mX6_asLong [.int (-2)] w2 (fun v4 w5 => R v4 w5)) ∧ (¬ v1 = 0 → jj_Ci K mX6_isPart [.int a2] w2 (fun v6 w7 => (¬ v6 = 0 → jj_Ci K mX6_bestNow [.ref 0] w7 (fun v9 w10 => (0 ≤ v9 → vp_in v9 252 ∧ (jj_Cv K mX0_solve [.ref 23, .ref 1, .int (w10.1 24 v9.toNatClampNeg)] w10 (fun w13 => vp_in a1 10 ∧ (jj_Cl K mX6_lowest [.long (w13.2 27 a1.toNatClampNeg), .long (w13.2 23 4), .int a2] w13 (fun v14 w15 => R v14 w15))))) ∧ (¬ 0 ≤ v9 → jj_Cl K mX6_asLong [.int (-3)] w10 (fun v16 w17 => R v16 w17)))) ∧ (v6 = 0 → jj_Cl K mX6_asLong [.int (-2)] w7 (fun v18 w19 => R v18 w19)))))) :
    jj_J K mX6_pull (jj_Rl R) 0 [(0, .ref 0), (1, .int a1), (2, .int a2)] [] w := by
  refine jj_aload_n (pc := 0) dX6_pull_0 0 rfl ?_
  refine jj_getR (pc := 1) (ci := 6) (k := 0) dX6_pull_1 rfl rfl (by decide) rfl lk_RX6_13 ?_
  refine jj_iload_n (pc := 4) dX6_pull_4 1 rfl ?_
  refine jj_callVi (pc := 5) (N := mX3_hasPair) (as := [.int a1]) (st := []) dX6_pull_5 rfl rfl rfl lk_RX6_95 hv_X3_hasPair rfl rfl h (fun v1 w2 h => ?_)
  refine jj_if_eq (pc := 8) (tgt := 18) dX6_pull_8 (by decide) (fun c3 => ?_) (fun c3 => ?_)
  · replace h := h.1 c3
    refine jj_bipush (pc := 18) (v := (-2)) dX6_pull_18 (by decide) ?_
    refine jj_callSl (pc := 20) (N := mX6_asLong) (as := [.int (-2)]) (st := []) dX6_pull_20 lk_RX6_142 hv_X6_asLong rfl rfl h (fun v4 w5 h => ?_)
    exact jj_lret (pc := 23) dX6_pull_23 rfl h
  · replace h := h.2 c3
    refine jj_iload_n (pc := 11) dX6_pull_11 2 rfl ?_
    refine jj_callSi (pc := 12) (N := mX6_isPart) (as := [.int a2]) (st := []) dX6_pull_12 lk_RX6_139 hv_X6_isPart rfl rfl h (fun v6 w7 h => ?_)
    refine jj_if_ne (pc := 15) (tgt := 24) dX6_pull_15 (by decide) (fun c8 => ?_) (fun c8 => ?_)
    · replace h := h.1 c8
      refine jj_aload_n (pc := 24) dX6_pull_24 0 rfl ?_
      refine jj_callVi (pc := 25) (N := mX6_bestNow) (as := []) (st := []) dX6_pull_25 rfl rfl rfl lk_RX6_146 hv_X6_bestNow rfl rfl h (fun v9 w10 h => ?_)
      refine jj_istore_n (pc := 28) (l2 := [(3, .int v9), (0, .ref 0), (1, .int a1), (2, .int a2)]) dX6_pull_28 (by decide) rfl ?_
      refine jj_iload_n (pc := 29) dX6_pull_29 0 rfl ?_
      refine jj_if_ge (pc := 30) (tgt := 39) dX6_pull_30 (by decide) (fun c11 => ?_) (fun c11 => ?_)
      · replace h := h.1 c11
        refine jj_aload_n (pc := 39) dX6_pull_39 1 rfl ?_
        refine jj_getR (pc := 40) (ci := 6) (k := 1) dX6_pull_40 rfl rfl (by decide) rfl lk_RX6_24 ?_
        refine jj_aload_n (pc := 43) dX6_pull_43 1 rfl ?_
        refine jj_getR (pc := 44) (ci := 6) (k := 0) dX6_pull_44 rfl rfl (by decide) rfl lk_RX6_13 ?_
        refine jj_aload_n (pc := 47) dX6_pull_47 1 rfl ?_
        refine jj_getR (pc := 48) (ci := 6) (k := 1) dX6_pull_48 rfl rfl (by decide) rfl lk_RX6_24 ?_
        refine jj_getR (pc := 51) (ci := 0) (k := 0) dX6_pull_51 rfl rfl (by decide) rfl lk_RX6_157 ?_
        refine jj_iload_n (pc := 54) dX6_pull_54 0 rfl ?_
        refine jj_iald (pc := 55) dX6_pull_55 rfl h.1 ?_
        replace h := h.2
        refine jj_callVv (pc := 56) (N := mX0_solve) (as := [.ref 1, .int (w10.1 24 v9.toNatClampNeg)]) (st := []) dX6_pull_56 rfl rfl rfl lk_RX6_160 hv_X0_solve rfl rfl h (fun w13 h => ?_)
        refine jj_aload_n (pc := 59) dX6_pull_59 1 rfl ?_
        refine jj_getR (pc := 60) (ci := 6) (k := 1) dX6_pull_60 rfl rfl (by decide) rfl lk_RX6_24 ?_
        refine jj_getR (pc := 63) (ci := 0) (k := 3) dX6_pull_63 rfl rfl (by decide) rfl lk_RX6_164 ?_
        refine jj_iload_n (pc := 66) dX6_pull_66 2 rfl ?_
        refine jj_lald (pc := 67) dX6_pull_67 rfl h.1 ?_
        replace h := h.2
        refine jj_aload_n (pc := 68) dX6_pull_68 1 rfl ?_
        refine jj_getR (pc := 69) (ci := 6) (k := 1) dX6_pull_69 rfl rfl (by decide) rfl lk_RX6_24 ?_
        refine jj_getL (pc := 72) (ci := 0) (k := 4) dX6_pull_72 rfl rfl (by decide) rfl lk_RX6_167 ?_
        refine jj_iload_n (pc := 75) dX6_pull_75 3 rfl ?_
        refine jj_callSl (pc := 76) (N := mX6_lowest) (as := [.long (w13.2 27 a1.toNatClampNeg), .long (w13.2 23 4), .int a2]) (st := []) dX6_pull_76 lk_RX6_171 hv_X6_lowest rfl rfl h (fun v14 w15 h => ?_)
        exact jj_lret (pc := 79) dX6_pull_79 rfl h
      · replace h := h.2 c11
        refine jj_bipush (pc := 33) (v := (-3)) dX6_pull_33 (by decide) ?_
        refine jj_callSl (pc := 35) (N := mX6_asLong) (as := [.int (-3)]) (st := []) dX6_pull_35 lk_RX6_142 hv_X6_asLong rfl rfl h (fun v16 w17 h => ?_)
        exact jj_lret (pc := 38) dX6_pull_38 rfl h
    · replace h := h.2 c8
      refine jj_bipush (pc := 18) (v := (-2)) dX6_pull_18 (by decide) ?_
      refine jj_callSl (pc := 20) (N := mX6_asLong) (as := [.int (-2)]) (st := []) dX6_pull_20 lk_RX6_142 hv_X6_asLong rfl rfl h (fun v18 w19 h => ?_)
      exact jj_lret (pc := 23) dX6_pull_23 rfl h
theorem en_X6_pull {K : jj_K} (R : Int64 → wo_T → Prop)  (a1 : Int32) (a2 : Int32) (w : wo_T)
    (h : jj_Ci K mX3_hasPair [.ref 1, .int a1] w (fun v1 w2 => (v1 = 0 → jj_Cl K mX6_asLong [.int (-2)] w2 (fun v4 w5 => R v4 w5)) ∧ (¬ v1 = 0 → jj_Ci K mX6_isPart [.int a2] w2 (fun v6 w7 => (¬ v6 = 0 → jj_Ci K mX6_bestNow [.ref 0] w7 (fun v9 w10 => (0 ≤ v9 → vp_in v9 252 ∧ (jj_Cv K mX0_solve [.ref 23, .ref 1, .int (w10.1 24 v9.toNatClampNeg)] w10 (fun w13 => vp_in a1 10 ∧ (jj_Cl K mX6_lowest [.long (w13.2 27 a1.toNatClampNeg), .long (w13.2 23 4), .int a2] w13 (fun v14 w15 => R v14 w15))))) ∧ (¬ 0 ≤ v9 → jj_Cl K mX6_asLong [.int (-3)] w10 (fun v16 w17 => R v16 w17)))) ∧ (v6 = 0 → jj_Cl K mX6_asLong [.int (-2)] w7 (fun v18 w19 => R v18 w19)))))) : jj_Cl K mX6_pull [.ref 0, .int a1, .int a2] w R :=
  jj_Cl_intro pn_RX6 (Nat.le_of_ble_eq_true rfl) (vc_X6_pull_0 R a1 a2 w h)
set_option maxRecDepth 100000 in
set_option maxHeartbeats 4000000 in
theorem vc_X6_without_0 {K : jj_K} (R : Int64 → wo_T → Prop)  (a1 : Int32) (a2 : Int32) (w : wo_T)
    (h : jj_Ci K mX6_isBar [.ref 0, .int a1] w (fun v1 w2 => (v1 = 0 → jj_Cl K mX6_asLong [.int (-2)] w2 (fun v4 w5 => R v4 w5)) ∧ (¬ v1 = 0 → jj_Ci K mX6_isPart [.int a2] w2 (fun v6 w7 => (¬ v6 = 0 → jj_Ci K mX6_bestNow [.ref 0] w7 (fun v9 w10 => (0 ≤ v9 → jj_Ci K mX0_leastWithin [.ref 23, .int ((w10.1 0 6) &&& (((1 : Int32) <<< (a1 &&& 31)) ^^^ (-1)))] w10 (fun v12 w13 => jj_Cl K mX0_volume [.ref 23, .int v12, .int a2] w13 (fun v14 w15 => R v14 w15))) ∧ (¬ 0 ≤ v9 → jj_Cl K mX6_asLong [.int (-3)] w10 (fun v16 w17 => R v16 w17)))) ∧ (v6 = 0 → jj_Cl K mX6_asLong [.int (-2)] w7 (fun v18 w19 => R v18 w19)))))) :
    jj_J K mX6_without (jj_Rl R) 0 [(0, .ref 0), (1, .int a1), (2, .int a2)] [] w := by
  refine jj_aload_n (pc := 0) dX6_without_0 0 rfl ?_
  refine jj_iload_n (pc := 1) dX6_without_1 1 rfl ?_
  refine jj_callVi (pc := 2) (N := mX6_isBar) (as := [.int a1]) (st := []) dX6_without_2 rfl rfl rfl lk_RX6_136 hv_X6_isBar rfl rfl h (fun v1 w2 h => ?_)
  refine jj_if_eq (pc := 5) (tgt := 15) dX6_without_5 (by decide) (fun c3 => ?_) (fun c3 => ?_)
  · replace h := h.1 c3
    refine jj_bipush (pc := 15) (v := (-2)) dX6_without_15 (by decide) ?_
    refine jj_callSl (pc := 17) (N := mX6_asLong) (as := [.int (-2)]) (st := []) dX6_without_17 lk_RX6_142 hv_X6_asLong rfl rfl h (fun v4 w5 h => ?_)
    exact jj_lret (pc := 20) dX6_without_20 rfl h
  · replace h := h.2 c3
    refine jj_iload_n (pc := 8) dX6_without_8 2 rfl ?_
    refine jj_callSi (pc := 9) (N := mX6_isPart) (as := [.int a2]) (st := []) dX6_without_9 lk_RX6_139 hv_X6_isPart rfl rfl h (fun v6 w7 h => ?_)
    refine jj_if_ne (pc := 12) (tgt := 21) dX6_without_12 (by decide) (fun c8 => ?_) (fun c8 => ?_)
    · replace h := h.1 c8
      refine jj_aload_n (pc := 21) dX6_without_21 0 rfl ?_
      refine jj_callVi (pc := 22) (N := mX6_bestNow) (as := []) (st := []) dX6_without_22 rfl rfl rfl lk_RX6_146 hv_X6_bestNow rfl rfl h (fun v9 w10 h => ?_)
      refine jj_if_ge (pc := 25) (tgt := 34) dX6_without_25 (by decide) (fun c11 => ?_) (fun c11 => ?_)
      · replace h := h.1 c11
        refine jj_aload_n (pc := 34) dX6_without_34 0 rfl ?_
        refine jj_getR (pc := 35) (ci := 6) (k := 1) dX6_without_35 rfl rfl (by decide) rfl lk_RX6_24 ?_
        refine jj_aload_n (pc := 38) dX6_without_38 0 rfl ?_
        refine jj_getR (pc := 39) (ci := 6) (k := 1) dX6_without_39 rfl rfl (by decide) rfl lk_RX6_24 ?_
        refine jj_aload_n (pc := 42) dX6_without_42 0 rfl ?_
        refine jj_getI (pc := 43) (ci := 6) (k := 6) dX6_without_43 rfl rfl (by decide) rfl lk_RX6_72 ?_
        refine jj_iconst (pc := 46) (v := 1) dX6_without_46 (by decide) ?_
        refine jj_iload_n (pc := 47) dX6_without_47 1 rfl ?_
        refine jj_ishl (pc := 48) dX6_without_48 ?_
        refine jj_iconst (pc := 49) (v := (-1)) dX6_without_49 (by decide) ?_
        refine jj_ixor (pc := 50) dX6_without_50 ?_
        refine jj_iand (pc := 51) dX6_without_51 ?_
        refine jj_callVi (pc := 52) (N := mX0_leastWithin) (as := [.int ((w10.1 0 6) &&& (((1 : Int32) <<< (a1 &&& 31)) ^^^ (-1)))]) (st := [.ref 23]) dX6_without_52 rfl rfl rfl lk_RX6_175 hv_X0_leastWithin rfl rfl h (fun v12 w13 h => ?_)
        refine jj_iload_n (pc := 55) dX6_without_55 2 rfl ?_
        refine jj_callVl (pc := 56) (N := mX0_volume) (as := [.int v12, .int a2]) (st := []) dX6_without_56 rfl rfl rfl lk_RX6_149 hv_X0_volume rfl rfl h (fun v14 w15 h => ?_)
        exact jj_lret (pc := 59) dX6_without_59 rfl h
      · replace h := h.2 c11
        refine jj_bipush (pc := 28) (v := (-3)) dX6_without_28 (by decide) ?_
        refine jj_callSl (pc := 30) (N := mX6_asLong) (as := [.int (-3)]) (st := []) dX6_without_30 lk_RX6_142 hv_X6_asLong rfl rfl h (fun v16 w17 h => ?_)
        exact jj_lret (pc := 33) dX6_without_33 rfl h
    · replace h := h.2 c8
      refine jj_bipush (pc := 15) (v := (-2)) dX6_without_15 (by decide) ?_
      refine jj_callSl (pc := 17) (N := mX6_asLong) (as := [.int (-2)]) (st := []) dX6_without_17 lk_RX6_142 hv_X6_asLong rfl rfl h (fun v18 w19 h => ?_)
      exact jj_lret (pc := 20) dX6_without_20 rfl h
theorem en_X6_without {K : jj_K} (R : Int64 → wo_T → Prop)  (a1 : Int32) (a2 : Int32) (w : wo_T)
    (h : jj_Ci K mX6_isBar [.ref 0, .int a1] w (fun v1 w2 => (v1 = 0 → jj_Cl K mX6_asLong [.int (-2)] w2 (fun v4 w5 => R v4 w5)) ∧ (¬ v1 = 0 → jj_Ci K mX6_isPart [.int a2] w2 (fun v6 w7 => (¬ v6 = 0 → jj_Ci K mX6_bestNow [.ref 0] w7 (fun v9 w10 => (0 ≤ v9 → jj_Ci K mX0_leastWithin [.ref 23, .int ((w10.1 0 6) &&& (((1 : Int32) <<< (a1 &&& 31)) ^^^ (-1)))] w10 (fun v12 w13 => jj_Cl K mX0_volume [.ref 23, .int v12, .int a2] w13 (fun v14 w15 => R v14 w15))) ∧ (¬ 0 ≤ v9 → jj_Cl K mX6_asLong [.int (-3)] w10 (fun v16 w17 => R v16 w17)))) ∧ (v6 = 0 → jj_Cl K mX6_asLong [.int (-2)] w7 (fun v18 w19 => R v18 w19)))))) : jj_Cl K mX6_without [.ref 0, .int a1, .int a2] w R :=
  jj_Cl_intro pn_RX6 (Nat.le_of_ble_eq_true rfl) (vc_X6_without_0 R a1 a2 w h)
set_option maxRecDepth 100000 in
set_option maxHeartbeats 4000000 in
theorem vc_X6_why_0 {K : jj_K} (R : Int32 → wo_T → Prop)  (a1 : Int32) (w : wo_T)
    (h : jj_Ci K mX6_isBar [.ref 0, .int a1] w (fun v1 w2 => (¬ v1 = 0 → jj_Ci K mX2_first [.ref 35, .ref 1, .int ((w2.1 0 6) &&& (((1 : Int32) <<< (a1 &&& 31)) ^^^ (-1)))] w2 (fun v4 w5 => R v4 w5)) ∧ (v1 = 0 → R (-2) w2))) :
    jj_J K mX6_why (jj_Ri R) 0 [(0, .ref 0), (1, .int a1)] [] w := by
  refine jj_aload_n (pc := 0) dX6_why_0 0 rfl ?_
  refine jj_iload_n (pc := 1) dX6_why_1 1 rfl ?_
  refine jj_callVi (pc := 2) (N := mX6_isBar) (as := [.int a1]) (st := []) dX6_why_2 rfl rfl rfl lk_RX6_136 hv_X6_isBar rfl rfl h (fun v1 w2 h => ?_)
  refine jj_if_ne (pc := 5) (tgt := 11) dX6_why_5 (by decide) (fun c3 => ?_) (fun c3 => ?_)
  · replace h := h.1 c3
    refine jj_aload_n (pc := 11) dX6_why_11 0 rfl ?_
    refine jj_getR (pc := 12) (ci := 6) (k := 3) dX6_why_12 rfl rfl (by decide) rfl lk_RX6_34 ?_
    refine jj_aload_n (pc := 15) dX6_why_15 0 rfl ?_
    refine jj_getR (pc := 16) (ci := 6) (k := 0) dX6_why_16 rfl rfl (by decide) rfl lk_RX6_13 ?_
    refine jj_aload_n (pc := 19) dX6_why_19 0 rfl ?_
    refine jj_getI (pc := 20) (ci := 6) (k := 6) dX6_why_20 rfl rfl (by decide) rfl lk_RX6_72 ?_
    refine jj_iconst (pc := 23) (v := 1) dX6_why_23 (by decide) ?_
    refine jj_iload_n (pc := 24) dX6_why_24 1 rfl ?_
    refine jj_ishl (pc := 25) dX6_why_25 ?_
    refine jj_iconst (pc := 26) (v := (-1)) dX6_why_26 (by decide) ?_
    refine jj_ixor (pc := 27) dX6_why_27 ?_
    refine jj_iand (pc := 28) dX6_why_28 ?_
    refine jj_callVi (pc := 29) (N := mX2_first) (as := [.ref 1, .int ((w2.1 0 6) &&& (((1 : Int32) <<< (a1 &&& 31)) ^^^ (-1)))]) (st := []) dX6_why_29 rfl rfl rfl lk_RX6_153 hv_X2_first rfl rfl h (fun v4 w5 h => ?_)
    exact jj_iret (pc := 32) dX6_why_32 rfl h
  · replace h := h.2 c3
    refine jj_bipush (pc := 8) (v := (-2)) dX6_why_8 (by decide) ?_
    exact jj_iret (pc := 10) dX6_why_10 rfl h
theorem en_X6_why {K : jj_K} (R : Int32 → wo_T → Prop)  (a1 : Int32) (w : wo_T)
    (h : jj_Ci K mX6_isBar [.ref 0, .int a1] w (fun v1 w2 => (¬ v1 = 0 → jj_Ci K mX2_first [.ref 35, .ref 1, .int ((w2.1 0 6) &&& (((1 : Int32) <<< (a1 &&& 31)) ^^^ (-1)))] w2 (fun v4 w5 => R v4 w5)) ∧ (v1 = 0 → R (-2) w2))) : jj_Ci K mX6_why [.ref 0, .int a1] w R :=
  jj_Ci_intro pn_RX6 (Nat.le_of_ble_eq_true rfl) (vc_X6_why_0 R a1 w h)
set_option maxRecDepth 100000 in
set_option maxHeartbeats 4000000 in
theorem vc_X6_needed_0 {K : jj_K} (R : Int32 → wo_T → Prop)   (w : wo_T)
    (h : jj_Ci K mX6_bestNow [.ref 0] w (fun v1 w2 => (0 ≤ v1 → vp_in v1 252 ∧ (∀ x4 : Int32, x4 = w2.1 24 v1.toNatClampNeg → (jj_J K mX6_needed (jj_Ri R) 27 [(0, .ref 0), (1, .int v1), (2, .int x4), (3, .int 0), (4, .int 0)] [] w2))) ∧ (¬ 0 ≤ v1 → R (-3) w2))) :
    jj_J K mX6_needed (jj_Ri R) 0 [(0, .ref 0)] [] w := by
  refine jj_aload_n (pc := 0) dX6_needed_0 0 rfl ?_
  refine jj_callVi (pc := 1) (N := mX6_bestNow) (as := []) (st := []) dX6_needed_1 rfl rfl rfl lk_RX6_146 hv_X6_bestNow rfl rfl h (fun v1 w2 h => ?_)
  refine jj_istore_n (pc := 4) (l2 := [(1, .int v1), (0, .ref 0)]) dX6_needed_4 (by decide) rfl ?_
  refine jj_iload_n (pc := 5) dX6_needed_5 0 rfl ?_
  refine jj_if_ge (pc := 6) (tgt := 12) dX6_needed_6 (by decide) (fun c3 => ?_) (fun c3 => ?_)
  · replace h := h.1 c3
    refine jj_aload_n (pc := 12) dX6_needed_12 1 rfl ?_
    refine jj_getR (pc := 13) (ci := 6) (k := 1) dX6_needed_13 rfl rfl (by decide) rfl lk_RX6_24 ?_
    refine jj_getR (pc := 16) (ci := 0) (k := 0) dX6_needed_16 rfl rfl (by decide) rfl lk_RX6_157 ?_
    refine jj_iload_n (pc := 19) dX6_needed_19 0 rfl ?_
    refine jj_iald (pc := 20) dX6_needed_20 rfl h.1 ?_
    replace h := h.2
    refine jj_nmi (fun x4 ex4 => ?_)
    replace h := h x4 ex4
    refine jj_istore_n (pc := 21) (l2 := [(2, .int x4), (1, .int v1), (0, .ref 0)]) dX6_needed_21 (by decide) rfl ?_
    refine jj_iconst (pc := 22) (v := 0) dX6_needed_22 (by decide) ?_
    refine jj_istore_n (pc := 23) (l2 := [(3, .int 0), (2, .int x4), (1, .int v1), (0, .ref 0)]) dX6_needed_23 (by decide) rfl ?_
    refine jj_iconst (pc := 24) (v := 0) dX6_needed_24 (by decide) ?_
    refine jj_istore (pc := 25) (l2 := [(4, .int 0), (3, .int 0), (2, .int x4), (1, .int v1), (0, .ref 0)]) dX6_needed_25 (by decide) rfl ?_
    exact jj_sub [4, 3, 2, 1, 0] rfl h
  · replace h := h.2 c3
    refine jj_bipush (pc := 9) (v := (-3)) dX6_needed_9 (by decide) ?_
    exact jj_iret (pc := 11) dX6_needed_11 rfl h
theorem en_X6_needed {K : jj_K} (R : Int32 → wo_T → Prop)   (w : wo_T)
    (h : jj_Ci K mX6_bestNow [.ref 0] w (fun v1 w2 => (0 ≤ v1 → vp_in v1 252 ∧ (∀ x4 : Int32, x4 = w2.1 24 v1.toNatClampNeg → (jj_J K mX6_needed (jj_Ri R) 27 [(0, .ref 0), (1, .int v1), (2, .int x4), (3, .int 0), (4, .int 0)] [] w2))) ∧ (¬ 0 ≤ v1 → R (-3) w2))) : jj_Ci K mX6_needed [.ref 0] w R :=
  jj_Ci_intro pn_RX6 (Nat.le_of_ble_eq_true rfl) (vc_X6_needed_0 R  w h)
set_option maxRecDepth 100000 in
set_option maxHeartbeats 4000000 in
theorem vc_X6_needed_27 {K : jj_K} (R : Int32 → wo_T → Prop)  (a1 : Int32) (a2 : Int32) (a3 : Int32) (a4 : Int32) (w : wo_T)
    (h : (10 ≤ a4 → R a3 w) ∧ (¬ 10 ≤ a4 → ∀ x2 : Int32, x2 = (1 : Int32) <<< (a4 &&& 31) → (((a2 &&& x2) = 0 → jj_J K mX6_needed (jj_Ri R) 27 [(0, .ref 0), (1, .int a1), (2, .int a2), (3, .int a3), (4, .int (a4 + 1))] [] w) ∧ (¬ (a2 &&& x2) = 0 → jj_Ci K mX0_leastWithin [.ref 23, .int ((w.1 0 6) &&& (x2 ^^^ (-1)))] w (fun v4 w5 => jj_Ci K mX0_isDearer [.ref 23, .int v4, .int a1] w5 (fun v6 w7 => (v6 = 0 → jj_J K mX6_needed (jj_Ri R) 27 [(0, .ref 0), (1, .int a1), (2, .int a2), (3, .int a3), (4, .int (a4 + 1))] [] w7) ∧ (¬ v6 = 0 → ∀ x9 : Int32, x9 = a3 ||| x2 → (jj_J K mX6_needed (jj_Ri R) 27 [(0, .ref 0), (1, .int a1), (2, .int a2), (3, .int x9), (4, .int (a4 + 1))] [] w7)))))))) :
    jj_J K mX6_needed (jj_Ri R) 27 [(0, .ref 0), (1, .int a1), (2, .int a2), (3, .int a3), (4, .int a4)] [] w := by
  refine jj_iload (pc := 27) dX6_needed_27 4 rfl ?_
  refine jj_bipush (pc := 29) (v := 10) dX6_needed_29 (by decide) ?_
  refine jj_icmp_ge (pc := 31) (tgt := 85) dX6_needed_31 (by decide) (fun c1 => ?_) (fun c1 => ?_)
  · replace h := h.1 c1
    refine jj_iload_n (pc := 85) dX6_needed_85 3 rfl ?_
    exact jj_iret (pc := 86) dX6_needed_86 rfl h
  · replace h := h.2 c1
    refine jj_iconst (pc := 34) (v := 1) dX6_needed_34 (by decide) ?_
    refine jj_iload (pc := 35) dX6_needed_35 4 rfl ?_
    refine jj_ishl (pc := 37) dX6_needed_37 ?_
    refine jj_nmi (fun x2 ex2 => ?_)
    replace h := h x2 ex2
    refine jj_istore (pc := 38) (l2 := [(5, .int x2), (0, .ref 0), (1, .int a1), (2, .int a2), (3, .int a3), (4, .int a4)]) dX6_needed_38 (by decide) rfl ?_
    refine jj_iload_n (pc := 40) dX6_needed_40 3 rfl ?_
    refine jj_iload (pc := 41) dX6_needed_41 0 rfl ?_
    refine jj_iand (pc := 43) dX6_needed_43 ?_
    refine jj_if_eq (pc := 44) (tgt := 79) dX6_needed_44 (by decide) (fun c3 => ?_) (fun c3 => ?_)
    · replace h := h.1 c3
      refine jj_iinc (pc := 79) (v := a4 + 1) (l2 := [(4, .int (a4 + 1)), (5, .int x2), (0, .ref 0), (1, .int a1), (2, .int a2), (3, .int a3)]) dX6_needed_79 5 rfl rfl (by decide) rfl ?_
      refine jj_goto (pc := 82) (tgt := 27) dX6_needed_82 (by decide) ?_
      exact jj_sub [2, 3, 4, 5, 0] rfl h
    · replace h := h.2 c3
      refine jj_aload_n (pc := 47) dX6_needed_47 1 rfl ?_
      refine jj_getR (pc := 48) (ci := 6) (k := 1) dX6_needed_48 rfl rfl (by decide) rfl lk_RX6_24 ?_
      refine jj_aload_n (pc := 51) dX6_needed_51 1 rfl ?_
      refine jj_getR (pc := 52) (ci := 6) (k := 1) dX6_needed_52 rfl rfl (by decide) rfl lk_RX6_24 ?_
      refine jj_aload_n (pc := 55) dX6_needed_55 1 rfl ?_
      refine jj_getI (pc := 56) (ci := 6) (k := 6) dX6_needed_56 rfl rfl (by decide) rfl lk_RX6_72 ?_
      refine jj_iload (pc := 59) dX6_needed_59 0 rfl ?_
      refine jj_iconst (pc := 61) (v := (-1)) dX6_needed_61 (by decide) ?_
      refine jj_ixor (pc := 62) dX6_needed_62 ?_
      refine jj_iand (pc := 63) dX6_needed_63 ?_
      refine jj_callVi (pc := 64) (N := mX0_leastWithin) (as := [.int ((w.1 0 6) &&& (x2 ^^^ (-1)))]) (st := [.ref 23]) dX6_needed_64 rfl rfl rfl lk_RX6_175 hv_X0_leastWithin rfl rfl h (fun v4 w5 h => ?_)
      refine jj_iload_n (pc := 67) dX6_needed_67 2 rfl ?_
      refine jj_callVi (pc := 68) (N := mX0_isDearer) (as := [.int v4, .int a1]) (st := []) dX6_needed_68 rfl rfl rfl lk_RX6_178 hv_X0_isDearer rfl rfl h (fun v6 w7 h => ?_)
      refine jj_if_eq (pc := 71) (tgt := 79) dX6_needed_71 (by decide) (fun c8 => ?_) (fun c8 => ?_)
      · replace h := h.1 c8
        refine jj_iinc (pc := 79) (v := a4 + 1) (l2 := [(4, .int (a4 + 1)), (5, .int x2), (0, .ref 0), (1, .int a1), (2, .int a2), (3, .int a3)]) dX6_needed_79 5 rfl rfl (by decide) rfl ?_
        refine jj_goto (pc := 82) (tgt := 27) dX6_needed_82 (by decide) ?_
        exact jj_sub [2, 3, 4, 5, 0] rfl h
      · replace h := h.2 c8
        refine jj_iload_n (pc := 74) dX6_needed_74 4 rfl ?_
        refine jj_iload (pc := 75) dX6_needed_75 0 rfl ?_
        refine jj_ior (pc := 77) dX6_needed_77 ?_
        refine jj_nmi (fun x9 ex9 => ?_)
        replace h := h x9 ex9
        refine jj_istore_n (pc := 78) (l2 := [(3, .int x9), (5, .int x2), (0, .ref 0), (1, .int a1), (2, .int a2), (4, .int a4)]) dX6_needed_78 (by decide) rfl ?_
        refine jj_iinc (pc := 79) (v := a4 + 1) (l2 := [(4, .int (a4 + 1)), (3, .int x9), (5, .int x2), (0, .ref 0), (1, .int a1), (2, .int a2)]) dX6_needed_79 5 rfl rfl (by decide) rfl ?_
        refine jj_goto (pc := 82) (tgt := 27) dX6_needed_82 (by decide) ?_
        exact jj_sub [3, 4, 5, 1, 0] rfl h
set_option maxRecDepth 100000 in
set_option maxHeartbeats 4000000 in
theorem vc_X6_dearest_0 {K : jj_K} (R : Int32 → wo_T → Prop)   (w : wo_T)
    (h : jj_Ci K mX6_needed [.ref 0] w (fun v1 w2 => (0 ≤ v1 → jj_J K mX6_dearest (jj_Ri R) 19 [(0, .ref 0), (1, .int v1), (2, .int (-1)), (3, .int (-1)), (4, .int 0)] [] w2) ∧ (¬ 0 ≤ v1 → R (-3) w2))) :
    jj_J K mX6_dearest (jj_Ri R) 0 [(0, .ref 0)] [] w := by
  refine jj_aload_n (pc := 0) dX6_dearest_0 0 rfl ?_
  refine jj_callVi (pc := 1) (N := mX6_needed) (as := []) (st := []) dX6_dearest_1 rfl rfl rfl lk_RX6_181 hv_X6_needed rfl rfl h (fun v1 w2 h => ?_)
  refine jj_istore_n (pc := 4) (l2 := [(1, .int v1), (0, .ref 0)]) dX6_dearest_4 (by decide) rfl ?_
  refine jj_iload_n (pc := 5) dX6_dearest_5 0 rfl ?_
  refine jj_if_ge (pc := 6) (tgt := 12) dX6_dearest_6 (by decide) (fun c3 => ?_) (fun c3 => ?_)
  · replace h := h.1 c3
    refine jj_iconst (pc := 12) (v := (-1)) dX6_dearest_12 (by decide) ?_
    refine jj_istore_n (pc := 13) (l2 := [(2, .int (-1)), (1, .int v1), (0, .ref 0)]) dX6_dearest_13 (by decide) rfl ?_
    refine jj_iconst (pc := 14) (v := (-1)) dX6_dearest_14 (by decide) ?_
    refine jj_istore_n (pc := 15) (l2 := [(3, .int (-1)), (2, .int (-1)), (1, .int v1), (0, .ref 0)]) dX6_dearest_15 (by decide) rfl ?_
    refine jj_iconst (pc := 16) (v := 0) dX6_dearest_16 (by decide) ?_
    refine jj_istore (pc := 17) (l2 := [(4, .int 0), (3, .int (-1)), (2, .int (-1)), (1, .int v1), (0, .ref 0)]) dX6_dearest_17 (by decide) rfl ?_
    exact jj_sub [4, 3, 2, 1, 0] rfl h
  · replace h := h.2 c3
    refine jj_bipush (pc := 9) (v := (-3)) dX6_dearest_9 (by decide) ?_
    exact jj_iret (pc := 11) dX6_dearest_11 rfl h
theorem en_X6_dearest {K : jj_K} (R : Int32 → wo_T → Prop)   (w : wo_T)
    (h : jj_Ci K mX6_needed [.ref 0] w (fun v1 w2 => (0 ≤ v1 → jj_J K mX6_dearest (jj_Ri R) 19 [(0, .ref 0), (1, .int v1), (2, .int (-1)), (3, .int (-1)), (4, .int 0)] [] w2) ∧ (¬ 0 ≤ v1 → R (-3) w2))) : jj_Ci K mX6_dearest [.ref 0] w R :=
  jj_Ci_intro pn_RX6 (Nat.le_of_ble_eq_true rfl) (vc_X6_dearest_0 R  w h)
set_option maxRecDepth 100000 in
set_option maxHeartbeats 4000000 in
theorem vc_X6_dearest_19 {K : jj_K} (R : Int32 → wo_T → Prop)  (a1 : Int32) (a2 : Int32) (a3 : Int32) (a4 : Int32) (w : wo_T)
    (h : (10 ≤ a4 → R a2 w) ∧ (¬ 10 ≤ a4 → (¬ ((a1 >>> (a4 &&& 31)) &&& 1) = 0 → jj_Ci K mX0_leastWithin [.ref 23, .int ((w.1 0 6) &&& (((1 : Int32) <<< (a4 &&& 31)) ^^^ (-1)))] w (fun v3 w4 => (0 ≤ v3 → (a2 < 0 → jj_J K mX6_dearest (jj_Ri R) 19 [(0, .ref 0), (1, .int a1), (2, .int a4), (3, .int v3), (4, .int (a4 + 1))] [] w4) ∧ (¬ a2 < 0 → jj_Ci K mX0_isDearer [.ref 23, .int v3, .int a3] w4 (fun v7 w8 => (v7 = 0 → jj_J K mX6_dearest (jj_Ri R) 19 [(0, .ref 0), (1, .int a1), (2, .int a2), (3, .int a3), (4, .int (a4 + 1))] [] w8) ∧ (¬ v7 = 0 → jj_J K mX6_dearest (jj_Ri R) 19 [(0, .ref 0), (1, .int a1), (2, .int a4), (3, .int v3), (4, .int (a4 + 1))] [] w8)))) ∧ (¬ 0 ≤ v3 → R a4 w4))) ∧ (((a1 >>> (a4 &&& 31)) &&& 1) = 0 → jj_J K mX6_dearest (jj_Ri R) 19 [(0, .ref 0), (1, .int a1), (2, .int a2), (3, .int a3), (4, .int (a4 + 1))] [] w))) :
    jj_J K mX6_dearest (jj_Ri R) 19 [(0, .ref 0), (1, .int a1), (2, .int a2), (3, .int a3), (4, .int a4)] [] w := by
  refine jj_iload (pc := 19) dX6_dearest_19 4 rfl ?_
  refine jj_bipush (pc := 21) (v := 10) dX6_dearest_21 (by decide) ?_
  refine jj_icmp_ge (pc := 23) (tgt := 95) dX6_dearest_23 (by decide) (fun c1 => ?_) (fun c1 => ?_)
  · replace h := h.1 c1
    refine jj_iload_n (pc := 95) dX6_dearest_95 2 rfl ?_
    exact jj_iret (pc := 96) dX6_dearest_96 rfl h
  · replace h := h.2 c1
    refine jj_iload_n (pc := 26) dX6_dearest_26 1 rfl ?_
    refine jj_iload (pc := 27) dX6_dearest_27 4 rfl ?_
    refine jj_ishr (pc := 29) dX6_dearest_29 ?_
    refine jj_iconst (pc := 30) (v := 1) dX6_dearest_30 (by decide) ?_
    refine jj_iand (pc := 31) dX6_dearest_31 ?_
    refine jj_if_ne (pc := 32) (tgt := 38) dX6_dearest_32 (by decide) (fun c2 => ?_) (fun c2 => ?_)
    · replace h := h.1 c2
      refine jj_aload_n (pc := 38) dX6_dearest_38 0 rfl ?_
      refine jj_getR (pc := 39) (ci := 6) (k := 1) dX6_dearest_39 rfl rfl (by decide) rfl lk_RX6_24 ?_
      refine jj_aload_n (pc := 42) dX6_dearest_42 0 rfl ?_
      refine jj_getI (pc := 43) (ci := 6) (k := 6) dX6_dearest_43 rfl rfl (by decide) rfl lk_RX6_72 ?_
      refine jj_iconst (pc := 46) (v := 1) dX6_dearest_46 (by decide) ?_
      refine jj_iload (pc := 47) dX6_dearest_47 4 rfl ?_
      refine jj_ishl (pc := 49) dX6_dearest_49 ?_
      refine jj_iconst (pc := 50) (v := (-1)) dX6_dearest_50 (by decide) ?_
      refine jj_ixor (pc := 51) dX6_dearest_51 ?_
      refine jj_iand (pc := 52) dX6_dearest_52 ?_
      refine jj_callVi (pc := 53) (N := mX0_leastWithin) (as := [.int ((w.1 0 6) &&& (((1 : Int32) <<< (a4 &&& 31)) ^^^ (-1)))]) (st := []) dX6_dearest_53 rfl rfl rfl lk_RX6_175 hv_X0_leastWithin rfl rfl h (fun v3 w4 h => ?_)
      refine jj_istore (pc := 56) (l2 := [(5, .int v3), (0, .ref 0), (1, .int a1), (2, .int a2), (3, .int a3), (4, .int a4)]) dX6_dearest_56 (by decide) rfl ?_
      refine jj_iload (pc := 58) dX6_dearest_58 0 rfl ?_
      refine jj_if_ge (pc := 60) (tgt := 66) dX6_dearest_60 (by decide) (fun c5 => ?_) (fun c5 => ?_)
      · replace h := h.1 c5
        refine jj_iload_n (pc := 66) dX6_dearest_66 3 rfl ?_
        refine jj_if_lt (pc := 67) (tgt := 83) dX6_dearest_67 (by decide) (fun c6 => ?_) (fun c6 => ?_)
        · replace h := h.1 c6
          refine jj_iload (pc := 83) dX6_dearest_83 5 rfl ?_
          refine jj_istore_n (pc := 85) (l2 := [(2, .int a4), (5, .int v3), (0, .ref 0), (1, .int a1), (3, .int a3), (4, .int a4)]) dX6_dearest_85 (by decide) rfl ?_
          refine jj_iload (pc := 86) dX6_dearest_86 1 rfl ?_
          refine jj_istore_n (pc := 88) (l2 := [(3, .int v3), (2, .int a4), (5, .int v3), (0, .ref 0), (1, .int a1), (4, .int a4)]) dX6_dearest_88 (by decide) rfl ?_
          refine jj_iinc (pc := 89) (v := a4 + 1) (l2 := [(4, .int (a4 + 1)), (3, .int v3), (2, .int a4), (5, .int v3), (0, .ref 0), (1, .int a1)]) dX6_dearest_89 5 rfl rfl (by decide) rfl ?_
          refine jj_goto (pc := 92) (tgt := 19) dX6_dearest_92 (by decide) ?_
          exact jj_sub [4, 5, 2, 1, 0] rfl h
        · replace h := h.2 c6
          refine jj_aload_n (pc := 70) dX6_dearest_70 1 rfl ?_
          refine jj_getR (pc := 71) (ci := 6) (k := 1) dX6_dearest_71 rfl rfl (by decide) rfl lk_RX6_24 ?_
          refine jj_iload (pc := 74) dX6_dearest_74 0 rfl ?_
          refine jj_iload_n (pc := 76) dX6_dearest_76 4 rfl ?_
          refine jj_callVi (pc := 77) (N := mX0_isDearer) (as := [.int v3, .int a3]) (st := []) dX6_dearest_77 rfl rfl rfl lk_RX6_178 hv_X0_isDearer rfl rfl h (fun v7 w8 h => ?_)
          refine jj_if_eq (pc := 80) (tgt := 89) dX6_dearest_80 (by decide) (fun c9 => ?_) (fun c9 => ?_)
          · replace h := h.1 c9
            refine jj_iinc (pc := 89) (v := a4 + 1) (l2 := [(4, .int (a4 + 1)), (5, .int v3), (0, .ref 0), (1, .int a1), (2, .int a2), (3, .int a3)]) dX6_dearest_89 5 rfl rfl (by decide) rfl ?_
            refine jj_goto (pc := 92) (tgt := 19) dX6_dearest_92 (by decide) ?_
            exact jj_sub [2, 3, 4, 5, 0] rfl h
          · replace h := h.2 c9
            refine jj_iload (pc := 83) dX6_dearest_83 5 rfl ?_
            refine jj_istore_n (pc := 85) (l2 := [(2, .int a4), (5, .int v3), (0, .ref 0), (1, .int a1), (3, .int a3), (4, .int a4)]) dX6_dearest_85 (by decide) rfl ?_
            refine jj_iload (pc := 86) dX6_dearest_86 1 rfl ?_
            refine jj_istore_n (pc := 88) (l2 := [(3, .int v3), (2, .int a4), (5, .int v3), (0, .ref 0), (1, .int a1), (4, .int a4)]) dX6_dearest_88 (by decide) rfl ?_
            refine jj_iinc (pc := 89) (v := a4 + 1) (l2 := [(4, .int (a4 + 1)), (3, .int v3), (2, .int a4), (5, .int v3), (0, .ref 0), (1, .int a1)]) dX6_dearest_89 5 rfl rfl (by decide) rfl ?_
            refine jj_goto (pc := 92) (tgt := 19) dX6_dearest_92 (by decide) ?_
            exact jj_sub [4, 5, 2, 1, 0] rfl h
      · replace h := h.2 c5
        refine jj_iload (pc := 63) dX6_dearest_63 5 rfl ?_
        exact jj_iret (pc := 65) dX6_dearest_65 rfl h
    · replace h := h.2 c2
      refine jj_goto (pc := 35) (tgt := 89) dX6_dearest_35 (by decide) ?_
      refine jj_iinc (pc := 89) (v := a4 + 1) (l2 := [(4, .int (a4 + 1)), (0, .ref 0), (1, .int a1), (2, .int a2), (3, .int a3)]) dX6_dearest_89 4 rfl rfl (by decide) rfl ?_
      refine jj_goto (pc := 92) (tgt := 19) dX6_dearest_92 (by decide) ?_
      exact jj_sub [1, 2, 3, 4, 0] rfl h
set_option maxRecDepth 100000 in
set_option maxHeartbeats 4000000 in
theorem vc_X6_gain_0 {K : jj_K} (R : Int64 → wo_T → Prop)  (a1 : Int32) (a2 : Int32) (w : wo_T)
    (h : jj_Ci K mX3_hasPair [.ref 1, .int a1] w (fun v1 w2 => (v1 = 0 → jj_Cl K mX6_asLong [.int (-2)] w2 (fun v4 w5 => R v4 w5)) ∧ (¬ v1 = 0 → jj_Ci K mX6_isBar [.ref 0, .int a1] w2 (fun v6 w7 => (¬ v6 = 0 → jj_Cl K mX6_asLong [.int (-2)] w7 (fun v9 w10 => R v9 w10)) ∧ (v6 = 0 → jj_Ci K mX6_isPart [.int a2] w7 (fun v11 w12 => (¬ v11 = 0 → jj_Ci K mX6_bestNow [.ref 0] w12 (fun v14 w15 => (0 ≤ v14 → jj_Ci K mX0_leastWithin [.ref 23, .int ((w15.1 0 6) ||| ((1 : Int32) <<< (a1 &&& 31)))] w15 (fun v17 w18 => jj_Cl K mX0_difference [.ref 23, .int v14, .int v17, .int a2] w18 (fun v19 w20 => R v19 w20))) ∧ (¬ 0 ≤ v14 → jj_Cl K mX6_asLong [.int (-3)] w15 (fun v21 w22 => R v21 w22)))) ∧ (v11 = 0 → jj_Cl K mX6_asLong [.int (-2)] w12 (fun v23 w24 => R v23 w24)))))))) :
    jj_J K mX6_gain (jj_Rl R) 0 [(0, .ref 0), (1, .int a1), (2, .int a2)] [] w := by
  refine jj_aload_n (pc := 0) dX6_gain_0 0 rfl ?_
  refine jj_getR (pc := 1) (ci := 6) (k := 0) dX6_gain_1 rfl rfl (by decide) rfl lk_RX6_13 ?_
  refine jj_iload_n (pc := 4) dX6_gain_4 1 rfl ?_
  refine jj_callVi (pc := 5) (N := mX3_hasPair) (as := [.int a1]) (st := []) dX6_gain_5 rfl rfl rfl lk_RX6_95 hv_X3_hasPair rfl rfl h (fun v1 w2 h => ?_)
  refine jj_if_eq (pc := 8) (tgt := 26) dX6_gain_8 (by decide) (fun c3 => ?_) (fun c3 => ?_)
  · replace h := h.1 c3
    refine jj_bipush (pc := 26) (v := (-2)) dX6_gain_26 (by decide) ?_
    refine jj_callSl (pc := 28) (N := mX6_asLong) (as := [.int (-2)]) (st := []) dX6_gain_28 lk_RX6_142 hv_X6_asLong rfl rfl h (fun v4 w5 h => ?_)
    exact jj_lret (pc := 31) dX6_gain_31 rfl h
  · replace h := h.2 c3
    refine jj_aload_n (pc := 11) dX6_gain_11 0 rfl ?_
    refine jj_iload_n (pc := 12) dX6_gain_12 1 rfl ?_
    refine jj_callVi (pc := 13) (N := mX6_isBar) (as := [.int a1]) (st := []) dX6_gain_13 rfl rfl rfl lk_RX6_136 hv_X6_isBar rfl rfl h (fun v6 w7 h => ?_)
    refine jj_if_ne (pc := 16) (tgt := 26) dX6_gain_16 (by decide) (fun c8 => ?_) (fun c8 => ?_)
    · replace h := h.1 c8
      refine jj_bipush (pc := 26) (v := (-2)) dX6_gain_26 (by decide) ?_
      refine jj_callSl (pc := 28) (N := mX6_asLong) (as := [.int (-2)]) (st := []) dX6_gain_28 lk_RX6_142 hv_X6_asLong rfl rfl h (fun v9 w10 h => ?_)
      exact jj_lret (pc := 31) dX6_gain_31 rfl h
    · replace h := h.2 c8
      refine jj_iload_n (pc := 19) dX6_gain_19 2 rfl ?_
      refine jj_callSi (pc := 20) (N := mX6_isPart) (as := [.int a2]) (st := []) dX6_gain_20 lk_RX6_139 hv_X6_isPart rfl rfl h (fun v11 w12 h => ?_)
      refine jj_if_ne (pc := 23) (tgt := 32) dX6_gain_23 (by decide) (fun c13 => ?_) (fun c13 => ?_)
      · replace h := h.1 c13
        refine jj_aload_n (pc := 32) dX6_gain_32 0 rfl ?_
        refine jj_callVi (pc := 33) (N := mX6_bestNow) (as := []) (st := []) dX6_gain_33 rfl rfl rfl lk_RX6_146 hv_X6_bestNow rfl rfl h (fun v14 w15 h => ?_)
        refine jj_istore_n (pc := 36) (l2 := [(3, .int v14), (0, .ref 0), (1, .int a1), (2, .int a2)]) dX6_gain_36 (by decide) rfl ?_
        refine jj_iload_n (pc := 37) dX6_gain_37 0 rfl ?_
        refine jj_if_ge (pc := 38) (tgt := 47) dX6_gain_38 (by decide) (fun c16 => ?_) (fun c16 => ?_)
        · replace h := h.1 c16
          refine jj_aload_n (pc := 47) dX6_gain_47 1 rfl ?_
          refine jj_getR (pc := 48) (ci := 6) (k := 1) dX6_gain_48 rfl rfl (by decide) rfl lk_RX6_24 ?_
          refine jj_iload_n (pc := 51) dX6_gain_51 0 rfl ?_
          refine jj_aload_n (pc := 52) dX6_gain_52 1 rfl ?_
          refine jj_getR (pc := 53) (ci := 6) (k := 1) dX6_gain_53 rfl rfl (by decide) rfl lk_RX6_24 ?_
          refine jj_aload_n (pc := 56) dX6_gain_56 1 rfl ?_
          refine jj_getI (pc := 57) (ci := 6) (k := 6) dX6_gain_57 rfl rfl (by decide) rfl lk_RX6_72 ?_
          refine jj_iconst (pc := 60) (v := 1) dX6_gain_60 (by decide) ?_
          refine jj_iload_n (pc := 61) dX6_gain_61 2 rfl ?_
          refine jj_ishl (pc := 62) dX6_gain_62 ?_
          refine jj_ior (pc := 63) dX6_gain_63 ?_
          refine jj_callVi (pc := 64) (N := mX0_leastWithin) (as := [.int ((w15.1 0 6) ||| ((1 : Int32) <<< (a1 &&& 31)))]) (st := [.int v14, .ref 23]) dX6_gain_64 rfl rfl rfl lk_RX6_175 hv_X0_leastWithin rfl rfl h (fun v17 w18 h => ?_)
          refine jj_iload_n (pc := 67) dX6_gain_67 3 rfl ?_
          refine jj_callVl (pc := 68) (N := mX0_difference) (as := [.int v14, .int v17, .int a2]) (st := []) dX6_gain_68 rfl rfl rfl lk_RX6_184 hv_X0_difference rfl rfl h (fun v19 w20 h => ?_)
          exact jj_lret (pc := 71) dX6_gain_71 rfl h
        · replace h := h.2 c16
          refine jj_bipush (pc := 41) (v := (-3)) dX6_gain_41 (by decide) ?_
          refine jj_callSl (pc := 43) (N := mX6_asLong) (as := [.int (-3)]) (st := []) dX6_gain_43 lk_RX6_142 hv_X6_asLong rfl rfl h (fun v21 w22 h => ?_)
          exact jj_lret (pc := 46) dX6_gain_46 rfl h
      · replace h := h.2 c13
        refine jj_bipush (pc := 26) (v := (-2)) dX6_gain_26 (by decide) ?_
        refine jj_callSl (pc := 28) (N := mX6_asLong) (as := [.int (-2)]) (st := []) dX6_gain_28 lk_RX6_142 hv_X6_asLong rfl rfl h (fun v23 w24 h => ?_)
        exact jj_lret (pc := 31) dX6_gain_31 rfl h
theorem en_X6_gain {K : jj_K} (R : Int64 → wo_T → Prop)  (a1 : Int32) (a2 : Int32) (w : wo_T)
    (h : jj_Ci K mX3_hasPair [.ref 1, .int a1] w (fun v1 w2 => (v1 = 0 → jj_Cl K mX6_asLong [.int (-2)] w2 (fun v4 w5 => R v4 w5)) ∧ (¬ v1 = 0 → jj_Ci K mX6_isBar [.ref 0, .int a1] w2 (fun v6 w7 => (¬ v6 = 0 → jj_Cl K mX6_asLong [.int (-2)] w7 (fun v9 w10 => R v9 w10)) ∧ (v6 = 0 → jj_Ci K mX6_isPart [.int a2] w7 (fun v11 w12 => (¬ v11 = 0 → jj_Ci K mX6_bestNow [.ref 0] w12 (fun v14 w15 => (0 ≤ v14 → jj_Ci K mX0_leastWithin [.ref 23, .int ((w15.1 0 6) ||| ((1 : Int32) <<< (a1 &&& 31)))] w15 (fun v17 w18 => jj_Cl K mX0_difference [.ref 23, .int v14, .int v17, .int a2] w18 (fun v19 w20 => R v19 w20))) ∧ (¬ 0 ≤ v14 → jj_Cl K mX6_asLong [.int (-3)] w15 (fun v21 w22 => R v21 w22)))) ∧ (v11 = 0 → jj_Cl K mX6_asLong [.int (-2)] w12 (fun v23 w24 => R v23 w24)))))))) : jj_Cl K mX6_gain [.ref 0, .int a1, .int a2] w R :=
  jj_Cl_intro pn_RX6 (Nat.le_of_ble_eq_true rfl) (vc_X6_gain_0 R a1 a2 w h)
set_option maxRecDepth 100000 in
set_option maxHeartbeats 4000000 in
theorem vc_X6_grow_0 {K : jj_K} (R : Int32 → wo_T → Prop)   (w : wo_T)
    (h : jj_Ci K mX6_bestNow [.ref 0] w (fun v1 w2 => (0 ≤ v1 → jj_Ci K mX6_mostSaving [.ref 0] w2 (fun v4 w5 => jj_J K mX6_grow (jj_Ri R) 17 [(0, .ref 0), (1, .int 0), (2, .int v4)] [] w5)) ∧ (¬ 0 ≤ v1 → R (-3) w2))) :
    jj_J K mX6_grow (jj_Ri R) 0 [(0, .ref 0)] [] w := by
  refine jj_aload_n (pc := 0) dX6_grow_0 0 rfl ?_
  refine jj_callVi (pc := 1) (N := mX6_bestNow) (as := []) (st := []) dX6_grow_1 rfl rfl rfl lk_RX6_146 hv_X6_bestNow rfl rfl h (fun v1 w2 h => ?_)
  refine jj_if_ge (pc := 4) (tgt := 10) dX6_grow_4 (by decide) (fun c3 => ?_) (fun c3 => ?_)
  · replace h := h.1 c3
    refine jj_iconst (pc := 10) (v := 0) dX6_grow_10 (by decide) ?_
    refine jj_istore_n (pc := 11) (l2 := [(1, .int 0), (0, .ref 0)]) dX6_grow_11 (by decide) rfl ?_
    refine jj_aload_n (pc := 12) dX6_grow_12 1 rfl ?_
    refine jj_callVi (pc := 13) (N := mX6_mostSaving) (as := []) (st := []) dX6_grow_13 rfl rfl rfl lk_RX6_188 hv_X6_mostSaving rfl rfl h (fun v4 w5 h => ?_)
    refine jj_istore_n (pc := 16) (l2 := [(2, .int v4), (1, .int 0), (0, .ref 0)]) dX6_grow_16 (by decide) rfl ?_
    exact jj_sub [2, 1, 0] rfl h
  · replace h := h.2 c3
    refine jj_bipush (pc := 7) (v := (-3)) dX6_grow_7 (by decide) ?_
    exact jj_iret (pc := 9) dX6_grow_9 rfl h
theorem en_X6_grow {K : jj_K} (R : Int32 → wo_T → Prop)   (w : wo_T)
    (h : jj_Ci K mX6_bestNow [.ref 0] w (fun v1 w2 => (0 ≤ v1 → jj_Ci K mX6_mostSaving [.ref 0] w2 (fun v4 w5 => jj_J K mX6_grow (jj_Ri R) 17 [(0, .ref 0), (1, .int 0), (2, .int v4)] [] w5)) ∧ (¬ 0 ≤ v1 → R (-3) w2))) : jj_Ci K mX6_grow [.ref 0] w R :=
  jj_Ci_intro pn_RX6 (Nat.le_of_ble_eq_true rfl) (vc_X6_grow_0 R  w h)
set_option maxRecDepth 100000 in
set_option maxHeartbeats 4000000 in
theorem vc_X6_grow_17 {K : jj_K} (R : Int32 → wo_T → Prop)  (a1 : Int32) (a2 : Int32) (w : wo_T)
    (h : (10 ≤ a1 → R a1 w) ∧ (¬ 10 ≤ a1 → (a2 < 0 → R a1 w) ∧ (¬ a2 < 0 → jj_Ci K mX6_mostSaving [.ref 0] (wo_i w 0 6 ((w.1 0 6) ||| ((1 : Int32) <<< (a2 &&& 31)))) (fun v3 w4 => jj_J K mX6_grow (jj_Ri R) 17 [(0, .ref 0), (1, .int (a1 + 1)), (2, .int v3)] [] w4)))) :
    jj_J K mX6_grow (jj_Ri R) 17 [(0, .ref 0), (1, .int a1), (2, .int a2)] [] w := by
  refine jj_iload_n (pc := 17) dX6_grow_17 1 rfl ?_
  refine jj_bipush (pc := 18) (v := 10) dX6_grow_18 (by decide) ?_
  refine jj_icmp_ge (pc := 20) (tgt := 50) dX6_grow_20 (by decide) (fun c1 => ?_) (fun c1 => ?_)
  · replace h := h.1 c1
    refine jj_iload_n (pc := 50) dX6_grow_50 1 rfl ?_
    exact jj_iret (pc := 51) dX6_grow_51 rfl h
  · replace h := h.2 c1
    refine jj_iload_n (pc := 23) dX6_grow_23 2 rfl ?_
    refine jj_if_lt (pc := 24) (tgt := 50) dX6_grow_24 (by decide) (fun c2 => ?_) (fun c2 => ?_)
    · replace h := h.1 c2
      refine jj_iload_n (pc := 50) dX6_grow_50 1 rfl ?_
      exact jj_iret (pc := 51) dX6_grow_51 rfl h
    · replace h := h.2 c2
      refine jj_aload_n (pc := 27) dX6_grow_27 0 rfl ?_
      refine jj_dup (pc := 28) dX6_grow_28 rfl ?_
      refine jj_getI (pc := 29) (ci := 6) (k := 6) dX6_grow_29 rfl rfl (by decide) rfl lk_RX6_72 ?_
      refine jj_iconst (pc := 32) (v := 1) dX6_grow_32 (by decide) ?_
      refine jj_iload_n (pc := 33) dX6_grow_33 2 rfl ?_
      refine jj_ishl (pc := 34) dX6_grow_34 ?_
      refine jj_ior (pc := 35) dX6_grow_35 ?_
      refine jj_putI (pc := 36) (ci := 6) (k := 6) (ty := .int) dX6_grow_36 rfl rfl (by decide) rfl lk_RX6_72 rfl (by decide) rfl rfl ?_
      refine jj_iinc (pc := 39) (v := a1 + 1) (l2 := [(1, .int (a1 + 1)), (0, .ref 0), (2, .int a2)]) dX6_grow_39 1 rfl rfl (by decide) rfl ?_
      refine jj_aload_n (pc := 42) dX6_grow_42 1 rfl ?_
      refine jj_callVi (pc := 43) (N := mX6_mostSaving) (as := []) (st := []) dX6_grow_43 rfl rfl rfl lk_RX6_188 hv_X6_mostSaving rfl rfl h (fun v3 w4 h => ?_)
      refine jj_istore_n (pc := 46) (l2 := [(2, .int v3), (1, .int (a1 + 1)), (0, .ref 0)]) dX6_grow_46 (by decide) rfl ?_
      refine jj_goto (pc := 47) (tgt := 17) dX6_grow_47 (by decide) ?_
      exact jj_sub [2, 1, 0] rfl h
set_option maxRecDepth 100000 in
set_option maxHeartbeats 4000000 in
theorem vc_X6_prune_0 {K : jj_K} (R : Int32 → wo_T → Prop)   (w : wo_T)
    (h : jj_Ci K mX6_frame [.ref 0] w (fun v1 w2 => (0 ≤ v1 → jj_Ci K mJ6_bitCount_0f7a4 [.int (w2.1 0 6)] w2 (fun v4 w5 => jj_Ci K mJ6_bitCount_0f7a4 [.int v1] w5 (fun v6 w7 => ∀ x8 : Int32, x8 = v4 - v6 → (R x8 (wo_i w7 0 6 v1))))) ∧ (¬ 0 ≤ v1 → R (-3) w2))) :
    jj_J K mX6_prune (jj_Ri R) 0 [(0, .ref 0)] [] w := by
  refine jj_aload_n (pc := 0) dX6_prune_0 0 rfl ?_
  refine jj_callVi (pc := 1) (N := mX6_frame) (as := []) (st := []) dX6_prune_1 rfl rfl rfl lk_RX6_191 hv_X6_frame rfl rfl h (fun v1 w2 h => ?_)
  refine jj_istore_n (pc := 4) (l2 := [(1, .int v1), (0, .ref 0)]) dX6_prune_4 (by decide) rfl ?_
  refine jj_iload_n (pc := 5) dX6_prune_5 0 rfl ?_
  refine jj_if_ge (pc := 6) (tgt := 12) dX6_prune_6 (by decide) (fun c3 => ?_) (fun c3 => ?_)
  · replace h := h.1 c3
    refine jj_aload_n (pc := 12) dX6_prune_12 1 rfl ?_
    refine jj_getI (pc := 13) (ci := 6) (k := 6) dX6_prune_13 rfl rfl (by decide) rfl lk_RX6_72 ?_
    refine jj_callSi (pc := 16) (N := mJ6_bitCount_0f7a4) (as := [.int (w2.1 0 6)]) (st := []) dX6_prune_16 lk_RX6_194 hv_J6_bitCount_0f7a4 rfl rfl h (fun v4 w5 h => ?_)
    refine jj_iload_n (pc := 19) dX6_prune_19 0 rfl ?_
    refine jj_callSi (pc := 20) (N := mJ6_bitCount_0f7a4) (as := [.int v1]) (st := [.int v4]) dX6_prune_20 lk_RX6_194 hv_J6_bitCount_0f7a4 rfl rfl h (fun v6 w7 h => ?_)
    refine jj_isub (pc := 23) dX6_prune_23 ?_
    refine jj_nmi (fun x8 ex8 => ?_)
    replace h := h x8 ex8
    refine jj_istore_n (pc := 24) (l2 := [(2, .int x8), (1, .int v1), (0, .ref 0)]) dX6_prune_24 (by decide) rfl ?_
    refine jj_aload_n (pc := 25) dX6_prune_25 2 rfl ?_
    refine jj_iload_n (pc := 26) dX6_prune_26 1 rfl ?_
    refine jj_putI (pc := 27) (ci := 6) (k := 6) (ty := .int) dX6_prune_27 rfl rfl (by decide) rfl lk_RX6_72 rfl (by decide) rfl rfl ?_
    refine jj_iload_n (pc := 30) dX6_prune_30 0 rfl ?_
    exact jj_iret (pc := 31) dX6_prune_31 rfl h
  · replace h := h.2 c3
    refine jj_bipush (pc := 9) (v := (-3)) dX6_prune_9 (by decide) ?_
    exact jj_iret (pc := 11) dX6_prune_11 rfl h
theorem en_X6_prune {K : jj_K} (R : Int32 → wo_T → Prop)   (w : wo_T)
    (h : jj_Ci K mX6_frame [.ref 0] w (fun v1 w2 => (0 ≤ v1 → jj_Ci K mJ6_bitCount_0f7a4 [.int (w2.1 0 6)] w2 (fun v4 w5 => jj_Ci K mJ6_bitCount_0f7a4 [.int v1] w5 (fun v6 w7 => ∀ x8 : Int32, x8 = v4 - v6 → (R x8 (wo_i w7 0 6 v1))))) ∧ (¬ 0 ≤ v1 → R (-3) w2))) : jj_Ci K mX6_prune [.ref 0] w R :=
  jj_Ci_intro pn_RX6 (Nat.le_of_ble_eq_true rfl) (vc_X6_prune_0 R  w h)
set_option maxRecDepth 100000 in
set_option maxHeartbeats 4000000 in
theorem vc_X6_would_0 {K : jj_K} (R : Int64 → wo_T → Prop)  (a1 : Int32) (a2 : Int32) (a3 : Int32) (a4 : Int32) (w : wo_T)
    (h : jj_Ci K mX3_hasPoint [.ref 1, .int a1] w (fun v1 w2 => (v1 = 0 → jj_Cl K mX6_asLong [.int (-2)] w2 (fun v4 w5 => R v4 w5)) ∧ (¬ v1 = 0 → jj_Ci K mX6_isWithin [.int a2, .int 0, .int 1] w2 (fun v6 w7 => (v6 = 0 → jj_Cl K mX6_asLong [.int (-2)] w7 (fun v9 w10 => R v9 w10)) ∧ (¬ v6 = 0 → jj_Ci K mX6_isLoad [.long a3.toInt64] w7 (fun v11 w12 => (v11 = 0 → jj_Cl K mX6_asLong [.int (-2)] w12 (fun v14 w15 => R v14 w15)) ∧ (¬ v11 = 0 → jj_Ci K mX6_isPart [.int a4] w12 (fun v16 w17 => (¬ v16 = 0 → vp_in ((2 * a1) + a2) 10 ∧ (∀ x19 : Int32, x19 = w17.1 4 ((2 * a1) + a2).toNatClampNeg → (vp_in ((2 * a1) + a2) 10 ∧ (jj_Cv K mX0_gather [.ref 29, .ref 1, .int ((wo_i w17 4 ((2 * a1) + a2).toNatClampNeg a3).1 0 6)] (wo_i w17 4 ((2 * a1) + a2).toNatClampNeg a3) (fun w21 => vp_in ((2 * a1) + a2) 10 ∧ (jj_Ci K mX0_leastWithin [.ref 29, .int ((wo_i w21 4 ((2 * a1) + a2).toNatClampNeg x19).1 0 6)] (wo_i w21 4 ((2 * a1) + a2).toNatClampNeg x19) (fun v22 w23 => jj_Cl K mX0_volume [.ref 29, .int v22, .int a4] w23 (fun v24 w25 => R v24 w25)))))))) ∧ (v16 = 0 → jj_Cl K mX6_asLong [.int (-2)] w17 (fun v26 w27 => R v26 w27)))))))))) :
    jj_J K mX6_would (jj_Rl R) 0 [(0, .ref 0), (1, .int a1), (2, .int a2), (3, .int a3), (4, .int a4)] [] w := by
  refine jj_aload_n (pc := 0) dX6_would_0 0 rfl ?_
  refine jj_getR (pc := 1) (ci := 6) (k := 0) dX6_would_1 rfl rfl (by decide) rfl lk_RX6_13 ?_
  refine jj_iload_n (pc := 4) dX6_would_4 1 rfl ?_
  refine jj_callVi (pc := 5) (N := mX3_hasPoint) (as := [.int a1]) (st := []) dX6_would_5 rfl rfl rfl lk_RX6_79 hv_X3_hasPoint rfl rfl h (fun v1 w2 h => ?_)
  refine jj_if_eq (pc := 8) (tgt := 36) dX6_would_8 (by decide) (fun c3 => ?_) (fun c3 => ?_)
  · replace h := h.1 c3
    refine jj_bipush (pc := 36) (v := (-2)) dX6_would_36 (by decide) ?_
    refine jj_callSl (pc := 38) (N := mX6_asLong) (as := [.int (-2)]) (st := []) dX6_would_38 lk_RX6_142 hv_X6_asLong rfl rfl h (fun v4 w5 h => ?_)
    exact jj_lret (pc := 41) dX6_would_41 rfl h
  · replace h := h.2 c3
    refine jj_iload_n (pc := 11) dX6_would_11 2 rfl ?_
    refine jj_iconst (pc := 12) (v := 0) dX6_would_12 (by decide) ?_
    refine jj_iconst (pc := 13) (v := 1) dX6_would_13 (by decide) ?_
    refine jj_callSi (pc := 14) (N := mX6_isWithin) (as := [.int a2, .int 0, .int 1]) (st := []) dX6_would_14 lk_RX6_56 hv_X6_isWithin rfl rfl h (fun v6 w7 h => ?_)
    refine jj_if_eq (pc := 17) (tgt := 36) dX6_would_17 (by decide) (fun c8 => ?_) (fun c8 => ?_)
    · replace h := h.1 c8
      refine jj_bipush (pc := 36) (v := (-2)) dX6_would_36 (by decide) ?_
      refine jj_callSl (pc := 38) (N := mX6_asLong) (as := [.int (-2)]) (st := []) dX6_would_38 lk_RX6_142 hv_X6_asLong rfl rfl h (fun v9 w10 h => ?_)
      exact jj_lret (pc := 41) dX6_would_41 rfl h
    · replace h := h.2 c8
      refine jj_iload_n (pc := 20) dX6_would_20 3 rfl ?_
      refine jj_i2l (pc := 21) dX6_would_21 ?_
      refine jj_callSi (pc := 22) (N := mX6_isLoad) (as := [.long a3.toInt64]) (st := []) dX6_would_22 lk_RX6_87 hv_X6_isLoad rfl rfl h (fun v11 w12 h => ?_)
      refine jj_if_eq (pc := 25) (tgt := 36) dX6_would_25 (by decide) (fun c13 => ?_) (fun c13 => ?_)
      · replace h := h.1 c13
        refine jj_bipush (pc := 36) (v := (-2)) dX6_would_36 (by decide) ?_
        refine jj_callSl (pc := 38) (N := mX6_asLong) (as := [.int (-2)]) (st := []) dX6_would_38 lk_RX6_142 hv_X6_asLong rfl rfl h (fun v14 w15 h => ?_)
        exact jj_lret (pc := 41) dX6_would_41 rfl h
      · replace h := h.2 c13
        refine jj_iload (pc := 28) dX6_would_28 4 rfl ?_
        refine jj_callSi (pc := 30) (N := mX6_isPart) (as := [.int a4]) (st := []) dX6_would_30 lk_RX6_139 hv_X6_isPart rfl rfl h (fun v16 w17 h => ?_)
        refine jj_if_ne (pc := 33) (tgt := 42) dX6_would_33 (by decide) (fun c18 => ?_) (fun c18 => ?_)
        · replace h := h.1 c18
          refine jj_aload_n (pc := 42) dX6_would_42 0 rfl ?_
          refine jj_getR (pc := 43) (ci := 6) (k := 0) dX6_would_43 rfl rfl (by decide) rfl lk_RX6_13 ?_
          refine jj_getR (pc := 46) (ci := 3) (k := 2) dX6_would_46 rfl rfl (by decide) rfl lk_RX6_92 ?_
          refine jj_iconst (pc := 49) (v := 2) dX6_would_49 (by decide) ?_
          refine jj_iload_n (pc := 50) dX6_would_50 1 rfl ?_
          refine jj_imul (pc := 51) dX6_would_51 ?_
          refine jj_iload_n (pc := 52) dX6_would_52 2 rfl ?_
          refine jj_iadd (pc := 53) dX6_would_53 ?_
          refine jj_iald (pc := 54) dX6_would_54 rfl h.1 ?_
          replace h := h.2
          refine jj_nmi (fun x19 ex19 => ?_)
          replace h := h x19 ex19
          refine jj_istore (pc := 55) (l2 := [(5, .int x19), (0, .ref 0), (1, .int a1), (2, .int a2), (3, .int a3), (4, .int a4)]) dX6_would_55 (by decide) rfl ?_
          refine jj_aload_n (pc := 57) dX6_would_57 1 rfl ?_
          refine jj_getR (pc := 58) (ci := 6) (k := 0) dX6_would_58 rfl rfl (by decide) rfl lk_RX6_13 ?_
          refine jj_getR (pc := 61) (ci := 3) (k := 2) dX6_would_61 rfl rfl (by decide) rfl lk_RX6_92 ?_
          refine jj_iconst (pc := 64) (v := 2) dX6_would_64 (by decide) ?_
          refine jj_iload_n (pc := 65) dX6_would_65 2 rfl ?_
          refine jj_imul (pc := 66) dX6_would_66 ?_
          refine jj_iload_n (pc := 67) dX6_would_67 3 rfl ?_
          refine jj_iadd (pc := 68) dX6_would_68 ?_
          refine jj_iload_n (pc := 69) dX6_would_69 4 rfl ?_
          refine jj_iast (pc := 70) dX6_would_70 rfl h.1 ?_
          replace h := h.2
          refine jj_aload_n (pc := 71) dX6_would_71 1 rfl ?_
          refine jj_getR (pc := 72) (ci := 6) (k := 2) dX6_would_72 rfl rfl (by decide) rfl lk_RX6_28 ?_
          refine jj_aload_n (pc := 75) dX6_would_75 1 rfl ?_
          refine jj_getR (pc := 76) (ci := 6) (k := 0) dX6_would_76 rfl rfl (by decide) rfl lk_RX6_13 ?_
          refine jj_aload_n (pc := 79) dX6_would_79 1 rfl ?_
          refine jj_getI (pc := 80) (ci := 6) (k := 6) dX6_would_80 rfl rfl (by decide) rfl lk_RX6_72 ?_
          refine jj_callVv (pc := 83) (N := mX0_gather) (as := [.ref 1, .int ((wo_i w17 4 ((2 * a1) + a2).toNatClampNeg a3).1 0 6)]) (st := []) dX6_would_83 rfl rfl rfl lk_RX6_199 hv_X0_gather rfl rfl h (fun w21 h => ?_)
          refine jj_aload_n (pc := 86) dX6_would_86 1 rfl ?_
          refine jj_getR (pc := 87) (ci := 6) (k := 0) dX6_would_87 rfl rfl (by decide) rfl lk_RX6_13 ?_
          refine jj_getR (pc := 90) (ci := 3) (k := 2) dX6_would_90 rfl rfl (by decide) rfl lk_RX6_92 ?_
          refine jj_iconst (pc := 93) (v := 2) dX6_would_93 (by decide) ?_
          refine jj_iload_n (pc := 94) dX6_would_94 2 rfl ?_
          refine jj_imul (pc := 95) dX6_would_95 ?_
          refine jj_iload_n (pc := 96) dX6_would_96 3 rfl ?_
          refine jj_iadd (pc := 97) dX6_would_97 ?_
          refine jj_iload (pc := 98) dX6_would_98 0 rfl ?_
          refine jj_iast (pc := 100) dX6_would_100 rfl h.1 ?_
          replace h := h.2
          refine jj_aload_n (pc := 101) dX6_would_101 1 rfl ?_
          refine jj_getR (pc := 102) (ci := 6) (k := 2) dX6_would_102 rfl rfl (by decide) rfl lk_RX6_28 ?_
          refine jj_aload_n (pc := 105) dX6_would_105 1 rfl ?_
          refine jj_getR (pc := 106) (ci := 6) (k := 2) dX6_would_106 rfl rfl (by decide) rfl lk_RX6_28 ?_
          refine jj_aload_n (pc := 109) dX6_would_109 1 rfl ?_
          refine jj_getI (pc := 110) (ci := 6) (k := 6) dX6_would_110 rfl rfl (by decide) rfl lk_RX6_72 ?_
          refine jj_callVi (pc := 113) (N := mX0_leastWithin) (as := [.int ((wo_i w21 4 ((2 * a1) + a2).toNatClampNeg x19).1 0 6)]) (st := [.ref 29]) dX6_would_113 rfl rfl rfl lk_RX6_175 hv_X0_leastWithin rfl rfl h (fun v22 w23 h => ?_)
          refine jj_iload (pc := 116) dX6_would_116 5 rfl ?_
          refine jj_callVl (pc := 118) (N := mX0_volume) (as := [.int v22, .int a4]) (st := []) dX6_would_118 rfl rfl rfl lk_RX6_149 hv_X0_volume rfl rfl h (fun v24 w25 h => ?_)
          exact jj_lret (pc := 121) dX6_would_121 rfl h
        · replace h := h.2 c18
          refine jj_bipush (pc := 36) (v := (-2)) dX6_would_36 (by decide) ?_
          refine jj_callSl (pc := 38) (N := mX6_asLong) (as := [.int (-2)]) (st := []) dX6_would_38 lk_RX6_142 hv_X6_asLong rfl rfl h (fun v26 w27 h => ?_)
          exact jj_lret (pc := 41) dX6_would_41 rfl h
theorem en_X6_would {K : jj_K} (R : Int64 → wo_T → Prop)  (a1 : Int32) (a2 : Int32) (a3 : Int32) (a4 : Int32) (w : wo_T)
    (h : jj_Ci K mX3_hasPoint [.ref 1, .int a1] w (fun v1 w2 => (v1 = 0 → jj_Cl K mX6_asLong [.int (-2)] w2 (fun v4 w5 => R v4 w5)) ∧ (¬ v1 = 0 → jj_Ci K mX6_isWithin [.int a2, .int 0, .int 1] w2 (fun v6 w7 => (v6 = 0 → jj_Cl K mX6_asLong [.int (-2)] w7 (fun v9 w10 => R v9 w10)) ∧ (¬ v6 = 0 → jj_Ci K mX6_isLoad [.long a3.toInt64] w7 (fun v11 w12 => (v11 = 0 → jj_Cl K mX6_asLong [.int (-2)] w12 (fun v14 w15 => R v14 w15)) ∧ (¬ v11 = 0 → jj_Ci K mX6_isPart [.int a4] w12 (fun v16 w17 => (¬ v16 = 0 → vp_in ((2 * a1) + a2) 10 ∧ (∀ x19 : Int32, x19 = w17.1 4 ((2 * a1) + a2).toNatClampNeg → (vp_in ((2 * a1) + a2) 10 ∧ (jj_Cv K mX0_gather [.ref 29, .ref 1, .int ((wo_i w17 4 ((2 * a1) + a2).toNatClampNeg a3).1 0 6)] (wo_i w17 4 ((2 * a1) + a2).toNatClampNeg a3) (fun w21 => vp_in ((2 * a1) + a2) 10 ∧ (jj_Ci K mX0_leastWithin [.ref 29, .int ((wo_i w21 4 ((2 * a1) + a2).toNatClampNeg x19).1 0 6)] (wo_i w21 4 ((2 * a1) + a2).toNatClampNeg x19) (fun v22 w23 => jj_Cl K mX0_volume [.ref 29, .int v22, .int a4] w23 (fun v24 w25 => R v24 w25)))))))) ∧ (v16 = 0 → jj_Cl K mX6_asLong [.int (-2)] w17 (fun v26 w27 => R v26 w27)))))))))) : jj_Cl K mX6_would [.ref 0, .int a1, .int a2, .int a3, .int a4] w R :=
  jj_Cl_intro pn_RX6 (Nat.le_of_ble_eq_true rfl) (vc_X6_would_0 R a1 a2 a3 a4 w h)
set_option maxRecDepth 100000 in
set_option maxHeartbeats 4000000 in
theorem vc_X6_shift_0 {K : jj_K} (R : Int32 → wo_T → Prop)  (a1 : Int32) (a2 : Int32) (a3 : Int32) (w : wo_T)
    (h : jj_Ci K mX3_hasPoint [.ref 1, .int a1] w (fun v1 w2 => (v1 = 0 → R (-2147483648) w2) ∧ (¬ v1 = 0 → jj_Ci K mX6_isWithin [.int a2, .int 0, .int 1] w2 (fun v4 w5 => (v4 = 0 → R (-2147483648) w5) ∧ (¬ v4 = 0 → jj_Ci K mX6_isWithin [.int a3, .int (-999), .int 999] w5 (fun v7 w8 => (¬ v7 = 0 → vp_in ((2 * a1) + a2) 10 ∧ (∀ x10 : Int32, x10 = w8.1 5 ((2 * a1) + a2).toNatClampNeg → (vp_in ((2 * a1) + a2) 10 ∧ (R x10 (wo_i w8 5 ((2 * a1) + a2).toNatClampNeg a3))))) ∧ (v7 = 0 → R (-2147483648) w8))))))) :
    jj_J K mX6_shift (jj_Ri R) 0 [(0, .ref 0), (1, .int a1), (2, .int a2), (3, .int a3)] [] w := by
  refine jj_aload_n (pc := 0) dX6_shift_0 0 rfl ?_
  refine jj_getR (pc := 1) (ci := 6) (k := 0) dX6_shift_1 rfl rfl (by decide) rfl lk_RX6_13 ?_
  refine jj_iload_n (pc := 4) dX6_shift_4 1 rfl ?_
  refine jj_callVi (pc := 5) (N := mX3_hasPoint) (as := [.int a1]) (st := []) dX6_shift_5 rfl rfl rfl lk_RX6_79 hv_X3_hasPoint rfl rfl h (fun v1 w2 h => ?_)
  refine jj_if_eq (pc := 8) (tgt := 33) dX6_shift_8 (by decide) (fun c3 => ?_) (fun c3 => ?_)
  · replace h := h.1 c3
    refine jj_ldc (pc := 33) (v := (-2147483648)) dX6_shift_33 lk_RX6_91 ?_
    exact jj_iret (pc := 35) dX6_shift_35 rfl h
  · replace h := h.2 c3
    refine jj_iload_n (pc := 11) dX6_shift_11 2 rfl ?_
    refine jj_iconst (pc := 12) (v := 0) dX6_shift_12 (by decide) ?_
    refine jj_iconst (pc := 13) (v := 1) dX6_shift_13 (by decide) ?_
    refine jj_callSi (pc := 14) (N := mX6_isWithin) (as := [.int a2, .int 0, .int 1]) (st := []) dX6_shift_14 lk_RX6_56 hv_X6_isWithin rfl rfl h (fun v4 w5 h => ?_)
    refine jj_if_eq (pc := 17) (tgt := 33) dX6_shift_17 (by decide) (fun c6 => ?_) (fun c6 => ?_)
    · replace h := h.1 c6
      refine jj_ldc (pc := 33) (v := (-2147483648)) dX6_shift_33 lk_RX6_91 ?_
      exact jj_iret (pc := 35) dX6_shift_35 rfl h
    · replace h := h.2 c6
      refine jj_iload_n (pc := 20) dX6_shift_20 3 rfl ?_
      refine jj_sipush (pc := 21) (v := (-999)) dX6_shift_21 (by decide) ?_
      refine jj_sipush (pc := 24) (v := 999) dX6_shift_24 (by decide) ?_
      refine jj_callSi (pc := 27) (N := mX6_isWithin) (as := [.int a3, .int (-999), .int 999]) (st := []) dX6_shift_27 lk_RX6_56 hv_X6_isWithin rfl rfl h (fun v7 w8 h => ?_)
      refine jj_if_ne (pc := 30) (tgt := 36) dX6_shift_30 (by decide) (fun c9 => ?_) (fun c9 => ?_)
      · replace h := h.1 c9
        refine jj_aload_n (pc := 36) dX6_shift_36 0 rfl ?_
        refine jj_getR (pc := 37) (ci := 6) (k := 0) dX6_shift_37 rfl rfl (by decide) rfl lk_RX6_13 ?_
        refine jj_getR (pc := 40) (ci := 3) (k := 3) dX6_shift_40 rfl rfl (by decide) rfl lk_RX6_124 ?_
        refine jj_iconst (pc := 43) (v := 2) dX6_shift_43 (by decide) ?_
        refine jj_iload_n (pc := 44) dX6_shift_44 1 rfl ?_
        refine jj_imul (pc := 45) dX6_shift_45 ?_
        refine jj_iload_n (pc := 46) dX6_shift_46 2 rfl ?_
        refine jj_iadd (pc := 47) dX6_shift_47 ?_
        refine jj_iald (pc := 48) dX6_shift_48 rfl h.1 ?_
        replace h := h.2
        refine jj_nmi (fun x10 ex10 => ?_)
        replace h := h x10 ex10
        refine jj_istore (pc := 49) (l2 := [(4, .int x10), (0, .ref 0), (1, .int a1), (2, .int a2), (3, .int a3)]) dX6_shift_49 (by decide) rfl ?_
        refine jj_aload_n (pc := 51) dX6_shift_51 1 rfl ?_
        refine jj_getR (pc := 52) (ci := 6) (k := 0) dX6_shift_52 rfl rfl (by decide) rfl lk_RX6_13 ?_
        refine jj_getR (pc := 55) (ci := 3) (k := 3) dX6_shift_55 rfl rfl (by decide) rfl lk_RX6_124 ?_
        refine jj_iconst (pc := 58) (v := 2) dX6_shift_58 (by decide) ?_
        refine jj_iload_n (pc := 59) dX6_shift_59 2 rfl ?_
        refine jj_imul (pc := 60) dX6_shift_60 ?_
        refine jj_iload_n (pc := 61) dX6_shift_61 3 rfl ?_
        refine jj_iadd (pc := 62) dX6_shift_62 ?_
        refine jj_iload_n (pc := 63) dX6_shift_63 4 rfl ?_
        refine jj_iast (pc := 64) dX6_shift_64 rfl h.1 ?_
        replace h := h.2
        refine jj_iload (pc := 65) dX6_shift_65 0 rfl ?_
        exact jj_iret (pc := 67) dX6_shift_67 rfl h
      · replace h := h.2 c9
        refine jj_ldc (pc := 33) (v := (-2147483648)) dX6_shift_33 lk_RX6_91 ?_
        exact jj_iret (pc := 35) dX6_shift_35 rfl h
theorem en_X6_shift {K : jj_K} (R : Int32 → wo_T → Prop)  (a1 : Int32) (a2 : Int32) (a3 : Int32) (w : wo_T)
    (h : jj_Ci K mX3_hasPoint [.ref 1, .int a1] w (fun v1 w2 => (v1 = 0 → R (-2147483648) w2) ∧ (¬ v1 = 0 → jj_Ci K mX6_isWithin [.int a2, .int 0, .int 1] w2 (fun v4 w5 => (v4 = 0 → R (-2147483648) w5) ∧ (¬ v4 = 0 → jj_Ci K mX6_isWithin [.int a3, .int (-999), .int 999] w5 (fun v7 w8 => (¬ v7 = 0 → vp_in ((2 * a1) + a2) 10 ∧ (∀ x10 : Int32, x10 = w8.1 5 ((2 * a1) + a2).toNatClampNeg → (vp_in ((2 * a1) + a2) 10 ∧ (R x10 (wo_i w8 5 ((2 * a1) + a2).toNatClampNeg a3))))) ∧ (v7 = 0 → R (-2147483648) w8))))))) : jj_Ci K mX6_shift [.ref 0, .int a1, .int a2, .int a3] w R :=
  jj_Ci_intro pn_RX6 (Nat.le_of_ble_eq_true rfl) (vc_X6_shift_0 R a1 a2 a3 w h)
set_option maxRecDepth 100000 in
set_option maxHeartbeats 4000000 in
theorem vc_X6_stretch_0 {K : jj_K} (R : Int64 → wo_T → Prop)  (a1 : Int32) (a2 : Int32) (w : wo_T)
    (h : jj_Ci K mX3_hasPair [.ref 1, .int a1] w (fun v1 w2 => (v1 = 0 → jj_Cl K mX6_asLong [.int (-2)] w2 (fun v4 w5 => R v4 w5)) ∧ (¬ v1 = 0 → jj_Ci K mX6_isPart [.int a2] w2 (fun v6 w7 => (¬ v6 = 0 → jj_Cl K mX3_stretchParts [.ref 1, .int a1] w7 (fun v9 w10 => jj_Cl K mX6_lowest [.long v9, .long 12, .int a2] w10 (fun v11 w12 => R v11 w12))) ∧ (v6 = 0 → jj_Cl K mX6_asLong [.int (-2)] w7 (fun v13 w14 => R v13 w14)))))) :
    jj_J K mX6_stretch (jj_Rl R) 0 [(0, .ref 0), (1, .int a1), (2, .int a2)] [] w := by
  refine jj_aload_n (pc := 0) dX6_stretch_0 0 rfl ?_
  refine jj_getR (pc := 1) (ci := 6) (k := 0) dX6_stretch_1 rfl rfl (by decide) rfl lk_RX6_13 ?_
  refine jj_iload_n (pc := 4) dX6_stretch_4 1 rfl ?_
  refine jj_callVi (pc := 5) (N := mX3_hasPair) (as := [.int a1]) (st := []) dX6_stretch_5 rfl rfl rfl lk_RX6_95 hv_X3_hasPair rfl rfl h (fun v1 w2 h => ?_)
  refine jj_if_eq (pc := 8) (tgt := 18) dX6_stretch_8 (by decide) (fun c3 => ?_) (fun c3 => ?_)
  · replace h := h.1 c3
    refine jj_bipush (pc := 18) (v := (-2)) dX6_stretch_18 (by decide) ?_
    refine jj_callSl (pc := 20) (N := mX6_asLong) (as := [.int (-2)]) (st := []) dX6_stretch_20 lk_RX6_142 hv_X6_asLong rfl rfl h (fun v4 w5 h => ?_)
    exact jj_lret (pc := 23) dX6_stretch_23 rfl h
  · replace h := h.2 c3
    refine jj_iload_n (pc := 11) dX6_stretch_11 2 rfl ?_
    refine jj_callSi (pc := 12) (N := mX6_isPart) (as := [.int a2]) (st := []) dX6_stretch_12 lk_RX6_139 hv_X6_isPart rfl rfl h (fun v6 w7 h => ?_)
    refine jj_if_ne (pc := 15) (tgt := 24) dX6_stretch_15 (by decide) (fun c8 => ?_) (fun c8 => ?_)
    · replace h := h.1 c8
      refine jj_aload_n (pc := 24) dX6_stretch_24 0 rfl ?_
      refine jj_getR (pc := 25) (ci := 6) (k := 0) dX6_stretch_25 rfl rfl (by decide) rfl lk_RX6_13 ?_
      refine jj_iload_n (pc := 28) dX6_stretch_28 1 rfl ?_
      refine jj_callVl (pc := 29) (N := mX3_stretchParts) (as := [.int a1]) (st := []) dX6_stretch_29 rfl rfl rfl lk_RX6_202 hv_X3_stretchParts rfl rfl h (fun v9 w10 h => ?_)
      refine jj_ldc2 (pc := 32) (v := 12) dX6_stretch_32 lk_RX6_205 ?_
      refine jj_iload_n (pc := 35) dX6_stretch_35 2 rfl ?_
      refine jj_callSl (pc := 36) (N := mX6_lowest) (as := [.long v9, .long 12, .int a2]) (st := []) dX6_stretch_36 lk_RX6_171 hv_X6_lowest rfl rfl h (fun v11 w12 h => ?_)
      exact jj_lret (pc := 39) dX6_stretch_39 rfl h
    · replace h := h.2 c8
      refine jj_bipush (pc := 18) (v := (-2)) dX6_stretch_18 (by decide) ?_
      refine jj_callSl (pc := 20) (N := mX6_asLong) (as := [.int (-2)]) (st := []) dX6_stretch_20 lk_RX6_142 hv_X6_asLong rfl rfl h (fun v13 w14 h => ?_)
      exact jj_lret (pc := 23) dX6_stretch_23 rfl h
theorem en_X6_stretch {K : jj_K} (R : Int64 → wo_T → Prop)  (a1 : Int32) (a2 : Int32) (w : wo_T)
    (h : jj_Ci K mX3_hasPair [.ref 1, .int a1] w (fun v1 w2 => (v1 = 0 → jj_Cl K mX6_asLong [.int (-2)] w2 (fun v4 w5 => R v4 w5)) ∧ (¬ v1 = 0 → jj_Ci K mX6_isPart [.int a2] w2 (fun v6 w7 => (¬ v6 = 0 → jj_Cl K mX3_stretchParts [.ref 1, .int a1] w7 (fun v9 w10 => jj_Cl K mX6_lowest [.long v9, .long 12, .int a2] w10 (fun v11 w12 => R v11 w12))) ∧ (v6 = 0 → jj_Cl K mX6_asLong [.int (-2)] w7 (fun v13 w14 => R v13 w14)))))) : jj_Cl K mX6_stretch [.ref 0, .int a1, .int a2] w R :=
  jj_Cl_intro pn_RX6 (Nat.le_of_ble_eq_true rfl) (vc_X6_stretch_0 R a1 a2 w h)
set_option maxRecDepth 100000 in
set_option maxHeartbeats 4000000 in
theorem vc_X6_work_0 {K : jj_K} (R : Int64 → wo_T → Prop)  (a1 : Int32) (w : wo_T)
    (h : jj_Ci K mX6_isPart [.int a1] w (fun v1 w2 => (¬ v1 = 0 → jj_Cl K mX3_workParts [.ref 1] w2 (fun v4 w5 => jj_Cl K mX6_lowest [.long v4, .long 12, .int a1] w5 (fun v6 w7 => R v6 w7))) ∧ (v1 = 0 → jj_Cl K mX6_asLong [.int (-2)] w2 (fun v8 w9 => R v8 w9)))) :
    jj_J K mX6_work (jj_Rl R) 0 [(0, .ref 0), (1, .int a1)] [] w := by
  refine jj_iload_n (pc := 0) dX6_work_0 1 rfl ?_
  refine jj_callSi (pc := 1) (N := mX6_isPart) (as := [.int a1]) (st := []) dX6_work_1 lk_RX6_139 hv_X6_isPart rfl rfl h (fun v1 w2 h => ?_)
  refine jj_if_ne (pc := 4) (tgt := 13) dX6_work_4 (by decide) (fun c3 => ?_) (fun c3 => ?_)
  · replace h := h.1 c3
    refine jj_aload_n (pc := 13) dX6_work_13 0 rfl ?_
    refine jj_getR (pc := 14) (ci := 6) (k := 0) dX6_work_14 rfl rfl (by decide) rfl lk_RX6_13 ?_
    refine jj_callVl (pc := 17) (N := mX3_workParts) (as := []) (st := []) dX6_work_17 rfl rfl rfl lk_RX6_207 hv_X3_workParts rfl rfl h (fun v4 w5 h => ?_)
    refine jj_ldc2 (pc := 20) (v := 12) dX6_work_20 lk_RX6_205 ?_
    refine jj_iload_n (pc := 23) dX6_work_23 1 rfl ?_
    refine jj_callSl (pc := 24) (N := mX6_lowest) (as := [.long v4, .long 12, .int a1]) (st := []) dX6_work_24 lk_RX6_171 hv_X6_lowest rfl rfl h (fun v6 w7 h => ?_)
    exact jj_lret (pc := 27) dX6_work_27 rfl h
  · replace h := h.2 c3
    refine jj_bipush (pc := 7) (v := (-2)) dX6_work_7 (by decide) ?_
    refine jj_callSl (pc := 9) (N := mX6_asLong) (as := [.int (-2)]) (st := []) dX6_work_9 lk_RX6_142 hv_X6_asLong rfl rfl h (fun v8 w9 h => ?_)
    exact jj_lret (pc := 12) dX6_work_12 rfl h
theorem en_X6_work {K : jj_K} (R : Int64 → wo_T → Prop)  (a1 : Int32) (w : wo_T)
    (h : jj_Ci K mX6_isPart [.int a1] w (fun v1 w2 => (¬ v1 = 0 → jj_Cl K mX3_workParts [.ref 1] w2 (fun v4 w5 => jj_Cl K mX6_lowest [.long v4, .long 12, .int a1] w5 (fun v6 w7 => R v6 w7))) ∧ (v1 = 0 → jj_Cl K mX6_asLong [.int (-2)] w2 (fun v8 w9 => R v8 w9)))) : jj_Cl K mX6_work [.ref 0, .int a1] w R :=
  jj_Cl_intro pn_RX6 (Nat.le_of_ble_eq_true rfl) (vc_X6_work_0 R a1 w h)
set_option maxRecDepth 100000 in
set_option maxHeartbeats 4000000 in
theorem vc_X6_proves_0 {K : jj_K} (R : Int32 → wo_T → Prop)   (w : wo_T)
    (h : jj_J K mX6_proves (jj_Ri R) 2 [(0, .ref 0), (1, .int 0)] [] w) :
    jj_J K mX6_proves (jj_Ri R) 0 [(0, .ref 0)] [] w := by
  refine jj_iconst (pc := 0) (v := 0) dX6_proves_0 (by decide) ?_
  refine jj_istore_n (pc := 1) (l2 := [(1, .int 0), (0, .ref 0)]) dX6_proves_1 (by decide) rfl ?_
  exact jj_sub [1, 0] rfl h
theorem en_X6_proves {K : jj_K} (R : Int32 → wo_T → Prop)   (w : wo_T)
    (h : jj_J K mX6_proves (jj_Ri R) 2 [(0, .ref 0), (1, .int 0)] [] w) : jj_Ci K mX6_proves [.ref 0] w R :=
  jj_Ci_intro pn_RX6 (Nat.le_of_ble_eq_true rfl) (vc_X6_proves_0 R  w h)
set_option maxRecDepth 100000 in
set_option maxHeartbeats 4000000 in
theorem vc_X6_proves_2 {K : jj_K} (R : Int32 → wo_T → Prop)  (a1 : Int32) (w : wo_T)
    (h : (10 ≤ a1 → jj_Ci K mX6_bestNow [.ref 0] w (fun v2 w3 => (0 ≤ v2 → jj_Cl K mX3_workParts [.ref 1] w3 (fun v5 w6 => vp_in v2 252 ∧ (vp_in v2 252 ∧ ((¬ (v5 * (w6.2 26 v2.toNatClampNeg)) = (12 * (w6.2 25 v2.toNatClampNeg)) → R 1 w6) ∧ ((v5 * (w6.2 26 v2.toNatClampNeg)) = (12 * (w6.2 25 v2.toNatClampNeg)) → R 2 w6))))) ∧ (¬ 0 ≤ v2 → R 1 w3))) ∧ (¬ 10 ≤ a1 → jj_Ci K mX6_isBar [.ref 0, .int a1] w (fun v8 w9 => (v8 = 0 → jj_J K mX6_proves (jj_Ri R) 2 [(0, .ref 0), (1, .int (a1 + 1))] [] w9) ∧ (¬ v8 = 0 → jj_Cl K mX3_stretchParts [.ref 1, .int a1] w9 (fun v11 w12 => vp_in a1 10 ∧ (((if 0 < v11 then v11 else -v11) ≤ ((12 * (w12.1 7 a1.toNatClampNeg)).toInt64) → jj_J K mX6_proves (jj_Ri R) 2 [(0, .ref 0), (1, .int (a1 + 1))] [] w12) ∧ (¬ (if 0 < v11 then v11 else -v11) ≤ ((12 * (w12.1 7 a1.toNatClampNeg)).toInt64) → R 0 w12))))))) :
    jj_J K mX6_proves (jj_Ri R) 2 [(0, .ref 0), (1, .int a1)] [] w := by
  refine jj_iload_n (pc := 2) dX6_proves_2 1 rfl ?_
  refine jj_bipush (pc := 3) (v := 10) dX6_proves_3 (by decide) ?_
  refine jj_icmp_ge (pc := 5) (tgt := 52) dX6_proves_5 (by decide) (fun c1 => ?_) (fun c1 => ?_)
  · replace h := h.1 c1
    refine jj_aload_n (pc := 52) dX6_proves_52 0 rfl ?_
    refine jj_callVi (pc := 53) (N := mX6_bestNow) (as := []) (st := []) dX6_proves_53 rfl rfl rfl lk_RX6_146 hv_X6_bestNow rfl rfl h (fun v2 w3 h => ?_)
    refine jj_istore_n (pc := 56) (l2 := [(1, .int v2), (0, .ref 0)]) dX6_proves_56 (by decide) rfl ?_
    refine jj_iload_n (pc := 57) dX6_proves_57 0 rfl ?_
    refine jj_if_ge (pc := 58) (tgt := 63) dX6_proves_58 (by decide) (fun c4 => ?_) (fun c4 => ?_)
    · replace h := h.1 c4
      refine jj_aload_n (pc := 63) dX6_proves_63 1 rfl ?_
      refine jj_getR (pc := 64) (ci := 6) (k := 0) dX6_proves_64 rfl rfl (by decide) rfl lk_RX6_13 ?_
      refine jj_callVl (pc := 67) (N := mX3_workParts) (as := []) (st := []) dX6_proves_67 rfl rfl rfl lk_RX6_207 hv_X3_workParts rfl rfl h (fun v5 w6 h => ?_)
      refine jj_aload_n (pc := 70) dX6_proves_70 1 rfl ?_
      refine jj_getR (pc := 71) (ci := 6) (k := 1) dX6_proves_71 rfl rfl (by decide) rfl lk_RX6_24 ?_
      refine jj_getR (pc := 74) (ci := 0) (k := 2) dX6_proves_74 rfl rfl (by decide) rfl lk_RX6_215 ?_
      refine jj_iload_n (pc := 77) dX6_proves_77 0 rfl ?_
      refine jj_lald (pc := 78) dX6_proves_78 rfl h.1 ?_
      replace h := h.2
      refine jj_lmul (pc := 79) dX6_proves_79 ?_
      refine jj_ldc2 (pc := 80) (v := 12) dX6_proves_80 lk_RX6_205 ?_
      refine jj_aload_n (pc := 83) dX6_proves_83 1 rfl ?_
      refine jj_getR (pc := 84) (ci := 6) (k := 1) dX6_proves_84 rfl rfl (by decide) rfl lk_RX6_24 ?_
      refine jj_getR (pc := 87) (ci := 0) (k := 1) dX6_proves_87 rfl rfl (by decide) rfl lk_RX6_218 ?_
      refine jj_iload_n (pc := 90) dX6_proves_90 0 rfl ?_
      refine jj_lald (pc := 91) dX6_proves_91 rfl h.1 ?_
      replace h := h.2
      refine jj_lmul (pc := 92) dX6_proves_92 ?_
      refine jj_lcmp_ne (pc := 93) (tgt := 101) dX6_proves_93 dX6_proves_94 (by decide) (fun c7 => ?_) (fun c7 => ?_)
      · replace h := h.1 c7
        refine jj_iconst (pc := 101) (v := 1) dX6_proves_101 (by decide) ?_
        exact jj_iret (pc := 102) dX6_proves_102 rfl h
      · replace h := h.2 c7
        refine jj_iconst (pc := 97) (v := 2) dX6_proves_97 (by decide) ?_
        refine jj_goto (pc := 98) (tgt := 102) dX6_proves_98 (by decide) ?_
        exact jj_iret (pc := 102) dX6_proves_102 rfl h
    · replace h := h.2 c4
      refine jj_iconst (pc := 61) (v := 1) dX6_proves_61 (by decide) ?_
      exact jj_iret (pc := 62) dX6_proves_62 rfl h
  · replace h := h.2 c1
    refine jj_aload_n (pc := 8) dX6_proves_8 0 rfl ?_
    refine jj_iload_n (pc := 9) dX6_proves_9 1 rfl ?_
    refine jj_callVi (pc := 10) (N := mX6_isBar) (as := [.int a1]) (st := []) dX6_proves_10 rfl rfl rfl lk_RX6_136 hv_X6_isBar rfl rfl h (fun v8 w9 h => ?_)
    refine jj_if_eq (pc := 13) (tgt := 46) dX6_proves_13 (by decide) (fun c10 => ?_) (fun c10 => ?_)
    · replace h := h.1 c10
      refine jj_iinc (pc := 46) (v := a1 + 1) (l2 := [(1, .int (a1 + 1)), (0, .ref 0)]) dX6_proves_46 1 rfl rfl (by decide) rfl ?_
      refine jj_goto (pc := 49) (tgt := 2) dX6_proves_49 (by decide) ?_
      exact jj_sub [1, 0] rfl h
    · replace h := h.2 c10
      refine jj_aload_n (pc := 16) dX6_proves_16 0 rfl ?_
      refine jj_getR (pc := 17) (ci := 6) (k := 0) dX6_proves_17 rfl rfl (by decide) rfl lk_RX6_13 ?_
      refine jj_iload_n (pc := 20) dX6_proves_20 1 rfl ?_
      refine jj_callVl (pc := 21) (N := mX3_stretchParts) (as := [.int a1]) (st := []) dX6_proves_21 rfl rfl rfl lk_RX6_202 hv_X3_stretchParts rfl rfl h (fun v11 w12 h => ?_)
      refine jj_mabs (pc := 24) dX6_proves_24 lk_RX6_211 lk_Sabs lk_IMath lk_Cabs (by decide) (Nat.le_of_ble_eq_true rfl) ?_
      refine jj_bipush (pc := 27) (v := 12) dX6_proves_27 (by decide) ?_
      refine jj_aload_n (pc := 29) dX6_proves_29 0 rfl ?_
      refine jj_getR (pc := 30) (ci := 6) (k := 0) dX6_proves_30 rfl rfl (by decide) rfl lk_RX6_13 ?_
      refine jj_getR (pc := 33) (ci := 3) (k := 5) dX6_proves_33 rfl rfl (by decide) rfl lk_RX6_133 ?_
      refine jj_iload_n (pc := 36) dX6_proves_36 1 rfl ?_
      refine jj_iald (pc := 37) dX6_proves_37 rfl h.1 ?_
      replace h := h.2
      refine jj_imul (pc := 38) dX6_proves_38 ?_
      refine jj_i2l (pc := 39) dX6_proves_39 ?_
      refine jj_lcmp_le (pc := 40) (tgt := 46) dX6_proves_40 dX6_proves_41 (by decide) (fun c13 => ?_) (fun c13 => ?_)
      · replace h := h.1 c13
        refine jj_iinc (pc := 46) (v := a1 + 1) (l2 := [(1, .int (a1 + 1)), (0, .ref 0)]) dX6_proves_46 1 rfl rfl (by decide) rfl ?_
        refine jj_goto (pc := 49) (tgt := 2) dX6_proves_49 (by decide) ?_
        exact jj_sub [1, 0] rfl h
      · replace h := h.2 c13
        refine jj_iconst (pc := 44) (v := 0) dX6_proves_44 (by decide) ?_
        exact jj_iret (pc := 45) dX6_proves_45 rfl h
set_option maxRecDepth 100000 in
set_option maxHeartbeats 4000000 in
theorem vc_X6_cross_0 {K : jj_K} (R : Int32 → wo_T → Prop)  (a1 : Int32) (a2 : Int32) (w : wo_T)
    (h : (a1 < 0 → R (-2) w) ∧ (¬ a1 < 0 → jj_Ci K mX6_isWithin [.int a2, .int 0, .int 5] w (fun v2 w3 => (¬ v2 = 0 → jj_Ci K mX6_frame [.ref 0] w3 (fun v5 w6 => (0 ≤ v5 → jj_Ci K mX1_pass [.ref 48, .ref 1, .int v5, .int a1] w6 (fun v8 w9 => (a1 < v8 → (a2 = 0 → R (w9.1 48 0) w9) ∧ (a2 = 1 → R (w9.1 48 1) w9) ∧ (a2 = 2 → jj_Cl K mX6_lowest [.long (w9.2 48 2), .long (w9.2 48 4), .int 0] w9 (fun v14 w15 => R v14.toInt32 w15)) ∧ (a2 = 3 → jj_Cl K mX6_lowest [.long (w9.2 48 2), .long (w9.2 48 4), .int 1] w9 (fun v17 w18 => R v17.toInt32 w18)) ∧ (a2 = 4 → jj_Cl K mX6_lowest [.long (w9.2 48 3), .long (w9.2 48 4), .int 0] w9 (fun v20 w21 => R v20.toInt32 w21)) ∧ (¬ a2 = 0 → ¬ a2 = 1 → ¬ a2 = 2 → ¬ a2 = 3 → ¬ a2 = 4 → jj_Cl K mX6_lowest [.long (w9.2 48 3), .long (w9.2 48 4), .int 1] w9 (fun v22 w23 => R v22.toInt32 w23))) ∧ (¬ a1 < v8 → R (-2) w9))) ∧ (¬ 0 ≤ v5 → R (-3) w6))) ∧ (v2 = 0 → R (-2) w3)))) :
    jj_J K mX6_cross (jj_Ri R) 0 [(0, .ref 0), (1, .int a1), (2, .int a2)] [] w := by
  refine jj_iload_n (pc := 0) dX6_cross_0 1 rfl ?_
  refine jj_if_lt (pc := 1) (tgt := 13) dX6_cross_1 (by decide) (fun c1 => ?_) (fun c1 => ?_)
  · replace h := h.1 c1
    refine jj_bipush (pc := 13) (v := (-2)) dX6_cross_13 (by decide) ?_
    exact jj_iret (pc := 15) dX6_cross_15 rfl h
  · replace h := h.2 c1
    refine jj_iload_n (pc := 4) dX6_cross_4 2 rfl ?_
    refine jj_iconst (pc := 5) (v := 0) dX6_cross_5 (by decide) ?_
    refine jj_iconst (pc := 6) (v := 5) dX6_cross_6 (by decide) ?_
    refine jj_callSi (pc := 7) (N := mX6_isWithin) (as := [.int a2, .int 0, .int 5]) (st := []) dX6_cross_7 lk_RX6_56 hv_X6_isWithin rfl rfl h (fun v2 w3 h => ?_)
    refine jj_if_ne (pc := 10) (tgt := 16) dX6_cross_10 (by decide) (fun c4 => ?_) (fun c4 => ?_)
    · replace h := h.1 c4
      refine jj_aload_n (pc := 16) dX6_cross_16 0 rfl ?_
      refine jj_callVi (pc := 17) (N := mX6_frame) (as := []) (st := []) dX6_cross_17 rfl rfl rfl lk_RX6_191 hv_X6_frame rfl rfl h (fun v5 w6 h => ?_)
      refine jj_istore_n (pc := 20) (l2 := [(3, .int v5), (0, .ref 0), (1, .int a1), (2, .int a2)]) dX6_cross_20 (by decide) rfl ?_
      refine jj_iload_n (pc := 21) dX6_cross_21 0 rfl ?_
      refine jj_if_ge (pc := 22) (tgt := 28) dX6_cross_22 (by decide) (fun c7 => ?_) (fun c7 => ?_)
      · replace h := h.1 c7
        refine jj_aload_n (pc := 28) dX6_cross_28 1 rfl ?_
        refine jj_getR (pc := 29) (ci := 6) (k := 4) dX6_cross_29 rfl rfl (by decide) rfl lk_RX6_41 ?_
        refine jj_aload_n (pc := 32) dX6_cross_32 1 rfl ?_
        refine jj_getR (pc := 33) (ci := 6) (k := 0) dX6_cross_33 rfl rfl (by decide) rfl lk_RX6_13 ?_
        refine jj_iload_n (pc := 36) dX6_cross_36 0 rfl ?_
        refine jj_iload_n (pc := 37) dX6_cross_37 2 rfl ?_
        refine jj_callVi (pc := 38) (N := mX1_pass) (as := [.ref 1, .int v5, .int a1]) (st := []) dX6_cross_38 rfl rfl rfl lk_RX6_221 hv_X1_pass rfl rfl h (fun v8 w9 h => ?_)
        refine jj_iload_n (pc := 41) dX6_cross_41 2 rfl ?_
        refine jj_icmp_gt (pc := 42) (tgt := 48) dX6_cross_42 (by decide) (fun c10 => ?_) (fun c10 => ?_)
        · replace h := h.1 c10
          refine jj_iload_n (pc := 48) dX6_cross_48 3 rfl ?_
          by_cases c11 : a2 = 0
          · replace h := h.1 c11
            refine jj_swIn (pc := 49) (tgt := 84) dX6_cross_49 (by rw [c11]; decide) (by rw [c11]; decide) (by rw [c11]; rfl) (by decide) ?_
            refine jj_aload_n (pc := 84) dX6_cross_84 1 rfl ?_
            refine jj_getR (pc := 85) (ci := 6) (k := 4) dX6_cross_85 rfl rfl (by decide) rfl lk_RX6_41 ?_
            refine jj_getI (pc := 88) (ci := 1) (k := 0) dX6_cross_88 rfl rfl (by decide) rfl lk_RX6_225 ?_
            exact jj_iret (pc := 91) dX6_cross_91 rfl h
          replace h := h.2
          by_cases c12 : a2 = 1
          · replace h := h.1 c12
            refine jj_swIn (pc := 49) (tgt := 92) dX6_cross_49 (by rw [c12]; decide) (by rw [c12]; decide) (by rw [c12]; rfl) (by decide) ?_
            refine jj_aload_n (pc := 92) dX6_cross_92 1 rfl ?_
            refine jj_getR (pc := 93) (ci := 6) (k := 4) dX6_cross_93 rfl rfl (by decide) rfl lk_RX6_41 ?_
            refine jj_getI (pc := 96) (ci := 1) (k := 1) dX6_cross_96 rfl rfl (by decide) rfl lk_RX6_228 ?_
            exact jj_iret (pc := 99) dX6_cross_99 rfl h
          replace h := h.2
          by_cases c13 : a2 = 2
          · replace h := h.1 c13
            refine jj_swIn (pc := 49) (tgt := 100) dX6_cross_49 (by rw [c13]; decide) (by rw [c13]; decide) (by rw [c13]; rfl) (by decide) ?_
            refine jj_aload_n (pc := 100) dX6_cross_100 1 rfl ?_
            refine jj_getR (pc := 101) (ci := 6) (k := 4) dX6_cross_101 rfl rfl (by decide) rfl lk_RX6_41 ?_
            refine jj_getL (pc := 104) (ci := 1) (k := 2) dX6_cross_104 rfl rfl (by decide) rfl lk_RX6_231 ?_
            refine jj_aload_n (pc := 107) dX6_cross_107 1 rfl ?_
            refine jj_getR (pc := 108) (ci := 6) (k := 4) dX6_cross_108 rfl rfl (by decide) rfl lk_RX6_41 ?_
            refine jj_getL (pc := 111) (ci := 1) (k := 4) dX6_cross_111 rfl rfl (by decide) rfl lk_RX6_234 ?_
            refine jj_iconst (pc := 114) (v := 0) dX6_cross_114 (by decide) ?_
            refine jj_callSl (pc := 115) (N := mX6_lowest) (as := [.long (w9.2 48 2), .long (w9.2 48 4), .int 0]) (st := []) dX6_cross_115 lk_RX6_171 hv_X6_lowest rfl rfl h (fun v14 w15 h => ?_)
            refine jj_l2i (pc := 118) dX6_cross_118 ?_
            exact jj_iret (pc := 119) dX6_cross_119 rfl h
          replace h := h.2
          by_cases c16 : a2 = 3
          · replace h := h.1 c16
            refine jj_swIn (pc := 49) (tgt := 120) dX6_cross_49 (by rw [c16]; decide) (by rw [c16]; decide) (by rw [c16]; rfl) (by decide) ?_
            refine jj_aload_n (pc := 120) dX6_cross_120 1 rfl ?_
            refine jj_getR (pc := 121) (ci := 6) (k := 4) dX6_cross_121 rfl rfl (by decide) rfl lk_RX6_41 ?_
            refine jj_getL (pc := 124) (ci := 1) (k := 2) dX6_cross_124 rfl rfl (by decide) rfl lk_RX6_231 ?_
            refine jj_aload_n (pc := 127) dX6_cross_127 1 rfl ?_
            refine jj_getR (pc := 128) (ci := 6) (k := 4) dX6_cross_128 rfl rfl (by decide) rfl lk_RX6_41 ?_
            refine jj_getL (pc := 131) (ci := 1) (k := 4) dX6_cross_131 rfl rfl (by decide) rfl lk_RX6_234 ?_
            refine jj_iconst (pc := 134) (v := 1) dX6_cross_134 (by decide) ?_
            refine jj_callSl (pc := 135) (N := mX6_lowest) (as := [.long (w9.2 48 2), .long (w9.2 48 4), .int 1]) (st := []) dX6_cross_135 lk_RX6_171 hv_X6_lowest rfl rfl h (fun v17 w18 h => ?_)
            refine jj_l2i (pc := 138) dX6_cross_138 ?_
            exact jj_iret (pc := 139) dX6_cross_139 rfl h
          replace h := h.2
          by_cases c19 : a2 = 4
          · replace h := h.1 c19
            refine jj_swIn (pc := 49) (tgt := 140) dX6_cross_49 (by rw [c19]; decide) (by rw [c19]; decide) (by rw [c19]; rfl) (by decide) ?_
            refine jj_aload_n (pc := 140) dX6_cross_140 1 rfl ?_
            refine jj_getR (pc := 141) (ci := 6) (k := 4) dX6_cross_141 rfl rfl (by decide) rfl lk_RX6_41 ?_
            refine jj_getL (pc := 144) (ci := 1) (k := 3) dX6_cross_144 rfl rfl (by decide) rfl lk_RX6_236 ?_
            refine jj_aload_n (pc := 147) dX6_cross_147 1 rfl ?_
            refine jj_getR (pc := 148) (ci := 6) (k := 4) dX6_cross_148 rfl rfl (by decide) rfl lk_RX6_41 ?_
            refine jj_getL (pc := 151) (ci := 1) (k := 4) dX6_cross_151 rfl rfl (by decide) rfl lk_RX6_234 ?_
            refine jj_iconst (pc := 154) (v := 0) dX6_cross_154 (by decide) ?_
            refine jj_callSl (pc := 155) (N := mX6_lowest) (as := [.long (w9.2 48 3), .long (w9.2 48 4), .int 0]) (st := []) dX6_cross_155 lk_RX6_171 hv_X6_lowest rfl rfl h (fun v20 w21 h => ?_)
            refine jj_l2i (pc := 158) dX6_cross_158 ?_
            exact jj_iret (pc := 159) dX6_cross_159 rfl h
          replace h := h.2
          replace h := h c11 c12 c13 c16 c19
          refine jj_swOut (pc := 49) (tgt := 160) dX6_cross_49 (jj_swo 5 (by decide) (fun j hj => match j, hj with | 0, _ => c11 | 1, _ => c12 | 2, _ => c13 | 3, _ => c16 | 4, _ => c19 | j + 5, hj => absurd hj (by omega))) (by decide) ?_
          refine jj_aload_n (pc := 160) dX6_cross_160 1 rfl ?_
          refine jj_getR (pc := 161) (ci := 6) (k := 4) dX6_cross_161 rfl rfl (by decide) rfl lk_RX6_41 ?_
          refine jj_getL (pc := 164) (ci := 1) (k := 3) dX6_cross_164 rfl rfl (by decide) rfl lk_RX6_236 ?_
          refine jj_aload_n (pc := 167) dX6_cross_167 1 rfl ?_
          refine jj_getR (pc := 168) (ci := 6) (k := 4) dX6_cross_168 rfl rfl (by decide) rfl lk_RX6_41 ?_
          refine jj_getL (pc := 171) (ci := 1) (k := 4) dX6_cross_171 rfl rfl (by decide) rfl lk_RX6_234 ?_
          refine jj_iconst (pc := 174) (v := 1) dX6_cross_174 (by decide) ?_
          refine jj_callSl (pc := 175) (N := mX6_lowest) (as := [.long (w9.2 48 3), .long (w9.2 48 4), .int 1]) (st := []) dX6_cross_175 lk_RX6_171 hv_X6_lowest rfl rfl h (fun v22 w23 h => ?_)
          refine jj_l2i (pc := 178) dX6_cross_178 ?_
          exact jj_iret (pc := 179) dX6_cross_179 rfl h
        · replace h := h.2 c10
          refine jj_bipush (pc := 45) (v := (-2)) dX6_cross_45 (by decide) ?_
          exact jj_iret (pc := 47) dX6_cross_47 rfl h
      · replace h := h.2 c7
        refine jj_bipush (pc := 25) (v := (-3)) dX6_cross_25 (by decide) ?_
        exact jj_iret (pc := 27) dX6_cross_27 rfl h
    · replace h := h.2 c4
      refine jj_bipush (pc := 13) (v := (-2)) dX6_cross_13 (by decide) ?_
      exact jj_iret (pc := 15) dX6_cross_15 rfl h
theorem en_X6_cross {K : jj_K} (R : Int32 → wo_T → Prop)  (a1 : Int32) (a2 : Int32) (w : wo_T)
    (h : (a1 < 0 → R (-2) w) ∧ (¬ a1 < 0 → jj_Ci K mX6_isWithin [.int a2, .int 0, .int 5] w (fun v2 w3 => (¬ v2 = 0 → jj_Ci K mX6_frame [.ref 0] w3 (fun v5 w6 => (0 ≤ v5 → jj_Ci K mX1_pass [.ref 48, .ref 1, .int v5, .int a1] w6 (fun v8 w9 => (a1 < v8 → (a2 = 0 → R (w9.1 48 0) w9) ∧ (a2 = 1 → R (w9.1 48 1) w9) ∧ (a2 = 2 → jj_Cl K mX6_lowest [.long (w9.2 48 2), .long (w9.2 48 4), .int 0] w9 (fun v14 w15 => R v14.toInt32 w15)) ∧ (a2 = 3 → jj_Cl K mX6_lowest [.long (w9.2 48 2), .long (w9.2 48 4), .int 1] w9 (fun v17 w18 => R v17.toInt32 w18)) ∧ (a2 = 4 → jj_Cl K mX6_lowest [.long (w9.2 48 3), .long (w9.2 48 4), .int 0] w9 (fun v20 w21 => R v20.toInt32 w21)) ∧ (¬ a2 = 0 → ¬ a2 = 1 → ¬ a2 = 2 → ¬ a2 = 3 → ¬ a2 = 4 → jj_Cl K mX6_lowest [.long (w9.2 48 3), .long (w9.2 48 4), .int 1] w9 (fun v22 w23 => R v22.toInt32 w23))) ∧ (¬ a1 < v8 → R (-2) w9))) ∧ (¬ 0 ≤ v5 → R (-3) w6))) ∧ (v2 = 0 → R (-2) w3)))) : jj_Ci K mX6_cross [.ref 0, .int a1, .int a2] w R :=
  jj_Ci_intro pn_RX6 (Nat.le_of_ble_eq_true rfl) (vc_X6_cross_0 R a1 a2 w h)
set_option maxRecDepth 100000 in
set_option maxHeartbeats 4000000 in
theorem vc_X6_sheet_0 {K : jj_K} (R : Int32 → wo_T → Prop)  (a1 : Int32) (a2 : Int32) (a3 : Int32) (w : wo_T)
    (h : jj_Ci K mX6_isSheet [.int a1] w (fun v1 w2 => (v1 = 0 → R (-2) w2) ∧ (¬ v1 = 0 → jj_Ci K mX6_isWithin [.int a2, .int 0, .int 1] w2 (fun v4 w5 => (v4 = 0 → R (-2) w5) ∧ (¬ v4 = 0 → (a3 ≤ 40 → (0 ≤ a3 → vp_in a1 4 ∧ (jj_Cv K mX4_renew [.ref (50 + 2 * a1.toNatClampNeg), .int a2, .int a3] w5 (fun w11 => R a3 w11))) ∧ (¬ 0 ≤ a3 → jj_Ci K mX6_found [.ref 0, .int 5] w5 (fun v12 w13 => R v12 w13))) ∧ (¬ a3 ≤ 40 → R (-2) w5)))))) :
    jj_J K mX6_sheet (jj_Ri R) 0 [(0, .ref 0), (1, .int a1), (2, .int a2), (3, .int a3)] [] w := by
  refine jj_iload_n (pc := 0) dX6_sheet_0 1 rfl ?_
  refine jj_callSi (pc := 1) (N := mX6_isSheet) (as := [.int a1]) (st := []) dX6_sheet_1 lk_RX6_101 hv_X6_isSheet rfl rfl h (fun v1 w2 h => ?_)
  refine jj_if_eq (pc := 4) (tgt := 22) dX6_sheet_4 (by decide) (fun c3 => ?_) (fun c3 => ?_)
  · replace h := h.1 c3
    refine jj_bipush (pc := 22) (v := (-2)) dX6_sheet_22 (by decide) ?_
    exact jj_iret (pc := 24) dX6_sheet_24 rfl h
  · replace h := h.2 c3
    refine jj_iload_n (pc := 7) dX6_sheet_7 2 rfl ?_
    refine jj_iconst (pc := 8) (v := 0) dX6_sheet_8 (by decide) ?_
    refine jj_iconst (pc := 9) (v := 1) dX6_sheet_9 (by decide) ?_
    refine jj_callSi (pc := 10) (N := mX6_isWithin) (as := [.int a2, .int 0, .int 1]) (st := []) dX6_sheet_10 lk_RX6_56 hv_X6_isWithin rfl rfl h (fun v4 w5 h => ?_)
    refine jj_if_eq (pc := 13) (tgt := 22) dX6_sheet_13 (by decide) (fun c6 => ?_) (fun c6 => ?_)
    · replace h := h.1 c6
      refine jj_bipush (pc := 22) (v := (-2)) dX6_sheet_22 (by decide) ?_
      exact jj_iret (pc := 24) dX6_sheet_24 rfl h
    · replace h := h.2 c6
      refine jj_iload_n (pc := 16) dX6_sheet_16 3 rfl ?_
      refine jj_bipush (pc := 17) (v := 40) dX6_sheet_17 (by decide) ?_
      refine jj_icmp_le (pc := 19) (tgt := 25) dX6_sheet_19 (by decide) (fun c7 => ?_) (fun c7 => ?_)
      · replace h := h.1 c7
        refine jj_iload_n (pc := 25) dX6_sheet_25 3 rfl ?_
        refine jj_if_ge (pc := 26) (tgt := 35) dX6_sheet_26 (by decide) (fun c8 => ?_) (fun c8 => ?_)
        · replace h := h.1 c8
          refine jj_aload_n (pc := 35) dX6_sheet_35 0 rfl ?_
          refine jj_getR (pc := 36) (ci := 6) (k := 5) dX6_sheet_36 rfl rfl (by decide) rfl lk_RX6_47 ?_
          refine jj_iload_n (pc := 39) dX6_sheet_39 1 rfl ?_
          refine jj_aald3 (pc := 40) dX6_sheet_40 rfl h.1 ?_
          have hb9 := h.1
          replace h := h.2
          refine jj_iload_n (pc := 41) dX6_sheet_41 2 rfl ?_
          refine jj_iload_n (pc := 42) dX6_sheet_42 3 rfl ?_
          refine jj_callVv (pc := 43) (N := mX4_renew) (as := [.int a2, .int a3]) (st := []) dX6_sheet_43 (wo_l50 _ (wo_inlt hb9)) rfl rfl lk_RX6_239 hv_X4_renew rfl rfl h (fun w11 h => ?_)
          refine jj_iload_n (pc := 46) dX6_sheet_46 3 rfl ?_
          exact jj_iret (pc := 47) dX6_sheet_47 rfl h
        · replace h := h.2 c8
          refine jj_aload_n (pc := 29) dX6_sheet_29 0 rfl ?_
          refine jj_iconst (pc := 30) (v := 5) dX6_sheet_30 (by decide) ?_
          refine jj_callVi (pc := 31) (N := mX6_found) (as := [.int 5]) (st := []) dX6_sheet_31 rfl rfl rfl lk_RX6_107 hv_X6_found rfl rfl h (fun v12 w13 h => ?_)
          exact jj_iret (pc := 34) dX6_sheet_34 rfl h
      · replace h := h.2 c7
        refine jj_bipush (pc := 22) (v := (-2)) dX6_sheet_22 (by decide) ?_
        exact jj_iret (pc := 24) dX6_sheet_24 rfl h
theorem en_X6_sheet {K : jj_K} (R : Int32 → wo_T → Prop)  (a1 : Int32) (a2 : Int32) (a3 : Int32) (w : wo_T)
    (h : jj_Ci K mX6_isSheet [.int a1] w (fun v1 w2 => (v1 = 0 → R (-2) w2) ∧ (¬ v1 = 0 → jj_Ci K mX6_isWithin [.int a2, .int 0, .int 1] w2 (fun v4 w5 => (v4 = 0 → R (-2) w5) ∧ (¬ v4 = 0 → (a3 ≤ 40 → (0 ≤ a3 → vp_in a1 4 ∧ (jj_Cv K mX4_renew [.ref (50 + 2 * a1.toNatClampNeg), .int a2, .int a3] w5 (fun w11 => R a3 w11))) ∧ (¬ 0 ≤ a3 → jj_Ci K mX6_found [.ref 0, .int 5] w5 (fun v12 w13 => R v12 w13))) ∧ (¬ a3 ≤ 40 → R (-2) w5)))))) : jj_Ci K mX6_sheet [.ref 0, .int a1, .int a2, .int a3] w R :=
  jj_Ci_intro pn_RX6 (Nat.le_of_ble_eq_true rfl) (vc_X6_sheet_0 R a1 a2 a3 w h)
set_option maxRecDepth 100000 in
set_option maxHeartbeats 4000000 in
theorem vc_X6_lose_0 {K : jj_K} (R : Int32 → wo_T → Prop)  (a1 : Int32) (w : wo_T)
    (h : jj_Ci K mX6_isSheet [.int a1] w (fun v1 w2 => (¬ v1 = 0 → vp_in a1 4 ∧ (((w2.1 (50 + 2 * a1.toNatClampNeg) 1) = 0 → vp_in a1 4 ∧ (vp_in a1 4 ∧ (R ((wo_i w2 (50 + 2 * a1.toNatClampNeg) 1 1).1 (50 + 2 * a1.toNatClampNeg) 3) (wo_i w2 (50 + 2 * a1.toNatClampNeg) 1 1)))) ∧ (¬ (w2.1 (50 + 2 * a1.toNatClampNeg) 1) = 0 → jj_Ci K mX6_found [.ref 0, .int 1] w2 (fun v8 w9 => R v8 w9)))) ∧ (v1 = 0 → R (-2) w2))) :
    jj_J K mX6_lose (jj_Ri R) 0 [(0, .ref 0), (1, .int a1)] [] w := by
  refine jj_iload_n (pc := 0) dX6_lose_0 1 rfl ?_
  refine jj_callSi (pc := 1) (N := mX6_isSheet) (as := [.int a1]) (st := []) dX6_lose_1 lk_RX6_101 hv_X6_isSheet rfl rfl h (fun v1 w2 h => ?_)
  refine jj_if_ne (pc := 4) (tgt := 10) dX6_lose_4 (by decide) (fun c3 => ?_) (fun c3 => ?_)
  · replace h := h.1 c3
    refine jj_aload_n (pc := 10) dX6_lose_10 0 rfl ?_
    refine jj_getR (pc := 11) (ci := 6) (k := 5) dX6_lose_11 rfl rfl (by decide) rfl lk_RX6_47 ?_
    refine jj_iload_n (pc := 14) dX6_lose_14 1 rfl ?_
    refine jj_aald3 (pc := 15) dX6_lose_15 rfl h.1 ?_
    have hb4 := h.1
    replace h := h.2
    refine jj_getI (pc := 16) (ci := 4) (k := 1) dX6_lose_16 (wo_l50 _ (wo_inlt hb4)) rfl (by decide) rfl lk_RX6_104 ?_
    refine jj_if_eq (pc := 19) (tgt := 28) dX6_lose_19 (by decide) (fun c5 => ?_) (fun c5 => ?_)
    · replace h := h.1 c5
      refine jj_aload_n (pc := 28) dX6_lose_28 0 rfl ?_
      refine jj_getR (pc := 29) (ci := 6) (k := 5) dX6_lose_29 rfl rfl (by decide) rfl lk_RX6_47 ?_
      refine jj_iload_n (pc := 32) dX6_lose_32 1 rfl ?_
      refine jj_aald3 (pc := 33) dX6_lose_33 rfl h.1 ?_
      have hb6 := h.1
      replace h := h.2
      refine jj_iconst (pc := 34) (v := 1) dX6_lose_34 (by decide) ?_
      refine jj_putI (pc := 35) (ci := 4) (k := 1) (ty := .boolean) dX6_lose_35 (wo_l50 _ (wo_inlt hb6)) rfl (by decide) rfl lk_RX6_104 rfl (by decide) rfl rfl ?_
      refine jj_aload_n (pc := 38) dX6_lose_38 0 rfl ?_
      refine jj_getR (pc := 39) (ci := 6) (k := 5) dX6_lose_39 rfl rfl (by decide) rfl lk_RX6_47 ?_
      refine jj_iload_n (pc := 42) dX6_lose_42 1 rfl ?_
      refine jj_aald3 (pc := 43) dX6_lose_43 rfl h.1 ?_
      have hb7 := h.1
      replace h := h.2
      refine jj_getI (pc := 44) (ci := 4) (k := 3) dX6_lose_44 (wo_l50 _ (wo_inlt hb7)) rfl (by decide) rfl lk_RX6_111 ?_
      exact jj_iret (pc := 47) dX6_lose_47 rfl h
    · replace h := h.2 c5
      refine jj_aload_n (pc := 22) dX6_lose_22 0 rfl ?_
      refine jj_iconst (pc := 23) (v := 1) dX6_lose_23 (by decide) ?_
      refine jj_callVi (pc := 24) (N := mX6_found) (as := [.int 1]) (st := []) dX6_lose_24 rfl rfl rfl lk_RX6_107 hv_X6_found rfl rfl h (fun v8 w9 h => ?_)
      exact jj_iret (pc := 27) dX6_lose_27 rfl h
  · replace h := h.2 c3
    refine jj_bipush (pc := 7) (v := (-2)) dX6_lose_7 (by decide) ?_
    exact jj_iret (pc := 9) dX6_lose_9 rfl h
theorem en_X6_lose {K : jj_K} (R : Int32 → wo_T → Prop)  (a1 : Int32) (w : wo_T)
    (h : jj_Ci K mX6_isSheet [.int a1] w (fun v1 w2 => (¬ v1 = 0 → vp_in a1 4 ∧ (((w2.1 (50 + 2 * a1.toNatClampNeg) 1) = 0 → vp_in a1 4 ∧ (vp_in a1 4 ∧ (R ((wo_i w2 (50 + 2 * a1.toNatClampNeg) 1 1).1 (50 + 2 * a1.toNatClampNeg) 3) (wo_i w2 (50 + 2 * a1.toNatClampNeg) 1 1)))) ∧ (¬ (w2.1 (50 + 2 * a1.toNatClampNeg) 1) = 0 → jj_Ci K mX6_found [.ref 0, .int 1] w2 (fun v8 w9 => R v8 w9)))) ∧ (v1 = 0 → R (-2) w2))) : jj_Ci K mX6_lose [.ref 0, .int a1] w R :=
  jj_Ci_intro pn_RX6 (Nat.le_of_ble_eq_true rfl) (vc_X6_lose_0 R a1 w h)
set_option maxRecDepth 100000 in
set_option maxHeartbeats 4000000 in
theorem vc_X6_put_0 {K : jj_K} (R : Int32 → wo_T → Prop)  (a1 : Int32) (a2 : Int32) (a3 : Int32) (a4 : Int32) (w : wo_T)
    (h : jj_Ci K mX6_isSheet [.int a1] w (fun v1 w2 => (v1 = 0 → R (-2) w2) ∧ (¬ v1 = 0 → jj_Ci K mX6_isWithin [.int a2, .int 0, .int 1] w2 (fun v4 w5 => (¬ v4 = 0 → vp_in a1 4 ∧ (((w5.1 (50 + 2 * a1.toNatClampNeg) 1) = 0 → ((w5.1 (50 + 2 * a1.toNatClampNeg) 2) = a2 → jj_Ci K mX6_isWithin [.int a3, .int 0, .int ((w5.1 (50 + 2 * a1.toNatClampNeg) 3) - 1)] w5 (fun v10 w11 => (¬ v10 = 0 → (¬ a2 = 1 → (¬ a2 = 1 → vp_in a3 40 ∧ (R 1 (wo_l w11 (50 + 2 * a1.toNatClampNeg + 1) a3.toNatClampNeg a4.toInt64))) ∧ (a2 = 1 → vp_in a3 40 ∧ (R 1 (wo_l w11 (50 + 2 * a1.toNatClampNeg + 1) a3.toNatClampNeg ((a4.toInt64 * a4.toInt64) * a4.toInt64))))) ∧ (a2 = 1 → jj_Ci K mX6_isWithin [.int a4, .int (-2097152), .int 2097151] w11 (fun v15 w16 => (¬ v15 = 0 → (¬ a2 = 1 → vp_in a3 40 ∧ (R 1 (wo_l w16 (50 + 2 * a1.toNatClampNeg + 1) a3.toNatClampNeg a4.toInt64))) ∧ (a2 = 1 → vp_in a3 40 ∧ (R 1 (wo_l w16 (50 + 2 * a1.toNatClampNeg + 1) a3.toNatClampNeg ((a4.toInt64 * a4.toInt64) * a4.toInt64))))) ∧ (v15 = 0 → jj_Ci K mX6_found [.ref 0, .int 6] w16 (fun v19 w20 => R v19 w20))))) ∧ (v10 = 0 → jj_Ci K mX6_found [.ref 0, .int 2] w11 (fun v21 w22 => R v21 w22)))) ∧ (¬ (w5.1 (50 + 2 * a1.toNatClampNeg) 2) = a2 → jj_Ci K mX6_found [.ref 0, .int 3] w5 (fun v23 w24 => R v23 w24))) ∧ (¬ (w5.1 (50 + 2 * a1.toNatClampNeg) 1) = 0 → jj_Ci K mX6_found [.ref 0, .int 1] w5 (fun v25 w26 => R v25 w26)))) ∧ (v4 = 0 → R (-2) w5))))) :
    jj_J K mX6_put (jj_Ri R) 0 [(0, .ref 0), (1, .int a1), (2, .int a2), (3, .int a3), (4, .int a4)] [] w := by
  refine jj_iload_n (pc := 0) dX6_put_0 1 rfl ?_
  refine jj_callSi (pc := 1) (N := mX6_isSheet) (as := [.int a1]) (st := []) dX6_put_1 lk_RX6_101 hv_X6_isSheet rfl rfl h (fun v1 w2 h => ?_)
  refine jj_if_eq (pc := 4) (tgt := 16) dX6_put_4 (by decide) (fun c3 => ?_) (fun c3 => ?_)
  · replace h := h.1 c3
    refine jj_bipush (pc := 16) (v := (-2)) dX6_put_16 (by decide) ?_
    exact jj_iret (pc := 18) dX6_put_18 rfl h
  · replace h := h.2 c3
    refine jj_iload_n (pc := 7) dX6_put_7 2 rfl ?_
    refine jj_iconst (pc := 8) (v := 0) dX6_put_8 (by decide) ?_
    refine jj_iconst (pc := 9) (v := 1) dX6_put_9 (by decide) ?_
    refine jj_callSi (pc := 10) (N := mX6_isWithin) (as := [.int a2, .int 0, .int 1]) (st := []) dX6_put_10 lk_RX6_56 hv_X6_isWithin rfl rfl h (fun v4 w5 h => ?_)
    refine jj_if_ne (pc := 13) (tgt := 19) dX6_put_13 (by decide) (fun c6 => ?_) (fun c6 => ?_)
    · replace h := h.1 c6
      refine jj_aload_n (pc := 19) dX6_put_19 0 rfl ?_
      refine jj_getR (pc := 20) (ci := 6) (k := 5) dX6_put_20 rfl rfl (by decide) rfl lk_RX6_47 ?_
      refine jj_iload_n (pc := 23) dX6_put_23 1 rfl ?_
      refine jj_aald3 (pc := 24) dX6_put_24 rfl h.1 ?_
      have hb7 := h.1
      replace h := h.2
      refine jj_astore (pc := 25) (l2 := [(5, .ref (50 + 2 * a1.toNatClampNeg)), (0, .ref 0), (1, .int a1), (2, .int a2), (3, .int a3), (4, .int a4)]) dX6_put_25 (by decide) rfl ?_
      refine jj_aload (pc := 27) dX6_put_27 0 rfl ?_
      refine jj_getI (pc := 29) (ci := 4) (k := 1) dX6_put_29 (wo_l50 _ (wo_inlt hb7)) rfl (by decide) rfl lk_RX6_104 ?_
      refine jj_if_eq (pc := 32) (tgt := 41) dX6_put_32 (by decide) (fun c8 => ?_) (fun c8 => ?_)
      · replace h := h.1 c8
        refine jj_aload (pc := 41) dX6_put_41 0 rfl ?_
        refine jj_getI (pc := 43) (ci := 4) (k := 2) dX6_put_43 (wo_l50 _ (wo_inlt hb7)) rfl (by decide) rfl lk_RX6_243 ?_
        refine jj_iload_n (pc := 46) dX6_put_46 3 rfl ?_
        refine jj_icmp_eq (pc := 47) (tgt := 56) dX6_put_47 (by decide) (fun c9 => ?_) (fun c9 => ?_)
        · replace h := h.1 c9
          refine jj_iload_n (pc := 56) dX6_put_56 4 rfl ?_
          refine jj_iconst (pc := 57) (v := 0) dX6_put_57 (by decide) ?_
          refine jj_aload (pc := 58) dX6_put_58 0 rfl ?_
          refine jj_getI (pc := 60) (ci := 4) (k := 3) dX6_put_60 (wo_l50 _ (wo_inlt hb7)) rfl (by decide) rfl lk_RX6_111 ?_
          refine jj_iconst (pc := 63) (v := 1) dX6_put_63 (by decide) ?_
          refine jj_isub (pc := 64) dX6_put_64 ?_
          refine jj_callSi (pc := 65) (N := mX6_isWithin) (as := [.int a3, .int 0, .int ((w5.1 (50 + 2 * a1.toNatClampNeg) 3) - 1)]) (st := []) dX6_put_65 lk_RX6_56 hv_X6_isWithin rfl rfl h (fun v10 w11 h => ?_)
          refine jj_if_ne (pc := 68) (tgt := 77) dX6_put_68 (by decide) (fun c12 => ?_) (fun c12 => ?_)
          · replace h := h.1 c12
            refine jj_iload_n (pc := 77) dX6_put_77 3 rfl ?_
            refine jj_iconst (pc := 78) (v := 1) dX6_put_78 (by decide) ?_
            refine jj_icmp_ne (pc := 79) (tgt := 101) dX6_put_79 (by decide) (fun c13 => ?_) (fun c13 => ?_)
            · replace h := h.1 c13
              refine jj_aload (pc := 101) dX6_put_101 0 rfl ?_
              refine jj_getR (pc := 103) (ci := 4) (k := 0) dX6_put_103 (wo_l50 _ (wo_inlt hb7)) rfl (by decide) rfl lk_RX6_117 ?_
              refine jj_iload_n (pc := 106) dX6_put_106 4 rfl ?_
              refine jj_iload_n (pc := 107) dX6_put_107 3 rfl ?_
              refine jj_iconst (pc := 108) (v := 1) dX6_put_108 (by decide) ?_
              refine jj_icmp_ne (pc := 109) (tgt := 126) dX6_put_109 (by decide) (fun c14 => ?_) (fun c14 => ?_)
              · replace h := h.1 c14
                refine jj_iload (pc := 126) dX6_put_126 5 rfl ?_
                refine jj_i2l (pc := 128) dX6_put_128 ?_
                refine jj_last (pc := 129) dX6_put_129 (wo_l51 _ (wo_inlt hb7)) h.1 ?_
                replace h := h.2
                refine jj_iconst (pc := 130) (v := 1) dX6_put_130 (by decide) ?_
                exact jj_iret (pc := 131) dX6_put_131 rfl h
              · replace h := h.2 c14
                refine jj_iload (pc := 112) dX6_put_112 5 rfl ?_
                refine jj_i2l (pc := 114) dX6_put_114 ?_
                refine jj_iload (pc := 115) dX6_put_115 5 rfl ?_
                refine jj_i2l (pc := 117) dX6_put_117 ?_
                refine jj_lmul (pc := 118) dX6_put_118 ?_
                refine jj_iload (pc := 119) dX6_put_119 5 rfl ?_
                refine jj_i2l (pc := 121) dX6_put_121 ?_
                refine jj_lmul (pc := 122) dX6_put_122 ?_
                refine jj_goto (pc := 123) (tgt := 129) dX6_put_123 (by decide) ?_
                refine jj_last (pc := 129) dX6_put_129 (wo_l51 _ (wo_inlt hb7)) h.1 ?_
                replace h := h.2
                refine jj_iconst (pc := 130) (v := 1) dX6_put_130 (by decide) ?_
                exact jj_iret (pc := 131) dX6_put_131 rfl h
            · replace h := h.2 c13
              refine jj_iload (pc := 82) dX6_put_82 5 rfl ?_
              refine jj_ldc (pc := 84) (v := (-2097152)) dX6_put_84 lk_RX6_246 ?_
              refine jj_ldc (pc := 86) (v := 2097151) dX6_put_86 lk_RX6_247 ?_
              refine jj_callSi (pc := 88) (N := mX6_isWithin) (as := [.int a4, .int (-2097152), .int 2097151]) (st := []) dX6_put_88 lk_RX6_56 hv_X6_isWithin rfl rfl h (fun v15 w16 h => ?_)
              refine jj_if_ne (pc := 91) (tgt := 101) dX6_put_91 (by decide) (fun c17 => ?_) (fun c17 => ?_)
              · replace h := h.1 c17
                refine jj_aload (pc := 101) dX6_put_101 0 rfl ?_
                refine jj_getR (pc := 103) (ci := 4) (k := 0) dX6_put_103 (wo_l50 _ (wo_inlt hb7)) rfl (by decide) rfl lk_RX6_117 ?_
                refine jj_iload_n (pc := 106) dX6_put_106 4 rfl ?_
                refine jj_iload_n (pc := 107) dX6_put_107 3 rfl ?_
                refine jj_iconst (pc := 108) (v := 1) dX6_put_108 (by decide) ?_
                refine jj_icmp_ne (pc := 109) (tgt := 126) dX6_put_109 (by decide) (fun c18 => ?_) (fun c18 => ?_)
                · replace h := h.1 c18
                  refine jj_iload (pc := 126) dX6_put_126 5 rfl ?_
                  refine jj_i2l (pc := 128) dX6_put_128 ?_
                  refine jj_last (pc := 129) dX6_put_129 (wo_l51 _ (wo_inlt hb7)) h.1 ?_
                  replace h := h.2
                  refine jj_iconst (pc := 130) (v := 1) dX6_put_130 (by decide) ?_
                  exact jj_iret (pc := 131) dX6_put_131 rfl h
                · replace h := h.2 c18
                  refine jj_iload (pc := 112) dX6_put_112 5 rfl ?_
                  refine jj_i2l (pc := 114) dX6_put_114 ?_
                  refine jj_iload (pc := 115) dX6_put_115 5 rfl ?_
                  refine jj_i2l (pc := 117) dX6_put_117 ?_
                  refine jj_lmul (pc := 118) dX6_put_118 ?_
                  refine jj_iload (pc := 119) dX6_put_119 5 rfl ?_
                  refine jj_i2l (pc := 121) dX6_put_121 ?_
                  refine jj_lmul (pc := 122) dX6_put_122 ?_
                  refine jj_goto (pc := 123) (tgt := 129) dX6_put_123 (by decide) ?_
                  refine jj_last (pc := 129) dX6_put_129 (wo_l51 _ (wo_inlt hb7)) h.1 ?_
                  replace h := h.2
                  refine jj_iconst (pc := 130) (v := 1) dX6_put_130 (by decide) ?_
                  exact jj_iret (pc := 131) dX6_put_131 rfl h
              · replace h := h.2 c17
                refine jj_aload_n (pc := 94) dX6_put_94 1 rfl ?_
                refine jj_bipush (pc := 95) (v := 6) dX6_put_95 (by decide) ?_
                refine jj_callVi (pc := 97) (N := mX6_found) (as := [.int 6]) (st := []) dX6_put_97 rfl rfl rfl lk_RX6_107 hv_X6_found rfl rfl h (fun v19 w20 h => ?_)
                exact jj_iret (pc := 100) dX6_put_100 rfl h
          · replace h := h.2 c12
            refine jj_aload_n (pc := 71) dX6_put_71 1 rfl ?_
            refine jj_iconst (pc := 72) (v := 2) dX6_put_72 (by decide) ?_
            refine jj_callVi (pc := 73) (N := mX6_found) (as := [.int 2]) (st := []) dX6_put_73 rfl rfl rfl lk_RX6_107 hv_X6_found rfl rfl h (fun v21 w22 h => ?_)
            exact jj_iret (pc := 76) dX6_put_76 rfl h
        · replace h := h.2 c9
          refine jj_aload_n (pc := 50) dX6_put_50 1 rfl ?_
          refine jj_iconst (pc := 51) (v := 3) dX6_put_51 (by decide) ?_
          refine jj_callVi (pc := 52) (N := mX6_found) (as := [.int 3]) (st := []) dX6_put_52 rfl rfl rfl lk_RX6_107 hv_X6_found rfl rfl h (fun v23 w24 h => ?_)
          exact jj_iret (pc := 55) dX6_put_55 rfl h
      · replace h := h.2 c8
        refine jj_aload_n (pc := 35) dX6_put_35 1 rfl ?_
        refine jj_iconst (pc := 36) (v := 1) dX6_put_36 (by decide) ?_
        refine jj_callVi (pc := 37) (N := mX6_found) (as := [.int 1]) (st := []) dX6_put_37 rfl rfl rfl lk_RX6_107 hv_X6_found rfl rfl h (fun v25 w26 h => ?_)
        exact jj_iret (pc := 40) dX6_put_40 rfl h
    · replace h := h.2 c6
      refine jj_bipush (pc := 16) (v := (-2)) dX6_put_16 (by decide) ?_
      exact jj_iret (pc := 18) dX6_put_18 rfl h
theorem en_X6_put {K : jj_K} (R : Int32 → wo_T → Prop)  (a1 : Int32) (a2 : Int32) (a3 : Int32) (a4 : Int32) (w : wo_T)
    (h : jj_Ci K mX6_isSheet [.int a1] w (fun v1 w2 => (v1 = 0 → R (-2) w2) ∧ (¬ v1 = 0 → jj_Ci K mX6_isWithin [.int a2, .int 0, .int 1] w2 (fun v4 w5 => (¬ v4 = 0 → vp_in a1 4 ∧ (((w5.1 (50 + 2 * a1.toNatClampNeg) 1) = 0 → ((w5.1 (50 + 2 * a1.toNatClampNeg) 2) = a2 → jj_Ci K mX6_isWithin [.int a3, .int 0, .int ((w5.1 (50 + 2 * a1.toNatClampNeg) 3) - 1)] w5 (fun v10 w11 => (¬ v10 = 0 → (¬ a2 = 1 → (¬ a2 = 1 → vp_in a3 40 ∧ (R 1 (wo_l w11 (50 + 2 * a1.toNatClampNeg + 1) a3.toNatClampNeg a4.toInt64))) ∧ (a2 = 1 → vp_in a3 40 ∧ (R 1 (wo_l w11 (50 + 2 * a1.toNatClampNeg + 1) a3.toNatClampNeg ((a4.toInt64 * a4.toInt64) * a4.toInt64))))) ∧ (a2 = 1 → jj_Ci K mX6_isWithin [.int a4, .int (-2097152), .int 2097151] w11 (fun v15 w16 => (¬ v15 = 0 → (¬ a2 = 1 → vp_in a3 40 ∧ (R 1 (wo_l w16 (50 + 2 * a1.toNatClampNeg + 1) a3.toNatClampNeg a4.toInt64))) ∧ (a2 = 1 → vp_in a3 40 ∧ (R 1 (wo_l w16 (50 + 2 * a1.toNatClampNeg + 1) a3.toNatClampNeg ((a4.toInt64 * a4.toInt64) * a4.toInt64))))) ∧ (v15 = 0 → jj_Ci K mX6_found [.ref 0, .int 6] w16 (fun v19 w20 => R v19 w20))))) ∧ (v10 = 0 → jj_Ci K mX6_found [.ref 0, .int 2] w11 (fun v21 w22 => R v21 w22)))) ∧ (¬ (w5.1 (50 + 2 * a1.toNatClampNeg) 2) = a2 → jj_Ci K mX6_found [.ref 0, .int 3] w5 (fun v23 w24 => R v23 w24))) ∧ (¬ (w5.1 (50 + 2 * a1.toNatClampNeg) 1) = 0 → jj_Ci K mX6_found [.ref 0, .int 1] w5 (fun v25 w26 => R v25 w26)))) ∧ (v4 = 0 → R (-2) w5))))) : jj_Ci K mX6_put [.ref 0, .int a1, .int a2, .int a3, .int a4] w R :=
  jj_Ci_intro pn_RX6 (Nat.le_of_ble_eq_true rfl) (vc_X6_put_0 R a1 a2 a3 a4 w h)
set_option maxRecDepth 100000 in
set_option maxHeartbeats 4000000 in
theorem vc_X6_get_0 {K : jj_K} (R : Int64 → wo_T → Prop)  (a1 : Int32) (a2 : Int32) (w : wo_T)
    (h : jj_Ci K mX6_isSheet [.int a1] w (fun v1 w2 => (¬ v1 = 0 → vp_in a1 4 ∧ (((w2.1 (50 + 2 * a1.toNatClampNeg) 1) = 0 → jj_Ci K mX6_isWithin [.int a2, .int 0, .int ((w2.1 (50 + 2 * a1.toNatClampNeg) 3) - 1)] w2 (fun v6 w7 => (¬ v6 = 0 → vp_in a2 40 ∧ (R (w7.2 (50 + 2 * a1.toNatClampNeg + 1) a2.toNatClampNeg) w7)) ∧ (v6 = 0 → jj_Ci K mX6_found [.ref 0, .int 2] w7 (fun v9 w10 => jj_Cl K mX6_asLong [.int v9] w10 (fun v11 w12 => R v11 w12))))) ∧ (¬ (w2.1 (50 + 2 * a1.toNatClampNeg) 1) = 0 → jj_Ci K mX6_found [.ref 0, .int 1] w2 (fun v13 w14 => jj_Cl K mX6_asLong [.int v13] w14 (fun v15 w16 => R v15 w16))))) ∧ (v1 = 0 → jj_Cl K mX6_asLong [.int (-2)] w2 (fun v17 w18 => R v17 w18)))) :
    jj_J K mX6_get (jj_Rl R) 0 [(0, .ref 0), (1, .int a1), (2, .int a2)] [] w := by
  refine jj_iload_n (pc := 0) dX6_get_0 1 rfl ?_
  refine jj_callSi (pc := 1) (N := mX6_isSheet) (as := [.int a1]) (st := []) dX6_get_1 lk_RX6_101 hv_X6_isSheet rfl rfl h (fun v1 w2 h => ?_)
  refine jj_if_ne (pc := 4) (tgt := 13) dX6_get_4 (by decide) (fun c3 => ?_) (fun c3 => ?_)
  · replace h := h.1 c3
    refine jj_aload_n (pc := 13) dX6_get_13 0 rfl ?_
    refine jj_getR (pc := 14) (ci := 6) (k := 5) dX6_get_14 rfl rfl (by decide) rfl lk_RX6_47 ?_
    refine jj_iload_n (pc := 17) dX6_get_17 1 rfl ?_
    refine jj_aald3 (pc := 18) dX6_get_18 rfl h.1 ?_
    have hb4 := h.1
    replace h := h.2
    refine jj_astore_n (pc := 19) (l2 := [(3, .ref (50 + 2 * a1.toNatClampNeg)), (0, .ref 0), (1, .int a1), (2, .int a2)]) dX6_get_19 (by decide) rfl ?_
    refine jj_aload_n (pc := 20) dX6_get_20 0 rfl ?_
    refine jj_getI (pc := 21) (ci := 4) (k := 1) dX6_get_21 (wo_l50 _ (wo_inlt hb4)) rfl (by decide) rfl lk_RX6_104 ?_
    refine jj_if_eq (pc := 24) (tgt := 36) dX6_get_24 (by decide) (fun c5 => ?_) (fun c5 => ?_)
    · replace h := h.1 c5
      refine jj_iload_n (pc := 36) dX6_get_36 3 rfl ?_
      refine jj_iconst (pc := 37) (v := 0) dX6_get_37 (by decide) ?_
      refine jj_aload_n (pc := 38) dX6_get_38 0 rfl ?_
      refine jj_getI (pc := 39) (ci := 4) (k := 3) dX6_get_39 (wo_l50 _ (wo_inlt hb4)) rfl (by decide) rfl lk_RX6_111 ?_
      refine jj_iconst (pc := 42) (v := 1) dX6_get_42 (by decide) ?_
      refine jj_isub (pc := 43) dX6_get_43 ?_
      refine jj_callSi (pc := 44) (N := mX6_isWithin) (as := [.int a2, .int 0, .int ((w2.1 (50 + 2 * a1.toNatClampNeg) 3) - 1)]) (st := []) dX6_get_44 lk_RX6_56 hv_X6_isWithin rfl rfl h (fun v6 w7 h => ?_)
      refine jj_if_ne (pc := 47) (tgt := 59) dX6_get_47 (by decide) (fun c8 => ?_) (fun c8 => ?_)
      · replace h := h.1 c8
        refine jj_aload_n (pc := 59) dX6_get_59 0 rfl ?_
        refine jj_getR (pc := 60) (ci := 4) (k := 0) dX6_get_60 (wo_l50 _ (wo_inlt hb4)) rfl (by decide) rfl lk_RX6_117 ?_
        refine jj_iload_n (pc := 63) dX6_get_63 3 rfl ?_
        refine jj_lald (pc := 64) dX6_get_64 (wo_l51 _ (wo_inlt hb4)) h.1 ?_
        replace h := h.2
        exact jj_lret (pc := 65) dX6_get_65 rfl h
      · replace h := h.2 c8
        refine jj_aload_n (pc := 50) dX6_get_50 1 rfl ?_
        refine jj_iconst (pc := 51) (v := 2) dX6_get_51 (by decide) ?_
        refine jj_callVi (pc := 52) (N := mX6_found) (as := [.int 2]) (st := []) dX6_get_52 rfl rfl rfl lk_RX6_107 hv_X6_found rfl rfl h (fun v9 w10 h => ?_)
        refine jj_callSl (pc := 55) (N := mX6_asLong) (as := [.int v9]) (st := []) dX6_get_55 lk_RX6_142 hv_X6_asLong rfl rfl h (fun v11 w12 h => ?_)
        exact jj_lret (pc := 58) dX6_get_58 rfl h
    · replace h := h.2 c5
      refine jj_aload_n (pc := 27) dX6_get_27 1 rfl ?_
      refine jj_iconst (pc := 28) (v := 1) dX6_get_28 (by decide) ?_
      refine jj_callVi (pc := 29) (N := mX6_found) (as := [.int 1]) (st := []) dX6_get_29 rfl rfl rfl lk_RX6_107 hv_X6_found rfl rfl h (fun v13 w14 h => ?_)
      refine jj_callSl (pc := 32) (N := mX6_asLong) (as := [.int v13]) (st := []) dX6_get_32 lk_RX6_142 hv_X6_asLong rfl rfl h (fun v15 w16 h => ?_)
      exact jj_lret (pc := 35) dX6_get_35 rfl h
  · replace h := h.2 c3
    refine jj_bipush (pc := 7) (v := (-2)) dX6_get_7 (by decide) ?_
    refine jj_callSl (pc := 9) (N := mX6_asLong) (as := [.int (-2)]) (st := []) dX6_get_9 lk_RX6_142 hv_X6_asLong rfl rfl h (fun v17 w18 h => ?_)
    exact jj_lret (pc := 12) dX6_get_12 rfl h
theorem en_X6_get {K : jj_K} (R : Int64 → wo_T → Prop)  (a1 : Int32) (a2 : Int32) (w : wo_T)
    (h : jj_Ci K mX6_isSheet [.int a1] w (fun v1 w2 => (¬ v1 = 0 → vp_in a1 4 ∧ (((w2.1 (50 + 2 * a1.toNatClampNeg) 1) = 0 → jj_Ci K mX6_isWithin [.int a2, .int 0, .int ((w2.1 (50 + 2 * a1.toNatClampNeg) 3) - 1)] w2 (fun v6 w7 => (¬ v6 = 0 → vp_in a2 40 ∧ (R (w7.2 (50 + 2 * a1.toNatClampNeg + 1) a2.toNatClampNeg) w7)) ∧ (v6 = 0 → jj_Ci K mX6_found [.ref 0, .int 2] w7 (fun v9 w10 => jj_Cl K mX6_asLong [.int v9] w10 (fun v11 w12 => R v11 w12))))) ∧ (¬ (w2.1 (50 + 2 * a1.toNatClampNeg) 1) = 0 → jj_Ci K mX6_found [.ref 0, .int 1] w2 (fun v13 w14 => jj_Cl K mX6_asLong [.int v13] w14 (fun v15 w16 => R v15 w16))))) ∧ (v1 = 0 → jj_Cl K mX6_asLong [.int (-2)] w2 (fun v17 w18 => R v17 w18)))) : jj_Cl K mX6_get [.ref 0, .int a1, .int a2] w R :=
  jj_Cl_intro pn_RX6 (Nat.le_of_ble_eq_true rfl) (vc_X6_get_0 R a1 a2 w h)
set_option maxRecDepth 100000 in
set_option maxHeartbeats 4000000 in
theorem vc_X6_copy_0 {K : jj_K} (R : Int32 → wo_T → Prop)  (a1 : Int32) (a2 : Int32) (a3 : Int32) (a4 : Int32) (a5 : Int32) (w : wo_T)
    (h : jj_Ci K mX6_isSheet [.int a1] w (fun v1 w2 => (v1 = 0 → R (-2) w2) ∧ (¬ v1 = 0 → jj_Ci K mX6_isSheet [.int a3] w2 (fun v4 w5 => (¬ v4 = 0 → vp_in a1 4 ∧ (vp_in a3 4 ∧ ((¬ (w5.1 (50 + 2 * a1.toNatClampNeg) 1) = 0 → jj_Ci K mX6_found [.ref 0, .int 1] w5 (fun v10 w11 => R v10 w11)) ∧ ((w5.1 (50 + 2 * a1.toNatClampNeg) 1) = 0 → ((w5.1 (50 + 2 * a3.toNatClampNeg) 1) = 0 → ((w5.1 (50 + 2 * a1.toNatClampNeg) 2) = (w5.1 (50 + 2 * a3.toNatClampNeg) 2) → jj_Ci K mX4_hasItems [.ref (50 + 2 * a1.toNatClampNeg), .int a2, .int a5] w5 (fun v14 w15 => (v14 = 0 → jj_Ci K mX6_found [.ref 0, .int 2] w15 (fun v17 w18 => R v17 w18)) ∧ (¬ v14 = 0 → jj_Ci K mX4_hasItems [.ref (50 + 2 * a3.toNatClampNeg), .int a4, .int a5] w15 (fun v19 w20 => (¬ v19 = 0 → (¬ a2 < 0) ∧ (¬ a4 < 0) ∧ (¬ a5 < 0) ∧ (a2.toNatClampNeg + a5.toNatClampNeg ≤ 40) ∧ (a4.toNatClampNeg + a5.toNatClampNeg ≤ 40) ∧ (R 1 (wo_cp w20 (50 + 2 * a1.toNatClampNeg + 1) a2.toNatClampNeg (50 + 2 * a3.toNatClampNeg + 1) a4.toNatClampNeg a5.toNatClampNeg))) ∧ (v19 = 0 → jj_Ci K mX6_found [.ref 0, .int 2] w20 (fun v22 w23 => R v22 w23)))))) ∧ (¬ (w5.1 (50 + 2 * a1.toNatClampNeg) 2) = (w5.1 (50 + 2 * a3.toNatClampNeg) 2) → jj_Ci K mX6_found [.ref 0, .int 4] w5 (fun v24 w25 => R v24 w25))) ∧ (¬ (w5.1 (50 + 2 * a3.toNatClampNeg) 1) = 0 → jj_Ci K mX6_found [.ref 0, .int 1] w5 (fun v26 w27 => R v26 w27)))))) ∧ (v4 = 0 → R (-2) w5))))) :
    jj_J K mX6_copy (jj_Ri R) 0 [(0, .ref 0), (1, .int a1), (2, .int a2), (3, .int a3), (4, .int a4), (5, .int a5)] [] w := by
  refine jj_iload_n (pc := 0) dX6_copy_0 1 rfl ?_
  refine jj_callSi (pc := 1) (N := mX6_isSheet) (as := [.int a1]) (st := []) dX6_copy_1 lk_RX6_101 hv_X6_isSheet rfl rfl h (fun v1 w2 h => ?_)
  refine jj_if_eq (pc := 4) (tgt := 14) dX6_copy_4 (by decide) (fun c3 => ?_) (fun c3 => ?_)
  · replace h := h.1 c3
    refine jj_bipush (pc := 14) (v := (-2)) dX6_copy_14 (by decide) ?_
    exact jj_iret (pc := 16) dX6_copy_16 rfl h
  · replace h := h.2 c3
    refine jj_iload_n (pc := 7) dX6_copy_7 3 rfl ?_
    refine jj_callSi (pc := 8) (N := mX6_isSheet) (as := [.int a3]) (st := []) dX6_copy_8 lk_RX6_101 hv_X6_isSheet rfl rfl h (fun v4 w5 h => ?_)
    refine jj_if_ne (pc := 11) (tgt := 17) dX6_copy_11 (by decide) (fun c6 => ?_) (fun c6 => ?_)
    · replace h := h.1 c6
      refine jj_aload_n (pc := 17) dX6_copy_17 0 rfl ?_
      refine jj_getR (pc := 18) (ci := 6) (k := 5) dX6_copy_18 rfl rfl (by decide) rfl lk_RX6_47 ?_
      refine jj_iload_n (pc := 21) dX6_copy_21 1 rfl ?_
      refine jj_aald3 (pc := 22) dX6_copy_22 rfl h.1 ?_
      have hb7 := h.1
      replace h := h.2
      refine jj_astore (pc := 23) (l2 := [(6, .ref (50 + 2 * a1.toNatClampNeg)), (0, .ref 0), (1, .int a1), (2, .int a2), (3, .int a3), (4, .int a4), (5, .int a5)]) dX6_copy_23 (by decide) rfl ?_
      refine jj_aload_n (pc := 25) dX6_copy_25 1 rfl ?_
      refine jj_getR (pc := 26) (ci := 6) (k := 5) dX6_copy_26 rfl rfl (by decide) rfl lk_RX6_47 ?_
      refine jj_iload_n (pc := 29) dX6_copy_29 4 rfl ?_
      refine jj_aald3 (pc := 30) dX6_copy_30 rfl h.1 ?_
      have hb8 := h.1
      replace h := h.2
      refine jj_astore (pc := 31) (l2 := [(7, .ref (50 + 2 * a3.toNatClampNeg)), (6, .ref (50 + 2 * a1.toNatClampNeg)), (0, .ref 0), (1, .int a1), (2, .int a2), (3, .int a3), (4, .int a4), (5, .int a5)]) dX6_copy_31 (by decide) rfl ?_
      refine jj_aload (pc := 33) dX6_copy_33 1 rfl ?_
      refine jj_getI (pc := 35) (ci := 4) (k := 1) dX6_copy_35 (wo_l50 _ (wo_inlt hb7)) rfl (by decide) rfl lk_RX6_104 ?_
      refine jj_if_ne (pc := 38) (tgt := 49) dX6_copy_38 (by decide) (fun c9 => ?_) (fun c9 => ?_)
      · replace h := h.1 c9
        refine jj_aload_n (pc := 49) dX6_copy_49 2 rfl ?_
        refine jj_iconst (pc := 50) (v := 1) dX6_copy_50 (by decide) ?_
        refine jj_callVi (pc := 51) (N := mX6_found) (as := [.int 1]) (st := []) dX6_copy_51 rfl rfl rfl lk_RX6_107 hv_X6_found rfl rfl h (fun v10 w11 h => ?_)
        exact jj_iret (pc := 54) dX6_copy_54 rfl h
      · replace h := h.2 c9
        refine jj_aload (pc := 41) dX6_copy_41 0 rfl ?_
        refine jj_getI (pc := 43) (ci := 4) (k := 1) dX6_copy_43 (wo_l50 _ (wo_inlt hb8)) rfl (by decide) rfl lk_RX6_104 ?_
        refine jj_if_eq (pc := 46) (tgt := 55) dX6_copy_46 (by decide) (fun c12 => ?_) (fun c12 => ?_)
        · replace h := h.1 c12
          refine jj_aload (pc := 55) dX6_copy_55 1 rfl ?_
          refine jj_getI (pc := 57) (ci := 4) (k := 2) dX6_copy_57 (wo_l50 _ (wo_inlt hb7)) rfl (by decide) rfl lk_RX6_243 ?_
          refine jj_aload (pc := 60) dX6_copy_60 0 rfl ?_
          refine jj_getI (pc := 62) (ci := 4) (k := 2) dX6_copy_62 (wo_l50 _ (wo_inlt hb8)) rfl (by decide) rfl lk_RX6_243 ?_
          refine jj_icmp_eq (pc := 65) (tgt := 74) dX6_copy_65 (by decide) (fun c13 => ?_) (fun c13 => ?_)
          · replace h := h.1 c13
            refine jj_aload (pc := 74) dX6_copy_74 1 rfl ?_
            refine jj_iload_n (pc := 76) dX6_copy_76 4 rfl ?_
            refine jj_iload (pc := 77) dX6_copy_77 7 rfl ?_
            refine jj_callVi (pc := 79) (N := mX4_hasItems) (as := [.int a2, .int a5]) (st := []) dX6_copy_79 (wo_l50 _ (wo_inlt hb7)) rfl rfl lk_RX6_248 hv_X4_hasItems rfl rfl h (fun v14 w15 h => ?_)
            refine jj_if_eq (pc := 82) (tgt := 97) dX6_copy_82 (by decide) (fun c16 => ?_) (fun c16 => ?_)
            · replace h := h.1 c16
              refine jj_aload_n (pc := 97) dX6_copy_97 2 rfl ?_
              refine jj_iconst (pc := 98) (v := 2) dX6_copy_98 (by decide) ?_
              refine jj_callVi (pc := 99) (N := mX6_found) (as := [.int 2]) (st := []) dX6_copy_99 rfl rfl rfl lk_RX6_107 hv_X6_found rfl rfl h (fun v17 w18 h => ?_)
              exact jj_iret (pc := 102) dX6_copy_102 rfl h
            · replace h := h.2 c16
              refine jj_aload (pc := 85) dX6_copy_85 0 rfl ?_
              refine jj_iload (pc := 87) dX6_copy_87 6 rfl ?_
              refine jj_iload (pc := 89) dX6_copy_89 7 rfl ?_
              refine jj_callVi (pc := 91) (N := mX4_hasItems) (as := [.int a4, .int a5]) (st := []) dX6_copy_91 (wo_l50 _ (wo_inlt hb8)) rfl rfl lk_RX6_248 hv_X4_hasItems rfl rfl h (fun v19 w20 h => ?_)
              refine jj_if_ne (pc := 94) (tgt := 103) dX6_copy_94 (by decide) (fun c21 => ?_) (fun c21 => ?_)
              · replace h := h.1 c21
                refine jj_aload (pc := 103) dX6_copy_103 1 rfl ?_
                refine jj_getR (pc := 105) (ci := 4) (k := 0) dX6_copy_105 (wo_l50 _ (wo_inlt hb7)) rfl (by decide) rfl lk_RX6_117 ?_
                refine jj_iload_n (pc := 108) dX6_copy_108 4 rfl ?_
                refine jj_aload (pc := 109) dX6_copy_109 0 rfl ?_
                refine jj_getR (pc := 111) (ci := 4) (k := 0) dX6_copy_111 (wo_l50 _ (wo_inlt hb8)) rfl (by decide) rfl lk_RX6_117 ?_
                refine jj_iload (pc := 114) dX6_copy_114 6 rfl ?_
                refine jj_iload (pc := 116) dX6_copy_116 7 rfl ?_
                refine jj_copy (pc := 118) dX6_copy_118 lk_RX6_251 lk_acN lk_acS lk_acI (wo_l51 _ (wo_inlt hb7)) (wo_l51 _ (wo_inlt hb8)) h.1 h.2.1 h.2.2.1 h.2.2.2.1 h.2.2.2.2.1 (by decide) (by decide) ?_
                replace h := h.2.2.2.2.2
                refine jj_iconst (pc := 121) (v := 1) dX6_copy_121 (by decide) ?_
                exact jj_iret (pc := 122) dX6_copy_122 rfl h
              · replace h := h.2 c21
                refine jj_aload_n (pc := 97) dX6_copy_97 2 rfl ?_
                refine jj_iconst (pc := 98) (v := 2) dX6_copy_98 (by decide) ?_
                refine jj_callVi (pc := 99) (N := mX6_found) (as := [.int 2]) (st := []) dX6_copy_99 rfl rfl rfl lk_RX6_107 hv_X6_found rfl rfl h (fun v22 w23 h => ?_)
                exact jj_iret (pc := 102) dX6_copy_102 rfl h
          · replace h := h.2 c13
            refine jj_aload_n (pc := 68) dX6_copy_68 2 rfl ?_
            refine jj_iconst (pc := 69) (v := 4) dX6_copy_69 (by decide) ?_
            refine jj_callVi (pc := 70) (N := mX6_found) (as := [.int 4]) (st := []) dX6_copy_70 rfl rfl rfl lk_RX6_107 hv_X6_found rfl rfl h (fun v24 w25 h => ?_)
            exact jj_iret (pc := 73) dX6_copy_73 rfl h
        · replace h := h.2 c12
          refine jj_aload_n (pc := 49) dX6_copy_49 2 rfl ?_
          refine jj_iconst (pc := 50) (v := 1) dX6_copy_50 (by decide) ?_
          refine jj_callVi (pc := 51) (N := mX6_found) (as := [.int 1]) (st := []) dX6_copy_51 rfl rfl rfl lk_RX6_107 hv_X6_found rfl rfl h (fun v26 w27 h => ?_)
          exact jj_iret (pc := 54) dX6_copy_54 rfl h
    · replace h := h.2 c6
      refine jj_bipush (pc := 14) (v := (-2)) dX6_copy_14 (by decide) ?_
      exact jj_iret (pc := 16) dX6_copy_16 rfl h
theorem en_X6_copy {K : jj_K} (R : Int32 → wo_T → Prop)  (a1 : Int32) (a2 : Int32) (a3 : Int32) (a4 : Int32) (a5 : Int32) (w : wo_T)
    (h : jj_Ci K mX6_isSheet [.int a1] w (fun v1 w2 => (v1 = 0 → R (-2) w2) ∧ (¬ v1 = 0 → jj_Ci K mX6_isSheet [.int a3] w2 (fun v4 w5 => (¬ v4 = 0 → vp_in a1 4 ∧ (vp_in a3 4 ∧ ((¬ (w5.1 (50 + 2 * a1.toNatClampNeg) 1) = 0 → jj_Ci K mX6_found [.ref 0, .int 1] w5 (fun v10 w11 => R v10 w11)) ∧ ((w5.1 (50 + 2 * a1.toNatClampNeg) 1) = 0 → ((w5.1 (50 + 2 * a3.toNatClampNeg) 1) = 0 → ((w5.1 (50 + 2 * a1.toNatClampNeg) 2) = (w5.1 (50 + 2 * a3.toNatClampNeg) 2) → jj_Ci K mX4_hasItems [.ref (50 + 2 * a1.toNatClampNeg), .int a2, .int a5] w5 (fun v14 w15 => (v14 = 0 → jj_Ci K mX6_found [.ref 0, .int 2] w15 (fun v17 w18 => R v17 w18)) ∧ (¬ v14 = 0 → jj_Ci K mX4_hasItems [.ref (50 + 2 * a3.toNatClampNeg), .int a4, .int a5] w15 (fun v19 w20 => (¬ v19 = 0 → (¬ a2 < 0) ∧ (¬ a4 < 0) ∧ (¬ a5 < 0) ∧ (a2.toNatClampNeg + a5.toNatClampNeg ≤ 40) ∧ (a4.toNatClampNeg + a5.toNatClampNeg ≤ 40) ∧ (R 1 (wo_cp w20 (50 + 2 * a1.toNatClampNeg + 1) a2.toNatClampNeg (50 + 2 * a3.toNatClampNeg + 1) a4.toNatClampNeg a5.toNatClampNeg))) ∧ (v19 = 0 → jj_Ci K mX6_found [.ref 0, .int 2] w20 (fun v22 w23 => R v22 w23)))))) ∧ (¬ (w5.1 (50 + 2 * a1.toNatClampNeg) 2) = (w5.1 (50 + 2 * a3.toNatClampNeg) 2) → jj_Ci K mX6_found [.ref 0, .int 4] w5 (fun v24 w25 => R v24 w25))) ∧ (¬ (w5.1 (50 + 2 * a3.toNatClampNeg) 1) = 0 → jj_Ci K mX6_found [.ref 0, .int 1] w5 (fun v26 w27 => R v26 w27)))))) ∧ (v4 = 0 → R (-2) w5))))) : jj_Ci K mX6_copy [.ref 0, .int a1, .int a2, .int a3, .int a4, .int a5] w R :=
  jj_Ci_intro pn_RX6 (Nat.le_of_ble_eq_true rfl) (vc_X6_copy_0 R a1 a2 a3 a4 a5 w h)
set_option maxRecDepth 100000 in
set_option maxHeartbeats 4000000 in
theorem vc_X6_write_0 {K : jj_K} (R : Int32 → wo_T → Prop)  (a1 : Int32) (w : wo_T)
    (h : jj_Ci K mX6_isSheet [.int a1] w (fun v1 w2 => (¬ v1 = 0 → vp_in a1 4 ∧ (((w2.1 (50 + 2 * a1.toNatClampNeg) 1) = 0 → jj_Ci K mX6_frame [.ref 0] w2 (fun v6 w7 => (0 ≤ v6 → jj_Cv K mX0_solve [.ref 23, .ref 1, .int v6] w7 (fun w10 => jj_Ci K mX3_pairs [.ref 1] w10 (fun v11 w12 => ∀ x13 : Int32, x13 = (if (2 * v11) < (w10.1 (50 + 2 * a1.toNatClampNeg) 3) then (2 * v11) else (w10.1 (50 + 2 * a1.toNatClampNeg) 3)) → (jj_J K mX6_write (jj_Ri R) 75 [(0, .ref 0), (1, .int a1), (2, .ref (50 + 2 * a1.toNatClampNeg)), (3, .int v6), (4, .int x13), (5, .int 0)] [] w12)))) ∧ (¬ 0 ≤ v6 → R (-3) w7))) ∧ (¬ (w2.1 (50 + 2 * a1.toNatClampNeg) 1) = 0 → jj_Ci K mX6_found [.ref 0, .int 1] w2 (fun v14 w15 => R v14 w15)))) ∧ (v1 = 0 → R (-2) w2))) :
    jj_J K mX6_write (jj_Ri R) 0 [(0, .ref 0), (1, .int a1)] [] w := by
  refine jj_iload_n (pc := 0) dX6_write_0 1 rfl ?_
  refine jj_callSi (pc := 1) (N := mX6_isSheet) (as := [.int a1]) (st := []) dX6_write_1 lk_RX6_101 hv_X6_isSheet rfl rfl h (fun v1 w2 h => ?_)
  refine jj_if_ne (pc := 4) (tgt := 10) dX6_write_4 (by decide) (fun c3 => ?_) (fun c3 => ?_)
  · replace h := h.1 c3
    refine jj_aload_n (pc := 10) dX6_write_10 0 rfl ?_
    refine jj_getR (pc := 11) (ci := 6) (k := 5) dX6_write_11 rfl rfl (by decide) rfl lk_RX6_47 ?_
    refine jj_iload_n (pc := 14) dX6_write_14 1 rfl ?_
    refine jj_aald3 (pc := 15) dX6_write_15 rfl h.1 ?_
    have hb4 := h.1
    replace h := h.2
    refine jj_astore_n (pc := 16) (l2 := [(2, .ref (50 + 2 * a1.toNatClampNeg)), (0, .ref 0), (1, .int a1)]) dX6_write_16 (by decide) rfl ?_
    refine jj_aload_n (pc := 17) dX6_write_17 0 rfl ?_
    refine jj_getI (pc := 18) (ci := 4) (k := 1) dX6_write_18 (wo_l50 _ (wo_inlt hb4)) rfl (by decide) rfl lk_RX6_104 ?_
    refine jj_if_eq (pc := 21) (tgt := 30) dX6_write_21 (by decide) (fun c5 => ?_) (fun c5 => ?_)
    · replace h := h.1 c5
      refine jj_aload_n (pc := 30) dX6_write_30 1 rfl ?_
      refine jj_callVi (pc := 31) (N := mX6_frame) (as := []) (st := []) dX6_write_31 rfl rfl rfl lk_RX6_191 hv_X6_frame rfl rfl h (fun v6 w7 h => ?_)
      refine jj_istore_n (pc := 34) (l2 := [(3, .int v6), (2, .ref (50 + 2 * a1.toNatClampNeg)), (0, .ref 0), (1, .int a1)]) dX6_write_34 (by decide) rfl ?_
      refine jj_iload_n (pc := 35) dX6_write_35 0 rfl ?_
      refine jj_if_ge (pc := 36) (tgt := 42) dX6_write_36 (by decide) (fun c8 => ?_) (fun c8 => ?_)
      · replace h := h.1 c8
        refine jj_aload_n (pc := 42) dX6_write_42 2 rfl ?_
        refine jj_getR (pc := 43) (ci := 6) (k := 1) dX6_write_43 rfl rfl (by decide) rfl lk_RX6_24 ?_
        refine jj_aload_n (pc := 46) dX6_write_46 2 rfl ?_
        refine jj_getR (pc := 47) (ci := 6) (k := 0) dX6_write_47 rfl rfl (by decide) rfl lk_RX6_13 ?_
        refine jj_iload_n (pc := 50) dX6_write_50 0 rfl ?_
        refine jj_callVv (pc := 51) (N := mX0_solve) (as := [.ref 1, .int v6]) (st := []) dX6_write_51 rfl rfl rfl lk_RX6_160 hv_X0_solve rfl rfl h (fun w10 h => ?_)
        refine jj_aload_n (pc := 54) dX6_write_54 1 rfl ?_
        refine jj_getI (pc := 55) (ci := 4) (k := 3) dX6_write_55 (wo_l50 _ (wo_inlt hb4)) rfl (by decide) rfl lk_RX6_111 ?_
        refine jj_iconst (pc := 58) (v := 2) dX6_write_58 (by decide) ?_
        refine jj_aload_n (pc := 59) dX6_write_59 2 rfl ?_
        refine jj_getR (pc := 60) (ci := 6) (k := 0) dX6_write_60 rfl rfl (by decide) rfl lk_RX6_13 ?_
        refine jj_callVi (pc := 63) (N := mX3_pairs) (as := []) (st := [.int 2, .int (w10.1 (50 + 2 * a1.toNatClampNeg) 3)]) dX6_write_63 rfl rfl rfl lk_RX6_98 hv_X3_pairs rfl rfl h (fun v11 w12 h => ?_)
        refine jj_imul (pc := 66) dX6_write_66 ?_
        refine jj_mmin (pc := 67) dX6_write_67 lk_RX6_112 lk_Smin lk_IMath lk_Cmin (by decide) (Nat.le_of_ble_eq_true rfl) ?_
        refine jj_nmi (fun x13 ex13 => ?_)
        replace h := h x13 ex13
        refine jj_istore (pc := 70) (l2 := [(4, .int x13), (3, .int v6), (2, .ref (50 + 2 * a1.toNatClampNeg)), (0, .ref 0), (1, .int a1)]) dX6_write_70 (by decide) rfl ?_
        refine jj_iconst (pc := 72) (v := 0) dX6_write_72 (by decide) ?_
        refine jj_istore (pc := 73) (l2 := [(5, .int 0), (4, .int x13), (3, .int v6), (2, .ref (50 + 2 * a1.toNatClampNeg)), (0, .ref 0), (1, .int a1)]) dX6_write_73 (by decide) rfl ?_
        exact jj_sub [4, 5, 3, 2, 1, 0] rfl h
      · replace h := h.2 c8
        refine jj_bipush (pc := 39) (v := (-3)) dX6_write_39 (by decide) ?_
        exact jj_iret (pc := 41) dX6_write_41 rfl h
    · replace h := h.2 c5
      refine jj_aload_n (pc := 24) dX6_write_24 1 rfl ?_
      refine jj_iconst (pc := 25) (v := 1) dX6_write_25 (by decide) ?_
      refine jj_callVi (pc := 26) (N := mX6_found) (as := [.int 1]) (st := []) dX6_write_26 rfl rfl rfl lk_RX6_107 hv_X6_found rfl rfl h (fun v14 w15 h => ?_)
      exact jj_iret (pc := 29) dX6_write_29 rfl h
  · replace h := h.2 c3
    refine jj_bipush (pc := 7) (v := (-2)) dX6_write_7 (by decide) ?_
    exact jj_iret (pc := 9) dX6_write_9 rfl h
theorem en_X6_write {K : jj_K} (R : Int32 → wo_T → Prop)  (a1 : Int32) (w : wo_T)
    (h : jj_Ci K mX6_isSheet [.int a1] w (fun v1 w2 => (¬ v1 = 0 → vp_in a1 4 ∧ (((w2.1 (50 + 2 * a1.toNatClampNeg) 1) = 0 → jj_Ci K mX6_frame [.ref 0] w2 (fun v6 w7 => (0 ≤ v6 → jj_Cv K mX0_solve [.ref 23, .ref 1, .int v6] w7 (fun w10 => jj_Ci K mX3_pairs [.ref 1] w10 (fun v11 w12 => ∀ x13 : Int32, x13 = (if (2 * v11) < (w10.1 (50 + 2 * a1.toNatClampNeg) 3) then (2 * v11) else (w10.1 (50 + 2 * a1.toNatClampNeg) 3)) → (jj_J K mX6_write (jj_Ri R) 75 [(0, .ref 0), (1, .int a1), (2, .ref (50 + 2 * a1.toNatClampNeg)), (3, .int v6), (4, .int x13), (5, .int 0)] [] w12)))) ∧ (¬ 0 ≤ v6 → R (-3) w7))) ∧ (¬ (w2.1 (50 + 2 * a1.toNatClampNeg) 1) = 0 → jj_Ci K mX6_found [.ref 0, .int 1] w2 (fun v14 w15 => R v14 w15)))) ∧ (v1 = 0 → R (-2) w2))) : jj_Ci K mX6_write [.ref 0, .int a1] w R :=
  jj_Ci_intro pn_RX6 (Nat.le_of_ble_eq_true rfl) (vc_X6_write_0 R a1 w h)
set_option maxRecDepth 100000 in
set_option maxHeartbeats 4000000 in
theorem vc_X6_write_75 {K : jj_K} (R : Int32 → wo_T → Prop)  (a1 : Int32) (ja2 : Nat) (hja2 : ja2 < 4) (a3 : Int32) (a4 : Int32) (a5 : Int32) (w : wo_T)
    (h : (a4 ≤ a5 → R a4 w) ∧ (¬ a4 ≤ a5 → vp_in (a5 / 2) 10 ∧ (jj_Cl K mX6_lowest [.long (w.2 27 (a5 / 2).toNatClampNeg), .long (w.2 23 4), .int (a5 - a5 / 2 * 2)] w (fun v2 w3 => (¬ (w3.1 (50 + 2 * ja2) 2) = 0 → vp_in a5 40 ∧ (jj_J K mX6_write (jj_Ri R) 75 [(0, .ref 0), (1, .int a1), (2, .ref (50 + 2 * ja2)), (3, .int a3), (4, .int a4), (5, .int (a5 + 1))] [] (wo_l w3 (50 + 2 * ja2 + 1) a5.toNatClampNeg v2))) ∧ ((w3.1 (50 + 2 * ja2) 2) = 0 → vp_in a5 40 ∧ (jj_J K mX6_write (jj_Ri R) 75 [(0, .ref 0), (1, .int a1), (2, .ref (50 + 2 * ja2)), (3, .int a3), (4, .int a4), (5, .int (a5 + 1))] [] (wo_l w3 (50 + 2 * ja2 + 1) a5.toNatClampNeg v2.toInt32.toInt64))))))) :
    jj_J K mX6_write (jj_Ri R) 75 [(0, .ref 0), (1, .int a1), (2, .ref (50 + 2 * ja2)), (3, .int a3), (4, .int a4), (5, .int a5)] [] w := by
  refine jj_iload (pc := 75) dX6_write_75 5 rfl ?_
  refine jj_iload (pc := 77) dX6_write_77 4 rfl ?_
  refine jj_icmp_ge (pc := 79) (tgt := 139) dX6_write_79 (by decide) (fun c1 => ?_) (fun c1 => ?_)
  · replace h := h.1 c1
    refine jj_iload (pc := 139) dX6_write_139 4 rfl ?_
    exact jj_iret (pc := 141) dX6_write_141 rfl h
  · replace h := h.2 c1
    refine jj_aload_n (pc := 82) dX6_write_82 0 rfl ?_
    refine jj_getR (pc := 83) (ci := 6) (k := 1) dX6_write_83 rfl rfl (by decide) rfl lk_RX6_24 ?_
    refine jj_getR (pc := 86) (ci := 0) (k := 3) dX6_write_86 rfl rfl (by decide) rfl lk_RX6_164 ?_
    refine jj_iload (pc := 89) dX6_write_89 5 rfl ?_
    refine jj_iconst (pc := 91) (v := 2) dX6_write_91 (by decide) ?_
    refine jj_idiv (pc := 92) dX6_write_92 (by decide) ?_
    refine jj_lald (pc := 93) dX6_write_93 rfl h.1 ?_
    replace h := h.2
    refine jj_aload_n (pc := 94) dX6_write_94 0 rfl ?_
    refine jj_getR (pc := 95) (ci := 6) (k := 1) dX6_write_95 rfl rfl (by decide) rfl lk_RX6_24 ?_
    refine jj_getL (pc := 98) (ci := 0) (k := 4) dX6_write_98 rfl rfl (by decide) rfl lk_RX6_167 ?_
    refine jj_iload (pc := 101) dX6_write_101 5 rfl ?_
    refine jj_iconst (pc := 103) (v := 2) dX6_write_103 (by decide) ?_
    refine jj_irem (pc := 104) dX6_write_104 (by decide) ?_
    refine jj_callSl (pc := 105) (N := mX6_lowest) (as := [.long (w.2 27 (a5 / 2).toNatClampNeg), .long (w.2 23 4), .int (a5 - a5 / 2 * 2)]) (st := []) dX6_write_105 lk_RX6_171 hv_X6_lowest rfl rfl h (fun v2 w3 h => ?_)
    refine jj_lstore (pc := 108) (l2 := [(6, .long v2), (0, .ref 0), (1, .int a1), (2, .ref (50 + 2 * ja2)), (3, .int a3), (4, .int a4), (5, .int a5)]) dX6_write_108 (by decide) rfl ?_
    refine jj_aload_n (pc := 110) dX6_write_110 3 rfl ?_
    refine jj_getR (pc := 111) (ci := 4) (k := 0) dX6_write_111 (wo_l50 _ hja2) rfl (by decide) rfl lk_RX6_117 ?_
    refine jj_iload (pc := 114) dX6_write_114 6 rfl ?_
    refine jj_aload_n (pc := 116) dX6_write_116 3 rfl ?_
    refine jj_getI (pc := 117) (ci := 4) (k := 2) dX6_write_117 (wo_l50 _ hja2) rfl (by decide) rfl lk_RX6_243 ?_
    refine jj_if_ne (pc := 120) (tgt := 130) dX6_write_120 (by decide) (fun c4 => ?_) (fun c4 => ?_)
    · replace h := h.1 c4
      refine jj_lload (pc := 130) dX6_write_130 0 rfl ?_
      refine jj_last (pc := 132) dX6_write_132 (wo_l51 _ hja2) h.1 ?_
      replace h := h.2
      refine jj_iinc (pc := 133) (v := a5 + 1) (l2 := [(5, .int (a5 + 1)), (6, .long v2), (0, .ref 0), (1, .int a1), (2, .ref (50 + 2 * ja2)), (3, .int a3), (4, .int a4)]) dX6_write_133 6 rfl rfl (by decide) rfl ?_
      refine jj_goto (pc := 136) (tgt := 75) dX6_write_136 (by decide) ?_
      exact jj_sub [2, 3, 4, 5, 6, 0] rfl h
    · replace h := h.2 c4
      refine jj_lload (pc := 123) dX6_write_123 0 rfl ?_
      refine jj_l2i (pc := 125) dX6_write_125 ?_
      refine jj_i2l (pc := 126) dX6_write_126 ?_
      refine jj_goto (pc := 127) (tgt := 132) dX6_write_127 (by decide) ?_
      refine jj_last (pc := 132) dX6_write_132 (wo_l51 _ hja2) h.1 ?_
      replace h := h.2
      refine jj_iinc (pc := 133) (v := a5 + 1) (l2 := [(5, .int (a5 + 1)), (6, .long v2), (0, .ref 0), (1, .int a1), (2, .ref (50 + 2 * ja2)), (3, .int a3), (4, .int a4)]) dX6_write_133 6 rfl rfl (by decide) rfl ?_
      refine jj_goto (pc := 136) (tgt := 75) dX6_write_136 (by decide) ?_
      exact jj_sub [2, 3, 4, 5, 6, 0] rfl h
set_option maxRecDepth 100000 in
set_option maxHeartbeats 4000000 in
theorem vc_X6_count_0 {K : jj_K} (R : Int32 → wo_T → Prop)  (a1 : Int32) (w : wo_T)
    (h : (a1 = 0 → R (w.1 1 6) w) ∧ (a1 = 1 → jj_Ci K mJ6_bitCount_0f7a4 [.int (w.1 0 6)] w (fun v3 w4 => R v3 w4)) ∧ (a1 = 2 → jj_Ci K mX3_ways [.ref 1] w (fun v6 w7 => R v6 w7)) ∧ (a1 = 3 → jj_Ci K mX6_frame [.ref 0] w (fun v9 w10 => jj_Ci K mX6_bitsOrNone [.int v9] w10 (fun v11 w12 => R v11 w12))) ∧ (a1 = 4 → jj_Ci K mX6_needed [.ref 0] w (fun v14 w15 => jj_Ci K mX6_bitsOrNone [.int v14] w15 (fun v16 w17 => R v16 w17))) ∧ (a1 = 5 → jj_Ci K mX6_frame [.ref 0] w (fun v19 w20 => (0 ≤ v19 → R 1 w20) ∧ (¬ 0 ≤ v19 → R 0 w20))) ∧ (a1 = 6 → jj_Ci K mX6_crossings [.ref 0] w (fun v23 w24 => R v23 w24)) ∧ (a1 = 7 → jj_Ci K mX6_proves [.ref 0] w (fun v26 w27 => R v26 w27)) ∧ (a1 = 8 → R (w.1 0 7) w) ∧ (¬ a1 = 0 → ¬ a1 = 1 → ¬ a1 = 2 → ¬ a1 = 3 → ¬ a1 = 4 → ¬ a1 = 5 → ¬ a1 = 6 → ¬ a1 = 7 → ¬ a1 = 8 → R (-2) w)) :
    jj_J K mX6_count (jj_Ri R) 0 [(0, .ref 0), (1, .int a1)] [] w := by
  refine jj_iload_n (pc := 0) dX6_count_0 1 rfl ?_
  by_cases c1 : a1 = 0
  · replace h := h.1 c1
    refine jj_swIn (pc := 1) (tgt := 52) dX6_count_1 (by rw [c1]; decide) (by rw [c1]; decide) (by rw [c1]; rfl) (by decide) ?_
    refine jj_aload_n (pc := 52) dX6_count_52 0 rfl ?_
    refine jj_getR (pc := 53) (ci := 6) (k := 0) dX6_count_53 rfl rfl (by decide) rfl lk_RX6_13 ?_
    refine jj_getI (pc := 56) (ci := 3) (k := 6) dX6_count_56 rfl rfl (by decide) rfl lk_RX6_64 ?_
    exact jj_iret (pc := 59) dX6_count_59 rfl h
  replace h := h.2
  by_cases c2 : a1 = 1
  · replace h := h.1 c2
    refine jj_swIn (pc := 1) (tgt := 60) dX6_count_1 (by rw [c2]; decide) (by rw [c2]; decide) (by rw [c2]; rfl) (by decide) ?_
    refine jj_aload_n (pc := 60) dX6_count_60 0 rfl ?_
    refine jj_getI (pc := 61) (ci := 6) (k := 6) dX6_count_61 rfl rfl (by decide) rfl lk_RX6_72 ?_
    refine jj_callSi (pc := 64) (N := mJ6_bitCount_0f7a4) (as := [.int (w.1 0 6)]) (st := []) dX6_count_64 lk_RX6_194 hv_J6_bitCount_0f7a4 rfl rfl h (fun v3 w4 h => ?_)
    exact jj_iret (pc := 67) dX6_count_67 rfl h
  replace h := h.2
  by_cases c5 : a1 = 2
  · replace h := h.1 c5
    refine jj_swIn (pc := 1) (tgt := 68) dX6_count_1 (by rw [c5]; decide) (by rw [c5]; decide) (by rw [c5]; rfl) (by decide) ?_
    refine jj_aload_n (pc := 68) dX6_count_68 0 rfl ?_
    refine jj_getR (pc := 69) (ci := 6) (k := 0) dX6_count_69 rfl rfl (by decide) rfl lk_RX6_13 ?_
    refine jj_callVi (pc := 72) (N := mX3_ways) (as := []) (st := []) dX6_count_72 rfl rfl rfl lk_RX6_257 hv_X3_ways rfl rfl h (fun v6 w7 h => ?_)
    exact jj_iret (pc := 75) dX6_count_75 rfl h
  replace h := h.2
  by_cases c8 : a1 = 3
  · replace h := h.1 c8
    refine jj_swIn (pc := 1) (tgt := 76) dX6_count_1 (by rw [c8]; decide) (by rw [c8]; decide) (by rw [c8]; rfl) (by decide) ?_
    refine jj_aload_n (pc := 76) dX6_count_76 0 rfl ?_
    refine jj_callVi (pc := 77) (N := mX6_frame) (as := []) (st := []) dX6_count_77 rfl rfl rfl lk_RX6_191 hv_X6_frame rfl rfl h (fun v9 w10 h => ?_)
    refine jj_callSi (pc := 80) (N := mX6_bitsOrNone) (as := [.int v9]) (st := []) dX6_count_80 lk_RX6_260 hv_X6_bitsOrNone rfl rfl h (fun v11 w12 h => ?_)
    exact jj_iret (pc := 83) dX6_count_83 rfl h
  replace h := h.2
  by_cases c13 : a1 = 4
  · replace h := h.1 c13
    refine jj_swIn (pc := 1) (tgt := 84) dX6_count_1 (by rw [c13]; decide) (by rw [c13]; decide) (by rw [c13]; rfl) (by decide) ?_
    refine jj_aload_n (pc := 84) dX6_count_84 0 rfl ?_
    refine jj_callVi (pc := 85) (N := mX6_needed) (as := []) (st := []) dX6_count_85 rfl rfl rfl lk_RX6_181 hv_X6_needed rfl rfl h (fun v14 w15 h => ?_)
    refine jj_callSi (pc := 88) (N := mX6_bitsOrNone) (as := [.int v14]) (st := []) dX6_count_88 lk_RX6_260 hv_X6_bitsOrNone rfl rfl h (fun v16 w17 h => ?_)
    exact jj_iret (pc := 91) dX6_count_91 rfl h
  replace h := h.2
  by_cases c18 : a1 = 5
  · replace h := h.1 c18
    refine jj_swIn (pc := 1) (tgt := 92) dX6_count_1 (by rw [c18]; decide) (by rw [c18]; decide) (by rw [c18]; rfl) (by decide) ?_
    refine jj_aload_n (pc := 92) dX6_count_92 0 rfl ?_
    refine jj_callVi (pc := 93) (N := mX6_frame) (as := []) (st := []) dX6_count_93 rfl rfl rfl lk_RX6_191 hv_X6_frame rfl rfl h (fun v19 w20 h => ?_)
    refine jj_if_ge (pc := 96) (tgt := 103) dX6_count_96 (by decide) (fun c21 => ?_) (fun c21 => ?_)
    · replace h := h.1 c21
      refine jj_iconst (pc := 103) (v := 1) dX6_count_103 (by decide) ?_
      exact jj_iret (pc := 104) dX6_count_104 rfl h
    · replace h := h.2 c21
      refine jj_iconst (pc := 99) (v := 0) dX6_count_99 (by decide) ?_
      refine jj_goto (pc := 100) (tgt := 104) dX6_count_100 (by decide) ?_
      exact jj_iret (pc := 104) dX6_count_104 rfl h
  replace h := h.2
  by_cases c22 : a1 = 6
  · replace h := h.1 c22
    refine jj_swIn (pc := 1) (tgt := 105) dX6_count_1 (by rw [c22]; decide) (by rw [c22]; decide) (by rw [c22]; rfl) (by decide) ?_
    refine jj_aload_n (pc := 105) dX6_count_105 0 rfl ?_
    refine jj_callVi (pc := 106) (N := mX6_crossings) (as := []) (st := []) dX6_count_106 rfl rfl rfl lk_RX6_263 hv_X6_crossings rfl rfl h (fun v23 w24 h => ?_)
    exact jj_iret (pc := 109) dX6_count_109 rfl h
  replace h := h.2
  by_cases c25 : a1 = 7
  · replace h := h.1 c25
    refine jj_swIn (pc := 1) (tgt := 110) dX6_count_1 (by rw [c25]; decide) (by rw [c25]; decide) (by rw [c25]; rfl) (by decide) ?_
    refine jj_aload_n (pc := 110) dX6_count_110 0 rfl ?_
    refine jj_callVi (pc := 111) (N := mX6_proves) (as := []) (st := []) dX6_count_111 rfl rfl rfl lk_RX6_266 hv_X6_proves rfl rfl h (fun v26 w27 h => ?_)
    exact jj_iret (pc := 114) dX6_count_114 rfl h
  replace h := h.2
  by_cases c28 : a1 = 8
  · replace h := h.1 c28
    refine jj_swIn (pc := 1) (tgt := 115) dX6_count_1 (by rw [c28]; decide) (by rw [c28]; decide) (by rw [c28]; rfl) (by decide) ?_
    refine jj_aload_n (pc := 115) dX6_count_115 0 rfl ?_
    refine jj_getI (pc := 116) (ci := 6) (k := 7) dX6_count_116 rfl rfl (by decide) rfl lk_RX6_269 ?_
    exact jj_iret (pc := 119) dX6_count_119 rfl h
  replace h := h.2
  replace h := h c1 c2 c5 c8 c13 c18 c22 c25 c28
  refine jj_swOut (pc := 1) (tgt := 120) dX6_count_1 (jj_swo 9 (by decide) (fun j hj => match j, hj with | 0, _ => c1 | 1, _ => c2 | 2, _ => c5 | 3, _ => c8 | 4, _ => c13 | 5, _ => c18 | 6, _ => c22 | 7, _ => c25 | 8, _ => c28 | j + 9, hj => absurd hj (by omega))) (by decide) ?_
  refine jj_bipush (pc := 120) (v := (-2)) dX6_count_120 (by decide) ?_
  exact jj_iret (pc := 122) dX6_count_122 rfl h
theorem en_X6_count {K : jj_K} (R : Int32 → wo_T → Prop)  (a1 : Int32) (w : wo_T)
    (h : (a1 = 0 → R (w.1 1 6) w) ∧ (a1 = 1 → jj_Ci K mJ6_bitCount_0f7a4 [.int (w.1 0 6)] w (fun v3 w4 => R v3 w4)) ∧ (a1 = 2 → jj_Ci K mX3_ways [.ref 1] w (fun v6 w7 => R v6 w7)) ∧ (a1 = 3 → jj_Ci K mX6_frame [.ref 0] w (fun v9 w10 => jj_Ci K mX6_bitsOrNone [.int v9] w10 (fun v11 w12 => R v11 w12))) ∧ (a1 = 4 → jj_Ci K mX6_needed [.ref 0] w (fun v14 w15 => jj_Ci K mX6_bitsOrNone [.int v14] w15 (fun v16 w17 => R v16 w17))) ∧ (a1 = 5 → jj_Ci K mX6_frame [.ref 0] w (fun v19 w20 => (0 ≤ v19 → R 1 w20) ∧ (¬ 0 ≤ v19 → R 0 w20))) ∧ (a1 = 6 → jj_Ci K mX6_crossings [.ref 0] w (fun v23 w24 => R v23 w24)) ∧ (a1 = 7 → jj_Ci K mX6_proves [.ref 0] w (fun v26 w27 => R v26 w27)) ∧ (a1 = 8 → R (w.1 0 7) w) ∧ (¬ a1 = 0 → ¬ a1 = 1 → ¬ a1 = 2 → ¬ a1 = 3 → ¬ a1 = 4 → ¬ a1 = 5 → ¬ a1 = 6 → ¬ a1 = 7 → ¬ a1 = 8 → R (-2) w)) : jj_Ci K mX6_count [.ref 0, .int a1] w R :=
  jj_Ci_intro pn_RX6 (Nat.le_of_ble_eq_true rfl) (vc_X6_count_0 R a1 w h)
set_option maxRecDepth 100000 in
set_option maxHeartbeats 4000000 in
theorem vc_X6_digest_0 {K : jj_K} (R : Int64 → wo_T → Prop)   (w : wo_T)
    (h : jj_J K mX6_digest (jj_Rl R) 6 [(0, .ref 0), (1, .long 17), (3, .int 0)] [] w) :
    jj_J K mX6_digest (jj_Rl R) 0 [(0, .ref 0)] [] w := by
  refine jj_ldc2 (pc := 0) (v := 17) dX6_digest_0 lk_RX6_272 ?_
  refine jj_lstore_n (pc := 3) (l2 := [(1, .long 17), (0, .ref 0)]) dX6_digest_3 (by decide) rfl ?_
  refine jj_iconst (pc := 4) (v := 0) dX6_digest_4 (by decide) ?_
  refine jj_istore_n (pc := 5) (l2 := [(3, .int 0), (1, .long 17), (0, .ref 0)]) dX6_digest_5 (by decide) rfl ?_
  exact jj_sub [2, 1, 0] rfl h
theorem en_X6_digest {K : jj_K} (R : Int64 → wo_T → Prop)   (w : wo_T)
    (h : jj_J K mX6_digest (jj_Rl R) 6 [(0, .ref 0), (1, .long 17), (3, .int 0)] [] w) : jj_Cl K mX6_digest [.ref 0] w R :=
  jj_Cl_intro pn_RX6 (Nat.le_of_ble_eq_true rfl) (vc_X6_digest_0 R  w h)
set_option maxRecDepth 100000 in
set_option maxHeartbeats 4000000 in
theorem vc_X6_digest_6 {K : jj_K} (R : Int64 → wo_T → Prop)  (a1 : Int64) (a3 : Int32) (w : wo_T)
    (h : (7 < a3 → jj_Cl K mX6_least [.ref 0, .int 0] w (fun v2 w3 => ∀ x4 : Int64, x4 = (31 * a1) + v2 → (jj_Cl K mX6_least [.ref 0, .int 1] w3 (fun v5 w6 => ∀ x7 : Int64, x7 = (31 * x4) + v5 → (jj_Ci K mX6_fault [.ref 0] w6 (fun v8 w9 => ∀ x10 : Int64, x10 = (31 * x7) + v8.toInt64 → (jj_Ci K mX6_frame [.ref 0] w9 (fun v11 w12 => ∀ x13 : Int64, x13 = (31 * x10) + v11.toInt64 → (jj_Ci K mX6_needed [.ref 0] w12 (fun v14 w15 => ∀ x16 : Int64, x16 = (31 * x13) + v14.toInt64 → (jj_Ci K mX6_dearest [.ref 0] w15 (fun v17 w18 => ∀ x19 : Int64, x19 = (31 * x16) + v17.toInt64 → (jj_J K mX6_digest (jj_Rl R) 105 [(0, .ref 0), (1, .long x19), (3, .int 0)] [] w18))))))))))))) ∧ (¬ 7 < a3 → jj_Ci K mX6_count [.ref 0, .int a3] w (fun v20 w21 => ∀ x22 : Int64, x22 = (31 * a1) + v20.toInt64 → (jj_J K mX6_digest (jj_Rl R) 6 [(0, .ref 0), (1, .long x22), (3, .int (a3 + 1))] [] w21)))) :
    jj_J K mX6_digest (jj_Rl R) 6 [(0, .ref 0), (1, .long a1), (3, .int a3)] [] w := by
  refine jj_iload_n (pc := 6) dX6_digest_6 2 rfl ?_
  refine jj_bipush (pc := 7) (v := 7) dX6_digest_7 (by decide) ?_
  refine jj_icmp_gt (pc := 9) (tgt := 31) dX6_digest_9 (by decide) (fun c1 => ?_) (fun c1 => ?_)
  · replace h := h.1 c1
    refine jj_ldc2 (pc := 31) (v := 31) dX6_digest_31 lk_RX6_274 ?_
    refine jj_lload_n (pc := 34) dX6_digest_34 1 rfl ?_
    refine jj_lmul (pc := 35) dX6_digest_35 ?_
    refine jj_aload_n (pc := 36) dX6_digest_36 0 rfl ?_
    refine jj_iconst (pc := 37) (v := 0) dX6_digest_37 (by decide) ?_
    refine jj_callVl (pc := 38) (N := mX6_least) (as := [.int 0]) (st := [.long (31 * a1)]) dX6_digest_38 rfl rfl rfl lk_RX6_279 hv_X6_least rfl rfl h (fun v2 w3 h => ?_)
    refine jj_ladd (pc := 41) dX6_digest_41 ?_
    refine jj_nml (fun x4 ex4 => ?_)
    replace h := h x4 ex4
    refine jj_lstore_n (pc := 42) (l2 := [(1, .long x4), (0, .ref 0), (3, .int a3)]) dX6_digest_42 (by decide) rfl ?_
    refine jj_ldc2 (pc := 43) (v := 31) dX6_digest_43 lk_RX6_274 ?_
    refine jj_lload_n (pc := 46) dX6_digest_46 0 rfl ?_
    refine jj_lmul (pc := 47) dX6_digest_47 ?_
    refine jj_aload_n (pc := 48) dX6_digest_48 1 rfl ?_
    refine jj_iconst (pc := 49) (v := 1) dX6_digest_49 (by decide) ?_
    refine jj_callVl (pc := 50) (N := mX6_least) (as := [.int 1]) (st := [.long (31 * x4)]) dX6_digest_50 rfl rfl rfl lk_RX6_279 hv_X6_least rfl rfl h (fun v5 w6 h => ?_)
    refine jj_ladd (pc := 53) dX6_digest_53 ?_
    refine jj_nml (fun x7 ex7 => ?_)
    replace h := h x7 ex7
    refine jj_lstore_n (pc := 54) (l2 := [(1, .long x7), (0, .ref 0), (3, .int a3)]) dX6_digest_54 (by decide) rfl ?_
    refine jj_ldc2 (pc := 55) (v := 31) dX6_digest_55 lk_RX6_274 ?_
    refine jj_lload_n (pc := 58) dX6_digest_58 0 rfl ?_
    refine jj_lmul (pc := 59) dX6_digest_59 ?_
    refine jj_aload_n (pc := 60) dX6_digest_60 1 rfl ?_
    refine jj_callVi (pc := 61) (N := mX6_fault) (as := []) (st := [.long (31 * x7)]) dX6_digest_61 rfl rfl rfl lk_RX6_282 hv_X6_fault rfl rfl h (fun v8 w9 h => ?_)
    refine jj_i2l (pc := 64) dX6_digest_64 ?_
    refine jj_ladd (pc := 65) dX6_digest_65 ?_
    refine jj_nml (fun x10 ex10 => ?_)
    replace h := h x10 ex10
    refine jj_lstore_n (pc := 66) (l2 := [(1, .long x10), (0, .ref 0), (3, .int a3)]) dX6_digest_66 (by decide) rfl ?_
    refine jj_ldc2 (pc := 67) (v := 31) dX6_digest_67 lk_RX6_274 ?_
    refine jj_lload_n (pc := 70) dX6_digest_70 0 rfl ?_
    refine jj_lmul (pc := 71) dX6_digest_71 ?_
    refine jj_aload_n (pc := 72) dX6_digest_72 1 rfl ?_
    refine jj_callVi (pc := 73) (N := mX6_frame) (as := []) (st := [.long (31 * x10)]) dX6_digest_73 rfl rfl rfl lk_RX6_191 hv_X6_frame rfl rfl h (fun v11 w12 h => ?_)
    refine jj_i2l (pc := 76) dX6_digest_76 ?_
    refine jj_ladd (pc := 77) dX6_digest_77 ?_
    refine jj_nml (fun x13 ex13 => ?_)
    replace h := h x13 ex13
    refine jj_lstore_n (pc := 78) (l2 := [(1, .long x13), (0, .ref 0), (3, .int a3)]) dX6_digest_78 (by decide) rfl ?_
    refine jj_ldc2 (pc := 79) (v := 31) dX6_digest_79 lk_RX6_274 ?_
    refine jj_lload_n (pc := 82) dX6_digest_82 0 rfl ?_
    refine jj_lmul (pc := 83) dX6_digest_83 ?_
    refine jj_aload_n (pc := 84) dX6_digest_84 1 rfl ?_
    refine jj_callVi (pc := 85) (N := mX6_needed) (as := []) (st := [.long (31 * x13)]) dX6_digest_85 rfl rfl rfl lk_RX6_181 hv_X6_needed rfl rfl h (fun v14 w15 h => ?_)
    refine jj_i2l (pc := 88) dX6_digest_88 ?_
    refine jj_ladd (pc := 89) dX6_digest_89 ?_
    refine jj_nml (fun x16 ex16 => ?_)
    replace h := h x16 ex16
    refine jj_lstore_n (pc := 90) (l2 := [(1, .long x16), (0, .ref 0), (3, .int a3)]) dX6_digest_90 (by decide) rfl ?_
    refine jj_ldc2 (pc := 91) (v := 31) dX6_digest_91 lk_RX6_274 ?_
    refine jj_lload_n (pc := 94) dX6_digest_94 0 rfl ?_
    refine jj_lmul (pc := 95) dX6_digest_95 ?_
    refine jj_aload_n (pc := 96) dX6_digest_96 1 rfl ?_
    refine jj_callVi (pc := 97) (N := mX6_dearest) (as := []) (st := [.long (31 * x16)]) dX6_digest_97 rfl rfl rfl lk_RX6_285 hv_X6_dearest rfl rfl h (fun v17 w18 h => ?_)
    refine jj_i2l (pc := 100) dX6_digest_100 ?_
    refine jj_ladd (pc := 101) dX6_digest_101 ?_
    refine jj_nml (fun x19 ex19 => ?_)
    replace h := h x19 ex19
    refine jj_lstore_n (pc := 102) (l2 := [(1, .long x19), (0, .ref 0), (3, .int a3)]) dX6_digest_102 (by decide) rfl ?_
    refine jj_iconst (pc := 103) (v := 0) dX6_digest_103 (by decide) ?_
    refine jj_istore_n (pc := 104) (l2 := [(3, .int 0), (1, .long x19), (0, .ref 0)]) dX6_digest_104 (by decide) rfl ?_
    exact jj_sub [2, 1, 0] rfl h
  · replace h := h.2 c1
    refine jj_ldc2 (pc := 12) (v := 31) dX6_digest_12 lk_RX6_274 ?_
    refine jj_lload_n (pc := 15) dX6_digest_15 1 rfl ?_
    refine jj_lmul (pc := 16) dX6_digest_16 ?_
    refine jj_aload_n (pc := 17) dX6_digest_17 0 rfl ?_
    refine jj_iload_n (pc := 18) dX6_digest_18 2 rfl ?_
    refine jj_callVi (pc := 19) (N := mX6_count) (as := [.int a3]) (st := [.long (31 * a1)]) dX6_digest_19 rfl rfl rfl lk_RX6_276 hv_X6_count rfl rfl h (fun v20 w21 h => ?_)
    refine jj_i2l (pc := 22) dX6_digest_22 ?_
    refine jj_ladd (pc := 23) dX6_digest_23 ?_
    refine jj_nml (fun x22 ex22 => ?_)
    replace h := h x22 ex22
    refine jj_lstore_n (pc := 24) (l2 := [(1, .long x22), (0, .ref 0), (3, .int a3)]) dX6_digest_24 (by decide) rfl ?_
    refine jj_iinc (pc := 25) (v := a3 + 1) (l2 := [(3, .int (a3 + 1)), (1, .long x22), (0, .ref 0)]) dX6_digest_25 2 rfl rfl (by decide) rfl ?_
    refine jj_goto (pc := 28) (tgt := 6) dX6_digest_28 (by decide) ?_
    exact jj_sub [2, 1, 0] rfl h
set_option maxRecDepth 100000 in
set_option maxHeartbeats 4000000 in
theorem vc_X6_digest_105 {K : jj_K} (R : Int64 → wo_T → Prop)  (a1 : Int64) (a3 : Int32) (w : wo_T)
    (h : ((w.1 1 6) ≤ a3 → jj_J K mX6_digest (jj_Rl R) 155 [(0, .ref 0), (1, .long a1), (3, .int 0)] [] w) ∧ (¬ (w.1 1 6) ≤ a3 → jj_J K mX6_digest (jj_Rl R) 119 [(0, .ref 0), (1, .long a1), (3, .int a3), (4, .int 0)] [] w)) :
    jj_J K mX6_digest (jj_Rl R) 105 [(0, .ref 0), (1, .long a1), (3, .int a3)] [] w := by
  refine jj_iload_n (pc := 105) dX6_digest_105 2 rfl ?_
  refine jj_aload_n (pc := 106) dX6_digest_106 0 rfl ?_
  refine jj_getR (pc := 107) (ci := 6) (k := 0) dX6_digest_107 rfl rfl (by decide) rfl lk_RX6_13 ?_
  refine jj_getI (pc := 110) (ci := 3) (k := 6) dX6_digest_110 rfl rfl (by decide) rfl lk_RX6_64 ?_
  refine jj_icmp_ge (pc := 113) (tgt := 153) dX6_digest_113 (by decide) (fun c1 => ?_) (fun c1 => ?_)
  · replace h := h.1 c1
    refine jj_iconst (pc := 153) (v := 0) dX6_digest_153 (by decide) ?_
    refine jj_istore_n (pc := 154) (l2 := [(3, .int 0), (0, .ref 0), (1, .long a1)]) dX6_digest_154 (by decide) rfl ?_
    exact jj_sub [1, 2, 0] rfl h
  · replace h := h.2 c1
    refine jj_iconst (pc := 116) (v := 0) dX6_digest_116 (by decide) ?_
    refine jj_istore (pc := 117) (l2 := [(4, .int 0), (0, .ref 0), (1, .long a1), (3, .int a3)]) dX6_digest_117 (by decide) rfl ?_
    exact jj_sub [1, 2, 3, 0] rfl h
set_option maxRecDepth 100000 in
set_option maxHeartbeats 4000000 in
theorem vc_X6_digest_119 {K : jj_K} (R : Int64 → wo_T → Prop)  (a1 : Int64) (a3 : Int32) (a4 : Int32) (w : wo_T)
    (h : (6 < a4 → jj_J K mX6_digest (jj_Rl R) 105 [(0, .ref 0), (1, .long a1), (3, .int (a3 + 1))] [] w) ∧ (¬ 6 < a4 → jj_Ci K mX6_info [.ref 0, .int a3, .int a4] w (fun v2 w3 => ∀ x4 : Int64, x4 = (31 * a1) + v2.toInt64 → (jj_J K mX6_digest (jj_Rl R) 119 [(0, .ref 0), (1, .long x4), (3, .int a3), (4, .int (a4 + 1))] [] w3)))) :
    jj_J K mX6_digest (jj_Rl R) 119 [(0, .ref 0), (1, .long a1), (3, .int a3), (4, .int a4)] [] w := by
  refine jj_iload (pc := 119) dX6_digest_119 3 rfl ?_
  refine jj_bipush (pc := 121) (v := 6) dX6_digest_121 (by decide) ?_
  refine jj_icmp_gt (pc := 123) (tgt := 147) dX6_digest_123 (by decide) (fun c1 => ?_) (fun c1 => ?_)
  · replace h := h.1 c1
    refine jj_iinc (pc := 147) (v := a3 + 1) (l2 := [(3, .int (a3 + 1)), (0, .ref 0), (1, .long a1), (4, .int a4)]) dX6_digest_147 2 rfl rfl (by decide) rfl ?_
    refine jj_goto (pc := 150) (tgt := 105) dX6_digest_150 (by decide) ?_
    exact jj_sub [1, 2, 0] rfl h
  · replace h := h.2 c1
    refine jj_ldc2 (pc := 126) (v := 31) dX6_digest_126 lk_RX6_274 ?_
    refine jj_lload_n (pc := 129) dX6_digest_129 1 rfl ?_
    refine jj_lmul (pc := 130) dX6_digest_130 ?_
    refine jj_aload_n (pc := 131) dX6_digest_131 0 rfl ?_
    refine jj_iload_n (pc := 132) dX6_digest_132 2 rfl ?_
    refine jj_iload (pc := 133) dX6_digest_133 3 rfl ?_
    refine jj_callVi (pc := 135) (N := mX6_info) (as := [.int a3, .int a4]) (st := [.long (31 * a1)]) dX6_digest_135 rfl rfl rfl lk_RX6_288 hv_X6_info rfl rfl h (fun v2 w3 h => ?_)
    refine jj_i2l (pc := 138) dX6_digest_138 ?_
    refine jj_ladd (pc := 139) dX6_digest_139 ?_
    refine jj_nml (fun x4 ex4 => ?_)
    replace h := h x4 ex4
    refine jj_lstore_n (pc := 140) (l2 := [(1, .long x4), (0, .ref 0), (3, .int a3), (4, .int a4)]) dX6_digest_140 (by decide) rfl ?_
    refine jj_iinc (pc := 141) (v := a4 + 1) (l2 := [(4, .int (a4 + 1)), (1, .long x4), (0, .ref 0), (3, .int a3)]) dX6_digest_141 3 rfl rfl (by decide) rfl ?_
    refine jj_goto (pc := 144) (tgt := 119) dX6_digest_144 (by decide) ?_
    exact jj_sub [2, 1, 3, 0] rfl h
set_option maxRecDepth 100000 in
set_option maxHeartbeats 4000000 in
theorem vc_X6_digest_155 {K : jj_K} (R : Int64 → wo_T → Prop)  (a1 : Int64) (a3 : Int32) (w : wo_T)
    (h : jj_Ci K mX3_pairs [.ref 1] w (fun v1 w2 => (v1 ≤ a3 → jj_Cl K mX6_work [.ref 0, .int 0] w2 (fun v4 w5 => ∀ x6 : Int64, x6 = (31 * a1) + v4 → (jj_Cl K mX6_work [.ref 0, .int 1] w5 (fun v7 w8 => ∀ x9 : Int64, x9 = (31 * x6) + v7 → (jj_Ci K mX6_crossings [.ref 0] w8 (fun v10 w11 => jj_J K mX6_digest (jj_Rl R) 211 [(0, .ref 0), (1, .long x9), (3, .int v10), (4, .int 0)] [] w11)))))) ∧ (¬ v1 ≤ a3 → jj_Cl K mX6_digestPair [.ref 0, .long a1, .int a3] w2 (fun v12 w13 => jj_J K mX6_digest (jj_Rl R) 155 [(0, .ref 0), (1, .long v12), (3, .int (a3 + 1))] [] w13)))) :
    jj_J K mX6_digest (jj_Rl R) 155 [(0, .ref 0), (1, .long a1), (3, .int a3)] [] w := by
  refine jj_iload_n (pc := 155) dX6_digest_155 2 rfl ?_
  refine jj_aload_n (pc := 156) dX6_digest_156 0 rfl ?_
  refine jj_getR (pc := 157) (ci := 6) (k := 0) dX6_digest_157 rfl rfl (by decide) rfl lk_RX6_13 ?_
  refine jj_callVi (pc := 160) (N := mX3_pairs) (as := []) (st := [.int a3]) dX6_digest_160 rfl rfl rfl lk_RX6_98 hv_X3_pairs rfl rfl h (fun v1 w2 h => ?_)
  refine jj_icmp_ge (pc := 163) (tgt := 179) dX6_digest_163 (by decide) (fun c3 => ?_) (fun c3 => ?_)
  · replace h := h.1 c3
    refine jj_ldc2 (pc := 179) (v := 31) dX6_digest_179 lk_RX6_274 ?_
    refine jj_lload_n (pc := 182) dX6_digest_182 1 rfl ?_
    refine jj_lmul (pc := 183) dX6_digest_183 ?_
    refine jj_aload_n (pc := 184) dX6_digest_184 0 rfl ?_
    refine jj_iconst (pc := 185) (v := 0) dX6_digest_185 (by decide) ?_
    refine jj_callVl (pc := 186) (N := mX6_work) (as := [.int 0]) (st := [.long (31 * a1)]) dX6_digest_186 rfl rfl rfl lk_RX6_295 hv_X6_work rfl rfl h (fun v4 w5 h => ?_)
    refine jj_ladd (pc := 189) dX6_digest_189 ?_
    refine jj_nml (fun x6 ex6 => ?_)
    replace h := h x6 ex6
    refine jj_lstore_n (pc := 190) (l2 := [(1, .long x6), (0, .ref 0), (3, .int a3)]) dX6_digest_190 (by decide) rfl ?_
    refine jj_ldc2 (pc := 191) (v := 31) dX6_digest_191 lk_RX6_274 ?_
    refine jj_lload_n (pc := 194) dX6_digest_194 0 rfl ?_
    refine jj_lmul (pc := 195) dX6_digest_195 ?_
    refine jj_aload_n (pc := 196) dX6_digest_196 1 rfl ?_
    refine jj_iconst (pc := 197) (v := 1) dX6_digest_197 (by decide) ?_
    refine jj_callVl (pc := 198) (N := mX6_work) (as := [.int 1]) (st := [.long (31 * x6)]) dX6_digest_198 rfl rfl rfl lk_RX6_295 hv_X6_work rfl rfl h (fun v7 w8 h => ?_)
    refine jj_ladd (pc := 201) dX6_digest_201 ?_
    refine jj_nml (fun x9 ex9 => ?_)
    replace h := h x9 ex9
    refine jj_lstore_n (pc := 202) (l2 := [(1, .long x9), (0, .ref 0), (3, .int a3)]) dX6_digest_202 (by decide) rfl ?_
    refine jj_aload_n (pc := 203) dX6_digest_203 1 rfl ?_
    refine jj_callVi (pc := 204) (N := mX6_crossings) (as := []) (st := []) dX6_digest_204 rfl rfl rfl lk_RX6_263 hv_X6_crossings rfl rfl h (fun v10 w11 h => ?_)
    refine jj_istore_n (pc := 207) (l2 := [(3, .int v10), (1, .long x9), (0, .ref 0)]) dX6_digest_207 (by decide) rfl ?_
    refine jj_iconst (pc := 208) (v := 0) dX6_digest_208 (by decide) ?_
    refine jj_istore (pc := 209) (l2 := [(4, .int 0), (3, .int v10), (1, .long x9), (0, .ref 0)]) dX6_digest_209 (by decide) rfl ?_
    exact jj_sub [3, 2, 1, 0] rfl h
  · replace h := h.2 c3
    refine jj_aload_n (pc := 166) dX6_digest_166 0 rfl ?_
    refine jj_lload_n (pc := 167) dX6_digest_167 1 rfl ?_
    refine jj_iload_n (pc := 168) dX6_digest_168 2 rfl ?_
    refine jj_callVl (pc := 169) (N := mX6_digestPair) (as := [.long a1, .int a3]) (st := []) dX6_digest_169 rfl rfl rfl lk_RX6_291 hv_X6_digestPair rfl rfl h (fun v12 w13 h => ?_)
    refine jj_lstore_n (pc := 172) (l2 := [(1, .long v12), (0, .ref 0), (3, .int a3)]) dX6_digest_172 (by decide) rfl ?_
    refine jj_iinc (pc := 173) (v := a3 + 1) (l2 := [(3, .int (a3 + 1)), (1, .long v12), (0, .ref 0)]) dX6_digest_173 2 rfl rfl (by decide) rfl ?_
    refine jj_goto (pc := 176) (tgt := 155) dX6_digest_176 (by decide) ?_
    exact jj_sub [2, 1, 0] rfl h
set_option maxRecDepth 100000 in
set_option maxHeartbeats 4000000 in
theorem vc_X6_digest_211 {K : jj_K} (R : Int64 → wo_T → Prop)  (a1 : Int64) (a3 : Int32) (a4 : Int32) (w : wo_T)
    (h : (a3 ≤ a4 → R a1 w) ∧ (¬ a3 ≤ a4 → jj_J K mX6_digest (jj_Rl R) 220 [(0, .ref 0), (1, .long a1), (3, .int a3), (4, .int a4), (5, .int 0)] [] w)) :
    jj_J K mX6_digest (jj_Rl R) 211 [(0, .ref 0), (1, .long a1), (3, .int a3), (4, .int a4)] [] w := by
  refine jj_iload (pc := 211) dX6_digest_211 3 rfl ?_
  refine jj_iload_n (pc := 213) dX6_digest_213 2 rfl ?_
  refine jj_icmp_ge (pc := 214) (tgt := 254) dX6_digest_214 (by decide) (fun c1 => ?_) (fun c1 => ?_)
  · replace h := h.1 c1
    refine jj_lload_n (pc := 254) dX6_digest_254 1 rfl ?_
    exact jj_lret (pc := 255) dX6_digest_255 rfl h
  · replace h := h.2 c1
    refine jj_iconst (pc := 217) (v := 0) dX6_digest_217 (by decide) ?_
    refine jj_istore (pc := 218) (l2 := [(5, .int 0), (0, .ref 0), (1, .long a1), (3, .int a3), (4, .int a4)]) dX6_digest_218 (by decide) rfl ?_
    exact jj_sub [1, 2, 3, 4, 0] rfl h
set_option maxRecDepth 100000 in
set_option maxHeartbeats 4000000 in
theorem vc_X6_digest_220 {K : jj_K} (R : Int64 → wo_T → Prop)  (a1 : Int64) (a3 : Int32) (a4 : Int32) (a5 : Int32) (w : wo_T)
    (h : (5 < a5 → jj_J K mX6_digest (jj_Rl R) 211 [(0, .ref 0), (1, .long a1), (3, .int a3), (4, .int (a4 + 1))] [] w) ∧ (¬ 5 < a5 → jj_Ci K mX6_cross [.ref 0, .int a4, .int a5] w (fun v2 w3 => ∀ x4 : Int64, x4 = (31 * a1) + v2.toInt64 → (jj_J K mX6_digest (jj_Rl R) 220 [(0, .ref 0), (1, .long x4), (3, .int a3), (4, .int a4), (5, .int (a5 + 1))] [] w3)))) :
    jj_J K mX6_digest (jj_Rl R) 220 [(0, .ref 0), (1, .long a1), (3, .int a3), (4, .int a4), (5, .int a5)] [] w := by
  refine jj_iload (pc := 220) dX6_digest_220 4 rfl ?_
  refine jj_iconst (pc := 222) (v := 5) dX6_digest_222 (by decide) ?_
  refine jj_icmp_gt (pc := 223) (tgt := 248) dX6_digest_223 (by decide) (fun c1 => ?_) (fun c1 => ?_)
  · replace h := h.1 c1
    refine jj_iinc (pc := 248) (v := a4 + 1) (l2 := [(4, .int (a4 + 1)), (0, .ref 0), (1, .long a1), (3, .int a3), (5, .int a5)]) dX6_digest_248 3 rfl rfl (by decide) rfl ?_
    refine jj_goto (pc := 251) (tgt := 211) dX6_digest_251 (by decide) ?_
    exact jj_sub [1, 2, 3, 0] rfl h
  · replace h := h.2 c1
    refine jj_ldc2 (pc := 226) (v := 31) dX6_digest_226 lk_RX6_274 ?_
    refine jj_lload_n (pc := 229) dX6_digest_229 1 rfl ?_
    refine jj_lmul (pc := 230) dX6_digest_230 ?_
    refine jj_aload_n (pc := 231) dX6_digest_231 0 rfl ?_
    refine jj_iload (pc := 232) dX6_digest_232 3 rfl ?_
    refine jj_iload (pc := 234) dX6_digest_234 4 rfl ?_
    refine jj_callVi (pc := 236) (N := mX6_cross) (as := [.int a4, .int a5]) (st := [.long (31 * a1)]) dX6_digest_236 rfl rfl rfl lk_RX6_298 hv_X6_cross rfl rfl h (fun v2 w3 h => ?_)
    refine jj_i2l (pc := 239) dX6_digest_239 ?_
    refine jj_ladd (pc := 240) dX6_digest_240 ?_
    refine jj_nml (fun x4 ex4 => ?_)
    replace h := h x4 ex4
    refine jj_lstore_n (pc := 241) (l2 := [(1, .long x4), (0, .ref 0), (3, .int a3), (4, .int a4), (5, .int a5)]) dX6_digest_241 (by decide) rfl ?_
    refine jj_iinc (pc := 242) (v := a5 + 1) (l2 := [(5, .int (a5 + 1)), (1, .long x4), (0, .ref 0), (3, .int a3), (4, .int a4)]) dX6_digest_242 4 rfl rfl (by decide) rfl ?_
    refine jj_goto (pc := 245) (tgt := 220) dX6_digest_245 (by decide) ?_
    exact jj_sub [2, 1, 3, 4, 0] rfl h
set_option maxRecDepth 100000 in
set_option maxHeartbeats 4000000 in
theorem vc_X6_digestPair_0 {K : jj_K} (R : Int64 → wo_T → Prop)  (a1 : Int64) (a3 : Int32) (w : wo_T)
    (h : jj_J K mX6_digestPair (jj_Rl R) 6 [(0, .ref 0), (1, .long a1), (3, .int a3), (4, .long a1), (6, .int 0)] [] w) :
    jj_J K mX6_digestPair (jj_Rl R) 0 [(0, .ref 0), (1, .long a1), (3, .int a3)] [] w := by
  refine jj_lload_n (pc := 0) dX6_digestPair_0 1 rfl ?_
  refine jj_lstore (pc := 1) (l2 := [(4, .long a1), (0, .ref 0), (1, .long a1), (3, .int a3)]) dX6_digestPair_1 (by decide) rfl ?_
  refine jj_iconst (pc := 3) (v := 0) dX6_digestPair_3 (by decide) ?_
  refine jj_istore (pc := 4) (l2 := [(6, .int 0), (4, .long a1), (0, .ref 0), (1, .long a1), (3, .int a3)]) dX6_digestPair_4 (by decide) rfl ?_
  exact jj_sub [2, 3, 4, 1, 0] rfl h
theorem en_X6_digestPair {K : jj_K} (R : Int64 → wo_T → Prop)  (a1 : Int64) (a3 : Int32) (w : wo_T)
    (h : jj_J K mX6_digestPair (jj_Rl R) 6 [(0, .ref 0), (1, .long a1), (3, .int a3), (4, .long a1), (6, .int 0)] [] w) : jj_Cl K mX6_digestPair [.ref 0, .long a1, .int a3] w R :=
  jj_Cl_intro pn_RX6 (Nat.le_of_ble_eq_true rfl) (vc_X6_digestPair_0 R a1 a3 w h)
set_option maxRecDepth 100000 in
set_option maxHeartbeats 4000000 in
theorem vc_X6_digestPair_6 {K : jj_K} (R : Int64 → wo_T → Prop)  (a1 : Int64) (a3 : Int32) (a4 : Int64) (a6 : Int32) (w : wo_T)
    (h : (3 < a6 → jj_Cl K mX6_pull [.ref 0, .int a3, .int 0] w (fun v2 w3 => ∀ x4 : Int64, x4 = (31 * a4) + v2 → (jj_Cl K mX6_pull [.ref 0, .int a3, .int 1] w3 (fun v5 w6 => ∀ x7 : Int64, x7 = (31 * x4) + v5 → (jj_Cl K mX6_stretch [.ref 0, .int a3, .int 0] w6 (fun v8 w9 => ∀ x10 : Int64, x10 = (31 * x7) + v8 → (jj_Cl K mX6_stretch [.ref 0, .int a3, .int 1] w9 (fun v11 w12 => ∀ x13 : Int64, x13 = (31 * x10) + v11 → (jj_Ci K mX6_isBar [.ref 0, .int a3] w12 (fun v14 w15 => (v14 = 0 → jj_Cl K mX6_gain [.ref 0, .int a3, .int 0] w15 (fun v17 w18 => ∀ x19 : Int64, x19 = (31 * x13) + v17 → (jj_Cl K mX6_gain [.ref 0, .int a3, .int 1] w18 (fun v20 w21 => R ((31 * x19) + v20) w21)))) ∧ (¬ v14 = 0 → jj_Cl K mX6_without [.ref 0, .int a3, .int 0] w15 (fun v22 w23 => ∀ x24 : Int64, x24 = (31 * x13) + v22 → (jj_Cl K mX6_without [.ref 0, .int a3, .int 1] w23 (fun v25 w26 => ∀ x27 : Int64, x27 = (31 * x24) + v25 → (jj_Ci K mX6_why [.ref 0, .int a3] w26 (fun v28 w29 => R ((31 * x27) + v28.toInt64) w29)))))))))))))))) ∧ (¬ 3 < a6 → jj_Ci K mX6_pair [.ref 0, .int a3, .int a6] w (fun v30 w31 => ∀ x32 : Int64, x32 = (31 * a4) + v30.toInt64 → (jj_J K mX6_digestPair (jj_Rl R) 6 [(0, .ref 0), (1, .long a1), (3, .int a3), (4, .long x32), (6, .int (a6 + 1))] [] w31)))) :
    jj_J K mX6_digestPair (jj_Rl R) 6 [(0, .ref 0), (1, .long a1), (3, .int a3), (4, .long a4), (6, .int a6)] [] w := by
  refine jj_iload (pc := 6) dX6_digestPair_6 4 rfl ?_
  refine jj_iconst (pc := 8) (v := 3) dX6_digestPair_8 (by decide) ?_
  refine jj_icmp_gt (pc := 9) (tgt := 35) dX6_digestPair_9 (by decide) (fun c1 => ?_) (fun c1 => ?_)
  · replace h := h.1 c1
    refine jj_ldc2 (pc := 35) (v := 31) dX6_digestPair_35 lk_RX6_274 ?_
    refine jj_lload (pc := 38) dX6_digestPair_38 3 rfl ?_
    refine jj_lmul (pc := 40) dX6_digestPair_40 ?_
    refine jj_aload_n (pc := 41) dX6_digestPair_41 0 rfl ?_
    refine jj_iload_n (pc := 42) dX6_digestPair_42 2 rfl ?_
    refine jj_iconst (pc := 43) (v := 0) dX6_digestPair_43 (by decide) ?_
    refine jj_callVl (pc := 44) (N := mX6_pull) (as := [.int a3, .int 0]) (st := [.long (31 * a4)]) dX6_digestPair_44 rfl rfl rfl lk_RX6_304 hv_X6_pull rfl rfl h (fun v2 w3 h => ?_)
    refine jj_ladd (pc := 47) dX6_digestPair_47 ?_
    refine jj_nml (fun x4 ex4 => ?_)
    replace h := h x4 ex4
    refine jj_lstore (pc := 48) (l2 := [(4, .long x4), (0, .ref 0), (1, .long a1), (3, .int a3), (6, .int a6)]) dX6_digestPair_48 (by decide) rfl ?_
    refine jj_ldc2 (pc := 50) (v := 31) dX6_digestPair_50 lk_RX6_274 ?_
    refine jj_lload (pc := 53) dX6_digestPair_53 0 rfl ?_
    refine jj_lmul (pc := 55) dX6_digestPair_55 ?_
    refine jj_aload_n (pc := 56) dX6_digestPair_56 1 rfl ?_
    refine jj_iload_n (pc := 57) dX6_digestPair_57 3 rfl ?_
    refine jj_iconst (pc := 58) (v := 1) dX6_digestPair_58 (by decide) ?_
    refine jj_callVl (pc := 59) (N := mX6_pull) (as := [.int a3, .int 1]) (st := [.long (31 * x4)]) dX6_digestPair_59 rfl rfl rfl lk_RX6_304 hv_X6_pull rfl rfl h (fun v5 w6 h => ?_)
    refine jj_ladd (pc := 62) dX6_digestPair_62 ?_
    refine jj_nml (fun x7 ex7 => ?_)
    replace h := h x7 ex7
    refine jj_lstore (pc := 63) (l2 := [(4, .long x7), (0, .ref 0), (1, .long a1), (3, .int a3), (6, .int a6)]) dX6_digestPair_63 (by decide) rfl ?_
    refine jj_ldc2 (pc := 65) (v := 31) dX6_digestPair_65 lk_RX6_274 ?_
    refine jj_lload (pc := 68) dX6_digestPair_68 0 rfl ?_
    refine jj_lmul (pc := 70) dX6_digestPair_70 ?_
    refine jj_aload_n (pc := 71) dX6_digestPair_71 1 rfl ?_
    refine jj_iload_n (pc := 72) dX6_digestPair_72 3 rfl ?_
    refine jj_iconst (pc := 73) (v := 0) dX6_digestPair_73 (by decide) ?_
    refine jj_callVl (pc := 74) (N := mX6_stretch) (as := [.int a3, .int 0]) (st := [.long (31 * x7)]) dX6_digestPair_74 rfl rfl rfl lk_RX6_307 hv_X6_stretch rfl rfl h (fun v8 w9 h => ?_)
    refine jj_ladd (pc := 77) dX6_digestPair_77 ?_
    refine jj_nml (fun x10 ex10 => ?_)
    replace h := h x10 ex10
    refine jj_lstore (pc := 78) (l2 := [(4, .long x10), (0, .ref 0), (1, .long a1), (3, .int a3), (6, .int a6)]) dX6_digestPair_78 (by decide) rfl ?_
    refine jj_ldc2 (pc := 80) (v := 31) dX6_digestPair_80 lk_RX6_274 ?_
    refine jj_lload (pc := 83) dX6_digestPair_83 0 rfl ?_
    refine jj_lmul (pc := 85) dX6_digestPair_85 ?_
    refine jj_aload_n (pc := 86) dX6_digestPair_86 1 rfl ?_
    refine jj_iload_n (pc := 87) dX6_digestPair_87 3 rfl ?_
    refine jj_iconst (pc := 88) (v := 1) dX6_digestPair_88 (by decide) ?_
    refine jj_callVl (pc := 89) (N := mX6_stretch) (as := [.int a3, .int 1]) (st := [.long (31 * x10)]) dX6_digestPair_89 rfl rfl rfl lk_RX6_307 hv_X6_stretch rfl rfl h (fun v11 w12 h => ?_)
    refine jj_ladd (pc := 92) dX6_digestPair_92 ?_
    refine jj_nml (fun x13 ex13 => ?_)
    replace h := h x13 ex13
    refine jj_lstore (pc := 93) (l2 := [(4, .long x13), (0, .ref 0), (1, .long a1), (3, .int a3), (6, .int a6)]) dX6_digestPair_93 (by decide) rfl ?_
    refine jj_aload_n (pc := 95) dX6_digestPair_95 1 rfl ?_
    refine jj_iload_n (pc := 96) dX6_digestPair_96 3 rfl ?_
    refine jj_callVi (pc := 97) (N := mX6_isBar) (as := [.int a3]) (st := []) dX6_digestPair_97 rfl rfl rfl lk_RX6_136 hv_X6_isBar rfl rfl h (fun v14 w15 h => ?_)
    refine jj_if_eq (pc := 100) (tgt := 147) dX6_digestPair_100 (by decide) (fun c16 => ?_) (fun c16 => ?_)
    · replace h := h.1 c16
      refine jj_ldc2 (pc := 147) (v := 31) dX6_digestPair_147 lk_RX6_274 ?_
      refine jj_lload (pc := 150) dX6_digestPair_150 0 rfl ?_
      refine jj_lmul (pc := 152) dX6_digestPair_152 ?_
      refine jj_aload_n (pc := 153) dX6_digestPair_153 1 rfl ?_
      refine jj_iload_n (pc := 154) dX6_digestPair_154 3 rfl ?_
      refine jj_iconst (pc := 155) (v := 0) dX6_digestPair_155 (by decide) ?_
      refine jj_callVl (pc := 156) (N := mX6_gain) (as := [.int a3, .int 0]) (st := [.long (31 * x13)]) dX6_digestPair_156 rfl rfl rfl lk_RX6_316 hv_X6_gain rfl rfl h (fun v17 w18 h => ?_)
      refine jj_ladd (pc := 159) dX6_digestPair_159 ?_
      refine jj_nml (fun x19 ex19 => ?_)
      replace h := h x19 ex19
      refine jj_lstore (pc := 160) (l2 := [(4, .long x19), (0, .ref 0), (1, .long a1), (3, .int a3), (6, .int a6)]) dX6_digestPair_160 (by decide) rfl ?_
      refine jj_ldc2 (pc := 162) (v := 31) dX6_digestPair_162 lk_RX6_274 ?_
      refine jj_lload (pc := 165) dX6_digestPair_165 0 rfl ?_
      refine jj_lmul (pc := 167) dX6_digestPair_167 ?_
      refine jj_aload_n (pc := 168) dX6_digestPair_168 1 rfl ?_
      refine jj_iload_n (pc := 169) dX6_digestPair_169 3 rfl ?_
      refine jj_iconst (pc := 170) (v := 1) dX6_digestPair_170 (by decide) ?_
      refine jj_callVl (pc := 171) (N := mX6_gain) (as := [.int a3, .int 1]) (st := [.long (31 * x19)]) dX6_digestPair_171 rfl rfl rfl lk_RX6_316 hv_X6_gain rfl rfl h (fun v20 w21 h => ?_)
      refine jj_ladd (pc := 174) dX6_digestPair_174 ?_
      exact jj_lret (pc := 175) dX6_digestPair_175 rfl h
    · replace h := h.2 c16
      refine jj_ldc2 (pc := 103) (v := 31) dX6_digestPair_103 lk_RX6_274 ?_
      refine jj_lload (pc := 106) dX6_digestPair_106 0 rfl ?_
      refine jj_lmul (pc := 108) dX6_digestPair_108 ?_
      refine jj_aload_n (pc := 109) dX6_digestPair_109 1 rfl ?_
      refine jj_iload_n (pc := 110) dX6_digestPair_110 3 rfl ?_
      refine jj_iconst (pc := 111) (v := 0) dX6_digestPair_111 (by decide) ?_
      refine jj_callVl (pc := 112) (N := mX6_without) (as := [.int a3, .int 0]) (st := [.long (31 * x13)]) dX6_digestPair_112 rfl rfl rfl lk_RX6_310 hv_X6_without rfl rfl h (fun v22 w23 h => ?_)
      refine jj_ladd (pc := 115) dX6_digestPair_115 ?_
      refine jj_nml (fun x24 ex24 => ?_)
      replace h := h x24 ex24
      refine jj_lstore (pc := 116) (l2 := [(4, .long x24), (0, .ref 0), (1, .long a1), (3, .int a3), (6, .int a6)]) dX6_digestPair_116 (by decide) rfl ?_
      refine jj_ldc2 (pc := 118) (v := 31) dX6_digestPair_118 lk_RX6_274 ?_
      refine jj_lload (pc := 121) dX6_digestPair_121 0 rfl ?_
      refine jj_lmul (pc := 123) dX6_digestPair_123 ?_
      refine jj_aload_n (pc := 124) dX6_digestPair_124 1 rfl ?_
      refine jj_iload_n (pc := 125) dX6_digestPair_125 3 rfl ?_
      refine jj_iconst (pc := 126) (v := 1) dX6_digestPair_126 (by decide) ?_
      refine jj_callVl (pc := 127) (N := mX6_without) (as := [.int a3, .int 1]) (st := [.long (31 * x24)]) dX6_digestPair_127 rfl rfl rfl lk_RX6_310 hv_X6_without rfl rfl h (fun v25 w26 h => ?_)
      refine jj_ladd (pc := 130) dX6_digestPair_130 ?_
      refine jj_nml (fun x27 ex27 => ?_)
      replace h := h x27 ex27
      refine jj_lstore (pc := 131) (l2 := [(4, .long x27), (0, .ref 0), (1, .long a1), (3, .int a3), (6, .int a6)]) dX6_digestPair_131 (by decide) rfl ?_
      refine jj_ldc2 (pc := 133) (v := 31) dX6_digestPair_133 lk_RX6_274 ?_
      refine jj_lload (pc := 136) dX6_digestPair_136 0 rfl ?_
      refine jj_lmul (pc := 138) dX6_digestPair_138 ?_
      refine jj_aload_n (pc := 139) dX6_digestPair_139 1 rfl ?_
      refine jj_iload_n (pc := 140) dX6_digestPair_140 3 rfl ?_
      refine jj_callVi (pc := 141) (N := mX6_why) (as := [.int a3]) (st := [.long (31 * x27)]) dX6_digestPair_141 rfl rfl rfl lk_RX6_313 hv_X6_why rfl rfl h (fun v28 w29 h => ?_)
      refine jj_i2l (pc := 144) dX6_digestPair_144 ?_
      refine jj_ladd (pc := 145) dX6_digestPair_145 ?_
      exact jj_lret (pc := 146) dX6_digestPair_146 rfl h
  · replace h := h.2 c1
    refine jj_ldc2 (pc := 12) (v := 31) dX6_digestPair_12 lk_RX6_274 ?_
    refine jj_lload (pc := 15) dX6_digestPair_15 3 rfl ?_
    refine jj_lmul (pc := 17) dX6_digestPair_17 ?_
    refine jj_aload_n (pc := 18) dX6_digestPair_18 0 rfl ?_
    refine jj_iload_n (pc := 19) dX6_digestPair_19 2 rfl ?_
    refine jj_iload (pc := 20) dX6_digestPair_20 4 rfl ?_
    refine jj_callVi (pc := 22) (N := mX6_pair) (as := [.int a3, .int a6]) (st := [.long (31 * a4)]) dX6_digestPair_22 rfl rfl rfl lk_RX6_301 hv_X6_pair rfl rfl h (fun v30 w31 h => ?_)
    refine jj_i2l (pc := 25) dX6_digestPair_25 ?_
    refine jj_ladd (pc := 26) dX6_digestPair_26 ?_
    refine jj_nml (fun x32 ex32 => ?_)
    replace h := h x32 ex32
    refine jj_lstore (pc := 27) (l2 := [(4, .long x32), (0, .ref 0), (1, .long a1), (3, .int a3), (6, .int a6)]) dX6_digestPair_27 (by decide) rfl ?_
    refine jj_iinc (pc := 29) (v := a6 + 1) (l2 := [(6, .int (a6 + 1)), (4, .long x32), (0, .ref 0), (1, .long a1), (3, .int a3)]) dX6_digestPair_29 4 rfl rfl (by decide) rfl ?_
    refine jj_goto (pc := 32) (tgt := 6) dX6_digestPair_32 (by decide) ?_
    exact jj_sub [2, 3, 4, 1, 0] rfl h
set_option maxRecDepth 100000 in
set_option maxHeartbeats 4000000 in
theorem vc_X6_bestNow_0 {K : jj_K} (R : Int32 → wo_T → Prop)   (w : wo_T)
    (h : ((w.1 0 8) = 0 → jj_Ci K mX0_leastWithin [.ref 23, .int (w.1 0 6)] w (fun v2 w3 => R v2 w3)) ∧ (¬ (w.1 0 8) = 0 → jj_Ci K mX3_everyPair [.ref 1] w (fun v4 w5 => jj_Cv K mX0_gather [.ref 23, .ref 1, .int v4] w5 (fun w7 => jj_Ci K mX0_leastWithin [.ref 23, .int ((wo_i w7 0 8 0).1 0 6)] (wo_i w7 0 8 0) (fun v8 w9 => R v8 w9))))) :
    jj_J K mX6_bestNow (jj_Ri R) 0 [(0, .ref 0)] [] w := by
  refine jj_aload_n (pc := 0) dX6_bestNow_0 0 rfl ?_
  refine jj_getI (pc := 1) (ci := 6) (k := 8) dX6_bestNow_1 rfl rfl (by decide) rfl lk_RX6_52 ?_
  refine jj_if_eq (pc := 4) (tgt := 30) dX6_bestNow_4 (by decide) (fun c1 => ?_) (fun c1 => ?_)
  · replace h := h.1 c1
    refine jj_aload_n (pc := 30) dX6_bestNow_30 0 rfl ?_
    refine jj_getR (pc := 31) (ci := 6) (k := 1) dX6_bestNow_31 rfl rfl (by decide) rfl lk_RX6_24 ?_
    refine jj_aload_n (pc := 34) dX6_bestNow_34 0 rfl ?_
    refine jj_getI (pc := 35) (ci := 6) (k := 6) dX6_bestNow_35 rfl rfl (by decide) rfl lk_RX6_72 ?_
    refine jj_callVi (pc := 38) (N := mX0_leastWithin) (as := [.int (w.1 0 6)]) (st := []) dX6_bestNow_38 rfl rfl rfl lk_RX6_175 hv_X0_leastWithin rfl rfl h (fun v2 w3 h => ?_)
    exact jj_iret (pc := 41) dX6_bestNow_41 rfl h
  · replace h := h.2 c1
    refine jj_aload_n (pc := 7) dX6_bestNow_7 0 rfl ?_
    refine jj_getR (pc := 8) (ci := 6) (k := 1) dX6_bestNow_8 rfl rfl (by decide) rfl lk_RX6_24 ?_
    refine jj_aload_n (pc := 11) dX6_bestNow_11 0 rfl ?_
    refine jj_getR (pc := 12) (ci := 6) (k := 0) dX6_bestNow_12 rfl rfl (by decide) rfl lk_RX6_13 ?_
    refine jj_aload_n (pc := 15) dX6_bestNow_15 0 rfl ?_
    refine jj_getR (pc := 16) (ci := 6) (k := 0) dX6_bestNow_16 rfl rfl (by decide) rfl lk_RX6_13 ?_
    refine jj_callVi (pc := 19) (N := mX3_everyPair) (as := []) (st := [.ref 1, .ref 23]) dX6_bestNow_19 rfl rfl rfl lk_RX6_75 hv_X3_everyPair rfl rfl h (fun v4 w5 h => ?_)
    refine jj_callVv (pc := 22) (N := mX0_gather) (as := [.ref 1, .int v4]) (st := []) dX6_bestNow_22 rfl rfl rfl lk_RX6_199 hv_X0_gather rfl rfl h (fun w7 h => ?_)
    refine jj_aload_n (pc := 25) dX6_bestNow_25 0 rfl ?_
    refine jj_iconst (pc := 26) (v := 0) dX6_bestNow_26 (by decide) ?_
    refine jj_putI (pc := 27) (ci := 6) (k := 8) (ty := .boolean) dX6_bestNow_27 rfl rfl (by decide) rfl lk_RX6_52 rfl (by decide) rfl rfl ?_
    refine jj_aload_n (pc := 30) dX6_bestNow_30 0 rfl ?_
    refine jj_getR (pc := 31) (ci := 6) (k := 1) dX6_bestNow_31 rfl rfl (by decide) rfl lk_RX6_24 ?_
    refine jj_aload_n (pc := 34) dX6_bestNow_34 0 rfl ?_
    refine jj_getI (pc := 35) (ci := 6) (k := 6) dX6_bestNow_35 rfl rfl (by decide) rfl lk_RX6_72 ?_
    refine jj_callVi (pc := 38) (N := mX0_leastWithin) (as := [.int ((wo_i w7 0 8 0).1 0 6)]) (st := []) dX6_bestNow_38 rfl rfl rfl lk_RX6_175 hv_X0_leastWithin rfl rfl h (fun v8 w9 h => ?_)
    exact jj_iret (pc := 41) dX6_bestNow_41 rfl h
theorem en_X6_bestNow {K : jj_K} (R : Int32 → wo_T → Prop)   (w : wo_T)
    (h : ((w.1 0 8) = 0 → jj_Ci K mX0_leastWithin [.ref 23, .int (w.1 0 6)] w (fun v2 w3 => R v2 w3)) ∧ (¬ (w.1 0 8) = 0 → jj_Ci K mX3_everyPair [.ref 1] w (fun v4 w5 => jj_Cv K mX0_gather [.ref 23, .ref 1, .int v4] w5 (fun w7 => jj_Ci K mX0_leastWithin [.ref 23, .int ((wo_i w7 0 8 0).1 0 6)] (wo_i w7 0 8 0) (fun v8 w9 => R v8 w9))))) : jj_Ci K mX6_bestNow [.ref 0] w R :=
  jj_Ci_intro pn_RX6 (Nat.le_of_ble_eq_true rfl) (vc_X6_bestNow_0 R  w h)
set_option maxRecDepth 100000 in
set_option maxHeartbeats 4000000 in
theorem vc_X6_mostSaving_0 {K : jj_K} (R : Int32 → wo_T → Prop)   (w : wo_T)
    (h : jj_Ci K mX0_leastWithin [.ref 23, .int (w.1 0 6)] w (fun v1 w2 => jj_J K mX6_mostSaving (jj_Ri R) 16 [(0, .ref 0), (1, .int (-1)), (2, .int v1), (3, .int 0)] [] w2)) :
    jj_J K mX6_mostSaving (jj_Ri R) 0 [(0, .ref 0)] [] w := by
  refine jj_iconst (pc := 0) (v := (-1)) dX6_mostSaving_0 (by decide) ?_
  refine jj_istore_n (pc := 1) (l2 := [(1, .int (-1)), (0, .ref 0)]) dX6_mostSaving_1 (by decide) rfl ?_
  refine jj_aload_n (pc := 2) dX6_mostSaving_2 1 rfl ?_
  refine jj_getR (pc := 3) (ci := 6) (k := 1) dX6_mostSaving_3 rfl rfl (by decide) rfl lk_RX6_24 ?_
  refine jj_aload_n (pc := 6) dX6_mostSaving_6 1 rfl ?_
  refine jj_getI (pc := 7) (ci := 6) (k := 6) dX6_mostSaving_7 rfl rfl (by decide) rfl lk_RX6_72 ?_
  refine jj_callVi (pc := 10) (N := mX0_leastWithin) (as := [.int (w.1 0 6)]) (st := []) dX6_mostSaving_10 rfl rfl rfl lk_RX6_175 hv_X0_leastWithin rfl rfl h (fun v1 w2 h => ?_)
  refine jj_istore_n (pc := 13) (l2 := [(2, .int v1), (1, .int (-1)), (0, .ref 0)]) dX6_mostSaving_13 (by decide) rfl ?_
  refine jj_iconst (pc := 14) (v := 0) dX6_mostSaving_14 (by decide) ?_
  refine jj_istore_n (pc := 15) (l2 := [(3, .int 0), (2, .int v1), (1, .int (-1)), (0, .ref 0)]) dX6_mostSaving_15 (by decide) rfl ?_
  exact jj_sub [3, 2, 1, 0] rfl h
theorem en_X6_mostSaving {K : jj_K} (R : Int32 → wo_T → Prop)   (w : wo_T)
    (h : jj_Ci K mX0_leastWithin [.ref 23, .int (w.1 0 6)] w (fun v1 w2 => jj_J K mX6_mostSaving (jj_Ri R) 16 [(0, .ref 0), (1, .int (-1)), (2, .int v1), (3, .int 0)] [] w2)) : jj_Ci K mX6_mostSaving [.ref 0] w R :=
  jj_Ci_intro pn_RX6 (Nat.le_of_ble_eq_true rfl) (vc_X6_mostSaving_0 R  w h)
set_option maxRecDepth 100000 in
set_option maxHeartbeats 4000000 in
theorem vc_X6_mostSaving_16 {K : jj_K} (R : Int32 → wo_T → Prop)  (a1 : Int32) (a2 : Int32) (a3 : Int32) (w : wo_T)
    (h : jj_Ci K mX3_pairs [.ref 1] w (fun v1 w2 => (v1 ≤ a3 → R a1 w2) ∧ (¬ v1 ≤ a3 → jj_Ci K mX0_leastWithin [.ref 23, .int ((w2.1 0 6) ||| ((1 : Int32) <<< (a3 &&& 31)))] w2 (fun v4 w5 => jj_Ci K mX0_isDearer [.ref 23, .int a2, .int v4] w5 (fun v6 w7 => (v6 = 0 → jj_J K mX6_mostSaving (jj_Ri R) 16 [(0, .ref 0), (1, .int a1), (2, .int a2), (3, .int (a3 + 1))] [] w7) ∧ (¬ v6 = 0 → jj_J K mX6_mostSaving (jj_Ri R) 16 [(0, .ref 0), (1, .int a3), (2, .int v4), (3, .int (a3 + 1))] [] w7)))))) :
    jj_J K mX6_mostSaving (jj_Ri R) 16 [(0, .ref 0), (1, .int a1), (2, .int a2), (3, .int a3)] [] w := by
  refine jj_iload_n (pc := 16) dX6_mostSaving_16 3 rfl ?_
  refine jj_aload_n (pc := 17) dX6_mostSaving_17 0 rfl ?_
  refine jj_getR (pc := 18) (ci := 6) (k := 0) dX6_mostSaving_18 rfl rfl (by decide) rfl lk_RX6_13 ?_
  refine jj_callVi (pc := 21) (N := mX3_pairs) (as := []) (st := [.int a3]) dX6_mostSaving_21 rfl rfl rfl lk_RX6_98 hv_X3_pairs rfl rfl h (fun v1 w2 h => ?_)
  refine jj_icmp_ge (pc := 24) (tgt := 68) dX6_mostSaving_24 (by decide) (fun c3 => ?_) (fun c3 => ?_)
  · replace h := h.1 c3
    refine jj_iload_n (pc := 68) dX6_mostSaving_68 1 rfl ?_
    exact jj_iret (pc := 69) dX6_mostSaving_69 rfl h
  · replace h := h.2 c3
    refine jj_aload_n (pc := 27) dX6_mostSaving_27 0 rfl ?_
    refine jj_getR (pc := 28) (ci := 6) (k := 1) dX6_mostSaving_28 rfl rfl (by decide) rfl lk_RX6_24 ?_
    refine jj_aload_n (pc := 31) dX6_mostSaving_31 0 rfl ?_
    refine jj_getI (pc := 32) (ci := 6) (k := 6) dX6_mostSaving_32 rfl rfl (by decide) rfl lk_RX6_72 ?_
    refine jj_iconst (pc := 35) (v := 1) dX6_mostSaving_35 (by decide) ?_
    refine jj_iload_n (pc := 36) dX6_mostSaving_36 3 rfl ?_
    refine jj_ishl (pc := 37) dX6_mostSaving_37 ?_
    refine jj_ior (pc := 38) dX6_mostSaving_38 ?_
    refine jj_callVi (pc := 39) (N := mX0_leastWithin) (as := [.int ((w2.1 0 6) ||| ((1 : Int32) <<< (a3 &&& 31)))]) (st := []) dX6_mostSaving_39 rfl rfl rfl lk_RX6_175 hv_X0_leastWithin rfl rfl h (fun v4 w5 h => ?_)
    refine jj_istore (pc := 42) (l2 := [(4, .int v4), (0, .ref 0), (1, .int a1), (2, .int a2), (3, .int a3)]) dX6_mostSaving_42 (by decide) rfl ?_
    refine jj_aload_n (pc := 44) dX6_mostSaving_44 1 rfl ?_
    refine jj_getR (pc := 45) (ci := 6) (k := 1) dX6_mostSaving_45 rfl rfl (by decide) rfl lk_RX6_24 ?_
    refine jj_iload_n (pc := 48) dX6_mostSaving_48 3 rfl ?_
    refine jj_iload (pc := 49) dX6_mostSaving_49 0 rfl ?_
    refine jj_callVi (pc := 51) (N := mX0_isDearer) (as := [.int a2, .int v4]) (st := []) dX6_mostSaving_51 rfl rfl rfl lk_RX6_178 hv_X0_isDearer rfl rfl h (fun v6 w7 h => ?_)
    refine jj_if_eq (pc := 54) (tgt := 62) dX6_mostSaving_54 (by decide) (fun c8 => ?_) (fun c8 => ?_)
    · replace h := h.1 c8
      refine jj_iinc (pc := 62) (v := a3 + 1) (l2 := [(3, .int (a3 + 1)), (4, .int v4), (0, .ref 0), (1, .int a1), (2, .int a2)]) dX6_mostSaving_62 4 rfl rfl (by decide) rfl ?_
      refine jj_goto (pc := 65) (tgt := 16) dX6_mostSaving_65 (by decide) ?_
      exact jj_sub [2, 3, 4, 0] rfl h
    · replace h := h.2 c8
      refine jj_iload_n (pc := 57) dX6_mostSaving_57 4 rfl ?_
      refine jj_istore_n (pc := 58) (l2 := [(1, .int a3), (4, .int v4), (0, .ref 0), (2, .int a2), (3, .int a3)]) dX6_mostSaving_58 (by decide) rfl ?_
      refine jj_iload (pc := 59) dX6_mostSaving_59 1 rfl ?_
      refine jj_istore_n (pc := 61) (l2 := [(2, .int v4), (1, .int a3), (4, .int v4), (0, .ref 0), (3, .int a3)]) dX6_mostSaving_61 (by decide) rfl ?_
      refine jj_iinc (pc := 62) (v := a3 + 1) (l2 := [(3, .int (a3 + 1)), (2, .int v4), (1, .int a3), (4, .int v4), (0, .ref 0)]) dX6_mostSaving_62 4 rfl rfl (by decide) rfl ?_
      refine jj_goto (pc := 65) (tgt := 16) dX6_mostSaving_65 (by decide) ?_
      exact jj_sub [4, 2, 1, 0] rfl h
set_option maxRecDepth 100000 in
set_option maxHeartbeats 4000000 in
theorem vc_X6_crossings_0 {K : jj_K} (R : Int32 → wo_T → Prop)   (w : wo_T)
    (h : jj_Ci K mX6_bestNow [.ref 0] w (fun v1 w2 => (0 ≤ v1 → vp_in v1 252 ∧ (jj_Ci K mX1_pass [.ref 48, .ref 1, .int (w2.1 24 v1.toNatClampNeg), .int (-1)] w2 (fun v4 w5 => R v4 w5))) ∧ (¬ 0 ≤ v1 → R (-1) w2))) :
    jj_J K mX6_crossings (jj_Ri R) 0 [(0, .ref 0)] [] w := by
  refine jj_aload_n (pc := 0) dX6_crossings_0 0 rfl ?_
  refine jj_callVi (pc := 1) (N := mX6_bestNow) (as := []) (st := []) dX6_crossings_1 rfl rfl rfl lk_RX6_146 hv_X6_bestNow rfl rfl h (fun v1 w2 h => ?_)
  refine jj_istore_n (pc := 4) (l2 := [(1, .int v1), (0, .ref 0)]) dX6_crossings_4 (by decide) rfl ?_
  refine jj_iload_n (pc := 5) dX6_crossings_5 0 rfl ?_
  refine jj_if_ge (pc := 6) (tgt := 13) dX6_crossings_6 (by decide) (fun c3 => ?_) (fun c3 => ?_)
  · replace h := h.1 c3
    refine jj_aload_n (pc := 13) dX6_crossings_13 1 rfl ?_
    refine jj_getR (pc := 14) (ci := 6) (k := 4) dX6_crossings_14 rfl rfl (by decide) rfl lk_RX6_41 ?_
    refine jj_aload_n (pc := 17) dX6_crossings_17 1 rfl ?_
    refine jj_getR (pc := 18) (ci := 6) (k := 0) dX6_crossings_18 rfl rfl (by decide) rfl lk_RX6_13 ?_
    refine jj_aload_n (pc := 21) dX6_crossings_21 1 rfl ?_
    refine jj_getR (pc := 22) (ci := 6) (k := 1) dX6_crossings_22 rfl rfl (by decide) rfl lk_RX6_24 ?_
    refine jj_getR (pc := 25) (ci := 0) (k := 0) dX6_crossings_25 rfl rfl (by decide) rfl lk_RX6_157 ?_
    refine jj_iload_n (pc := 28) dX6_crossings_28 0 rfl ?_
    refine jj_iald (pc := 29) dX6_crossings_29 rfl h.1 ?_
    replace h := h.2
    refine jj_iconst (pc := 30) (v := (-1)) dX6_crossings_30 (by decide) ?_
    refine jj_callVi (pc := 31) (N := mX1_pass) (as := [.ref 1, .int (w2.1 24 v1.toNatClampNeg), .int (-1)]) (st := []) dX6_crossings_31 rfl rfl rfl lk_RX6_221 hv_X1_pass rfl rfl h (fun v4 w5 h => ?_)
    exact jj_iret (pc := 34) dX6_crossings_34 rfl h
  · replace h := h.2 c3
    refine jj_iconst (pc := 9) (v := (-1)) dX6_crossings_9 (by decide) ?_
    refine jj_goto (pc := 10) (tgt := 34) dX6_crossings_10 (by decide) ?_
    exact jj_iret (pc := 34) dX6_crossings_34 rfl h
theorem en_X6_crossings {K : jj_K} (R : Int32 → wo_T → Prop)   (w : wo_T)
    (h : jj_Ci K mX6_bestNow [.ref 0] w (fun v1 w2 => (0 ≤ v1 → vp_in v1 252 ∧ (jj_Ci K mX1_pass [.ref 48, .ref 1, .int (w2.1 24 v1.toNatClampNeg), .int (-1)] w2 (fun v4 w5 => R v4 w5))) ∧ (¬ 0 ≤ v1 → R (-1) w2))) : jj_Ci K mX6_crossings [.ref 0] w R :=
  jj_Ci_intro pn_RX6 (Nat.le_of_ble_eq_true rfl) (vc_X6_crossings_0 R  w h)
set_option maxRecDepth 100000 in
set_option maxHeartbeats 4000000 in
theorem vc_X6_found_0 {K : jj_K} (R : Int32 → wo_T → Prop)  (a1 : Int32) (w : wo_T)
    (h : R ((-10) - a1) (wo_i w 0 7 a1)) :
    jj_J K mX6_found (jj_Ri R) 0 [(0, .ref 0), (1, .int a1)] [] w := by
  refine jj_aload_n (pc := 0) dX6_found_0 0 rfl ?_
  refine jj_iload_n (pc := 1) dX6_found_1 1 rfl ?_
  refine jj_putI (pc := 2) (ci := 6) (k := 7) (ty := .int) dX6_found_2 rfl rfl (by decide) rfl lk_RX6_269 rfl (by decide) rfl rfl ?_
  refine jj_bipush (pc := 5) (v := (-10)) dX6_found_5 (by decide) ?_
  refine jj_iload_n (pc := 7) dX6_found_7 1 rfl ?_
  refine jj_isub (pc := 8) dX6_found_8 ?_
  exact jj_iret (pc := 9) dX6_found_9 rfl h
theorem en_X6_found {K : jj_K} (R : Int32 → wo_T → Prop)  (a1 : Int32) (w : wo_T)
    (h : R ((-10) - a1) (wo_i w 0 7 a1)) : jj_Ci K mX6_found [.ref 0, .int a1] w R :=
  jj_Ci_intro pn_RX6 (Nat.le_of_ble_eq_true rfl) (vc_X6_found_0 R a1 w h)
set_option maxRecDepth 100000 in
set_option maxHeartbeats 4000000 in
theorem vc_X6_isBar_0 {K : jj_K} (R : Int32 → wo_T → Prop)  (a1 : Int32) (w : wo_T)
    (h : jj_Ci K mX3_hasPair [.ref 1, .int a1] w (fun v1 w2 => (v1 = 0 → R 0 w2) ∧ (¬ v1 = 0 → ((((w2.1 0 6) >>> (a1 &&& 31)) &&& 1) = 0 → R 0 w2) ∧ (¬ (((w2.1 0 6) >>> (a1 &&& 31)) &&& 1) = 0 → R 1 w2)))) :
    jj_J K mX6_isBar (jj_Ri R) 0 [(0, .ref 0), (1, .int a1)] [] w := by
  refine jj_aload_n (pc := 0) dX6_isBar_0 0 rfl ?_
  refine jj_getR (pc := 1) (ci := 6) (k := 0) dX6_isBar_1 rfl rfl (by decide) rfl lk_RX6_13 ?_
  refine jj_iload_n (pc := 4) dX6_isBar_4 1 rfl ?_
  refine jj_callVi (pc := 5) (N := mX3_hasPair) (as := [.int a1]) (st := []) dX6_isBar_5 rfl rfl rfl lk_RX6_95 hv_X3_hasPair rfl rfl h (fun v1 w2 h => ?_)
  refine jj_if_eq (pc := 8) (tgt := 26) dX6_isBar_8 (by decide) (fun c3 => ?_) (fun c3 => ?_)
  · replace h := h.1 c3
    refine jj_iconst (pc := 26) (v := 0) dX6_isBar_26 (by decide) ?_
    exact jj_zret (pc := 27) dX6_isBar_27 rfl (Or.inl rfl) h
  · replace h := h.2 c3
    refine jj_aload_n (pc := 11) dX6_isBar_11 0 rfl ?_
    refine jj_getI (pc := 12) (ci := 6) (k := 6) dX6_isBar_12 rfl rfl (by decide) rfl lk_RX6_72 ?_
    refine jj_iload_n (pc := 15) dX6_isBar_15 1 rfl ?_
    refine jj_ishr (pc := 16) dX6_isBar_16 ?_
    refine jj_iconst (pc := 17) (v := 1) dX6_isBar_17 (by decide) ?_
    refine jj_iand (pc := 18) dX6_isBar_18 ?_
    refine jj_if_eq (pc := 19) (tgt := 26) dX6_isBar_19 (by decide) (fun c4 => ?_) (fun c4 => ?_)
    · replace h := h.1 c4
      refine jj_iconst (pc := 26) (v := 0) dX6_isBar_26 (by decide) ?_
      exact jj_zret (pc := 27) dX6_isBar_27 rfl (Or.inl rfl) h
    · replace h := h.2 c4
      refine jj_iconst (pc := 22) (v := 1) dX6_isBar_22 (by decide) ?_
      refine jj_goto (pc := 23) (tgt := 27) dX6_isBar_23 (by decide) ?_
      exact jj_zret (pc := 27) dX6_isBar_27 rfl (Or.inr rfl) h
theorem en_X6_isBar {K : jj_K} (R : Int32 → wo_T → Prop)  (a1 : Int32) (w : wo_T)
    (h : jj_Ci K mX3_hasPair [.ref 1, .int a1] w (fun v1 w2 => (v1 = 0 → R 0 w2) ∧ (¬ v1 = 0 → ((((w2.1 0 6) >>> (a1 &&& 31)) &&& 1) = 0 → R 0 w2) ∧ (¬ (((w2.1 0 6) >>> (a1 &&& 31)) &&& 1) = 0 → R 1 w2)))) : jj_Ci K mX6_isBar [.ref 0, .int a1] w R :=
  jj_Ci_intro pn_RX6 (Nat.le_of_ble_eq_true rfl) (vc_X6_isBar_0 R a1 w h)
set_option maxRecDepth 100000 in
set_option maxHeartbeats 4000000 in
theorem vc_X6_bitsOrNone_0 {K : jj_K} (R : Int32 → wo_T → Prop)  (a0 : Int32) (w : wo_T)
    (h : (0 ≤ a0 → jj_Ci K mJ6_bitCount_0f7a4 [.int a0] w (fun v2 w3 => R v2 w3)) ∧ (¬ 0 ≤ a0 → R (-1) w)) :
    jj_J K mX6_bitsOrNone (jj_Ri R) 0 [(0, .int a0)] [] w := by
  refine jj_iload_n (pc := 0) dX6_bitsOrNone_0 0 rfl ?_
  refine jj_if_ge (pc := 1) (tgt := 8) dX6_bitsOrNone_1 (by decide) (fun c1 => ?_) (fun c1 => ?_)
  · replace h := h.1 c1
    refine jj_iload_n (pc := 8) dX6_bitsOrNone_8 0 rfl ?_
    refine jj_callSi (pc := 9) (N := mJ6_bitCount_0f7a4) (as := [.int a0]) (st := []) dX6_bitsOrNone_9 lk_RX6_194 hv_J6_bitCount_0f7a4 rfl rfl h (fun v2 w3 h => ?_)
    exact jj_iret (pc := 12) dX6_bitsOrNone_12 rfl h
  · replace h := h.2 c1
    refine jj_iconst (pc := 4) (v := (-1)) dX6_bitsOrNone_4 (by decide) ?_
    refine jj_goto (pc := 5) (tgt := 12) dX6_bitsOrNone_5 (by decide) ?_
    exact jj_iret (pc := 12) dX6_bitsOrNone_12 rfl h
theorem en_X6_bitsOrNone {K : jj_K} (R : Int32 → wo_T → Prop)  (a0 : Int32) (w : wo_T)
    (h : (0 ≤ a0 → jj_Ci K mJ6_bitCount_0f7a4 [.int a0] w (fun v2 w3 => R v2 w3)) ∧ (¬ 0 ≤ a0 → R (-1) w)) : jj_Ci K mX6_bitsOrNone [.int a0] w R :=
  jj_Ci_intro pn_RX6 (Nat.le_of_ble_eq_true rfl) (vc_X6_bitsOrNone_0 R a0 w h)
set_option maxRecDepth 100000 in
set_option maxHeartbeats 4000000 in
theorem vc_X6_asLong_0 {K : jj_K} (R : Int64 → wo_T → Prop)  (a0 : Int32) (w : wo_T)
    (h : R ((-9223372036854775808) - a0.toInt64) w) :
    jj_J K mX6_asLong (jj_Rl R) 0 [(0, .int a0)] [] w := by
  refine jj_ldc2 (pc := 0) (v := (-9223372036854775808)) dX6_asLong_0 lk_RX6_319 ?_
  refine jj_iload_n (pc := 3) dX6_asLong_3 0 rfl ?_
  refine jj_i2l (pc := 4) dX6_asLong_4 ?_
  refine jj_lsub (pc := 5) dX6_asLong_5 ?_
  exact jj_lret (pc := 6) dX6_asLong_6 rfl h
theorem en_X6_asLong {K : jj_K} (R : Int64 → wo_T → Prop)  (a0 : Int32) (w : wo_T)
    (h : R ((-9223372036854775808) - a0.toInt64) w) : jj_Cl K mX6_asLong [.int a0] w R :=
  jj_Cl_intro pn_RX6 (Nat.le_of_ble_eq_true rfl) (vc_X6_asLong_0 R a0 w h)
set_option maxRecDepth 100000 in
set_option maxHeartbeats 4000000 in
theorem vc_X6_isWithin_0 {K : jj_K} (R : Int32 → wo_T → Prop)  (a0 : Int32) (a1 : Int32) (a2 : Int32) (w : wo_T)
    (h : (a0 < a1 → R 0 w) ∧ (¬ a0 < a1 → (a2 < a0 → R 0 w) ∧ (¬ a2 < a0 → R 1 w))) :
    jj_J K mX6_isWithin (jj_Ri R) 0 [(0, .int a0), (1, .int a1), (2, .int a2)] [] w := by
  refine jj_iload_n (pc := 0) dX6_isWithin_0 0 rfl ?_
  refine jj_iload_n (pc := 1) dX6_isWithin_1 1 rfl ?_
  refine jj_icmp_lt (pc := 2) (tgt := 14) dX6_isWithin_2 (by decide) (fun c1 => ?_) (fun c1 => ?_)
  · replace h := h.1 c1
    refine jj_iconst (pc := 14) (v := 0) dX6_isWithin_14 (by decide) ?_
    exact jj_zret (pc := 15) dX6_isWithin_15 rfl (Or.inl rfl) h
  · replace h := h.2 c1
    refine jj_iload_n (pc := 5) dX6_isWithin_5 0 rfl ?_
    refine jj_iload_n (pc := 6) dX6_isWithin_6 2 rfl ?_
    refine jj_icmp_gt (pc := 7) (tgt := 14) dX6_isWithin_7 (by decide) (fun c2 => ?_) (fun c2 => ?_)
    · replace h := h.1 c2
      refine jj_iconst (pc := 14) (v := 0) dX6_isWithin_14 (by decide) ?_
      exact jj_zret (pc := 15) dX6_isWithin_15 rfl (Or.inl rfl) h
    · replace h := h.2 c2
      refine jj_iconst (pc := 10) (v := 1) dX6_isWithin_10 (by decide) ?_
      refine jj_goto (pc := 11) (tgt := 15) dX6_isWithin_11 (by decide) ?_
      exact jj_zret (pc := 15) dX6_isWithin_15 rfl (Or.inr rfl) h
theorem en_X6_isWithin {K : jj_K} (R : Int32 → wo_T → Prop)  (a0 : Int32) (a1 : Int32) (a2 : Int32) (w : wo_T)
    (h : (a0 < a1 → R 0 w) ∧ (¬ a0 < a1 → (a2 < a0 → R 0 w) ∧ (¬ a2 < a0 → R 1 w))) : jj_Ci K mX6_isWithin [.int a0, .int a1, .int a2] w R :=
  jj_Ci_intro pn_RX6 (Nat.le_of_ble_eq_true rfl) (vc_X6_isWithin_0 R a0 a1 a2 w h)
set_option maxRecDepth 100000 in
set_option maxHeartbeats 4000000 in
theorem vc_X6_isLoad_0 {K : jj_K} (R : Int32 → wo_T → Prop)  (a0 : Int64) (w : wo_T)
    (h : (a0 < (-9) → R 0 w) ∧ (¬ a0 < (-9) → (9 < a0 → R 0 w) ∧ (¬ 9 < a0 → R 1 w))) :
    jj_J K mX6_isLoad (jj_Ri R) 0 [(0, .long a0)] [] w := by
  refine jj_lload_n (pc := 0) dX6_isLoad_0 0 rfl ?_
  refine jj_ldc2 (pc := 1) (v := (-9)) dX6_isLoad_1 lk_RX6_321 ?_
  refine jj_lcmp_lt (pc := 4) (tgt := 20) dX6_isLoad_4 dX6_isLoad_5 (by decide) (fun c1 => ?_) (fun c1 => ?_)
  · replace h := h.1 c1
    refine jj_iconst (pc := 20) (v := 0) dX6_isLoad_20 (by decide) ?_
    exact jj_zret (pc := 21) dX6_isLoad_21 rfl (Or.inl rfl) h
  · replace h := h.2 c1
    refine jj_lload_n (pc := 8) dX6_isLoad_8 0 rfl ?_
    refine jj_ldc2 (pc := 9) (v := 9) dX6_isLoad_9 lk_RX6_323 ?_
    refine jj_lcmp_gt (pc := 12) (tgt := 20) dX6_isLoad_12 dX6_isLoad_13 (by decide) (fun c2 => ?_) (fun c2 => ?_)
    · replace h := h.1 c2
      refine jj_iconst (pc := 20) (v := 0) dX6_isLoad_20 (by decide) ?_
      exact jj_zret (pc := 21) dX6_isLoad_21 rfl (Or.inl rfl) h
    · replace h := h.2 c2
      refine jj_iconst (pc := 16) (v := 1) dX6_isLoad_16 (by decide) ?_
      refine jj_goto (pc := 17) (tgt := 21) dX6_isLoad_17 (by decide) ?_
      exact jj_zret (pc := 21) dX6_isLoad_21 rfl (Or.inr rfl) h
theorem en_X6_isLoad {K : jj_K} (R : Int32 → wo_T → Prop)  (a0 : Int64) (w : wo_T)
    (h : (a0 < (-9) → R 0 w) ∧ (¬ a0 < (-9) → (9 < a0 → R 0 w) ∧ (¬ 9 < a0 → R 1 w))) : jj_Ci K mX6_isLoad [.long a0] w R :=
  jj_Ci_intro pn_RX6 (Nat.le_of_ble_eq_true rfl) (vc_X6_isLoad_0 R a0 w h)
set_option maxRecDepth 100000 in
set_option maxHeartbeats 4000000 in
theorem vc_X6_isPart_0 {K : jj_K} (R : Int32 → wo_T → Prop)  (a0 : Int32) (w : wo_T)
    (h : (a0 = 0 → R 1 w) ∧ (¬ a0 = 0 → (¬ a0 = 1 → R 0 w) ∧ (a0 = 1 → R 1 w))) :
    jj_J K mX6_isPart (jj_Ri R) 0 [(0, .int a0)] [] w := by
  refine jj_iload_n (pc := 0) dX6_isPart_0 0 rfl ?_
  refine jj_if_eq (pc := 1) (tgt := 9) dX6_isPart_1 (by decide) (fun c1 => ?_) (fun c1 => ?_)
  · replace h := h.1 c1
    refine jj_iconst (pc := 9) (v := 1) dX6_isPart_9 (by decide) ?_
    refine jj_goto (pc := 10) (tgt := 14) dX6_isPart_10 (by decide) ?_
    exact jj_zret (pc := 14) dX6_isPart_14 rfl (Or.inr rfl) h
  · replace h := h.2 c1
    refine jj_iload_n (pc := 4) dX6_isPart_4 0 rfl ?_
    refine jj_iconst (pc := 5) (v := 1) dX6_isPart_5 (by decide) ?_
    refine jj_icmp_ne (pc := 6) (tgt := 13) dX6_isPart_6 (by decide) (fun c2 => ?_) (fun c2 => ?_)
    · replace h := h.1 c2
      refine jj_iconst (pc := 13) (v := 0) dX6_isPart_13 (by decide) ?_
      exact jj_zret (pc := 14) dX6_isPart_14 rfl (Or.inl rfl) h
    · replace h := h.2 c2
      refine jj_iconst (pc := 9) (v := 1) dX6_isPart_9 (by decide) ?_
      refine jj_goto (pc := 10) (tgt := 14) dX6_isPart_10 (by decide) ?_
      exact jj_zret (pc := 14) dX6_isPart_14 rfl (Or.inr rfl) h
theorem en_X6_isPart {K : jj_K} (R : Int32 → wo_T → Prop)  (a0 : Int32) (w : wo_T)
    (h : (a0 = 0 → R 1 w) ∧ (¬ a0 = 0 → (¬ a0 = 1 → R 0 w) ∧ (a0 = 1 → R 1 w))) : jj_Ci K mX6_isPart [.int a0] w R :=
  jj_Ci_intro pn_RX6 (Nat.le_of_ble_eq_true rfl) (vc_X6_isPart_0 R a0 w h)
set_option maxRecDepth 100000 in
set_option maxHeartbeats 4000000 in
theorem vc_X6_isSheet_0 {K : jj_K} (R : Int32 → wo_T → Prop)  (a0 : Int32) (w : wo_T)
    (h : (a0 < 0 → R 0 w) ∧ (¬ a0 < 0 → (4 ≤ a0 → R 0 w) ∧ (¬ 4 ≤ a0 → R 1 w))) :
    jj_J K mX6_isSheet (jj_Ri R) 0 [(0, .int a0)] [] w := by
  refine jj_iload_n (pc := 0) dX6_isSheet_0 0 rfl ?_
  refine jj_if_lt (pc := 1) (tgt := 13) dX6_isSheet_1 (by decide) (fun c1 => ?_) (fun c1 => ?_)
  · replace h := h.1 c1
    refine jj_iconst (pc := 13) (v := 0) dX6_isSheet_13 (by decide) ?_
    exact jj_zret (pc := 14) dX6_isSheet_14 rfl (Or.inl rfl) h
  · replace h := h.2 c1
    refine jj_iload_n (pc := 4) dX6_isSheet_4 0 rfl ?_
    refine jj_iconst (pc := 5) (v := 4) dX6_isSheet_5 (by decide) ?_
    refine jj_icmp_ge (pc := 6) (tgt := 13) dX6_isSheet_6 (by decide) (fun c2 => ?_) (fun c2 => ?_)
    · replace h := h.1 c2
      refine jj_iconst (pc := 13) (v := 0) dX6_isSheet_13 (by decide) ?_
      exact jj_zret (pc := 14) dX6_isSheet_14 rfl (Or.inl rfl) h
    · replace h := h.2 c2
      refine jj_iconst (pc := 9) (v := 1) dX6_isSheet_9 (by decide) ?_
      refine jj_goto (pc := 10) (tgt := 14) dX6_isSheet_10 (by decide) ?_
      exact jj_zret (pc := 14) dX6_isSheet_14 rfl (Or.inr rfl) h
theorem en_X6_isSheet {K : jj_K} (R : Int32 → wo_T → Prop)  (a0 : Int32) (w : wo_T)
    (h : (a0 < 0 → R 0 w) ∧ (¬ a0 < 0 → (4 ≤ a0 → R 0 w) ∧ (¬ 4 ≤ a0 → R 1 w))) : jj_Ci K mX6_isSheet [.int a0] w R :=
  jj_Ci_intro pn_RX6 (Nat.le_of_ble_eq_true rfl) (vc_X6_isSheet_0 R a0 w h)
set_option maxRecDepth 100000 in
set_option maxHeartbeats 4000000 in
theorem vc_X6_lowest_0 {K : jj_K} (R : Int64 → wo_T → Prop)  (a0 : Int64) (a2 : Int64) (a4 : Int32) (w : wo_T)
    (h : ∀ x1 : Int64, x1 = (if 0 < a0 then a0 else -a0) → ∀ x2 : Int64, x2 = (if 0 < a2 then a2 else -a2) → (jj_J K mX6_lowest (jj_Rl R) 15 [(0, .long a0), (2, .long a2), (4, .int a4), (5, .long x1), (7, .long x2), (9, .int 0)] [] w)) :
    jj_J K mX6_lowest (jj_Rl R) 0 [(0, .long a0), (2, .long a2), (4, .int a4)] [] w := by
  refine jj_lload_n (pc := 0) dX6_lowest_0 0 rfl ?_
  refine jj_mabs (pc := 1) dX6_lowest_1 lk_RX6_211 lk_Sabs lk_IMath lk_Cabs (by decide) (Nat.le_of_ble_eq_true rfl) ?_
  refine jj_nml (fun x1 ex1 => ?_)
  replace h := h x1 ex1
  refine jj_lstore (pc := 4) (l2 := [(5, .long x1), (0, .long a0), (2, .long a2), (4, .int a4)]) dX6_lowest_4 (by decide) rfl ?_
  refine jj_lload_n (pc := 6) dX6_lowest_6 2 rfl ?_
  refine jj_mabs (pc := 7) dX6_lowest_7 lk_RX6_211 lk_Sabs lk_IMath lk_Cabs (by decide) (Nat.le_of_ble_eq_true rfl) ?_
  refine jj_nml (fun x2 ex2 => ?_)
  replace h := h x2 ex2
  refine jj_lstore (pc := 10) (l2 := [(7, .long x2), (5, .long x1), (0, .long a0), (2, .long a2), (4, .int a4)]) dX6_lowest_10 (by decide) rfl ?_
  refine jj_iconst (pc := 12) (v := 0) dX6_lowest_12 (by decide) ?_
  refine jj_istore (pc := 13) (l2 := [(9, .int 0), (7, .long x2), (5, .long x1), (0, .long a0), (2, .long a2), (4, .int a4)]) dX6_lowest_13 (by decide) rfl ?_
  exact jj_sub [3, 4, 5, 2, 1, 0] rfl h
theorem en_X6_lowest {K : jj_K} (R : Int64 → wo_T → Prop)  (a0 : Int64) (a2 : Int64) (a4 : Int32) (w : wo_T)
    (h : ∀ x1 : Int64, x1 = (if 0 < a0 then a0 else -a0) → ∀ x2 : Int64, x2 = (if 0 < a2 then a2 else -a2) → (jj_J K mX6_lowest (jj_Rl R) 15 [(0, .long a0), (2, .long a2), (4, .int a4), (5, .long x1), (7, .long x2), (9, .int 0)] [] w)) : jj_Cl K mX6_lowest [.long a0, .long a2, .int a4] w R :=
  jj_Cl_intro pn_RX6 (Nat.le_of_ble_eq_true rfl) (vc_X6_lowest_0 R a0 a2 a4 w h)
set_option maxRecDepth 100000 in
set_option maxHeartbeats 4000000 in
theorem vc_X6_lowest_15 {K : jj_K} (R : Int64 → wo_T → Prop)  (a0 : Int64) (a2 : Int64) (a4 : Int32) (a5 : Int64) (a7 : Int64) (a9 : Int32) (w : wo_T)
    (h : (128 ≤ a9 → (0 ≤ a2 → (¬ a5 = 0 → (¬ a4 = 0 → (¬ a5 = 0) ∧ (R (a2 / a5) w)) ∧ (a4 = 0 → (¬ a5 = 0) ∧ (R (a0 / a5) w))) ∧ (a5 = 0 → R a4.toInt64 w)) ∧ (¬ 0 ≤ a2 → ∀ x5 : Int64, x5 = -a5 → ((¬ x5 = 0 → (¬ a4 = 0 → (¬ x5 = 0) ∧ (R (a2 / x5) w)) ∧ (a4 = 0 → (¬ x5 = 0) ∧ (R (a0 / x5) w))) ∧ (x5 = 0 → R a4.toInt64 w)))) ∧ (¬ 128 ≤ a9 → (a7 = 0 → (0 ≤ a2 → (¬ a5 = 0 → (¬ a4 = 0 → (¬ a5 = 0) ∧ (R (a2 / a5) w)) ∧ (a4 = 0 → (¬ a5 = 0) ∧ (R (a0 / a5) w))) ∧ (a5 = 0 → R a4.toInt64 w)) ∧ (¬ 0 ≤ a2 → ∀ x12 : Int64, x12 = -a5 → ((¬ x12 = 0 → (¬ a4 = 0 → (¬ x12 = 0) ∧ (R (a2 / x12) w)) ∧ (a4 = 0 → (¬ x12 = 0) ∧ (R (a0 / x12) w))) ∧ (x12 = 0 → R a4.toInt64 w)))) ∧ (¬ a7 = 0 → (¬ a7 = 0) ∧ (∀ x15 : Int64, x15 = a5 - a5 / a7 * a7 → (jj_J K mX6_lowest (jj_Rl R) 15 [(0, .long a0), (2, .long a2), (4, .int a4), (5, .long a7), (7, .long x15), (9, .int (a9 + 1))] [] w))))) :
    jj_J K mX6_lowest (jj_Rl R) 15 [(0, .long a0), (2, .long a2), (4, .int a4), (5, .long a5), (7, .long a7), (9, .int a9)] [] w := by
  refine jj_iload (pc := 15) dX6_lowest_15 5 rfl ?_
  refine jj_sipush (pc := 17) (v := 128) dX6_lowest_17 (by decide) ?_
  refine jj_icmp_ge (pc := 20) (tgt := 51) dX6_lowest_20 (by decide) (fun c1 => ?_) (fun c1 => ?_)
  · replace h := h.1 c1
    refine jj_lload_n (pc := 51) dX6_lowest_51 1 rfl ?_
    refine jj_lconst (pc := 52) (v := 0) dX6_lowest_52 (by decide) ?_
    refine jj_lcmp_ge (pc := 53) (tgt := 63) dX6_lowest_53 dX6_lowest_54 (by decide) (fun c2 => ?_) (fun c2 => ?_)
    · replace h := h.1 c2
      refine jj_lload (pc := 63) dX6_lowest_63 3 rfl ?_
      refine jj_lstore (pc := 65) (l2 := [(9, .long a5), (0, .long a0), (2, .long a2), (4, .int a4), (5, .long a5), (7, .long a7)]) dX6_lowest_65 (by decide) rfl ?_
      refine jj_lload (pc := 67) dX6_lowest_67 0 rfl ?_
      refine jj_lconst (pc := 69) (v := 0) dX6_lowest_69 (by decide) ?_
      refine jj_lcmp_ne (pc := 70) (tgt := 78) dX6_lowest_70 dX6_lowest_71 (by decide) (fun c3 => ?_) (fun c3 => ?_)
      · replace h := h.1 c3
        refine jj_iload (pc := 78) dX6_lowest_78 3 rfl ?_
        refine jj_if_ne (pc := 80) (tgt := 87) dX6_lowest_80 (by decide) (fun c4 => ?_) (fun c4 => ?_)
        · replace h := h.1 c4
          refine jj_lload_n (pc := 87) dX6_lowest_87 2 rfl ?_
          refine jj_lload (pc := 88) dX6_lowest_88 0 rfl ?_
          refine jj_ldiv (pc := 90) dX6_lowest_90 h.1 ?_
          replace h := h.2
          exact jj_lret (pc := 91) dX6_lowest_91 rfl h
        · replace h := h.2 c4
          refine jj_lload_n (pc := 83) dX6_lowest_83 1 rfl ?_
          refine jj_goto (pc := 84) (tgt := 88) dX6_lowest_84 (by decide) ?_
          refine jj_lload (pc := 88) dX6_lowest_88 0 rfl ?_
          refine jj_ldiv (pc := 90) dX6_lowest_90 h.1 ?_
          replace h := h.2
          exact jj_lret (pc := 91) dX6_lowest_91 rfl h
      · replace h := h.2 c3
        refine jj_iload (pc := 74) dX6_lowest_74 3 rfl ?_
        refine jj_i2l (pc := 76) dX6_lowest_76 ?_
        exact jj_lret (pc := 77) dX6_lowest_77 rfl h
    · replace h := h.2 c2
      refine jj_lload (pc := 57) dX6_lowest_57 3 rfl ?_
      refine jj_lneg (pc := 59) dX6_lowest_59 ?_
      refine jj_goto (pc := 60) (tgt := 65) dX6_lowest_60 (by decide) ?_
      refine jj_nml (fun x5 ex5 => ?_)
      replace h := h x5 ex5
      refine jj_lstore (pc := 65) (l2 := [(9, .long x5), (0, .long a0), (2, .long a2), (4, .int a4), (5, .long a5), (7, .long a7)]) dX6_lowest_65 (by decide) rfl ?_
      refine jj_lload (pc := 67) dX6_lowest_67 0 rfl ?_
      refine jj_lconst (pc := 69) (v := 0) dX6_lowest_69 (by decide) ?_
      refine jj_lcmp_ne (pc := 70) (tgt := 78) dX6_lowest_70 dX6_lowest_71 (by decide) (fun c6 => ?_) (fun c6 => ?_)
      · replace h := h.1 c6
        refine jj_iload (pc := 78) dX6_lowest_78 3 rfl ?_
        refine jj_if_ne (pc := 80) (tgt := 87) dX6_lowest_80 (by decide) (fun c7 => ?_) (fun c7 => ?_)
        · replace h := h.1 c7
          refine jj_lload_n (pc := 87) dX6_lowest_87 2 rfl ?_
          refine jj_lload (pc := 88) dX6_lowest_88 0 rfl ?_
          refine jj_ldiv (pc := 90) dX6_lowest_90 h.1 ?_
          replace h := h.2
          exact jj_lret (pc := 91) dX6_lowest_91 rfl h
        · replace h := h.2 c7
          refine jj_lload_n (pc := 83) dX6_lowest_83 1 rfl ?_
          refine jj_goto (pc := 84) (tgt := 88) dX6_lowest_84 (by decide) ?_
          refine jj_lload (pc := 88) dX6_lowest_88 0 rfl ?_
          refine jj_ldiv (pc := 90) dX6_lowest_90 h.1 ?_
          replace h := h.2
          exact jj_lret (pc := 91) dX6_lowest_91 rfl h
      · replace h := h.2 c6
        refine jj_iload (pc := 74) dX6_lowest_74 3 rfl ?_
        refine jj_i2l (pc := 76) dX6_lowest_76 ?_
        exact jj_lret (pc := 77) dX6_lowest_77 rfl h
  · replace h := h.2 c1
    refine jj_lload (pc := 23) dX6_lowest_23 4 rfl ?_
    refine jj_lconst (pc := 25) (v := 0) dX6_lowest_25 (by decide) ?_
    refine jj_lcmp_eq (pc := 26) (tgt := 51) dX6_lowest_26 dX6_lowest_27 (by decide) (fun c8 => ?_) (fun c8 => ?_)
    · replace h := h.1 c8
      refine jj_lload_n (pc := 51) dX6_lowest_51 1 rfl ?_
      refine jj_lconst (pc := 52) (v := 0) dX6_lowest_52 (by decide) ?_
      refine jj_lcmp_ge (pc := 53) (tgt := 63) dX6_lowest_53 dX6_lowest_54 (by decide) (fun c9 => ?_) (fun c9 => ?_)
      · replace h := h.1 c9
        refine jj_lload (pc := 63) dX6_lowest_63 3 rfl ?_
        refine jj_lstore (pc := 65) (l2 := [(9, .long a5), (0, .long a0), (2, .long a2), (4, .int a4), (5, .long a5), (7, .long a7)]) dX6_lowest_65 (by decide) rfl ?_
        refine jj_lload (pc := 67) dX6_lowest_67 0 rfl ?_
        refine jj_lconst (pc := 69) (v := 0) dX6_lowest_69 (by decide) ?_
        refine jj_lcmp_ne (pc := 70) (tgt := 78) dX6_lowest_70 dX6_lowest_71 (by decide) (fun c10 => ?_) (fun c10 => ?_)
        · replace h := h.1 c10
          refine jj_iload (pc := 78) dX6_lowest_78 3 rfl ?_
          refine jj_if_ne (pc := 80) (tgt := 87) dX6_lowest_80 (by decide) (fun c11 => ?_) (fun c11 => ?_)
          · replace h := h.1 c11
            refine jj_lload_n (pc := 87) dX6_lowest_87 2 rfl ?_
            refine jj_lload (pc := 88) dX6_lowest_88 0 rfl ?_
            refine jj_ldiv (pc := 90) dX6_lowest_90 h.1 ?_
            replace h := h.2
            exact jj_lret (pc := 91) dX6_lowest_91 rfl h
          · replace h := h.2 c11
            refine jj_lload_n (pc := 83) dX6_lowest_83 1 rfl ?_
            refine jj_goto (pc := 84) (tgt := 88) dX6_lowest_84 (by decide) ?_
            refine jj_lload (pc := 88) dX6_lowest_88 0 rfl ?_
            refine jj_ldiv (pc := 90) dX6_lowest_90 h.1 ?_
            replace h := h.2
            exact jj_lret (pc := 91) dX6_lowest_91 rfl h
        · replace h := h.2 c10
          refine jj_iload (pc := 74) dX6_lowest_74 3 rfl ?_
          refine jj_i2l (pc := 76) dX6_lowest_76 ?_
          exact jj_lret (pc := 77) dX6_lowest_77 rfl h
      · replace h := h.2 c9
        refine jj_lload (pc := 57) dX6_lowest_57 3 rfl ?_
        refine jj_lneg (pc := 59) dX6_lowest_59 ?_
        refine jj_goto (pc := 60) (tgt := 65) dX6_lowest_60 (by decide) ?_
        refine jj_nml (fun x12 ex12 => ?_)
        replace h := h x12 ex12
        refine jj_lstore (pc := 65) (l2 := [(9, .long x12), (0, .long a0), (2, .long a2), (4, .int a4), (5, .long a5), (7, .long a7)]) dX6_lowest_65 (by decide) rfl ?_
        refine jj_lload (pc := 67) dX6_lowest_67 0 rfl ?_
        refine jj_lconst (pc := 69) (v := 0) dX6_lowest_69 (by decide) ?_
        refine jj_lcmp_ne (pc := 70) (tgt := 78) dX6_lowest_70 dX6_lowest_71 (by decide) (fun c13 => ?_) (fun c13 => ?_)
        · replace h := h.1 c13
          refine jj_iload (pc := 78) dX6_lowest_78 3 rfl ?_
          refine jj_if_ne (pc := 80) (tgt := 87) dX6_lowest_80 (by decide) (fun c14 => ?_) (fun c14 => ?_)
          · replace h := h.1 c14
            refine jj_lload_n (pc := 87) dX6_lowest_87 2 rfl ?_
            refine jj_lload (pc := 88) dX6_lowest_88 0 rfl ?_
            refine jj_ldiv (pc := 90) dX6_lowest_90 h.1 ?_
            replace h := h.2
            exact jj_lret (pc := 91) dX6_lowest_91 rfl h
          · replace h := h.2 c14
            refine jj_lload_n (pc := 83) dX6_lowest_83 1 rfl ?_
            refine jj_goto (pc := 84) (tgt := 88) dX6_lowest_84 (by decide) ?_
            refine jj_lload (pc := 88) dX6_lowest_88 0 rfl ?_
            refine jj_ldiv (pc := 90) dX6_lowest_90 h.1 ?_
            replace h := h.2
            exact jj_lret (pc := 91) dX6_lowest_91 rfl h
        · replace h := h.2 c13
          refine jj_iload (pc := 74) dX6_lowest_74 3 rfl ?_
          refine jj_i2l (pc := 76) dX6_lowest_76 ?_
          exact jj_lret (pc := 77) dX6_lowest_77 rfl h
    · replace h := h.2 c8
      refine jj_lload (pc := 30) dX6_lowest_30 3 rfl ?_
      refine jj_lload (pc := 32) dX6_lowest_32 4 rfl ?_
      refine jj_lrem (pc := 34) dX6_lowest_34 h.1 ?_
      replace h := h.2
      refine jj_nml (fun x15 ex15 => ?_)
      replace h := h x15 ex15
      refine jj_lstore (pc := 35) (l2 := [(10, .long x15), (0, .long a0), (2, .long a2), (4, .int a4), (5, .long a5), (7, .long a7), (9, .int a9)]) dX6_lowest_35 (by decide) rfl ?_
      refine jj_lload (pc := 37) dX6_lowest_37 5 rfl ?_
      refine jj_lstore (pc := 39) (l2 := [(5, .long a7), (10, .long x15), (0, .long a0), (2, .long a2), (4, .int a4), (7, .long a7), (9, .int a9)]) dX6_lowest_39 (by decide) rfl ?_
      refine jj_lload (pc := 41) dX6_lowest_41 1 rfl ?_
      refine jj_lstore (pc := 43) (l2 := [(7, .long x15), (5, .long a7), (10, .long x15), (0, .long a0), (2, .long a2), (4, .int a4), (9, .int a9)]) dX6_lowest_43 (by decide) rfl ?_
      refine jj_iinc (pc := 45) (v := a9 + 1) (l2 := [(9, .int (a9 + 1)), (7, .long x15), (5, .long a7), (10, .long x15), (0, .long a0), (2, .long a2), (4, .int a4)]) dX6_lowest_45 6 rfl rfl (by decide) rfl ?_
      refine jj_goto (pc := 48) (tgt := 15) dX6_lowest_48 (by decide) ?_
      exact jj_sub [4, 5, 6, 2, 1, 0] rfl h
