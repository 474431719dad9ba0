set_option maxRecDepth 100000 in
set_option maxHeartbeats 4000000 in
theorem vc_X4_renew_0 {K : jj_K} (R : wo_T → Prop) (j : Nat) (hj : j < 4) (a1 : Int32) (a2 : Int32) (w : wo_T)
    (h : jj_J K mX4_renew (jj_Rv R) 17 [(0, .ref (50 + 2 * j)), (1, .int a1), (2, .int a2), (3, .int 0)] [] (wo_i (wo_i (wo_i w (50 + 2 * j) 1 0) (50 + 2 * j) 2 a1) (50 + 2 * j) 3 a2)) :
    jj_J K mX4_renew (jj_Rv R) 0 [(0, .ref (50 + 2 * j)), (1, .int a1), (2, .int a2)] [] w := by
  refine jj_aload_n (pc := 0) dX4_renew_0 0 rfl ?_
  refine jj_iconst (pc := 1) (v := 0) dX4_renew_1 (by decide) ?_
  refine jj_putI (pc := 2) (ci := 4) (k := 1) (ty := .boolean) dX4_renew_2 (wo_l50 _ hj) rfl (by decide) rfl lk_RX4_15 rfl (by decide) rfl rfl ?_
  refine jj_aload_n (pc := 5) dX4_renew_5 0 rfl ?_
  refine jj_iload_n (pc := 6) dX4_renew_6 1 rfl ?_
  refine jj_putI (pc := 7) (ci := 4) (k := 2) (ty := .int) dX4_renew_7 (wo_l50 _ hj) rfl (by decide) rfl lk_RX4_19 rfl (by decide) rfl rfl ?_
  refine jj_aload_n (pc := 10) dX4_renew_10 0 rfl ?_
  refine jj_iload_n (pc := 11) dX4_renew_11 2 rfl ?_
  refine jj_putI (pc := 12) (ci := 4) (k := 3) (ty := .int) dX4_renew_12 (wo_l50 _ hj) rfl (by decide) rfl lk_RX4_23 rfl (by decide) rfl rfl ?_
  refine jj_iconst (pc := 15) (v := 0) dX4_renew_15 (by decide) ?_
  refine jj_istore_n (pc := 16) (l2 := [(3, .int 0), (0, .ref (50 + 2 * j)), (1, .int a1), (2, .int a2)]) dX4_renew_16 (by decide) rfl ?_
  exact jj_sub [1, 2, 3, 0] rfl h
theorem en_X4_renew {K : jj_K} (R : wo_T → Prop) (j : Nat) (hj : j < 4) (a1 : Int32) (a2 : Int32) (w : wo_T)
    (h : jj_J K mX4_renew (jj_Rv R) 17 [(0, .ref (50 + 2 * j)), (1, .int a1), (2, .int a2), (3, .int 0)] [] (wo_i (wo_i (wo_i w (50 + 2 * j) 1 0) (50 + 2 * j) 2 a1) (50 + 2 * j) 3 a2)) : jj_Cv K mX4_renew [.ref (50 + 2 * j), .int a1, .int a2] w R :=
  jj_Cv_intro pn_RX4 (Nat.le_of_ble_eq_true rfl) (vc_X4_renew_0 R j hj a1 a2 w h)
set_option maxRecDepth 100000 in
set_option maxHeartbeats 4000000 in
theorem vc_X4_renew_17 {K : jj_K} (R : wo_T → Prop) (j : Nat) (hj : j < 4) (ja0 : Nat) (hja0 : ja0 < 4) (a1 : Int32) (a2 : Int32) (a3 : Int32) (w : wo_T)
    (h : (40 ≤ a3 → R w) ∧ (¬ 40 ≤ a3 → vp_in a3 40 ∧ (jj_J K mX4_renew (jj_Rv R) 17 [(0, .ref (50 + 2 * ja0)), (1, .int a1), (2, .int a2), (3, .int (a3 + 1))] [] (wo_l w (50 + 2 * ja0 + 1) a3.toNatClampNeg 0)))) :
    jj_J K mX4_renew (jj_Rv R) 17 [(0, .ref (50 + 2 * ja0)), (1, .int a1), (2, .int a2), (3, .int a3)] [] w := by
  refine jj_iload_n (pc := 17) dX4_renew_17 3 rfl ?_
  refine jj_bipush (pc := 18) (v := 40) dX4_renew_18 (by decide) ?_
  refine jj_icmp_ge (pc := 20) (tgt := 36) dX4_renew_20 (by decide) (fun c1 => ?_) (fun c1 => ?_)
  · replace h := h.1 c1
    exact jj_vret (pc := 36) dX4_renew_36 rfl h
  · replace h := h.2 c1
    refine jj_aload_n (pc := 23) dX4_renew_23 0 rfl ?_
    refine jj_getR (pc := 24) (ci := 4) (k := 0) dX4_renew_24 (wo_l50 _ hja0) rfl (by decide) rfl lk_RX4_9 ?_
    refine jj_iload_n (pc := 27) dX4_renew_27 3 rfl ?_
    refine jj_lconst (pc := 28) (v := 0) dX4_renew_28 (by decide) ?_
    refine jj_last (pc := 29) dX4_renew_29 (wo_l51 _ hja0) h.1 ?_
    replace h := h.2
    refine jj_iinc (pc := 30) (v := a3 + 1) (l2 := [(3, .int (a3 + 1)), (0, .ref (50 + 2 * ja0)), (1, .int a1), (2, .int a2)]) dX4_renew_30 3 rfl rfl (by decide) rfl ?_
    refine jj_goto (pc := 33) (tgt := 17) dX4_renew_33 (by decide) ?_
    exact jj_sub [1, 2, 3, 0] rfl h
set_option maxRecDepth 100000 in
set_option maxHeartbeats 4000000 in
theorem vc_X4_hasItems_0 {K : jj_K} (R : Int32 → wo_T → Prop) (j : Nat) (hj : j < 4) (a1 : Int32) (a2 : Int32) (w : wo_T)
    (h : (a1 < 0 → R 0 w) ∧ (¬ a1 < 0 → (a2 < 0 → R 0 w) ∧ (¬ a2 < 0 → ((w.1 (50 + 2 * j) 3) < a1 → R 0 w) ∧ (¬ (w.1 (50 + 2 * j) 3) < a1 → (((w.1 (50 + 2 * j) 3) - a1) < a2 → R 0 w) ∧ (¬ ((w.1 (50 + 2 * j) 3) - a1) < a2 → R 1 w))))) :
    jj_J K mX4_hasItems (jj_Ri R) 0 [(0, .ref (50 + 2 * j)), (1, .int a1), (2, .int a2)] [] w := by
  refine jj_iload_n (pc := 0) dX4_hasItems_0 1 rfl ?_
  refine jj_if_lt (pc := 1) (tgt := 30) dX4_hasItems_1 (by decide) (fun c1 => ?_) (fun c1 => ?_)
  · replace h := h.1 c1
    refine jj_iconst (pc := 30) (v := 0) dX4_hasItems_30 (by decide) ?_
    exact jj_zret (pc := 31) dX4_hasItems_31 rfl (Or.inl rfl) h
  · replace h := h.2 c1
    refine jj_iload_n (pc := 4) dX4_hasItems_4 2 rfl ?_
    refine jj_if_lt (pc := 5) (tgt := 30) dX4_hasItems_5 (by decide) (fun c2 => ?_) (fun c2 => ?_)
    · replace h := h.1 c2
      refine jj_iconst (pc := 30) (v := 0) dX4_hasItems_30 (by decide) ?_
      exact jj_zret (pc := 31) dX4_hasItems_31 rfl (Or.inl rfl) h
    · replace h := h.2 c2
      refine jj_iload_n (pc := 8) dX4_hasItems_8 1 rfl ?_
      refine jj_aload_n (pc := 9) dX4_hasItems_9 0 rfl ?_
      refine jj_getI (pc := 10) (ci := 4) (k := 3) dX4_hasItems_10 (wo_l50 _ hj) rfl (by decide) rfl lk_RX4_23 ?_
      refine jj_icmp_gt (pc := 13) (tgt := 30) dX4_hasItems_13 (by decide) (fun c3 => ?_) (fun c3 => ?_)
      · replace h := h.1 c3
        refine jj_iconst (pc := 30) (v := 0) dX4_hasItems_30 (by decide) ?_
        exact jj_zret (pc := 31) dX4_hasItems_31 rfl (Or.inl rfl) h
      · replace h := h.2 c3
        refine jj_iload_n (pc := 16) dX4_hasItems_16 2 rfl ?_
        refine jj_aload_n (pc := 17) dX4_hasItems_17 0 rfl ?_
        refine jj_getI (pc := 18) (ci := 4) (k := 3) dX4_hasItems_18 (wo_l50 _ hj) rfl (by decide) rfl lk_RX4_23 ?_
        refine jj_iload_n (pc := 21) dX4_hasItems_21 1 rfl ?_
        refine jj_isub (pc := 22) dX4_hasItems_22 ?_
        refine jj_icmp_gt (pc := 23) (tgt := 30) dX4_hasItems_23 (by decide) (fun c4 => ?_) (fun c4 => ?_)
        · replace h := h.1 c4
          refine jj_iconst (pc := 30) (v := 0) dX4_hasItems_30 (by decide) ?_
          exact jj_zret (pc := 31) dX4_hasItems_31 rfl (Or.inl rfl) h
        · replace h := h.2 c4
          refine jj_iconst (pc := 26) (v := 1) dX4_hasItems_26 (by decide) ?_
          refine jj_goto (pc := 27) (tgt := 31) dX4_hasItems_27 (by decide) ?_
          exact jj_zret (pc := 31) dX4_hasItems_31 rfl (Or.inr rfl) h
theorem en_X4_hasItems {K : jj_K} (R : Int32 → wo_T → Prop) (j : Nat) (hj : j < 4) (a1 : Int32) (a2 : Int32) (w : wo_T)
    (h : (a1 < 0 → R 0 w) ∧ (¬ a1 < 0 → (a2 < 0 → R 0 w) ∧ (¬ a2 < 0 → ((w.1 (50 + 2 * j) 3) < a1 → R 0 w) ∧ (¬ (w.1 (50 + 2 * j) 3) < a1 → (((w.1 (50 + 2 * j) 3) - a1) < a2 → R 0 w) ∧ (¬ ((w.1 (50 + 2 * j) 3) - a1) < a2 → R 1 w))))) : jj_Ci K mX4_hasItems [.ref (50 + 2 * j), .int a1, .int a2] w R :=
  jj_Ci_intro pn_RX4 (Nat.le_of_ble_eq_true rfl) (vc_X4_hasItems_0 R j hj a1 a2 w h)
