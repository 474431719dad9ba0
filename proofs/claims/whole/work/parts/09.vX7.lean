set_option maxRecDepth 100000 in
set_option maxHeartbeats 4000000 in
theorem vc_X7_in_0 {K : jj_K} (R : Int32 → wo_T → Prop)  (a0 : Int32) (a1 : Int32) (a2 : Int32) (w : wo_T)
    (h : (a0 < a1 → R 0 w) ∧ (¬ a0 < a1 → (a2 < a0 → R 0 w) ∧ (¬ a2 < a0 → R 1 w))) :
    jj_J K mX7_in (jj_Ri R) 0 [(0, .int a0), (1, .int a1), (2, .int a2)] [] w := by
  refine jj_iload_n (pc := 0) dX7_in_0 0 rfl ?_
  refine jj_iload_n (pc := 1) dX7_in_1 1 rfl ?_
  refine jj_icmp_lt (pc := 2) (tgt := 14) dX7_in_2 (by decide) (fun c1 => ?_) (fun c1 => ?_)
  · replace h := h.1 c1
    refine jj_iconst (pc := 14) (v := 0) dX7_in_14 (by decide) ?_
    exact jj_zret (pc := 15) dX7_in_15 rfl (Or.inl rfl) h
  · replace h := h.2 c1
    refine jj_iload_n (pc := 5) dX7_in_5 0 rfl ?_
    refine jj_iload_n (pc := 6) dX7_in_6 2 rfl ?_
    refine jj_icmp_gt (pc := 7) (tgt := 14) dX7_in_7 (by decide) (fun c2 => ?_) (fun c2 => ?_)
    · replace h := h.1 c2
      refine jj_iconst (pc := 14) (v := 0) dX7_in_14 (by decide) ?_
      exact jj_zret (pc := 15) dX7_in_15 rfl (Or.inl rfl) h
    · replace h := h.2 c2
      refine jj_iconst (pc := 10) (v := 1) dX7_in_10 (by decide) ?_
      refine jj_goto (pc := 11) (tgt := 15) dX7_in_11 (by decide) ?_
      exact jj_zret (pc := 15) dX7_in_15 rfl (Or.inr rfl) h
theorem en_X7_in {K : jj_K} (R : Int32 → wo_T → Prop)  (a0 : Int32) (a1 : Int32) (a2 : Int32) (w : wo_T)
    (h : (a0 < a1 → R 0 w) ∧ (¬ a0 < a1 → (a2 < a0 → R 0 w) ∧ (¬ a2 < a0 → R 1 w))) : jj_Ci K mX7_in [.int a0, .int a1, .int a2] w R :=
  jj_Ci_intro pn_RX7 (Nat.le_of_ble_eq_true rfl) (vc_X7_in_0 R a0 a1 a2 w h)
set_option maxRecDepth 100000 in
set_option maxHeartbeats 4000000 in
theorem vc_X7_no_0 {K : jj_K} (R : Int64 → wo_T → Prop)  (a0 : Int32) (w : wo_T)
    (h : R ((-9223372036854775808) - a0.toInt64) w) :
    jj_J K mX7_no (jj_Rl R) 0 [(0, .int a0)] [] w := by
  refine jj_ldc2 (pc := 0) (v := (-9223372036854775808)) dX7_no_0 lk_RX7_54 ?_
  refine jj_iload_n (pc := 3) dX7_no_3 0 rfl ?_
  refine jj_i2l (pc := 4) dX7_no_4 ?_
  refine jj_lsub (pc := 5) dX7_no_5 ?_
  exact jj_lret (pc := 6) dX7_no_6 rfl h
theorem en_X7_no {K : jj_K} (R : Int64 → wo_T → Prop)  (a0 : Int32) (w : wo_T)
    (h : R ((-9223372036854775808) - a0.toInt64) w) : jj_Cl K mX7_no [.int a0] w R :=
  jj_Cl_intro pn_RX7 (Nat.le_of_ble_eq_true rfl) (vc_X7_no_0 R a0 w h)
set_option maxRecDepth 100000 in
set_option maxHeartbeats 4000000 in
theorem vc_X7_divisor_0 {K : jj_K} (R : Int64 → wo_T → Prop)  (a0 : Int64) (a2 : Int64) (w : wo_T)
    (h : (0 ≤ a0 → (0 ≤ a2 → jj_J K mX7_divisor (jj_Rl R) 28 [(0, .long a0), (2, .long a2), (4, .long a0), (6, .long a2)] [] w) ∧ (¬ 0 ≤ a2 → ∀ x3 : Int64, x3 = -a2 → (jj_J K mX7_divisor (jj_Rl R) 28 [(0, .long a0), (2, .long a2), (4, .long a0), (6, .long x3)] [] w))) ∧ (¬ 0 ≤ a0 → ∀ x4 : Int64, x4 = -a0 → ((0 ≤ a2 → jj_J K mX7_divisor (jj_Rl R) 28 [(0, .long a0), (2, .long a2), (4, .long x4), (6, .long a2)] [] w) ∧ (¬ 0 ≤ a2 → ∀ x6 : Int64, x6 = -a2 → (jj_J K mX7_divisor (jj_Rl R) 28 [(0, .long a0), (2, .long a2), (4, .long x4), (6, .long x6)] [] w))))) :
    jj_J K mX7_divisor (jj_Rl R) 0 [(0, .long a0), (2, .long a2)] [] w := by
  refine jj_lload_n (pc := 0) dX7_divisor_0 0 rfl ?_
  refine jj_lconst (pc := 1) (v := 0) dX7_divisor_1 (by decide) ?_
  refine jj_lcmp_ge (pc := 2) (tgt := 11) dX7_divisor_2 dX7_divisor_3 (by decide) (fun c1 => ?_) (fun c1 => ?_)
  · replace h := h.1 c1
    refine jj_lload_n (pc := 11) dX7_divisor_11 0 rfl ?_
    refine jj_lstore (pc := 12) (l2 := [(4, .long a0), (0, .long a0), (2, .long a2)]) dX7_divisor_12 (by decide) rfl ?_
    refine jj_lload_n (pc := 14) dX7_divisor_14 2 rfl ?_
    refine jj_lconst (pc := 15) (v := 0) dX7_divisor_15 (by decide) ?_
    refine jj_lcmp_ge (pc := 16) (tgt := 25) dX7_divisor_16 dX7_divisor_17 (by decide) (fun c2 => ?_) (fun c2 => ?_)
    · replace h := h.1 c2
      refine jj_lload_n (pc := 25) dX7_divisor_25 2 rfl ?_
      refine jj_lstore (pc := 26) (l2 := [(6, .long a2), (4, .long a0), (0, .long a0), (2, .long a2)]) dX7_divisor_26 (by decide) rfl ?_
      exact jj_sub [2, 3, 1, 0] rfl h
    · replace h := h.2 c2
      refine jj_lload_n (pc := 20) dX7_divisor_20 2 rfl ?_
      refine jj_lneg (pc := 21) dX7_divisor_21 ?_
      refine jj_goto (pc := 22) (tgt := 26) dX7_divisor_22 (by decide) ?_
      refine jj_nml (fun x3 ex3 => ?_)
      replace h := h x3 ex3
      refine jj_lstore (pc := 26) (l2 := [(6, .long x3), (4, .long a0), (0, .long a0), (2, .long a2)]) dX7_divisor_26 (by decide) rfl ?_
      exact jj_sub [2, 3, 1, 0] rfl h
  · replace h := h.2 c1
    refine jj_lload_n (pc := 6) dX7_divisor_6 0 rfl ?_
    refine jj_lneg (pc := 7) dX7_divisor_7 ?_
    refine jj_goto (pc := 8) (tgt := 12) dX7_divisor_8 (by decide) ?_
    refine jj_nml (fun x4 ex4 => ?_)
    replace h := h x4 ex4
    refine jj_lstore (pc := 12) (l2 := [(4, .long x4), (0, .long a0), (2, .long a2)]) dX7_divisor_12 (by decide) rfl ?_
    refine jj_lload_n (pc := 14) dX7_divisor_14 2 rfl ?_
    refine jj_lconst (pc := 15) (v := 0) dX7_divisor_15 (by decide) ?_
    refine jj_lcmp_ge (pc := 16) (tgt := 25) dX7_divisor_16 dX7_divisor_17 (by decide) (fun c5 => ?_) (fun c5 => ?_)
    · replace h := h.1 c5
      refine jj_lload_n (pc := 25) dX7_divisor_25 2 rfl ?_
      refine jj_lstore (pc := 26) (l2 := [(6, .long a2), (4, .long x4), (0, .long a0), (2, .long a2)]) dX7_divisor_26 (by decide) rfl ?_
      exact jj_sub [2, 3, 1, 0] rfl h
    · replace h := h.2 c5
      refine jj_lload_n (pc := 20) dX7_divisor_20 2 rfl ?_
      refine jj_lneg (pc := 21) dX7_divisor_21 ?_
      refine jj_goto (pc := 22) (tgt := 26) dX7_divisor_22 (by decide) ?_
      refine jj_nml (fun x6 ex6 => ?_)
      replace h := h x6 ex6
      refine jj_lstore (pc := 26) (l2 := [(6, .long x6), (4, .long x4), (0, .long a0), (2, .long a2)]) dX7_divisor_26 (by decide) rfl ?_
      exact jj_sub [2, 3, 1, 0] rfl h
theorem en_X7_divisor {K : jj_K} (R : Int64 → wo_T → Prop)  (a0 : Int64) (a2 : Int64) (w : wo_T)
    (h : (0 ≤ a0 → (0 ≤ a2 → jj_J K mX7_divisor (jj_Rl R) 28 [(0, .long a0), (2, .long a2), (4, .long a0), (6, .long a2)] [] w) ∧ (¬ 0 ≤ a2 → ∀ x3 : Int64, x3 = -a2 → (jj_J K mX7_divisor (jj_Rl R) 28 [(0, .long a0), (2, .long a2), (4, .long a0), (6, .long x3)] [] w))) ∧ (¬ 0 ≤ a0 → ∀ x4 : Int64, x4 = -a0 → ((0 ≤ a2 → jj_J K mX7_divisor (jj_Rl R) 28 [(0, .long a0), (2, .long a2), (4, .long x4), (6, .long a2)] [] w) ∧ (¬ 0 ≤ a2 → ∀ x6 : Int64, x6 = -a2 → (jj_J K mX7_divisor (jj_Rl R) 28 [(0, .long a0), (2, .long a2), (4, .long x4), (6, .long x6)] [] w))))) : jj_Cl K mX7_divisor [.long a0, .long a2] w R :=
  jj_Cl_intro pn_RX7 (Nat.le_of_ble_eq_true rfl) (vc_X7_divisor_0 R a0 a2 w h)
set_option maxRecDepth 100000 in
set_option maxHeartbeats 4000000 in
theorem vc_X7_divisor_28 {K : jj_K} (R : Int64 → wo_T → Prop)  (a0 : Int64) (a2 : Int64) (a4 : Int64) (a6 : Int64) (w : wo_T)
    (h : (a6 = 0 → R a4 w) ∧ (¬ a6 = 0 → (¬ a6 = 0) ∧ (∀ x2 : Int64, x2 = a4 - a4 / a6 * a6 → (jj_J K mX7_divisor (jj_Rl R) 28 [(0, .long a0), (2, .long a2), (4, .long a6), (6, .long x2)] [] w)))) :
    jj_J K mX7_divisor (jj_Rl R) 28 [(0, .long a0), (2, .long a2), (4, .long a4), (6, .long a6)] [] w := by
  refine jj_lload (pc := 28) dX7_divisor_28 3 rfl ?_
  refine jj_lconst (pc := 30) (v := 0) dX7_divisor_30 (by decide) ?_
  refine jj_lcmp_eq (pc := 31) (tgt := 53) dX7_divisor_31 dX7_divisor_32 (by decide) (fun c1 => ?_) (fun c1 => ?_)
  · replace h := h.1 c1
    refine jj_lload (pc := 53) dX7_divisor_53 2 rfl ?_
    exact jj_lret (pc := 55) dX7_divisor_55 rfl h
  · replace h := h.2 c1
    refine jj_lload (pc := 35) dX7_divisor_35 2 rfl ?_
    refine jj_lload (pc := 37) dX7_divisor_37 3 rfl ?_
    refine jj_lrem (pc := 39) dX7_divisor_39 h.1 ?_
    replace h := h.2
    refine jj_nml (fun x2 ex2 => ?_)
    replace h := h x2 ex2
    refine jj_lstore (pc := 40) (l2 := [(8, .long x2), (0, .long a0), (2, .long a2), (4, .long a4), (6, .long a6)]) dX7_divisor_40 (by decide) rfl ?_
    refine jj_lload (pc := 42) dX7_divisor_42 4 rfl ?_
    refine jj_lstore (pc := 44) (l2 := [(4, .long a6), (8, .long x2), (0, .long a0), (2, .long a2), (6, .long a6)]) dX7_divisor_44 (by decide) rfl ?_
    refine jj_lload (pc := 46) dX7_divisor_46 1 rfl ?_
    refine jj_lstore (pc := 48) (l2 := [(6, .long x2), (4, .long a6), (8, .long x2), (0, .long a0), (2, .long a2)]) dX7_divisor_48 (by decide) rfl ?_
    refine jj_goto (pc := 50) (tgt := 28) dX7_divisor_50 (by decide) ?_
    exact jj_sub [3, 4, 1, 0] rfl h
set_option maxRecDepth 100000 in
set_option maxHeartbeats 4000000 in
theorem vc_X7_partOf_0 {K : jj_K} (R : Int64 → wo_T → Prop)  (a0 : Int64) (a2 : Int64) (a4 : Int32) (w : wo_T)
    (h : jj_Cl K mX7_divisor [.long a0, .long a2] w (fun v1 w2 => (0 ≤ a2 → (¬ a4 = 0 → (¬ v1 = 0) ∧ (R (a2 / v1) w2)) ∧ (a4 = 0 → (¬ v1 = 0) ∧ (R (a0 / v1) w2))) ∧ (¬ 0 ≤ a2 → ∀ x5 : Int64, x5 = -v1 → ((¬ a4 = 0 → (¬ x5 = 0) ∧ (R (a2 / x5) w2)) ∧ (a4 = 0 → (¬ x5 = 0) ∧ (R (a0 / x5) w2)))))) :
    jj_J K mX7_partOf (jj_Rl R) 0 [(0, .long a0), (2, .long a2), (4, .int a4)] [] w := by
  refine jj_lload_n (pc := 0) dX7_partOf_0 0 rfl ?_
  refine jj_lload_n (pc := 1) dX7_partOf_1 1 rfl ?_
  refine jj_callSl (pc := 2) (N := mX7_divisor) (as := [.long a0, .long a2]) (st := []) dX7_partOf_2 lk_RX7_56 hv_X7_divisor rfl rfl h (fun v1 w2 h => ?_)
  refine jj_lstore (pc := 5) (l2 := [(5, .long v1), (0, .long a0), (2, .long a2), (4, .int a4)]) dX7_partOf_5 (by decide) rfl ?_
  refine jj_lload_n (pc := 7) dX7_partOf_7 2 rfl ?_
  refine jj_lconst (pc := 8) (v := 0) dX7_partOf_8 (by decide) ?_
  refine jj_lcmp_ge (pc := 9) (tgt := 19) dX7_partOf_9 dX7_partOf_10 (by decide) (fun c3 => ?_) (fun c3 => ?_)
  · replace h := h.1 c3
    refine jj_lload (pc := 19) dX7_partOf_19 0 rfl ?_
    refine jj_lstore (pc := 21) (l2 := [(5, .long v1), (0, .long a0), (2, .long a2), (4, .int a4)]) dX7_partOf_21 (by decide) rfl ?_
    refine jj_iload (pc := 23) dX7_partOf_23 3 rfl ?_
    refine jj_if_ne (pc := 25) (tgt := 35) dX7_partOf_25 (by decide) (fun c4 => ?_) (fun c4 => ?_)
    · replace h := h.1 c4
      refine jj_lload_n (pc := 35) dX7_partOf_35 2 rfl ?_
      refine jj_lload (pc := 36) dX7_partOf_36 0 rfl ?_
      refine jj_ldiv (pc := 38) dX7_partOf_38 h.1 ?_
      replace h := h.2
      exact jj_lret (pc := 39) dX7_partOf_39 rfl h
    · replace h := h.2 c4
      refine jj_lload_n (pc := 28) dX7_partOf_28 1 rfl ?_
      refine jj_lload (pc := 29) dX7_partOf_29 0 rfl ?_
      refine jj_ldiv (pc := 31) dX7_partOf_31 h.1 ?_
      replace h := h.2
      refine jj_goto (pc := 32) (tgt := 39) dX7_partOf_32 (by decide) ?_
      exact jj_lret (pc := 39) dX7_partOf_39 rfl h
  · replace h := h.2 c3
    refine jj_lload (pc := 13) dX7_partOf_13 0 rfl ?_
    refine jj_lneg (pc := 15) dX7_partOf_15 ?_
    refine jj_goto (pc := 16) (tgt := 21) dX7_partOf_16 (by decide) ?_
    refine jj_nml (fun x5 ex5 => ?_)
    replace h := h x5 ex5
    refine jj_lstore (pc := 21) (l2 := [(5, .long x5), (0, .long a0), (2, .long a2), (4, .int a4)]) dX7_partOf_21 (by decide) rfl ?_
    refine jj_iload (pc := 23) dX7_partOf_23 3 rfl ?_
    refine jj_if_ne (pc := 25) (tgt := 35) dX7_partOf_25 (by decide) (fun c6 => ?_) (fun c6 => ?_)
    · replace h := h.1 c6
      refine jj_lload_n (pc := 35) dX7_partOf_35 2 rfl ?_
      refine jj_lload (pc := 36) dX7_partOf_36 0 rfl ?_
      refine jj_ldiv (pc := 38) dX7_partOf_38 h.1 ?_
      replace h := h.2
      exact jj_lret (pc := 39) dX7_partOf_39 rfl h
    · replace h := h.2 c6
      refine jj_lload_n (pc := 28) dX7_partOf_28 1 rfl ?_
      refine jj_lload (pc := 29) dX7_partOf_29 0 rfl ?_
      refine jj_ldiv (pc := 31) dX7_partOf_31 h.1 ?_
      replace h := h.2
      refine jj_goto (pc := 32) (tgt := 39) dX7_partOf_32 (by decide) ?_
      exact jj_lret (pc := 39) dX7_partOf_39 rfl h
theorem en_X7_partOf {K : jj_K} (R : Int64 → wo_T → Prop)  (a0 : Int64) (a2 : Int64) (a4 : Int32) (w : wo_T)
    (h : jj_Cl K mX7_divisor [.long a0, .long a2] w (fun v1 w2 => (0 ≤ a2 → (¬ a4 = 0 → (¬ v1 = 0) ∧ (R (a2 / v1) w2)) ∧ (a4 = 0 → (¬ v1 = 0) ∧ (R (a0 / v1) w2))) ∧ (¬ 0 ≤ a2 → ∀ x5 : Int64, x5 = -v1 → ((¬ a4 = 0 → (¬ x5 = 0) ∧ (R (a2 / x5) w2)) ∧ (a4 = 0 → (¬ x5 = 0) ∧ (R (a0 / x5) w2)))))) : jj_Cl K mX7_partOf [.long a0, .long a2, .int a4] w R :=
  jj_Cl_intro pn_RX7 (Nat.le_of_ble_eq_true rfl) (vc_X7_partOf_0 R a0 a2 a4 w h)
set_option maxRecDepth 100000 in
set_option maxHeartbeats 4000000 in
theorem vc_X7_isPoint_0 {K : jj_K} (R : Int32 → wo_T → Prop)  (a1 : Int32) (w : wo_T)
    (h : jj_Ci K mX7_in [.int a1, .int 0, .int ((w.1 58 5) - 1)] w (fun v1 w2 => (v1 = 0 ∨ v1 = 1) ∧ R v1 w2)) :
    jj_J K mX7_isPoint (jj_Ri R) 0 [(0, .ref 58), (1, .int a1)] [] w := by
  refine jj_iload_n (pc := 0) dX7_isPoint_0 1 rfl ?_
  refine jj_iconst (pc := 1) (v := 0) dX7_isPoint_1 (by decide) ?_
  refine jj_aload_n (pc := 2) dX7_isPoint_2 0 rfl ?_
  refine jj_getI (pc := 3) (ci := 7) (k := 5) dX7_isPoint_3 rfl rfl (by decide) rfl lk_RX7_60 ?_
  refine jj_iconst (pc := 6) (v := 1) dX7_isPoint_6 (by decide) ?_
  refine jj_isub (pc := 7) dX7_isPoint_7 ?_
  refine jj_callSi (pc := 8) (N := mX7_in) (as := [.int a1, .int 0, .int ((w.1 58 5) - 1)]) (st := []) dX7_isPoint_8 lk_RX7_64 hv_X7_in rfl rfl h (fun v1 w2 h => ?_)
  exact jj_zret (pc := 11) dX7_isPoint_11 rfl h.1 h.2
theorem en_X7_isPoint {K : jj_K} (R : Int32 → wo_T → Prop)  (a1 : Int32) (w : wo_T)
    (h : jj_Ci K mX7_in [.int a1, .int 0, .int ((w.1 58 5) - 1)] w (fun v1 w2 => (v1 = 0 ∨ v1 = 1) ∧ R v1 w2)) : jj_Ci K mX7_isPoint [.ref 58, .int a1] w R :=
  jj_Ci_intro pn_RX7 (Nat.le_of_ble_eq_true rfl) (vc_X7_isPoint_0 R a1 w h)
set_option maxRecDepth 100000 in
set_option maxHeartbeats 4000000 in
theorem vc_X7_pairs_0 {K : jj_K} (R : Int32 → wo_T → Prop)   (w : wo_T)
    (h : R (((w.1 58 5) * ((w.1 58 5) - 1)) / 2) w) :
    jj_J K mX7_pairs (jj_Ri R) 0 [(0, .ref 58)] [] w := by
  refine jj_aload_n (pc := 0) dX7_pairs_0 0 rfl ?_
  refine jj_getI (pc := 1) (ci := 7) (k := 5) dX7_pairs_1 rfl rfl (by decide) rfl lk_RX7_60 ?_
  refine jj_aload_n (pc := 4) dX7_pairs_4 0 rfl ?_
  refine jj_getI (pc := 5) (ci := 7) (k := 5) dX7_pairs_5 rfl rfl (by decide) rfl lk_RX7_60 ?_
  refine jj_iconst (pc := 8) (v := 1) dX7_pairs_8 (by decide) ?_
  refine jj_isub (pc := 9) dX7_pairs_9 ?_
  refine jj_imul (pc := 10) dX7_pairs_10 ?_
  refine jj_iconst (pc := 11) (v := 2) dX7_pairs_11 (by decide) ?_
  refine jj_idiv (pc := 12) dX7_pairs_12 (by decide) ?_
  exact jj_iret (pc := 13) dX7_pairs_13 rfl h
theorem en_X7_pairs {K : jj_K} (R : Int32 → wo_T → Prop)   (w : wo_T)
    (h : R (((w.1 58 5) * ((w.1 58 5) - 1)) / 2) w) : jj_Ci K mX7_pairs [.ref 58] w R :=
  jj_Ci_intro pn_RX7 (Nat.le_of_ble_eq_true rfl) (vc_X7_pairs_0 R  w h)
set_option maxRecDepth 100000 in
set_option maxHeartbeats 4000000 in
theorem vc_X7_isPair_0 {K : jj_K} (R : Int32 → wo_T → Prop)  (a1 : Int32) (w : wo_T)
    (h : jj_Ci K mX7_pairs [.ref 58] w (fun v1 w2 => jj_Ci K mX7_in [.int a1, .int 0, .int (v1 - 1)] w2 (fun v3 w4 => (v3 = 0 ∨ v3 = 1) ∧ R v3 w4))) :
    jj_J K mX7_isPair (jj_Ri R) 0 [(0, .ref 58), (1, .int a1)] [] w := by
  refine jj_iload_n (pc := 0) dX7_isPair_0 1 rfl ?_
  refine jj_iconst (pc := 1) (v := 0) dX7_isPair_1 (by decide) ?_
  refine jj_aload_n (pc := 2) dX7_isPair_2 0 rfl ?_
  refine jj_callVi (pc := 3) (N := mX7_pairs) (as := []) (st := [.int 0, .int a1]) dX7_isPair_3 rfl rfl rfl lk_RX7_68 hv_X7_pairs rfl rfl h (fun v1 w2 h => ?_)
  refine jj_iconst (pc := 6) (v := 1) dX7_isPair_6 (by decide) ?_
  refine jj_isub (pc := 7) dX7_isPair_7 ?_
  refine jj_callSi (pc := 8) (N := mX7_in) (as := [.int a1, .int 0, .int (v1 - 1)]) (st := []) dX7_isPair_8 lk_RX7_64 hv_X7_in rfl rfl h (fun v3 w4 h => ?_)
  exact jj_zret (pc := 11) dX7_isPair_11 rfl h.1 h.2
theorem en_X7_isPair {K : jj_K} (R : Int32 → wo_T → Prop)  (a1 : Int32) (w : wo_T)
    (h : jj_Ci K mX7_pairs [.ref 58] w (fun v1 w2 => jj_Ci K mX7_in [.int a1, .int 0, .int (v1 - 1)] w2 (fun v3 w4 => (v3 = 0 ∨ v3 = 1) ∧ R v3 w4))) : jj_Ci K mX7_isPair [.ref 58, .int a1] w R :=
  jj_Ci_intro pn_RX7 (Nat.le_of_ble_eq_true rfl) (vc_X7_isPair_0 R a1 w h)
set_option maxRecDepth 100000 in
set_option maxHeartbeats 4000000 in
theorem vc_X7_isBar_0 {K : jj_K} (R : Int32 → wo_T → Prop)  (a1 : Int32) (w : wo_T)
    (h : jj_Ci K mX7_isPair [.ref 58, .int a1] w (fun v1 w2 => (v1 = 0 → R 0 w2) ∧ (¬ v1 = 0 → (¬ (((w2.1 58 6) >>> (a1 &&& 31)) &&& 1) = 1 → R 0 w2) ∧ ((((w2.1 58 6) >>> (a1 &&& 31)) &&& 1) = 1 → R 1 w2)))) :
    jj_J K mX7_isBar (jj_Ri R) 0 [(0, .ref 58), (1, .int a1)] [] w := by
  refine jj_aload_n (pc := 0) dX7_isBar_0 0 rfl ?_
  refine jj_iload_n (pc := 1) dX7_isBar_1 1 rfl ?_
  refine jj_callVi (pc := 2) (N := mX7_isPair) (as := [.int a1]) (st := []) dX7_isBar_2 rfl rfl rfl lk_RX7_72 hv_X7_isPair rfl rfl h (fun v1 w2 h => ?_)
  refine jj_if_eq (pc := 5) (tgt := 24) dX7_isBar_5 (by decide) (fun c3 => ?_) (fun c3 => ?_)
  · replace h := h.1 c3
    refine jj_iconst (pc := 24) (v := 0) dX7_isBar_24 (by decide) ?_
    exact jj_zret (pc := 25) dX7_isBar_25 rfl (Or.inl rfl) h
  · replace h := h.2 c3
    refine jj_aload_n (pc := 8) dX7_isBar_8 0 rfl ?_
    refine jj_getI (pc := 9) (ci := 7) (k := 6) dX7_isBar_9 rfl rfl (by decide) rfl lk_RX7_76 ?_
    refine jj_iload_n (pc := 12) dX7_isBar_12 1 rfl ?_
    refine jj_ishr (pc := 13) dX7_isBar_13 ?_
    refine jj_iconst (pc := 14) (v := 1) dX7_isBar_14 (by decide) ?_
    refine jj_iand (pc := 15) dX7_isBar_15 ?_
    refine jj_iconst (pc := 16) (v := 1) dX7_isBar_16 (by decide) ?_
    refine jj_icmp_ne (pc := 17) (tgt := 24) dX7_isBar_17 (by decide) (fun c4 => ?_) (fun c4 => ?_)
    · replace h := h.1 c4
      refine jj_iconst (pc := 24) (v := 0) dX7_isBar_24 (by decide) ?_
      exact jj_zret (pc := 25) dX7_isBar_25 rfl (Or.inl rfl) h
    · replace h := h.2 c4
      refine jj_iconst (pc := 20) (v := 1) dX7_isBar_20 (by decide) ?_
      refine jj_goto (pc := 21) (tgt := 25) dX7_isBar_21 (by decide) ?_
      exact jj_zret (pc := 25) dX7_isBar_25 rfl (Or.inr rfl) h
theorem en_X7_isBar {K : jj_K} (R : Int32 → wo_T → Prop)  (a1 : Int32) (w : wo_T)
    (h : jj_Ci K mX7_isPair [.ref 58, .int a1] w (fun v1 w2 => (v1 = 0 → R 0 w2) ∧ (¬ v1 = 0 → (¬ (((w2.1 58 6) >>> (a1 &&& 31)) &&& 1) = 1 → R 0 w2) ∧ ((((w2.1 58 6) >>> (a1 &&& 31)) &&& 1) = 1 → R 1 w2)))) : jj_Ci K mX7_isBar [.ref 58, .int a1] w R :=
  jj_Ci_intro pn_RX7 (Nat.le_of_ble_eq_true rfl) (vc_X7_isBar_0 R a1 w h)
set_option maxRecDepth 100000 in
set_option maxHeartbeats 4000000 in
theorem vc_X7_greater_0 {K : jj_K} (R : Int32 → wo_T → Prop)  (a0 : Int32) (w : wo_T)
    (h : jj_J K mX7_greater (jj_Ri R) 2 [(0, .int a0), (1, .int 1)] [] w) :
    jj_J K mX7_greater (jj_Ri R) 0 [(0, .int a0)] [] w := by
  refine jj_iconst (pc := 0) (v := 1) dX7_greater_0 (by decide) ?_
  refine jj_istore_n (pc := 1) (l2 := [(1, .int 1), (0, .int a0)]) dX7_greater_1 (by decide) rfl ?_
  exact jj_sub [1, 0] rfl h
theorem en_X7_greater {K : jj_K} (R : Int32 → wo_T → Prop)  (a0 : Int32) (w : wo_T)
    (h : jj_J K mX7_greater (jj_Ri R) 2 [(0, .int a0), (1, .int 1)] [] w) : jj_Ci K mX7_greater [.int a0] w R :=
  jj_Ci_intro pn_RX7 (Nat.le_of_ble_eq_true rfl) (vc_X7_greater_0 R a0 w h)
set_option maxRecDepth 100000 in
set_option maxHeartbeats 4000000 in
theorem vc_X7_greater_2 {K : jj_K} (R : Int32 → wo_T → Prop)  (a0 : Int32) (a1 : Int32) (w : wo_T)
    (h : (a0 < (((a1 + 1) * a1) / 2) → R a1 w) ∧ (¬ a0 < (((a1 + 1) * a1) / 2) → jj_J K mX7_greater (jj_Ri R) 2 [(0, .int a0), (1, .int (a1 + 1))] [] w)) :
    jj_J K mX7_greater (jj_Ri R) 2 [(0, .int a0), (1, .int a1)] [] w := by
  refine jj_iload_n (pc := 2) dX7_greater_2 1 rfl ?_
  refine jj_iconst (pc := 3) (v := 1) dX7_greater_3 (by decide) ?_
  refine jj_iadd (pc := 4) dX7_greater_4 ?_
  refine jj_iload_n (pc := 5) dX7_greater_5 1 rfl ?_
  refine jj_imul (pc := 6) dX7_greater_6 ?_
  refine jj_iconst (pc := 7) (v := 2) dX7_greater_7 (by decide) ?_
  refine jj_idiv (pc := 8) dX7_greater_8 (by decide) ?_
  refine jj_iload_n (pc := 9) dX7_greater_9 0 rfl ?_
  refine jj_icmp_gt (pc := 10) (tgt := 19) dX7_greater_10 (by decide) (fun c1 => ?_) (fun c1 => ?_)
  · replace h := h.1 c1
    refine jj_iload_n (pc := 19) dX7_greater_19 1 rfl ?_
    exact jj_iret (pc := 20) dX7_greater_20 rfl h
  · replace h := h.2 c1
    refine jj_iinc (pc := 13) (v := a1 + 1) (l2 := [(1, .int (a1 + 1)), (0, .int a0)]) dX7_greater_13 1 rfl rfl (by decide) rfl ?_
    refine jj_goto (pc := 16) (tgt := 2) dX7_greater_16 (by decide) ?_
    exact jj_sub [1, 0] rfl h
set_option maxRecDepth 100000 in
set_option maxHeartbeats 4000000 in
theorem vc_X7_lesser_0 {K : jj_K} (R : Int32 → wo_T → Prop)  (a0 : Int32) (w : wo_T)
    (h : jj_Ci K mX7_greater [.int a0] w (fun v1 w2 => R (a0 - ((v1 * (v1 - 1)) / 2)) w2)) :
    jj_J K mX7_lesser (jj_Ri R) 0 [(0, .int a0)] [] w := by
  refine jj_iload_n (pc := 0) dX7_lesser_0 0 rfl ?_
  refine jj_callSi (pc := 1) (N := mX7_greater) (as := [.int a0]) (st := []) dX7_lesser_1 lk_RX7_79 hv_X7_greater rfl rfl h (fun v1 w2 h => ?_)
  refine jj_istore_n (pc := 4) (l2 := [(1, .int v1), (0, .int a0)]) dX7_lesser_4 (by decide) rfl ?_
  refine jj_iload_n (pc := 5) dX7_lesser_5 1 rfl ?_
  refine jj_iload_n (pc := 6) dX7_lesser_6 0 rfl ?_
  refine jj_iload_n (pc := 7) dX7_lesser_7 0 rfl ?_
  refine jj_iconst (pc := 8) (v := 1) dX7_lesser_8 (by decide) ?_
  refine jj_isub (pc := 9) dX7_lesser_9 ?_
  refine jj_imul (pc := 10) dX7_lesser_10 ?_
  refine jj_iconst (pc := 11) (v := 2) dX7_lesser_11 (by decide) ?_
  refine jj_idiv (pc := 12) dX7_lesser_12 (by decide) ?_
  refine jj_isub (pc := 13) dX7_lesser_13 ?_
  exact jj_iret (pc := 14) dX7_lesser_14 rfl h
theorem en_X7_lesser {K : jj_K} (R : Int32 → wo_T → Prop)  (a0 : Int32) (w : wo_T)
    (h : jj_Ci K mX7_greater [.int a0] w (fun v1 w2 => R (a0 - ((v1 * (v1 - 1)) / 2)) w2)) : jj_Ci K mX7_lesser [.int a0] w R :=
  jj_Ci_intro pn_RX7 (Nat.le_of_ble_eq_true rfl) (vc_X7_lesser_0 R a0 w h)
set_option maxRecDepth 100000 in
set_option maxHeartbeats 4000000 in
theorem vc_X7_far_0 {K : jj_K} (R : Int32 → wo_T → Prop)  (a1 : Int32) (a2 : Int32) (w : wo_T)
    (h : jj_Ci K mX7_lesser [.int a1] w (fun v1 w2 => jj_Ci K mX7_greater [.int a1] w2 (fun v3 w4 => (¬ a2 = 0 → vp_in v3 5 ∧ (vp_in v1 5 ∧ (R ((w4.1 60 v3.toNatClampNeg) - (w4.1 60 v1.toNatClampNeg)) w4))) ∧ (a2 = 0 → vp_in v3 5 ∧ (vp_in v1 5 ∧ (R ((w4.1 59 v3.toNatClampNeg) - (w4.1 59 v1.toNatClampNeg)) w4)))))) :
    jj_J K mX7_far (jj_Ri R) 0 [(0, .ref 58), (1, .int a1), (2, .int a2)] [] w := by
  refine jj_iload_n (pc := 0) dX7_far_0 1 rfl ?_
  refine jj_callSi (pc := 1) (N := mX7_lesser) (as := [.int a1]) (st := []) dX7_far_1 lk_RX7_83 hv_X7_lesser rfl rfl h (fun v1 w2 h => ?_)
  refine jj_istore_n (pc := 4) (l2 := [(3, .int v1), (0, .ref 58), (1, .int a1), (2, .int a2)]) dX7_far_4 (by decide) rfl ?_
  refine jj_iload_n (pc := 5) dX7_far_5 2 rfl ?_
  refine jj_callSi (pc := 6) (N := mX7_greater) (as := [.int a1]) (st := []) dX7_far_6 lk_RX7_79 hv_X7_greater rfl rfl h (fun v3 w4 h => ?_)
  refine jj_istore (pc := 9) (l2 := [(4, .int v3), (3, .int v1), (0, .ref 58), (1, .int a1), (2, .int a2)]) dX7_far_9 (by decide) rfl ?_
  refine jj_iload_n (pc := 11) dX7_far_11 4 rfl ?_
  refine jj_if_ne (pc := 12) (tgt := 32) dX7_far_12 (by decide) (fun c5 => ?_) (fun c5 => ?_)
  · replace h := h.1 c5
    refine jj_aload_n (pc := 32) dX7_far_32 2 rfl ?_
    refine jj_getR (pc := 33) (ci := 7) (k := 1) dX7_far_33 rfl rfl (by decide) rfl lk_RX7_13 ?_
    refine jj_iload (pc := 36) dX7_far_36 0 rfl ?_
    refine jj_iald (pc := 38) dX7_far_38 rfl h.1 ?_
    replace h := h.2
    refine jj_aload_n (pc := 39) dX7_far_39 2 rfl ?_
    refine jj_getR (pc := 40) (ci := 7) (k := 1) dX7_far_40 rfl rfl (by decide) rfl lk_RX7_13 ?_
    refine jj_iload_n (pc := 43) dX7_far_43 1 rfl ?_
    refine jj_iald (pc := 44) dX7_far_44 rfl h.1 ?_
    replace h := h.2
    refine jj_isub (pc := 45) dX7_far_45 ?_
    exact jj_iret (pc := 46) dX7_far_46 rfl h
  · replace h := h.2 c5
    refine jj_aload_n (pc := 15) dX7_far_15 2 rfl ?_
    refine jj_getR (pc := 16) (ci := 7) (k := 0) dX7_far_16 rfl rfl (by decide) rfl lk_RX7_7 ?_
    refine jj_iload (pc := 19) dX7_far_19 0 rfl ?_
    refine jj_iald (pc := 21) dX7_far_21 rfl h.1 ?_
    replace h := h.2
    refine jj_aload_n (pc := 22) dX7_far_22 2 rfl ?_
    refine jj_getR (pc := 23) (ci := 7) (k := 0) dX7_far_23 rfl rfl (by decide) rfl lk_RX7_7 ?_
    refine jj_iload_n (pc := 26) dX7_far_26 1 rfl ?_
    refine jj_iald (pc := 27) dX7_far_27 rfl h.1 ?_
    replace h := h.2
    refine jj_isub (pc := 28) dX7_far_28 ?_
    refine jj_goto (pc := 29) (tgt := 46) dX7_far_29 (by decide) ?_
    exact jj_iret (pc := 46) dX7_far_46 rfl h
theorem en_X7_far {K : jj_K} (R : Int32 → wo_T → Prop)  (a1 : Int32) (a2 : Int32) (w : wo_T)
    (h : jj_Ci K mX7_lesser [.int a1] w (fun v1 w2 => jj_Ci K mX7_greater [.int a1] w2 (fun v3 w4 => (¬ a2 = 0 → vp_in v3 5 ∧ (vp_in v1 5 ∧ (R ((w4.1 60 v3.toNatClampNeg) - (w4.1 60 v1.toNatClampNeg)) w4))) ∧ (a2 = 0 → vp_in v3 5 ∧ (vp_in v1 5 ∧ (R ((w4.1 59 v3.toNatClampNeg) - (w4.1 59 v1.toNatClampNeg)) w4)))))) : jj_Ci K mX7_far [.ref 58, .int a1, .int a2] w R :=
  jj_Ci_intro pn_RX7 (Nat.le_of_ble_eq_true rfl) (vc_X7_far_0 R a1 a2 w h)
set_option maxRecDepth 100000 in
set_option maxHeartbeats 4000000 in
theorem vc_X7_quad_0 {K : jj_K} (R : Int32 → wo_T → Prop)  (a1 : Int32) (w : wo_T)
    (h : jj_Ci K mX7_far [.ref 58, .int a1, .int 0] w (fun v1 w2 => jj_Ci K mX7_far [.ref 58, .int a1, .int 0] w2 (fun v3 w4 => jj_Ci K mX7_far [.ref 58, .int a1, .int 1] w4 (fun v5 w6 => jj_Ci K mX7_far [.ref 58, .int a1, .int 1] w6 (fun v7 w8 => R ((v1 * v3) + (v5 * v7)) w8))))) :
    jj_J K mX7_quad (jj_Ri R) 0 [(0, .ref 58), (1, .int a1)] [] w := by
  refine jj_aload_n (pc := 0) dX7_quad_0 0 rfl ?_
  refine jj_iload_n (pc := 1) dX7_quad_1 1 rfl ?_
  refine jj_iconst (pc := 2) (v := 0) dX7_quad_2 (by decide) ?_
  refine jj_callVi (pc := 3) (N := mX7_far) (as := [.int a1, .int 0]) (st := []) dX7_quad_3 rfl rfl rfl lk_RX7_86 hv_X7_far rfl rfl h (fun v1 w2 h => ?_)
  refine jj_aload_n (pc := 6) dX7_quad_6 0 rfl ?_
  refine jj_iload_n (pc := 7) dX7_quad_7 1 rfl ?_
  refine jj_iconst (pc := 8) (v := 0) dX7_quad_8 (by decide) ?_
  refine jj_callVi (pc := 9) (N := mX7_far) (as := [.int a1, .int 0]) (st := [.int v1]) dX7_quad_9 rfl rfl rfl lk_RX7_86 hv_X7_far rfl rfl h (fun v3 w4 h => ?_)
  refine jj_imul (pc := 12) dX7_quad_12 ?_
  refine jj_aload_n (pc := 13) dX7_quad_13 0 rfl ?_
  refine jj_iload_n (pc := 14) dX7_quad_14 1 rfl ?_
  refine jj_iconst (pc := 15) (v := 1) dX7_quad_15 (by decide) ?_
  refine jj_callVi (pc := 16) (N := mX7_far) (as := [.int a1, .int 1]) (st := [.int (v1 * v3)]) dX7_quad_16 rfl rfl rfl lk_RX7_86 hv_X7_far rfl rfl h (fun v5 w6 h => ?_)
  refine jj_aload_n (pc := 19) dX7_quad_19 0 rfl ?_
  refine jj_iload_n (pc := 20) dX7_quad_20 1 rfl ?_
  refine jj_iconst (pc := 21) (v := 1) dX7_quad_21 (by decide) ?_
  refine jj_callVi (pc := 22) (N := mX7_far) (as := [.int a1, .int 1]) (st := [.int v5, .int (v1 * v3)]) dX7_quad_22 rfl rfl rfl lk_RX7_86 hv_X7_far rfl rfl h (fun v7 w8 h => ?_)
  refine jj_imul (pc := 25) dX7_quad_25 ?_
  refine jj_iadd (pc := 26) dX7_quad_26 ?_
  exact jj_iret (pc := 27) dX7_quad_27 rfl h
theorem en_X7_quad {K : jj_K} (R : Int32 → wo_T → Prop)  (a1 : Int32) (w : wo_T)
    (h : jj_Ci K mX7_far [.ref 58, .int a1, .int 0] w (fun v1 w2 => jj_Ci K mX7_far [.ref 58, .int a1, .int 0] w2 (fun v3 w4 => jj_Ci K mX7_far [.ref 58, .int a1, .int 1] w4 (fun v5 w6 => jj_Ci K mX7_far [.ref 58, .int a1, .int 1] w6 (fun v7 w8 => R ((v1 * v3) + (v5 * v7)) w8))))) : jj_Ci K mX7_quad [.ref 58, .int a1] w R :=
  jj_Ci_intro pn_RX7 (Nat.le_of_ble_eq_true rfl) (vc_X7_quad_0 R a1 w h)
set_option maxRecDepth 100000 in
set_option maxHeartbeats 4000000 in
theorem vc_X7_point_0 {K : jj_K} (R : Int32 → wo_T → Prop)  (a1 : Int32) (a2 : Int32) (w : wo_T)
    (h : jj_Ci K mX7_in [.int a1, .int 0, .int 4] w (fun v1 w2 => (v1 = 0 → R (-2) w2) ∧ (¬ v1 = 0 → jj_Ci K mX7_in [.int a2, .int 0, .int 4] w2 (fun v4 w5 => (¬ v4 = 0 → jj_J K mX7_point (jj_Ri R) 23 [(0, .ref 58), (1, .int a1), (2, .int a2), (3, .int 0)] [] w5) ∧ (v4 = 0 → R (-2) w5))))) :
    jj_J K mX7_point (jj_Ri R) 0 [(0, .ref 58), (1, .int a1), (2, .int a2)] [] w := by
  refine jj_iload_n (pc := 0) dX7_point_0 1 rfl ?_
  refine jj_iconst (pc := 1) (v := 0) dX7_point_1 (by decide) ?_
  refine jj_iconst (pc := 2) (v := 4) dX7_point_2 (by decide) ?_
  refine jj_callSi (pc := 3) (N := mX7_in) (as := [.int a1, .int 0, .int 4]) (st := []) dX7_point_3 lk_RX7_64 hv_X7_in rfl rfl h (fun v1 w2 h => ?_)
  refine jj_if_eq (pc := 6) (tgt := 18) dX7_point_6 (by decide) (fun c3 => ?_) (fun c3 => ?_)
  · replace h := h.1 c3
    refine jj_bipush (pc := 18) (v := (-2)) dX7_point_18 (by decide) ?_
    exact jj_iret (pc := 20) dX7_point_20 rfl h
  · replace h := h.2 c3
    refine jj_iload_n (pc := 9) dX7_point_9 2 rfl ?_
    refine jj_iconst (pc := 10) (v := 0) dX7_point_10 (by decide) ?_
    refine jj_iconst (pc := 11) (v := 4) dX7_point_11 (by decide) ?_
    refine jj_callSi (pc := 12) (N := mX7_in) (as := [.int a2, .int 0, .int 4]) (st := []) dX7_point_12 lk_RX7_64 hv_X7_in rfl rfl h (fun v4 w5 h => ?_)
    refine jj_if_ne (pc := 15) (tgt := 21) dX7_point_15 (by decide) (fun c6 => ?_) (fun c6 => ?_)
    · replace h := h.1 c6
      refine jj_iconst (pc := 21) (v := 0) dX7_point_21 (by decide) ?_
      refine jj_istore_n (pc := 22) (l2 := [(3, .int 0), (0, .ref 58), (1, .int a1), (2, .int a2)]) dX7_point_22 (by decide) rfl ?_
      exact jj_sub [1, 2, 3, 0] rfl h
    · replace h := h.2 c6
      refine jj_bipush (pc := 18) (v := (-2)) dX7_point_18 (by decide) ?_
      exact jj_iret (pc := 20) dX7_point_20 rfl h
theorem en_X7_point {K : jj_K} (R : Int32 → wo_T → Prop)  (a1 : Int32) (a2 : Int32) (w : wo_T)
    (h : jj_Ci K mX7_in [.int a1, .int 0, .int 4] w (fun v1 w2 => (v1 = 0 → R (-2) w2) ∧ (¬ v1 = 0 → jj_Ci K mX7_in [.int a2, .int 0, .int 4] w2 (fun v4 w5 => (¬ v4 = 0 → jj_J K mX7_point (jj_Ri R) 23 [(0, .ref 58), (1, .int a1), (2, .int a2), (3, .int 0)] [] w5) ∧ (v4 = 0 → R (-2) w5))))) : jj_Ci K mX7_point [.ref 58, .int a1, .int a2] w R :=
  jj_Ci_intro pn_RX7 (Nat.le_of_ble_eq_true rfl) (vc_X7_point_0 R a1 a2 w h)
set_option maxRecDepth 100000 in
set_option maxHeartbeats 4000000 in
theorem vc_X7_point_23 {K : jj_K} (R : Int32 → wo_T → Prop)  (a1 : Int32) (a2 : Int32) (a3 : Int32) (w : wo_T)
    (h : ((w.1 58 5) ≤ a3 → (¬ (w.1 58 5) = 5 → vp_in (w.1 58 5) 5 ∧ (vp_in ((wo_i w 59 (w.1 58 5).toNatClampNeg a1).1 58 5) 5 ∧ (vp_in ((wo_i (wo_i w 59 (w.1 58 5).toNatClampNeg a1) 60 ((wo_i w 59 (w.1 58 5).toNatClampNeg a1).1 58 5).toNatClampNeg a2).1 58 5) 5 ∧ (∀ x3 : Int32, x3 = 2 * ((wo_i (wo_i (wo_i w 59 (w.1 58 5).toNatClampNeg a1) 60 ((wo_i w 59 (w.1 58 5).toNatClampNeg a1).1 58 5).toNatClampNeg a2) 61 ((wo_i (wo_i w 59 (w.1 58 5).toNatClampNeg a1) 60 ((wo_i w 59 (w.1 58 5).toNatClampNeg a1).1 58 5).toNatClampNeg a2).1 58 5).toNatClampNeg 0).1 58 5) → (jj_J K mX7_point (jj_Ri R) 108 [(0, .ref 58), (1, .int a1), (2, .int a2), (3, .int x3)] [] (wo_i (wo_i (wo_i w 59 (w.1 58 5).toNatClampNeg a1) 60 ((wo_i w 59 (w.1 58 5).toNatClampNeg a1).1 58 5).toNatClampNeg a2) 61 ((wo_i (wo_i w 59 (w.1 58 5).toNatClampNeg a1) 60 ((wo_i w 59 (w.1 58 5).toNatClampNeg a1).1 58 5).toNatClampNeg a2).1 58 5).toNatClampNeg 0)))))) ∧ ((w.1 58 5) = 5 → R (-4) w)) ∧ (¬ (w.1 58 5) ≤ a3 → vp_in a3 5 ∧ ((¬ (w.1 59 a3.toNatClampNeg) = a1 → jj_J K mX7_point (jj_Ri R) 23 [(0, .ref 58), (1, .int a1), (2, .int a2), (3, .int (a3 + 1))] [] w) ∧ ((w.1 59 a3.toNatClampNeg) = a1 → vp_in a3 5 ∧ ((¬ (w.1 60 a3.toNatClampNeg) = a2 → jj_J K mX7_point (jj_Ri R) 23 [(0, .ref 58), (1, .int a1), (2, .int a2), (3, .int (a3 + 1))] [] w) ∧ ((w.1 60 a3.toNatClampNeg) = a2 → R (-3) w)))))) :
    jj_J K mX7_point (jj_Ri R) 23 [(0, .ref 58), (1, .int a1), (2, .int a2), (3, .int a3)] [] w := by
  refine jj_iload_n (pc := 23) dX7_point_23 3 rfl ?_
  refine jj_aload_n (pc := 24) dX7_point_24 0 rfl ?_
  refine jj_getI (pc := 25) (ci := 7) (k := 5) dX7_point_25 rfl rfl (by decide) rfl lk_RX7_60 ?_
  refine jj_icmp_ge (pc := 28) (tgt := 60) dX7_point_28 (by decide) (fun c1 => ?_) (fun c1 => ?_)
  · replace h := h.1 c1
    refine jj_aload_n (pc := 60) dX7_point_60 0 rfl ?_
    refine jj_getI (pc := 61) (ci := 7) (k := 5) dX7_point_61 rfl rfl (by decide) rfl lk_RX7_60 ?_
    refine jj_iconst (pc := 64) (v := 5) dX7_point_64 (by decide) ?_
    refine jj_icmp_ne (pc := 65) (tgt := 71) dX7_point_65 (by decide) (fun c2 => ?_) (fun c2 => ?_)
    · replace h := h.1 c2
      refine jj_aload_n (pc := 71) dX7_point_71 0 rfl ?_
      refine jj_getR (pc := 72) (ci := 7) (k := 0) dX7_point_72 rfl rfl (by decide) rfl lk_RX7_7 ?_
      refine jj_aload_n (pc := 75) dX7_point_75 0 rfl ?_
      refine jj_getI (pc := 76) (ci := 7) (k := 5) dX7_point_76 rfl rfl (by decide) rfl lk_RX7_60 ?_
      refine jj_iload_n (pc := 79) dX7_point_79 1 rfl ?_
      refine jj_iast (pc := 80) dX7_point_80 rfl h.1 ?_
      replace h := h.2
      refine jj_aload_n (pc := 81) dX7_point_81 0 rfl ?_
      refine jj_getR (pc := 82) (ci := 7) (k := 1) dX7_point_82 rfl rfl (by decide) rfl lk_RX7_13 ?_
      refine jj_aload_n (pc := 85) dX7_point_85 0 rfl ?_
      refine jj_getI (pc := 86) (ci := 7) (k := 5) dX7_point_86 rfl rfl (by decide) rfl lk_RX7_60 ?_
      refine jj_iload_n (pc := 89) dX7_point_89 2 rfl ?_
      refine jj_iast (pc := 90) dX7_point_90 rfl h.1 ?_
      replace h := h.2
      refine jj_aload_n (pc := 91) dX7_point_91 0 rfl ?_
      refine jj_getR (pc := 92) (ci := 7) (k := 2) dX7_point_92 rfl rfl (by decide) rfl lk_RX7_16 ?_
      refine jj_aload_n (pc := 95) dX7_point_95 0 rfl ?_
      refine jj_getI (pc := 96) (ci := 7) (k := 5) dX7_point_96 rfl rfl (by decide) rfl lk_RX7_60 ?_
      refine jj_iconst (pc := 99) (v := 0) dX7_point_99 (by decide) ?_
      refine jj_iast (pc := 100) dX7_point_100 rfl h.1 ?_
      replace h := h.2
      refine jj_iconst (pc := 101) (v := 2) dX7_point_101 (by decide) ?_
      refine jj_aload_n (pc := 102) dX7_point_102 0 rfl ?_
      refine jj_getI (pc := 103) (ci := 7) (k := 5) dX7_point_103 rfl rfl (by decide) rfl lk_RX7_60 ?_
      refine jj_imul (pc := 106) dX7_point_106 ?_
      refine jj_nmi (fun x3 ex3 => ?_)
      replace h := h x3 ex3
      refine jj_istore_n (pc := 107) (l2 := [(3, .int x3), (0, .ref 58), (1, .int a1), (2, .int a2)]) dX7_point_107 (by decide) rfl ?_
      exact jj_sub [1, 2, 3, 0] rfl h
    · replace h := h.2 c2
      refine jj_bipush (pc := 68) (v := (-4)) dX7_point_68 (by decide) ?_
      exact jj_iret (pc := 70) dX7_point_70 rfl h
  · replace h := h.2 c1
    refine jj_aload_n (pc := 31) dX7_point_31 0 rfl ?_
    refine jj_getR (pc := 32) (ci := 7) (k := 0) dX7_point_32 rfl rfl (by decide) rfl lk_RX7_7 ?_
    refine jj_iload_n (pc := 35) dX7_point_35 3 rfl ?_
    refine jj_iald (pc := 36) dX7_point_36 rfl h.1 ?_
    replace h := h.2
    refine jj_iload_n (pc := 37) dX7_point_37 1 rfl ?_
    refine jj_icmp_ne (pc := 38) (tgt := 54) dX7_point_38 (by decide) (fun c4 => ?_) (fun c4 => ?_)
    · replace h := h.1 c4
      refine jj_iinc (pc := 54) (v := a3 + 1) (l2 := [(3, .int (a3 + 1)), (0, .ref 58), (1, .int a1), (2, .int a2)]) dX7_point_54 3 rfl rfl (by decide) rfl ?_
      refine jj_goto (pc := 57) (tgt := 23) dX7_point_57 (by decide) ?_
      exact jj_sub [1, 2, 3, 0] rfl h
    · replace h := h.2 c4
      refine jj_aload_n (pc := 41) dX7_point_41 0 rfl ?_
      refine jj_getR (pc := 42) (ci := 7) (k := 1) dX7_point_42 rfl rfl (by decide) rfl lk_RX7_13 ?_
      refine jj_iload_n (pc := 45) dX7_point_45 3 rfl ?_
      refine jj_iald (pc := 46) dX7_point_46 rfl h.1 ?_
      replace h := h.2
      refine jj_iload_n (pc := 47) dX7_point_47 2 rfl ?_
      refine jj_icmp_ne (pc := 48) (tgt := 54) dX7_point_48 (by decide) (fun c5 => ?_) (fun c5 => ?_)
      · replace h := h.1 c5
        refine jj_iinc (pc := 54) (v := a3 + 1) (l2 := [(3, .int (a3 + 1)), (0, .ref 58), (1, .int a1), (2, .int a2)]) dX7_point_54 3 rfl rfl (by decide) rfl ?_
        refine jj_goto (pc := 57) (tgt := 23) dX7_point_57 (by decide) ?_
        exact jj_sub [1, 2, 3, 0] rfl h
      · replace h := h.2 c5
        refine jj_bipush (pc := 51) (v := (-3)) dX7_point_51 (by decide) ?_
        exact jj_iret (pc := 53) dX7_point_53 rfl h
set_option maxRecDepth 100000 in
set_option maxHeartbeats 4000000 in
theorem vc_X7_point_108 {K : jj_K} (R : Int32 → wo_T → Prop)  (a1 : Int32) (a2 : Int32) (a3 : Int32) (w : wo_T)
    (h : (((2 * (w.1 58 5)) + 2) ≤ a3 → R (((wo_i (wo_i w 58 5 ((w.1 58 5) + 1)) 58 13 0).1 58 5) - 1) (wo_i (wo_i w 58 5 ((w.1 58 5) + 1)) 58 13 0)) ∧ (¬ ((2 * (w.1 58 5)) + 2) ≤ a3 → vp_in a3 10 ∧ (vp_in a3 10 ∧ (jj_J K mX7_point (jj_Ri R) 108 [(0, .ref 58), (1, .int a1), (2, .int a2), (3, .int (a3 + 1))] [] (wo_i (wo_i w 62 a3.toNatClampNeg 0) 63 a3.toNatClampNeg 0))))) :
    jj_J K mX7_point (jj_Ri R) 108 [(0, .ref 58), (1, .int a1), (2, .int a2), (3, .int a3)] [] w := by
  refine jj_iload_n (pc := 108) dX7_point_108 3 rfl ?_
  refine jj_iconst (pc := 109) (v := 2) dX7_point_109 (by decide) ?_
  refine jj_aload_n (pc := 110) dX7_point_110 0 rfl ?_
  refine jj_getI (pc := 111) (ci := 7) (k := 5) dX7_point_111 rfl rfl (by decide) rfl lk_RX7_60 ?_
  refine jj_imul (pc := 114) dX7_point_114 ?_
  refine jj_iconst (pc := 115) (v := 2) dX7_point_115 (by decide) ?_
  refine jj_iadd (pc := 116) dX7_point_116 ?_
  refine jj_icmp_ge (pc := 117) (tgt := 140) dX7_point_117 (by decide) (fun c1 => ?_) (fun c1 => ?_)
  · replace h := h.1 c1
    refine jj_aload_n (pc := 140) dX7_point_140 0 rfl ?_
    refine jj_dup (pc := 141) dX7_point_141 rfl ?_
    refine jj_getI (pc := 142) (ci := 7) (k := 5) dX7_point_142 rfl rfl (by decide) rfl lk_RX7_60 ?_
    refine jj_iconst (pc := 145) (v := 1) dX7_point_145 (by decide) ?_
    refine jj_iadd (pc := 146) dX7_point_146 ?_
    refine jj_putI (pc := 147) (ci := 7) (k := 5) (ty := .int) dX7_point_147 rfl rfl (by decide) rfl lk_RX7_60 rfl (by decide) rfl rfl ?_
    refine jj_aload_n (pc := 150) dX7_point_150 0 rfl ?_
    refine jj_iconst (pc := 151) (v := 0) dX7_point_151 (by decide) ?_
    refine jj_putI (pc := 152) (ci := 7) (k := 13) (ty := .boolean) dX7_point_152 rfl rfl (by decide) rfl lk_RX7_90 rfl (by decide) rfl rfl ?_
    refine jj_aload_n (pc := 155) dX7_point_155 0 rfl ?_
    refine jj_getI (pc := 156) (ci := 7) (k := 5) dX7_point_156 rfl rfl (by decide) rfl lk_RX7_60 ?_
    refine jj_iconst (pc := 159) (v := 1) dX7_point_159 (by decide) ?_
    refine jj_isub (pc := 160) dX7_point_160 ?_
    exact jj_iret (pc := 161) dX7_point_161 rfl h
  · replace h := h.2 c1
    refine jj_aload_n (pc := 120) dX7_point_120 0 rfl ?_
    refine jj_getR (pc := 121) (ci := 7) (k := 3) dX7_point_121 rfl rfl (by decide) rfl lk_RX7_19 ?_
    refine jj_iload_n (pc := 124) dX7_point_124 3 rfl ?_
    refine jj_iconst (pc := 125) (v := 0) dX7_point_125 (by decide) ?_
    refine jj_iast (pc := 126) dX7_point_126 rfl h.1 ?_
    replace h := h.2
    refine jj_aload_n (pc := 127) dX7_point_127 0 rfl ?_
    refine jj_getR (pc := 128) (ci := 7) (k := 4) dX7_point_128 rfl rfl (by decide) rfl lk_RX7_22 ?_
    refine jj_iload_n (pc := 131) dX7_point_131 3 rfl ?_
    refine jj_iconst (pc := 132) (v := 0) dX7_point_132 (by decide) ?_
    refine jj_iast (pc := 133) dX7_point_133 rfl h.1 ?_
    replace h := h.2
    refine jj_iinc (pc := 134) (v := a3 + 1) (l2 := [(3, .int (a3 + 1)), (0, .ref 58), (1, .int a1), (2, .int a2)]) dX7_point_134 3 rfl rfl (by decide) rfl ?_
    refine jj_goto (pc := 137) (tgt := 108) dX7_point_137 (by decide) ?_
    exact jj_sub [1, 2, 3, 0] rfl h
set_option maxRecDepth 100000 in
set_option maxHeartbeats 4000000 in
theorem vc_X7_back_0 {K : jj_K} (R : Int32 → wo_T → Prop)   (w : wo_T)
    (h : (¬ (w.1 58 5) = 0 → jj_Ci K mX7_pairs [.ref 58] (wo_i w 58 5 ((w.1 58 5) - 1)) (fun v2 w3 => R ((wo_i (wo_i w3 58 6 (((wo_i w 58 5 ((w.1 58 5) - 1)).1 58 6) &&& (((1 : Int32) <<< (v2 &&& 31)) - 1))) 58 13 0).1 58 5) (wo_i (wo_i w3 58 6 (((wo_i w 58 5 ((w.1 58 5) - 1)).1 58 6) &&& (((1 : Int32) <<< (v2 &&& 31)) - 1))) 58 13 0))) ∧ ((w.1 58 5) = 0 → R (-3) w)) :
    jj_J K mX7_back (jj_Ri R) 0 [(0, .ref 58)] [] w := by
  refine jj_aload_n (pc := 0) dX7_back_0 0 rfl ?_
  refine jj_getI (pc := 1) (ci := 7) (k := 5) dX7_back_1 rfl rfl (by decide) rfl lk_RX7_60 ?_
  refine jj_if_ne (pc := 4) (tgt := 10) dX7_back_4 (by decide) (fun c1 => ?_) (fun c1 => ?_)
  · replace h := h.1 c1
    refine jj_aload_n (pc := 10) dX7_back_10 0 rfl ?_
    refine jj_dup (pc := 11) dX7_back_11 rfl ?_
    refine jj_getI (pc := 12) (ci := 7) (k := 5) dX7_back_12 rfl rfl (by decide) rfl lk_RX7_60 ?_
    refine jj_iconst (pc := 15) (v := 1) dX7_back_15 (by decide) ?_
    refine jj_isub (pc := 16) dX7_back_16 ?_
    refine jj_putI (pc := 17) (ci := 7) (k := 5) (ty := .int) dX7_back_17 rfl rfl (by decide) rfl lk_RX7_60 rfl (by decide) rfl rfl ?_
    refine jj_aload_n (pc := 20) dX7_back_20 0 rfl ?_
    refine jj_dup (pc := 21) dX7_back_21 rfl ?_
    refine jj_getI (pc := 22) (ci := 7) (k := 6) dX7_back_22 rfl rfl (by decide) rfl lk_RX7_76 ?_
    refine jj_iconst (pc := 25) (v := 1) dX7_back_25 (by decide) ?_
    refine jj_aload_n (pc := 26) dX7_back_26 0 rfl ?_
    refine jj_callVi (pc := 27) (N := mX7_pairs) (as := []) (st := [.int 1, .int ((wo_i w 58 5 ((w.1 58 5) - 1)).1 58 6), .ref 58]) dX7_back_27 rfl rfl rfl lk_RX7_68 hv_X7_pairs rfl rfl h (fun v2 w3 h => ?_)
    refine jj_ishl (pc := 30) dX7_back_30 ?_
    refine jj_iconst (pc := 31) (v := 1) dX7_back_31 (by decide) ?_
    refine jj_isub (pc := 32) dX7_back_32 ?_
    refine jj_iand (pc := 33) dX7_back_33 ?_
    refine jj_putI (pc := 34) (ci := 7) (k := 6) (ty := .int) dX7_back_34 rfl rfl (by decide) rfl lk_RX7_76 rfl (by decide) rfl rfl ?_
    refine jj_aload_n (pc := 37) dX7_back_37 0 rfl ?_
    refine jj_iconst (pc := 38) (v := 0) dX7_back_38 (by decide) ?_
    refine jj_putI (pc := 39) (ci := 7) (k := 13) (ty := .boolean) dX7_back_39 rfl rfl (by decide) rfl lk_RX7_90 rfl (by decide) rfl rfl ?_
    refine jj_aload_n (pc := 42) dX7_back_42 0 rfl ?_
    refine jj_getI (pc := 43) (ci := 7) (k := 5) dX7_back_43 rfl rfl (by decide) rfl lk_RX7_60 ?_
    exact jj_iret (pc := 46) dX7_back_46 rfl h
  · replace h := h.2 c1
    refine jj_bipush (pc := 7) (v := (-3)) dX7_back_7 (by decide) ?_
    exact jj_iret (pc := 9) dX7_back_9 rfl h
theorem en_X7_back {K : jj_K} (R : Int32 → wo_T → Prop)   (w : wo_T)
    (h : (¬ (w.1 58 5) = 0 → jj_Ci K mX7_pairs [.ref 58] (wo_i w 58 5 ((w.1 58 5) - 1)) (fun v2 w3 => R ((wo_i (wo_i w3 58 6 (((wo_i w 58 5 ((w.1 58 5) - 1)).1 58 6) &&& (((1 : Int32) <<< (v2 &&& 31)) - 1))) 58 13 0).1 58 5) (wo_i (wo_i w3 58 6 (((wo_i w 58 5 ((w.1 58 5) - 1)).1 58 6) &&& (((1 : Int32) <<< (v2 &&& 31)) - 1))) 58 13 0))) ∧ ((w.1 58 5) = 0 → R (-3) w)) : jj_Ci K mX7_back [.ref 58] w R :=
  jj_Ci_intro pn_RX7 (Nat.le_of_ble_eq_true rfl) (vc_X7_back_0 R  w h)
set_option maxRecDepth 100000 in
set_option maxHeartbeats 4000000 in
theorem vc_X7_hold_0 {K : jj_K} (R : Int32 → wo_T → Prop)  (a1 : Int32) (a2 : Int32) (w : wo_T)
    (h : jj_Ci K mX7_isPoint [.ref 58, .int a1] w (fun v1 w2 => (v1 = 0 → R (-2) w2) ∧ (¬ v1 = 0 → jj_Ci K mX7_in [.int a2, .int 0, .int 3] w2 (fun v4 w5 => (¬ v4 = 0 → vp_in a1 5 ∧ (∀ x7 : Int32, x7 = w5.1 61 a1.toNatClampNeg → (vp_in a1 5 ∧ (R x7 (wo_i (wo_i w5 61 a1.toNatClampNeg a2) 58 13 0))))) ∧ (v4 = 0 → R (-2) w5))))) :
    jj_J K mX7_hold (jj_Ri R) 0 [(0, .ref 58), (1, .int a1), (2, .int a2)] [] w := by
  refine jj_aload_n (pc := 0) dX7_hold_0 0 rfl ?_
  refine jj_iload_n (pc := 1) dX7_hold_1 1 rfl ?_
  refine jj_callVi (pc := 2) (N := mX7_isPoint) (as := [.int a1]) (st := []) dX7_hold_2 rfl rfl rfl lk_RX7_94 hv_X7_isPoint rfl rfl h (fun v1 w2 h => ?_)
  refine jj_if_eq (pc := 5) (tgt := 17) dX7_hold_5 (by decide) (fun c3 => ?_) (fun c3 => ?_)
  · replace h := h.1 c3
    refine jj_bipush (pc := 17) (v := (-2)) dX7_hold_17 (by decide) ?_
    exact jj_iret (pc := 19) dX7_hold_19 rfl h
  · replace h := h.2 c3
    refine jj_iload_n (pc := 8) dX7_hold_8 2 rfl ?_
    refine jj_iconst (pc := 9) (v := 0) dX7_hold_9 (by decide) ?_
    refine jj_iconst (pc := 10) (v := 3) dX7_hold_10 (by decide) ?_
    refine jj_callSi (pc := 11) (N := mX7_in) (as := [.int a2, .int 0, .int 3]) (st := []) dX7_hold_11 lk_RX7_64 hv_X7_in rfl rfl h (fun v4 w5 h => ?_)
    refine jj_if_ne (pc := 14) (tgt := 20) dX7_hold_14 (by decide) (fun c6 => ?_) (fun c6 => ?_)
    · replace h := h.1 c6
      refine jj_aload_n (pc := 20) dX7_hold_20 0 rfl ?_
      refine jj_getR (pc := 21) (ci := 7) (k := 2) dX7_hold_21 rfl rfl (by decide) rfl lk_RX7_16 ?_
      refine jj_iload_n (pc := 24) dX7_hold_24 1 rfl ?_
      refine jj_iald (pc := 25) dX7_hold_25 rfl h.1 ?_
      replace h := h.2
      refine jj_nmi (fun x7 ex7 => ?_)
      replace h := h x7 ex7
      refine jj_istore_n (pc := 26) (l2 := [(3, .int x7), (0, .ref 58), (1, .int a1), (2, .int a2)]) dX7_hold_26 (by decide) rfl ?_
      refine jj_aload_n (pc := 27) dX7_hold_27 1 rfl ?_
      refine jj_getR (pc := 28) (ci := 7) (k := 2) dX7_hold_28 rfl rfl (by decide) rfl lk_RX7_16 ?_
      refine jj_iload_n (pc := 31) dX7_hold_31 2 rfl ?_
      refine jj_iload_n (pc := 32) dX7_hold_32 3 rfl ?_
      refine jj_iast (pc := 33) dX7_hold_33 rfl h.1 ?_
      replace h := h.2
      refine jj_aload_n (pc := 34) dX7_hold_34 1 rfl ?_
      refine jj_iconst (pc := 35) (v := 0) dX7_hold_35 (by decide) ?_
      refine jj_putI (pc := 36) (ci := 7) (k := 13) (ty := .boolean) dX7_hold_36 rfl rfl (by decide) rfl lk_RX7_90 rfl (by decide) rfl rfl ?_
      refine jj_iload_n (pc := 39) dX7_hold_39 0 rfl ?_
      exact jj_iret (pc := 40) dX7_hold_40 rfl h
    · replace h := h.2 c6
      refine jj_bipush (pc := 17) (v := (-2)) dX7_hold_17 (by decide) ?_
      exact jj_iret (pc := 19) dX7_hold_19 rfl h
theorem en_X7_hold {K : jj_K} (R : Int32 → wo_T → Prop)  (a1 : Int32) (a2 : Int32) (w : wo_T)
    (h : jj_Ci K mX7_isPoint [.ref 58, .int a1] w (fun v1 w2 => (v1 = 0 → R (-2) w2) ∧ (¬ v1 = 0 → jj_Ci K mX7_in [.int a2, .int 0, .int 3] w2 (fun v4 w5 => (¬ v4 = 0 → vp_in a1 5 ∧ (∀ x7 : Int32, x7 = w5.1 61 a1.toNatClampNeg → (vp_in a1 5 ∧ (R x7 (wo_i (wo_i w5 61 a1.toNatClampNeg a2) 58 13 0))))) ∧ (v4 = 0 → R (-2) w5))))) : jj_Ci K mX7_hold [.ref 58, .int a1, .int a2] w R :=
  jj_Ci_intro pn_RX7 (Nat.le_of_ble_eq_true rfl) (vc_X7_hold_0 R a1 a2 w h)
set_option maxRecDepth 100000 in
set_option maxHeartbeats 4000000 in
theorem vc_X7_load_0 {K : jj_K} (R : Int32 → wo_T → Prop)  (a1 : Int32) (a2 : Int32) (a3 : Int32) (w : wo_T)
    (h : jj_Ci K mX7_isPoint [.ref 58, .int a1] w (fun v1 w2 => (v1 = 0 → R (-2147483648) w2) ∧ (¬ v1 = 0 → jj_Ci K mX7_in [.int a2, .int 0, .int 1] w2 (fun v4 w5 => (v4 = 0 → R (-2147483648) w5) ∧ (¬ v4 = 0 → jj_Ci K mX7_in [.int a3, .int (-9), .int 9] w5 (fun v7 w8 => (¬ v7 = 0 → vp_in ((2 * a1) + a2) 10 ∧ (∀ x10 : Int32, x10 = w8.1 62 ((2 * a1) + a2).toNatClampNeg → (vp_in ((2 * a1) + a2) 10 ∧ (R x10 (wo_i (wo_i w8 62 ((2 * a1) + a2).toNatClampNeg a3) 58 13 0))))) ∧ (v7 = 0 → R (-2147483648) w8))))))) :
    jj_J K mX7_load (jj_Ri R) 0 [(0, .ref 58), (1, .int a1), (2, .int a2), (3, .int a3)] [] w := by
  refine jj_aload_n (pc := 0) dX7_load_0 0 rfl ?_
  refine jj_iload_n (pc := 1) dX7_load_1 1 rfl ?_
  refine jj_callVi (pc := 2) (N := mX7_isPoint) (as := [.int a1]) (st := []) dX7_load_2 rfl rfl rfl lk_RX7_94 hv_X7_isPoint rfl rfl h (fun v1 w2 h => ?_)
  refine jj_if_eq (pc := 5) (tgt := 28) dX7_load_5 (by decide) (fun c3 => ?_) (fun c3 => ?_)
  · replace h := h.1 c3
    refine jj_ldc (pc := 28) (v := (-2147483648)) dX7_load_28 lk_RX7_97 ?_
    exact jj_iret (pc := 30) dX7_load_30 rfl h
  · replace h := h.2 c3
    refine jj_iload_n (pc := 8) dX7_load_8 2 rfl ?_
    refine jj_iconst (pc := 9) (v := 0) dX7_load_9 (by decide) ?_
    refine jj_iconst (pc := 10) (v := 1) dX7_load_10 (by decide) ?_
    refine jj_callSi (pc := 11) (N := mX7_in) (as := [.int a2, .int 0, .int 1]) (st := []) dX7_load_11 lk_RX7_64 hv_X7_in rfl rfl h (fun v4 w5 h => ?_)
    refine jj_if_eq (pc := 14) (tgt := 28) dX7_load_14 (by decide) (fun c6 => ?_) (fun c6 => ?_)
    · replace h := h.1 c6
      refine jj_ldc (pc := 28) (v := (-2147483648)) dX7_load_28 lk_RX7_97 ?_
      exact jj_iret (pc := 30) dX7_load_30 rfl h
    · replace h := h.2 c6
      refine jj_iload_n (pc := 17) dX7_load_17 3 rfl ?_
      refine jj_bipush (pc := 18) (v := (-9)) dX7_load_18 (by decide) ?_
      refine jj_bipush (pc := 20) (v := 9) dX7_load_20 (by decide) ?_
      refine jj_callSi (pc := 22) (N := mX7_in) (as := [.int a3, .int (-9), .int 9]) (st := []) dX7_load_22 lk_RX7_64 hv_X7_in rfl rfl h (fun v7 w8 h => ?_)
      refine jj_if_ne (pc := 25) (tgt := 31) dX7_load_25 (by decide) (fun c9 => ?_) (fun c9 => ?_)
      · replace h := h.1 c9
        refine jj_aload_n (pc := 31) dX7_load_31 0 rfl ?_
        refine jj_getR (pc := 32) (ci := 7) (k := 3) dX7_load_32 rfl rfl (by decide) rfl lk_RX7_19 ?_
        refine jj_iconst (pc := 35) (v := 2) dX7_load_35 (by decide) ?_
        refine jj_iload_n (pc := 36) dX7_load_36 1 rfl ?_
        refine jj_imul (pc := 37) dX7_load_37 ?_
        refine jj_iload_n (pc := 38) dX7_load_38 2 rfl ?_
        refine jj_iadd (pc := 39) dX7_load_39 ?_
        refine jj_iald (pc := 40) dX7_load_40 rfl h.1 ?_
        replace h := h.2
        refine jj_nmi (fun x10 ex10 => ?_)
        replace h := h x10 ex10
        refine jj_istore (pc := 41) (l2 := [(4, .int x10), (0, .ref 58), (1, .int a1), (2, .int a2), (3, .int a3)]) dX7_load_41 (by decide) rfl ?_
        refine jj_aload_n (pc := 43) dX7_load_43 1 rfl ?_
        refine jj_getR (pc := 44) (ci := 7) (k := 3) dX7_load_44 rfl rfl (by decide) rfl lk_RX7_19 ?_
        refine jj_iconst (pc := 47) (v := 2) dX7_load_47 (by decide) ?_
        refine jj_iload_n (pc := 48) dX7_load_48 2 rfl ?_
        refine jj_imul (pc := 49) dX7_load_49 ?_
        refine jj_iload_n (pc := 50) dX7_load_50 3 rfl ?_
        refine jj_iadd (pc := 51) dX7_load_51 ?_
        refine jj_iload_n (pc := 52) dX7_load_52 4 rfl ?_
        refine jj_iast (pc := 53) dX7_load_53 rfl h.1 ?_
        replace h := h.2
        refine jj_aload_n (pc := 54) dX7_load_54 1 rfl ?_
        refine jj_iconst (pc := 55) (v := 0) dX7_load_55 (by decide) ?_
        refine jj_putI (pc := 56) (ci := 7) (k := 13) (ty := .boolean) dX7_load_56 rfl rfl (by decide) rfl lk_RX7_90 rfl (by decide) rfl rfl ?_
        refine jj_iload (pc := 59) dX7_load_59 0 rfl ?_
        exact jj_iret (pc := 61) dX7_load_61 rfl h
      · replace h := h.2 c9
        refine jj_ldc (pc := 28) (v := (-2147483648)) dX7_load_28 lk_RX7_97 ?_
        exact jj_iret (pc := 30) dX7_load_30 rfl h
theorem en_X7_load {K : jj_K} (R : Int32 → wo_T → Prop)  (a1 : Int32) (a2 : Int32) (a3 : Int32) (w : wo_T)
    (h : jj_Ci K mX7_isPoint [.ref 58, .int a1] w (fun v1 w2 => (v1 = 0 → R (-2147483648) w2) ∧ (¬ v1 = 0 → jj_Ci K mX7_in [.int a2, .int 0, .int 1] w2 (fun v4 w5 => (v4 = 0 → R (-2147483648) w5) ∧ (¬ v4 = 0 → jj_Ci K mX7_in [.int a3, .int (-9), .int 9] w5 (fun v7 w8 => (¬ v7 = 0 → vp_in ((2 * a1) + a2) 10 ∧ (∀ x10 : Int32, x10 = w8.1 62 ((2 * a1) + a2).toNatClampNeg → (vp_in ((2 * a1) + a2) 10 ∧ (R x10 (wo_i (wo_i w8 62 ((2 * a1) + a2).toNatClampNeg a3) 58 13 0))))) ∧ (v7 = 0 → R (-2147483648) w8))))))) : jj_Ci K mX7_load [.ref 58, .int a1, .int a2, .int a3] w R :=
  jj_Ci_intro pn_RX7 (Nat.le_of_ble_eq_true rfl) (vc_X7_load_0 R a1 a2 a3 w h)
set_option maxRecDepth 100000 in
set_option maxHeartbeats 4000000 in
theorem vc_X7_bar_0 {K : jj_K} (R : Int32 → wo_T → Prop)  (a1 : Int32) (w : wo_T)
    (h : jj_Ci K mX7_isPair [.ref 58, .int a1] w (fun v1 w2 => (¬ v1 = 0 → R ((wo_i w2 58 6 ((w2.1 58 6) ^^^ ((1 : Int32) <<< (a1 &&& 31)))).1 58 6) (wo_i w2 58 6 ((w2.1 58 6) ^^^ ((1 : Int32) <<< (a1 &&& 31))))) ∧ (v1 = 0 → R (-2) w2))) :
    jj_J K mX7_bar (jj_Ri R) 0 [(0, .ref 58), (1, .int a1)] [] w := by
  refine jj_aload_n (pc := 0) dX7_bar_0 0 rfl ?_
  refine jj_iload_n (pc := 1) dX7_bar_1 1 rfl ?_
  refine jj_callVi (pc := 2) (N := mX7_isPair) (as := [.int a1]) (st := []) dX7_bar_2 rfl rfl rfl lk_RX7_72 hv_X7_isPair rfl rfl h (fun v1 w2 h => ?_)
  refine jj_if_ne (pc := 5) (tgt := 11) dX7_bar_5 (by decide) (fun c3 => ?_) (fun c3 => ?_)
  · replace h := h.1 c3
    refine jj_aload_n (pc := 11) dX7_bar_11 0 rfl ?_
    refine jj_dup (pc := 12) dX7_bar_12 rfl ?_
    refine jj_getI (pc := 13) (ci := 7) (k := 6) dX7_bar_13 rfl rfl (by decide) rfl lk_RX7_76 ?_
    refine jj_iconst (pc := 16) (v := 1) dX7_bar_16 (by decide) ?_
    refine jj_iload_n (pc := 17) dX7_bar_17 1 rfl ?_
    refine jj_ishl (pc := 18) dX7_bar_18 ?_
    refine jj_ixor (pc := 19) dX7_bar_19 ?_
    refine jj_putI (pc := 20) (ci := 7) (k := 6) (ty := .int) dX7_bar_20 rfl rfl (by decide) rfl lk_RX7_76 rfl (by decide) rfl rfl ?_
    refine jj_aload_n (pc := 23) dX7_bar_23 0 rfl ?_
    refine jj_getI (pc := 24) (ci := 7) (k := 6) dX7_bar_24 rfl rfl (by decide) rfl lk_RX7_76 ?_
    exact jj_iret (pc := 27) dX7_bar_27 rfl h
  · replace h := h.2 c3
    refine jj_bipush (pc := 8) (v := (-2)) dX7_bar_8 (by decide) ?_
    exact jj_iret (pc := 10) dX7_bar_10 rfl h
theorem en_X7_bar {K : jj_K} (R : Int32 → wo_T → Prop)  (a1 : Int32) (w : wo_T)
    (h : jj_Ci K mX7_isPair [.ref 58, .int a1] w (fun v1 w2 => (¬ v1 = 0 → R ((wo_i w2 58 6 ((w2.1 58 6) ^^^ ((1 : Int32) <<< (a1 &&& 31)))).1 58 6) (wo_i w2 58 6 ((w2.1 58 6) ^^^ ((1 : Int32) <<< (a1 &&& 31))))) ∧ (v1 = 0 → R (-2) w2))) : jj_Ci K mX7_bar [.ref 58, .int a1] w R :=
  jj_Ci_intro pn_RX7 (Nat.le_of_ble_eq_true rfl) (vc_X7_bar_0 R a1 w h)
set_option maxRecDepth 100000 in
set_option maxHeartbeats 4000000 in
theorem vc_X7_all_0 {K : jj_K} (R : Int32 → wo_T → Prop)   (w : wo_T)
    (h : jj_Ci K mX7_pairs [.ref 58] w (fun v1 w2 => jj_Ci K mX7_pairs [.ref 58] (wo_i w2 58 6 (((1 : Int32) <<< (v1 &&& 31)) - 1)) (fun v3 w4 => R v3 w4))) :
    jj_J K mX7_all (jj_Ri R) 0 [(0, .ref 58)] [] w := by
  refine jj_aload_n (pc := 0) dX7_all_0 0 rfl ?_
  refine jj_iconst (pc := 1) (v := 1) dX7_all_1 (by decide) ?_
  refine jj_aload_n (pc := 2) dX7_all_2 0 rfl ?_
  refine jj_callVi (pc := 3) (N := mX7_pairs) (as := []) (st := [.int 1, .ref 58]) dX7_all_3 rfl rfl rfl lk_RX7_68 hv_X7_pairs rfl rfl h (fun v1 w2 h => ?_)
  refine jj_ishl (pc := 6) dX7_all_6 ?_
  refine jj_iconst (pc := 7) (v := 1) dX7_all_7 (by decide) ?_
  refine jj_isub (pc := 8) dX7_all_8 ?_
  refine jj_putI (pc := 9) (ci := 7) (k := 6) (ty := .int) dX7_all_9 rfl rfl (by decide) rfl lk_RX7_76 rfl (by decide) rfl rfl ?_
  refine jj_aload_n (pc := 12) dX7_all_12 0 rfl ?_
  refine jj_callVi (pc := 13) (N := mX7_pairs) (as := []) (st := []) dX7_all_13 rfl rfl rfl lk_RX7_68 hv_X7_pairs rfl rfl h (fun v3 w4 h => ?_)
  exact jj_iret (pc := 16) dX7_all_16 rfl h
theorem en_X7_all {K : jj_K} (R : Int32 → wo_T → Prop)   (w : wo_T)
    (h : jj_Ci K mX7_pairs [.ref 58] w (fun v1 w2 => jj_Ci K mX7_pairs [.ref 58] (wo_i w2 58 6 (((1 : Int32) <<< (v1 &&& 31)) - 1)) (fun v3 w4 => R v3 w4))) : jj_Ci K mX7_all [.ref 58] w R :=
  jj_Ci_intro pn_RX7 (Nat.le_of_ble_eq_true rfl) (vc_X7_all_0 R  w h)
set_option maxRecDepth 100000 in
set_option maxHeartbeats 4000000 in
theorem vc_X7_read_0 {K : jj_K} (R : Int32 → wo_T → Prop)  (a1 : Int32) (w : wo_T)
    (h : jj_Ci K mX7_isSheet [.int a1] w (fun v1 w2 => (¬ v1 = 0 → vp_in a1 4 ∧ ((¬ (w2.1 69 a1.toNatClampNeg) = (-1) → jj_J K mX7_read (jj_Ri R) 28 [(0, .ref 58), (1, .int a1), (2, .int 0)] [] w2) ∧ ((w2.1 69 a1.toNatClampNeg) = (-1) → jj_Ci K mX7_meets [.ref 58, .int 1] w2 (fun v5 w6 => R v5 w6)))) ∧ (v1 = 0 → R (-2) w2))) :
    jj_J K mX7_read (jj_Ri R) 0 [(0, .ref 58), (1, .int a1)] [] w := by
  refine jj_iload_n (pc := 0) dX7_read_0 1 rfl ?_
  refine jj_callSi (pc := 1) (N := mX7_isSheet) (as := [.int a1]) (st := []) dX7_read_1 lk_RX7_98 hv_X7_isSheet rfl rfl h (fun v1 w2 h => ?_)
  refine jj_if_ne (pc := 4) (tgt := 10) dX7_read_4 (by decide) (fun c3 => ?_) (fun c3 => ?_)
  · replace h := h.1 c3
    refine jj_aload_n (pc := 10) dX7_read_10 0 rfl ?_
    refine jj_getR (pc := 11) (ci := 7) (k := 17) dX7_read_11 rfl rfl (by decide) rfl lk_RX7_42 ?_
    refine jj_iload_n (pc := 14) dX7_read_14 1 rfl ?_
    refine jj_iald (pc := 15) dX7_read_15 rfl h.1 ?_
    replace h := h.2
    refine jj_iconst (pc := 16) (v := (-1)) dX7_read_16 (by decide) ?_
    refine jj_icmp_ne (pc := 17) (tgt := 26) dX7_read_17 (by decide) (fun c4 => ?_) (fun c4 => ?_)
    · replace h := h.1 c4
      refine jj_iconst (pc := 26) (v := 0) dX7_read_26 (by decide) ?_
      refine jj_istore_n (pc := 27) (l2 := [(2, .int 0), (0, .ref 58), (1, .int a1)]) dX7_read_27 (by decide) rfl ?_
      exact jj_sub [1, 2, 0] rfl h
    · replace h := h.2 c4
      refine jj_aload_n (pc := 20) dX7_read_20 0 rfl ?_
      refine jj_iconst (pc := 21) (v := 1) dX7_read_21 (by decide) ?_
      refine jj_callVi (pc := 22) (N := mX7_meets) (as := [.int 1]) (st := []) dX7_read_22 rfl rfl rfl lk_RX7_101 hv_X7_meets rfl rfl h (fun v5 w6 h => ?_)
      exact jj_iret (pc := 25) dX7_read_25 rfl h
  · replace h := h.2 c3
    refine jj_bipush (pc := 7) (v := (-2)) dX7_read_7 (by decide) ?_
    exact jj_iret (pc := 9) dX7_read_9 rfl h
theorem en_X7_read {K : jj_K} (R : Int32 → wo_T → Prop)  (a1 : Int32) (w : wo_T)
    (h : jj_Ci K mX7_isSheet [.int a1] w (fun v1 w2 => (¬ v1 = 0 → vp_in a1 4 ∧ ((¬ (w2.1 69 a1.toNatClampNeg) = (-1) → jj_J K mX7_read (jj_Ri R) 28 [(0, .ref 58), (1, .int a1), (2, .int 0)] [] w2) ∧ ((w2.1 69 a1.toNatClampNeg) = (-1) → jj_Ci K mX7_meets [.ref 58, .int 1] w2 (fun v5 w6 => R v5 w6)))) ∧ (v1 = 0 → R (-2) w2))) : jj_Ci K mX7_read [.ref 58, .int a1] w R :=
  jj_Ci_intro pn_RX7 (Nat.le_of_ble_eq_true rfl) (vc_X7_read_0 R a1 w h)
set_option maxRecDepth 100000 in
set_option maxHeartbeats 4000000 in
theorem vc_X7_read_28 {K : jj_K} (R : Int32 → wo_T → Prop)  (a1 : Int32) (a2 : Int32) (w : wo_T)
    (h : vp_in a1 4 ∧ (((w.1 70 a1.toNatClampNeg) ≤ a2 → R a2 (wo_i w 58 13 0)) ∧ (¬ (w.1 70 a1.toNatClampNeg) ≤ a2 → ((2 * (w.1 58 5)) ≤ a2 → R a2 (wo_i w 58 13 0)) ∧ (¬ (2 * (w.1 58 5)) ≤ a2 → vp_in ((40 * a1) + a2) 160 ∧ (((w.2 71 ((40 * a1) + a2).toNatClampNeg) < (-9) → R a2 (wo_i w 58 13 0)) ∧ (¬ (w.2 71 ((40 * a1) + a2).toNatClampNeg) < (-9) → vp_in ((40 * a1) + a2) 160 ∧ ((9 < (w.2 71 ((40 * a1) + a2).toNatClampNeg) → R a2 (wo_i w 58 13 0)) ∧ (¬ 9 < (w.2 71 ((40 * a1) + a2).toNatClampNeg) → vp_in ((40 * a1) + a2) 160 ∧ (vp_in a2 10 ∧ (jj_J K mX7_read (jj_Ri R) 28 [(0, .ref 58), (1, .int a1), (2, .int (a2 + 1))] [] (wo_i w 62 a2.toNatClampNeg ((w.2 71 ((40 * a1) + a2).toNatClampNeg).toInt32)))))))))))) :
    jj_J K mX7_read (jj_Ri R) 28 [(0, .ref 58), (1, .int a1), (2, .int a2)] [] w := by
  refine jj_iload_n (pc := 28) dX7_read_28 2 rfl ?_
  refine jj_aload_n (pc := 29) dX7_read_29 0 rfl ?_
  refine jj_getR (pc := 30) (ci := 7) (k := 18) dX7_read_30 rfl rfl (by decide) rfl lk_RX7_45 ?_
  refine jj_iload_n (pc := 33) dX7_read_33 1 rfl ?_
  refine jj_iald (pc := 34) dX7_read_34 rfl h.1 ?_
  replace h := h.2
  refine jj_icmp_ge (pc := 35) (tgt := 108) dX7_read_35 (by decide) (fun c1 => ?_) (fun c1 => ?_)
  · replace h := h.1 c1
    refine jj_aload_n (pc := 108) dX7_read_108 0 rfl ?_
    refine jj_iconst (pc := 109) (v := 0) dX7_read_109 (by decide) ?_
    refine jj_putI (pc := 110) (ci := 7) (k := 13) (ty := .boolean) dX7_read_110 rfl rfl (by decide) rfl lk_RX7_90 rfl (by decide) rfl rfl ?_
    refine jj_iload_n (pc := 113) dX7_read_113 2 rfl ?_
    exact jj_iret (pc := 114) dX7_read_114 rfl h
  · replace h := h.2 c1
    refine jj_iload_n (pc := 38) dX7_read_38 2 rfl ?_
    refine jj_iconst (pc := 39) (v := 2) dX7_read_39 (by decide) ?_
    refine jj_aload_n (pc := 40) dX7_read_40 0 rfl ?_
    refine jj_getI (pc := 41) (ci := 7) (k := 5) dX7_read_41 rfl rfl (by decide) rfl lk_RX7_60 ?_
    refine jj_imul (pc := 44) dX7_read_44 ?_
    refine jj_icmp_ge (pc := 45) (tgt := 108) dX7_read_45 (by decide) (fun c2 => ?_) (fun c2 => ?_)
    · replace h := h.1 c2
      refine jj_aload_n (pc := 108) dX7_read_108 0 rfl ?_
      refine jj_iconst (pc := 109) (v := 0) dX7_read_109 (by decide) ?_
      refine jj_putI (pc := 110) (ci := 7) (k := 13) (ty := .boolean) dX7_read_110 rfl rfl (by decide) rfl lk_RX7_90 rfl (by decide) rfl rfl ?_
      refine jj_iload_n (pc := 113) dX7_read_113 2 rfl ?_
      exact jj_iret (pc := 114) dX7_read_114 rfl h
    · replace h := h.2 c2
      refine jj_aload_n (pc := 48) dX7_read_48 0 rfl ?_
      refine jj_getR (pc := 49) (ci := 7) (k := 19) dX7_read_49 rfl rfl (by decide) rfl lk_RX7_48 ?_
      refine jj_bipush (pc := 52) (v := 40) dX7_read_52 (by decide) ?_
      refine jj_iload_n (pc := 54) dX7_read_54 1 rfl ?_
      refine jj_imul (pc := 55) dX7_read_55 ?_
      refine jj_iload_n (pc := 56) dX7_read_56 2 rfl ?_
      refine jj_iadd (pc := 57) dX7_read_57 ?_
      refine jj_lald (pc := 58) dX7_read_58 rfl h.1 ?_
      replace h := h.2
      refine jj_ldc2 (pc := 59) (v := (-9)) dX7_read_59 lk_RX7_104 ?_
      refine jj_lcmp_lt (pc := 62) (tgt := 108) dX7_read_62 dX7_read_63 (by decide) (fun c3 => ?_) (fun c3 => ?_)
      · replace h := h.1 c3
        refine jj_aload_n (pc := 108) dX7_read_108 0 rfl ?_
        refine jj_iconst (pc := 109) (v := 0) dX7_read_109 (by decide) ?_
        refine jj_putI (pc := 110) (ci := 7) (k := 13) (ty := .boolean) dX7_read_110 rfl rfl (by decide) rfl lk_RX7_90 rfl (by decide) rfl rfl ?_
        refine jj_iload_n (pc := 113) dX7_read_113 2 rfl ?_
        exact jj_iret (pc := 114) dX7_read_114 rfl h
      · replace h := h.2 c3
        refine jj_aload_n (pc := 66) dX7_read_66 0 rfl ?_
        refine jj_getR (pc := 67) (ci := 7) (k := 19) dX7_read_67 rfl rfl (by decide) rfl lk_RX7_48 ?_
        refine jj_bipush (pc := 70) (v := 40) dX7_read_70 (by decide) ?_
        refine jj_iload_n (pc := 72) dX7_read_72 1 rfl ?_
        refine jj_imul (pc := 73) dX7_read_73 ?_
        refine jj_iload_n (pc := 74) dX7_read_74 2 rfl ?_
        refine jj_iadd (pc := 75) dX7_read_75 ?_
        refine jj_lald (pc := 76) dX7_read_76 rfl h.1 ?_
        replace h := h.2
        refine jj_ldc2 (pc := 77) (v := 9) dX7_read_77 lk_RX7_106 ?_
        refine jj_lcmp_gt (pc := 80) (tgt := 108) dX7_read_80 dX7_read_81 (by decide) (fun c4 => ?_) (fun c4 => ?_)
        · replace h := h.1 c4
          refine jj_aload_n (pc := 108) dX7_read_108 0 rfl ?_
          refine jj_iconst (pc := 109) (v := 0) dX7_read_109 (by decide) ?_
          refine jj_putI (pc := 110) (ci := 7) (k := 13) (ty := .boolean) dX7_read_110 rfl rfl (by decide) rfl lk_RX7_90 rfl (by decide) rfl rfl ?_
          refine jj_iload_n (pc := 113) dX7_read_113 2 rfl ?_
          exact jj_iret (pc := 114) dX7_read_114 rfl h
        · replace h := h.2 c4
          refine jj_aload_n (pc := 84) dX7_read_84 0 rfl ?_
          refine jj_getR (pc := 85) (ci := 7) (k := 3) dX7_read_85 rfl rfl (by decide) rfl lk_RX7_19 ?_
          refine jj_iload_n (pc := 88) dX7_read_88 2 rfl ?_
          refine jj_aload_n (pc := 89) dX7_read_89 0 rfl ?_
          refine jj_getR (pc := 90) (ci := 7) (k := 19) dX7_read_90 rfl rfl (by decide) rfl lk_RX7_48 ?_
          refine jj_bipush (pc := 93) (v := 40) dX7_read_93 (by decide) ?_
          refine jj_iload_n (pc := 95) dX7_read_95 1 rfl ?_
          refine jj_imul (pc := 96) dX7_read_96 ?_
          refine jj_iload_n (pc := 97) dX7_read_97 2 rfl ?_
          refine jj_iadd (pc := 98) dX7_read_98 ?_
          refine jj_lald (pc := 99) dX7_read_99 rfl h.1 ?_
          replace h := h.2
          refine jj_l2i (pc := 100) dX7_read_100 ?_
          refine jj_iast (pc := 101) dX7_read_101 rfl h.1 ?_
          replace h := h.2
          refine jj_iinc (pc := 102) (v := a2 + 1) (l2 := [(2, .int (a2 + 1)), (0, .ref 58), (1, .int a1)]) dX7_read_102 2 rfl rfl (by decide) rfl ?_
          refine jj_goto (pc := 105) (tgt := 28) dX7_read_105 (by decide) ?_
          exact jj_sub [1, 2, 0] rfl h
set_option maxRecDepth 100000 in
set_option maxHeartbeats 4000000 in
theorem vc_X7_infoOf_0 {K : jj_K} (R : Int32 → wo_T → Prop)  (a1 : Int32) (a2 : Int32) (w : wo_T)
    (h : (a2 = 0 → vp_in a1 5 ∧ (R (w.1 59 a1.toNatClampNeg) w)) ∧ (a2 = 1 → vp_in a1 5 ∧ (R (w.1 60 a1.toNatClampNeg) w)) ∧ (a2 = 2 → vp_in a1 5 ∧ (R (w.1 61 a1.toNatClampNeg) w)) ∧ (a2 = 3 → vp_in (((2 * a1) + a2) - 3) 10 ∧ (R (w.1 62 (((2 * a1) + a2) - 3).toNatClampNeg) w)) ∧ (a2 = 4 → vp_in (((2 * a1) + a2) - 3) 10 ∧ (R (w.1 62 (((2 * a1) + a2) - 3).toNatClampNeg) w)) ∧ (¬ a2 = 0 → ¬ a2 = 1 → ¬ a2 = 2 → ¬ a2 = 3 → ¬ a2 = 4 → vp_in (((2 * a1) + a2) - 5) 10 ∧ (R (w.1 63 (((2 * a1) + a2) - 5).toNatClampNeg) w))) :
    jj_J K mX7_infoOf (jj_Ri R) 0 [(0, .ref 58), (1, .int a1), (2, .int a2)] [] w := by
  refine jj_iload_n (pc := 0) dX7_infoOf_0 2 rfl ?_
  by_cases c1 : a2 = 0
  · replace h := h.1 c1
    refine jj_swIn (pc := 1) (tgt := 36) dX7_infoOf_1 (by rw [c1]; decide) (by rw [c1]; decide) (by rw [c1]; rfl) (by decide) ?_
    refine jj_aload_n (pc := 36) dX7_infoOf_36 0 rfl ?_
    refine jj_getR (pc := 37) (ci := 7) (k := 0) dX7_infoOf_37 rfl rfl (by decide) rfl lk_RX7_7 ?_
    refine jj_iload_n (pc := 40) dX7_infoOf_40 1 rfl ?_
    refine jj_iald (pc := 41) dX7_infoOf_41 rfl h.1 ?_
    replace h := h.2
    exact jj_iret (pc := 42) dX7_infoOf_42 rfl h
  replace h := h.2
  by_cases c2 : a2 = 1
  · replace h := h.1 c2
    refine jj_swIn (pc := 1) (tgt := 43) dX7_infoOf_1 (by rw [c2]; decide) (by rw [c2]; decide) (by rw [c2]; rfl) (by decide) ?_
    refine jj_aload_n (pc := 43) dX7_infoOf_43 0 rfl ?_
    refine jj_getR (pc := 44) (ci := 7) (k := 1) dX7_infoOf_44 rfl rfl (by decide) rfl lk_RX7_13 ?_
    refine jj_iload_n (pc := 47) dX7_infoOf_47 1 rfl ?_
    refine jj_iald (pc := 48) dX7_infoOf_48 rfl h.1 ?_
    replace h := h.2
    exact jj_iret (pc := 49) dX7_infoOf_49 rfl h
  replace h := h.2
  by_cases c3 : a2 = 2
  · replace h := h.1 c3
    refine jj_swIn (pc := 1) (tgt := 50) dX7_infoOf_1 (by rw [c3]; decide) (by rw [c3]; decide) (by rw [c3]; rfl) (by decide) ?_
    refine jj_aload_n (pc := 50) dX7_infoOf_50 0 rfl ?_
    refine jj_getR (pc := 51) (ci := 7) (k := 2) dX7_infoOf_51 rfl rfl (by decide) rfl lk_RX7_16 ?_
    refine jj_iload_n (pc := 54) dX7_infoOf_54 1 rfl ?_
    refine jj_iald (pc := 55) dX7_infoOf_55 rfl h.1 ?_
    replace h := h.2
    exact jj_iret (pc := 56) dX7_infoOf_56 rfl h
  replace h := h.2
  by_cases c4 : a2 = 3
  · replace h := h.1 c4
    refine jj_swIn (pc := 1) (tgt := 57) dX7_infoOf_1 (by rw [c4]; decide) (by rw [c4]; decide) (by rw [c4]; rfl) (by decide) ?_
    refine jj_aload_n (pc := 57) dX7_infoOf_57 0 rfl ?_
    refine jj_getR (pc := 58) (ci := 7) (k := 3) dX7_infoOf_58 rfl rfl (by decide) rfl lk_RX7_19 ?_
    refine jj_iconst (pc := 61) (v := 2) dX7_infoOf_61 (by decide) ?_
    refine jj_iload_n (pc := 62) dX7_infoOf_62 1 rfl ?_
    refine jj_imul (pc := 63) dX7_infoOf_63 ?_
    refine jj_iload_n (pc := 64) dX7_infoOf_64 2 rfl ?_
    refine jj_iadd (pc := 65) dX7_infoOf_65 ?_
    refine jj_iconst (pc := 66) (v := 3) dX7_infoOf_66 (by decide) ?_
    refine jj_isub (pc := 67) dX7_infoOf_67 ?_
    refine jj_iald (pc := 68) dX7_infoOf_68 rfl h.1 ?_
    replace h := h.2
    exact jj_iret (pc := 69) dX7_infoOf_69 rfl h
  replace h := h.2
  by_cases c5 : a2 = 4
  · replace h := h.1 c5
    refine jj_swIn (pc := 1) (tgt := 57) dX7_infoOf_1 (by rw [c5]; decide) (by rw [c5]; decide) (by rw [c5]; rfl) (by decide) ?_
    refine jj_aload_n (pc := 57) dX7_infoOf_57 0 rfl ?_
    refine jj_getR (pc := 58) (ci := 7) (k := 3) dX7_infoOf_58 rfl rfl (by decide) rfl lk_RX7_19 ?_
    refine jj_iconst (pc := 61) (v := 2) dX7_infoOf_61 (by decide) ?_
    refine jj_iload_n (pc := 62) dX7_infoOf_62 1 rfl ?_
    refine jj_imul (pc := 63) dX7_infoOf_63 ?_
    refine jj_iload_n (pc := 64) dX7_infoOf_64 2 rfl ?_
    refine jj_iadd (pc := 65) dX7_infoOf_65 ?_
    refine jj_iconst (pc := 66) (v := 3) dX7_infoOf_66 (by decide) ?_
    refine jj_isub (pc := 67) dX7_infoOf_67 ?_
    refine jj_iald (pc := 68) dX7_infoOf_68 rfl h.1 ?_
    replace h := h.2
    exact jj_iret (pc := 69) dX7_infoOf_69 rfl h
  replace h := h.2
  replace h := h c1 c2 c3 c4 c5
  refine jj_swOut (pc := 1) (tgt := 70) dX7_infoOf_1 (jj_swo 5 (by decide) (fun j hj => match j, hj with | 0, _ => c1 | 1, _ => c2 | 2, _ => c3 | 3, _ => c4 | 4, _ => c5 | j + 5, hj => absurd hj (by omega))) (by decide) ?_
  refine jj_aload_n (pc := 70) dX7_infoOf_70 0 rfl ?_
  refine jj_getR (pc := 71) (ci := 7) (k := 4) dX7_infoOf_71 rfl rfl (by decide) rfl lk_RX7_22 ?_
  refine jj_iconst (pc := 74) (v := 2) dX7_infoOf_74 (by decide) ?_
  refine jj_iload_n (pc := 75) dX7_infoOf_75 1 rfl ?_
  refine jj_imul (pc := 76) dX7_infoOf_76 ?_
  refine jj_iload_n (pc := 77) dX7_infoOf_77 2 rfl ?_
  refine jj_iadd (pc := 78) dX7_infoOf_78 ?_
  refine jj_iconst (pc := 79) (v := 5) dX7_infoOf_79 (by decide) ?_
  refine jj_isub (pc := 80) dX7_infoOf_80 ?_
  refine jj_iald (pc := 81) dX7_infoOf_81 rfl h.1 ?_
  replace h := h.2
  exact jj_iret (pc := 82) dX7_infoOf_82 rfl h
theorem en_X7_infoOf {K : jj_K} (R : Int32 → wo_T → Prop)  (a1 : Int32) (a2 : Int32) (w : wo_T)
    (h : (a2 = 0 → vp_in a1 5 ∧ (R (w.1 59 a1.toNatClampNeg) w)) ∧ (a2 = 1 → vp_in a1 5 ∧ (R (w.1 60 a1.toNatClampNeg) w)) ∧ (a2 = 2 → vp_in a1 5 ∧ (R (w.1 61 a1.toNatClampNeg) w)) ∧ (a2 = 3 → vp_in (((2 * a1) + a2) - 3) 10 ∧ (R (w.1 62 (((2 * a1) + a2) - 3).toNatClampNeg) w)) ∧ (a2 = 4 → vp_in (((2 * a1) + a2) - 3) 10 ∧ (R (w.1 62 (((2 * a1) + a2) - 3).toNatClampNeg) w)) ∧ (¬ a2 = 0 → ¬ a2 = 1 → ¬ a2 = 2 → ¬ a2 = 3 → ¬ a2 = 4 → vp_in (((2 * a1) + a2) - 5) 10 ∧ (R (w.1 63 (((2 * a1) + a2) - 5).toNatClampNeg) w))) : jj_Ci K mX7_infoOf [.ref 58, .int a1, .int a2] w R :=
  jj_Ci_intro pn_RX7 (Nat.le_of_ble_eq_true rfl) (vc_X7_infoOf_0 R a1 a2 w h)
set_option maxRecDepth 100000 in
set_option maxHeartbeats 4000000 in
theorem vc_X7_info_0 {K : jj_K} (R : Int32 → wo_T → Prop)  (a1 : Int32) (a2 : Int32) (w : wo_T)
    (h : jj_Ci K mX7_isPoint [.ref 58, .int a1] w (fun v1 w2 => (v1 = 0 → R (-2147483648) w2) ∧ (¬ v1 = 0 → jj_Ci K mX7_in [.int a2, .int 0, .int 6] w2 (fun v4 w5 => (v4 = 0 → R (-2147483648) w5) ∧ (¬ v4 = 0 → jj_Ci K mX7_infoOf [.ref 58, .int a1, .int a2] w5 (fun v7 w8 => R v7 w8)))))) :
    jj_J K mX7_info (jj_Ri R) 0 [(0, .ref 58), (1, .int a1), (2, .int a2)] [] w := by
  refine jj_aload_n (pc := 0) dX7_info_0 0 rfl ?_
  refine jj_iload_n (pc := 1) dX7_info_1 1 rfl ?_
  refine jj_callVi (pc := 2) (N := mX7_isPoint) (as := [.int a1]) (st := []) dX7_info_2 rfl rfl rfl lk_RX7_94 hv_X7_isPoint rfl rfl h (fun v1 w2 h => ?_)
  refine jj_if_eq (pc := 5) (tgt := 27) dX7_info_5 (by decide) (fun c3 => ?_) (fun c3 => ?_)
  · replace h := h.1 c3
    refine jj_ldc (pc := 27) (v := (-2147483648)) dX7_info_27 lk_RX7_97 ?_
    exact jj_iret (pc := 29) dX7_info_29 rfl h
  · replace h := h.2 c3
    refine jj_iload_n (pc := 8) dX7_info_8 2 rfl ?_
    refine jj_iconst (pc := 9) (v := 0) dX7_info_9 (by decide) ?_
    refine jj_bipush (pc := 10) (v := 6) dX7_info_10 (by decide) ?_
    refine jj_callSi (pc := 12) (N := mX7_in) (as := [.int a2, .int 0, .int 6]) (st := []) dX7_info_12 lk_RX7_64 hv_X7_in rfl rfl h (fun v4 w5 h => ?_)
    refine jj_if_eq (pc := 15) (tgt := 27) dX7_info_15 (by decide) (fun c6 => ?_) (fun c6 => ?_)
    · replace h := h.1 c6
      refine jj_ldc (pc := 27) (v := (-2147483648)) dX7_info_27 lk_RX7_97 ?_
      exact jj_iret (pc := 29) dX7_info_29 rfl h
    · replace h := h.2 c6
      refine jj_aload_n (pc := 18) dX7_info_18 0 rfl ?_
      refine jj_iload_n (pc := 19) dX7_info_19 1 rfl ?_
      refine jj_iload_n (pc := 20) dX7_info_20 2 rfl ?_
      refine jj_callVi (pc := 21) (N := mX7_infoOf) (as := [.int a1, .int a2]) (st := []) dX7_info_21 rfl rfl rfl lk_RX7_108 hv_X7_infoOf rfl rfl h (fun v7 w8 h => ?_)
      refine jj_goto (pc := 24) (tgt := 29) dX7_info_24 (by decide) ?_
      exact jj_iret (pc := 29) dX7_info_29 rfl h
theorem en_X7_info {K : jj_K} (R : Int32 → wo_T → Prop)  (a1 : Int32) (a2 : Int32) (w : wo_T)
    (h : jj_Ci K mX7_isPoint [.ref 58, .int a1] w (fun v1 w2 => (v1 = 0 → R (-2147483648) w2) ∧ (¬ v1 = 0 → jj_Ci K mX7_in [.int a2, .int 0, .int 6] w2 (fun v4 w5 => (v4 = 0 → R (-2147483648) w5) ∧ (¬ v4 = 0 → jj_Ci K mX7_infoOf [.ref 58, .int a1, .int a2] w5 (fun v7 w8 => R v7 w8)))))) : jj_Ci K mX7_info [.ref 58, .int a1, .int a2] w R :=
  jj_Ci_intro pn_RX7 (Nat.le_of_ble_eq_true rfl) (vc_X7_info_0 R a1 a2 w h)
set_option maxRecDepth 100000 in
set_option maxHeartbeats 4000000 in
theorem vc_X7_pairOf_0 {K : jj_K} (R : Int32 → wo_T → Prop)  (a1 : Int32) (a2 : Int32) (w : wo_T)
    (h : (¬ a2 = 0 → (¬ a2 = 1 → (¬ a2 = 2 → R (((w.1 58 6) >>> (a1 &&& 31)) &&& 1) w) ∧ (a2 = 2 → jj_Ci K mX7_quad [.ref 58, .int a1] w (fun v4 w5 => R v4 w5))) ∧ (a2 = 1 → jj_Ci K mX7_greater [.int a1] w (fun v6 w7 => R v6 w7))) ∧ (a2 = 0 → jj_Ci K mX7_lesser [.int a1] w (fun v8 w9 => R v8 w9))) :
    jj_J K mX7_pairOf (jj_Ri R) 0 [(0, .ref 58), (1, .int a1), (2, .int a2)] [] w := by
  refine jj_iload_n (pc := 0) dX7_pairOf_0 2 rfl ?_
  refine jj_if_ne (pc := 1) (tgt := 11) dX7_pairOf_1 (by decide) (fun c1 => ?_) (fun c1 => ?_)
  · replace h := h.1 c1
    refine jj_iload_n (pc := 11) dX7_pairOf_11 2 rfl ?_
    refine jj_iconst (pc := 12) (v := 1) dX7_pairOf_12 (by decide) ?_
    refine jj_icmp_ne (pc := 13) (tgt := 23) dX7_pairOf_13 (by decide) (fun c2 => ?_) (fun c2 => ?_)
    · replace h := h.1 c2
      refine jj_iload_n (pc := 23) dX7_pairOf_23 2 rfl ?_
      refine jj_iconst (pc := 24) (v := 2) dX7_pairOf_24 (by decide) ?_
      refine jj_icmp_ne (pc := 25) (tgt := 36) dX7_pairOf_25 (by decide) (fun c3 => ?_) (fun c3 => ?_)
      · replace h := h.1 c3
        refine jj_aload_n (pc := 36) dX7_pairOf_36 0 rfl ?_
        refine jj_getI (pc := 37) (ci := 7) (k := 6) dX7_pairOf_37 rfl rfl (by decide) rfl lk_RX7_76 ?_
        refine jj_iload_n (pc := 40) dX7_pairOf_40 1 rfl ?_
        refine jj_ishr (pc := 41) dX7_pairOf_41 ?_
        refine jj_iconst (pc := 42) (v := 1) dX7_pairOf_42 (by decide) ?_
        refine jj_iand (pc := 43) dX7_pairOf_43 ?_
        exact jj_iret (pc := 44) dX7_pairOf_44 rfl h
      · replace h := h.2 c3
        refine jj_aload_n (pc := 28) dX7_pairOf_28 0 rfl ?_
        refine jj_iload_n (pc := 29) dX7_pairOf_29 1 rfl ?_
        refine jj_callVi (pc := 30) (N := mX7_quad) (as := [.int a1]) (st := []) dX7_pairOf_30 rfl rfl rfl lk_RX7_111 hv_X7_quad rfl rfl h (fun v4 w5 h => ?_)
        refine jj_goto (pc := 33) (tgt := 44) dX7_pairOf_33 (by decide) ?_
        exact jj_iret (pc := 44) dX7_pairOf_44 rfl h
    · replace h := h.2 c2
      refine jj_iload_n (pc := 16) dX7_pairOf_16 1 rfl ?_
      refine jj_callSi (pc := 17) (N := mX7_greater) (as := [.int a1]) (st := []) dX7_pairOf_17 lk_RX7_79 hv_X7_greater rfl rfl h (fun v6 w7 h => ?_)
      refine jj_goto (pc := 20) (tgt := 44) dX7_pairOf_20 (by decide) ?_
      exact jj_iret (pc := 44) dX7_pairOf_44 rfl h
  · replace h := h.2 c1
    refine jj_iload_n (pc := 4) dX7_pairOf_4 1 rfl ?_
    refine jj_callSi (pc := 5) (N := mX7_lesser) (as := [.int a1]) (st := []) dX7_pairOf_5 lk_RX7_83 hv_X7_lesser rfl rfl h (fun v8 w9 h => ?_)
    refine jj_goto (pc := 8) (tgt := 44) dX7_pairOf_8 (by decide) ?_
    exact jj_iret (pc := 44) dX7_pairOf_44 rfl h
theorem en_X7_pairOf {K : jj_K} (R : Int32 → wo_T → Prop)  (a1 : Int32) (a2 : Int32) (w : wo_T)
    (h : (¬ a2 = 0 → (¬ a2 = 1 → (¬ a2 = 2 → R (((w.1 58 6) >>> (a1 &&& 31)) &&& 1) w) ∧ (a2 = 2 → jj_Ci K mX7_quad [.ref 58, .int a1] w (fun v4 w5 => R v4 w5))) ∧ (a2 = 1 → jj_Ci K mX7_greater [.int a1] w (fun v6 w7 => R v6 w7))) ∧ (a2 = 0 → jj_Ci K mX7_lesser [.int a1] w (fun v8 w9 => R v8 w9))) : jj_Ci K mX7_pairOf [.ref 58, .int a1, .int a2] w R :=
  jj_Ci_intro pn_RX7 (Nat.le_of_ble_eq_true rfl) (vc_X7_pairOf_0 R a1 a2 w h)
set_option maxRecDepth 100000 in
set_option maxHeartbeats 4000000 in
theorem vc_X7_pair_0 {K : jj_K} (R : Int32 → wo_T → Prop)  (a1 : Int32) (a2 : Int32) (w : wo_T)
    (h : jj_Ci K mX7_isPair [.ref 58, .int a1] w (fun v1 w2 => (v1 = 0 → R (-2) w2) ∧ (¬ v1 = 0 → jj_Ci K mX7_in [.int a2, .int 0, .int 3] w2 (fun v4 w5 => (v4 = 0 → R (-2) w5) ∧ (¬ v4 = 0 → jj_Ci K mX7_pairOf [.ref 58, .int a1, .int a2] w5 (fun v7 w8 => R v7 w8)))))) :
    jj_J K mX7_pair (jj_Ri R) 0 [(0, .ref 58), (1, .int a1), (2, .int a2)] [] w := by
  refine jj_aload_n (pc := 0) dX7_pair_0 0 rfl ?_
  refine jj_iload_n (pc := 1) dX7_pair_1 1 rfl ?_
  refine jj_callVi (pc := 2) (N := mX7_isPair) (as := [.int a1]) (st := []) dX7_pair_2 rfl rfl rfl lk_RX7_72 hv_X7_isPair rfl rfl h (fun v1 w2 h => ?_)
  refine jj_if_eq (pc := 5) (tgt := 26) dX7_pair_5 (by decide) (fun c3 => ?_) (fun c3 => ?_)
  · replace h := h.1 c3
    refine jj_bipush (pc := 26) (v := (-2)) dX7_pair_26 (by decide) ?_
    exact jj_iret (pc := 28) dX7_pair_28 rfl h
  · replace h := h.2 c3
    refine jj_iload_n (pc := 8) dX7_pair_8 2 rfl ?_
    refine jj_iconst (pc := 9) (v := 0) dX7_pair_9 (by decide) ?_
    refine jj_iconst (pc := 10) (v := 3) dX7_pair_10 (by decide) ?_
    refine jj_callSi (pc := 11) (N := mX7_in) (as := [.int a2, .int 0, .int 3]) (st := []) dX7_pair_11 lk_RX7_64 hv_X7_in rfl rfl h (fun v4 w5 h => ?_)
    refine jj_if_eq (pc := 14) (tgt := 26) dX7_pair_14 (by decide) (fun c6 => ?_) (fun c6 => ?_)
    · replace h := h.1 c6
      refine jj_bipush (pc := 26) (v := (-2)) dX7_pair_26 (by decide) ?_
      exact jj_iret (pc := 28) dX7_pair_28 rfl h
    · replace h := h.2 c6
      refine jj_aload_n (pc := 17) dX7_pair_17 0 rfl ?_
      refine jj_iload_n (pc := 18) dX7_pair_18 1 rfl ?_
      refine jj_iload_n (pc := 19) dX7_pair_19 2 rfl ?_
      refine jj_callVi (pc := 20) (N := mX7_pairOf) (as := [.int a1, .int a2]) (st := []) dX7_pair_20 rfl rfl rfl lk_RX7_114 hv_X7_pairOf rfl rfl h (fun v7 w8 h => ?_)
      refine jj_goto (pc := 23) (tgt := 28) dX7_pair_23 (by decide) ?_
      exact jj_iret (pc := 28) dX7_pair_28 rfl h
theorem en_X7_pair {K : jj_K} (R : Int32 → wo_T → Prop)  (a1 : Int32) (a2 : Int32) (w : wo_T)
    (h : jj_Ci K mX7_isPair [.ref 58, .int a1] w (fun v1 w2 => (v1 = 0 → R (-2) w2) ∧ (¬ v1 = 0 → jj_Ci K mX7_in [.int a2, .int 0, .int 3] w2 (fun v4 w5 => (v4 = 0 → R (-2) w5) ∧ (¬ v4 = 0 → jj_Ci K mX7_pairOf [.ref 58, .int a1, .int a2] w5 (fun v7 w8 => R v7 w8)))))) : jj_Ci K mX7_pair [.ref 58, .int a1, .int a2] w R :=
  jj_Ci_intro pn_RX7 (Nat.le_of_ble_eq_true rfl) (vc_X7_pair_0 R a1 a2 w h)
set_option maxRecDepth 100000 in
set_option maxHeartbeats 4000000 in
theorem vc_X7_isWay_0 {K : jj_K} (R : Int32 → wo_T → Prop)  (a1 : Int32) (w : wo_T)
    (h : ((w.1 58 5) ≤ (a1 / 2) → R 0 w) ∧ (¬ (w.1 58 5) ≤ (a1 / 2) → vp_in (a1 / 2) 5 ∧ ((¬ (((w.1 61 (a1 / 2).toNatClampNeg) >>> ((a1 - a1 / 2 * 2) &&& 31)) &&& 1) = 0 → R 0 w) ∧ ((((w.1 61 (a1 / 2).toNatClampNeg) >>> ((a1 - a1 / 2 * 2) &&& 31)) &&& 1) = 0 → R 1 w)))) :
    jj_J K mX7_isWay (jj_Ri R) 0 [(0, .ref 58), (1, .int a1)] [] w := by
  refine jj_iload_n (pc := 0) dX7_isWay_0 1 rfl ?_
  refine jj_iconst (pc := 1) (v := 2) dX7_isWay_1 (by decide) ?_
  refine jj_idiv (pc := 2) dX7_isWay_2 (by decide) ?_
  refine jj_aload_n (pc := 3) dX7_isWay_3 0 rfl ?_
  refine jj_getI (pc := 4) (ci := 7) (k := 5) dX7_isWay_4 rfl rfl (by decide) rfl lk_RX7_60 ?_
  refine jj_icmp_ge (pc := 7) (tgt := 31) dX7_isWay_7 (by decide) (fun c1 => ?_) (fun c1 => ?_)
  · replace h := h.1 c1
    refine jj_iconst (pc := 31) (v := 0) dX7_isWay_31 (by decide) ?_
    exact jj_zret (pc := 32) dX7_isWay_32 rfl (Or.inl rfl) h
  · replace h := h.2 c1
    refine jj_aload_n (pc := 10) dX7_isWay_10 0 rfl ?_
    refine jj_getR (pc := 11) (ci := 7) (k := 2) dX7_isWay_11 rfl rfl (by decide) rfl lk_RX7_16 ?_
    refine jj_iload_n (pc := 14) dX7_isWay_14 1 rfl ?_
    refine jj_iconst (pc := 15) (v := 2) dX7_isWay_15 (by decide) ?_
    refine jj_idiv (pc := 16) dX7_isWay_16 (by decide) ?_
    refine jj_iald (pc := 17) dX7_isWay_17 rfl h.1 ?_
    replace h := h.2
    refine jj_iload_n (pc := 18) dX7_isWay_18 1 rfl ?_
    refine jj_iconst (pc := 19) (v := 2) dX7_isWay_19 (by decide) ?_
    refine jj_irem (pc := 20) dX7_isWay_20 (by decide) ?_
    refine jj_ishr (pc := 21) dX7_isWay_21 ?_
    refine jj_iconst (pc := 22) (v := 1) dX7_isWay_22 (by decide) ?_
    refine jj_iand (pc := 23) dX7_isWay_23 ?_
    refine jj_if_ne (pc := 24) (tgt := 31) dX7_isWay_24 (by decide) (fun c2 => ?_) (fun c2 => ?_)
    · replace h := h.1 c2
      refine jj_iconst (pc := 31) (v := 0) dX7_isWay_31 (by decide) ?_
      exact jj_zret (pc := 32) dX7_isWay_32 rfl (Or.inl rfl) h
    · replace h := h.2 c2
      refine jj_iconst (pc := 27) (v := 1) dX7_isWay_27 (by decide) ?_
      refine jj_goto (pc := 28) (tgt := 32) dX7_isWay_28 (by decide) ?_
      exact jj_zret (pc := 32) dX7_isWay_32 rfl (Or.inr rfl) h
theorem en_X7_isWay {K : jj_K} (R : Int32 → wo_T → Prop)  (a1 : Int32) (w : wo_T)
    (h : ((w.1 58 5) ≤ (a1 / 2) → R 0 w) ∧ (¬ (w.1 58 5) ≤ (a1 / 2) → vp_in (a1 / 2) 5 ∧ ((¬ (((w.1 61 (a1 / 2).toNatClampNeg) >>> ((a1 - a1 / 2 * 2) &&& 31)) &&& 1) = 0 → R 0 w) ∧ ((((w.1 61 (a1 / 2).toNatClampNeg) >>> ((a1 - a1 / 2 * 2) &&& 31)) &&& 1) = 0 → R 1 w)))) : jj_Ci K mX7_isWay [.ref 58, .int a1] w R :=
  jj_Ci_intro pn_RX7 (Nat.le_of_ble_eq_true rfl) (vc_X7_isWay_0 R a1 w h)
set_option maxRecDepth 100000 in
set_option maxHeartbeats 4000000 in
theorem vc_X7_brought_0 {K : jj_K} (R : Int32 → wo_T → Prop)  (a1 : Int32) (a2 : Int32) (w : wo_T)
    (h : ∀ x1 : Int32, x1 = a2 / 2 → (jj_Ci K mX7_lesser [.int a1] w (fun v2 w3 => (¬ x1 = v2 → jj_Ci K mX7_greater [.int a1] w3 (fun v5 w6 => (¬ x1 = v5 → R 0 w6) ∧ (x1 = v5 → jj_Ci K mX7_far [.ref 58, .int a1, .int (a2 - a2 / 2 * 2)] w6 (fun v8 w9 => R (-v8) w9)))) ∧ (x1 = v2 → jj_Ci K mX7_far [.ref 58, .int a1, .int (a2 - a2 / 2 * 2)] w3 (fun v10 w11 => R v10 w11))))) :
    jj_J K mX7_brought (jj_Ri R) 0 [(0, .ref 58), (1, .int a1), (2, .int a2)] [] w := by
  refine jj_iload_n (pc := 0) dX7_brought_0 2 rfl ?_
  refine jj_iconst (pc := 1) (v := 2) dX7_brought_1 (by decide) ?_
  refine jj_idiv (pc := 2) dX7_brought_2 (by decide) ?_
  refine jj_nmi (fun x1 ex1 => ?_)
  replace h := h x1 ex1
  refine jj_istore_n (pc := 3) (l2 := [(3, .int x1), (0, .ref 58), (1, .int a1), (2, .int a2)]) dX7_brought_3 (by decide) rfl ?_
  refine jj_iload_n (pc := 4) dX7_brought_4 0 rfl ?_
  refine jj_iload_n (pc := 5) dX7_brought_5 2 rfl ?_
  refine jj_callSi (pc := 6) (N := mX7_lesser) (as := [.int a1]) (st := [.int x1]) dX7_brought_6 lk_RX7_83 hv_X7_lesser rfl rfl h (fun v2 w3 h => ?_)
  refine jj_icmp_ne (pc := 9) (tgt := 23) dX7_brought_9 (by decide) (fun c4 => ?_) (fun c4 => ?_)
  · replace h := h.1 c4
    refine jj_iload_n (pc := 23) dX7_brought_23 0 rfl ?_
    refine jj_iload_n (pc := 24) dX7_brought_24 2 rfl ?_
    refine jj_callSi (pc := 25) (N := mX7_greater) (as := [.int a1]) (st := [.int x1]) dX7_brought_25 lk_RX7_79 hv_X7_greater rfl rfl h (fun v5 w6 h => ?_)
    refine jj_icmp_ne (pc := 28) (tgt := 43) dX7_brought_28 (by decide) (fun c7 => ?_) (fun c7 => ?_)
    · replace h := h.1 c7
      refine jj_iconst (pc := 43) (v := 0) dX7_brought_43 (by decide) ?_
      exact jj_iret (pc := 44) dX7_brought_44 rfl h
    · replace h := h.2 c7
      refine jj_aload_n (pc := 31) dX7_brought_31 1 rfl ?_
      refine jj_iload_n (pc := 32) dX7_brought_32 2 rfl ?_
      refine jj_iload_n (pc := 33) dX7_brought_33 3 rfl ?_
      refine jj_iconst (pc := 34) (v := 2) dX7_brought_34 (by decide) ?_
      refine jj_irem (pc := 35) dX7_brought_35 (by decide) ?_
      refine jj_callVi (pc := 36) (N := mX7_far) (as := [.int a1, .int (a2 - a2 / 2 * 2)]) (st := []) dX7_brought_36 rfl rfl rfl lk_RX7_86 hv_X7_far rfl rfl h (fun v8 w9 h => ?_)
      refine jj_ineg (pc := 39) dX7_brought_39 ?_
      refine jj_goto (pc := 40) (tgt := 44) dX7_brought_40 (by decide) ?_
      exact jj_iret (pc := 44) dX7_brought_44 rfl h
  · replace h := h.2 c4
    refine jj_aload_n (pc := 12) dX7_brought_12 1 rfl ?_
    refine jj_iload_n (pc := 13) dX7_brought_13 2 rfl ?_
    refine jj_iload_n (pc := 14) dX7_brought_14 3 rfl ?_
    refine jj_iconst (pc := 15) (v := 2) dX7_brought_15 (by decide) ?_
    refine jj_irem (pc := 16) dX7_brought_16 (by decide) ?_
    refine jj_callVi (pc := 17) (N := mX7_far) (as := [.int a1, .int (a2 - a2 / 2 * 2)]) (st := []) dX7_brought_17 rfl rfl rfl lk_RX7_86 hv_X7_far rfl rfl h (fun v10 w11 h => ?_)
    refine jj_goto (pc := 20) (tgt := 44) dX7_brought_20 (by decide) ?_
    exact jj_iret (pc := 44) dX7_brought_44 rfl h
theorem en_X7_brought {K : jj_K} (R : Int32 → wo_T → Prop)  (a1 : Int32) (a2 : Int32) (w : wo_T)
    (h : ∀ x1 : Int32, x1 = a2 / 2 → (jj_Ci K mX7_lesser [.int a1] w (fun v2 w3 => (¬ x1 = v2 → jj_Ci K mX7_greater [.int a1] w3 (fun v5 w6 => (¬ x1 = v5 → R 0 w6) ∧ (x1 = v5 → jj_Ci K mX7_far [.ref 58, .int a1, .int (a2 - a2 / 2 * 2)] w6 (fun v8 w9 => R (-v8) w9)))) ∧ (x1 = v2 → jj_Ci K mX7_far [.ref 58, .int a1, .int (a2 - a2 / 2 * 2)] w3 (fun v10 w11 => R v10 w11))))) : jj_Ci K mX7_brought [.ref 58, .int a1, .int a2] w R :=
  jj_Ci_intro pn_RX7 (Nat.le_of_ble_eq_true rfl) (vc_X7_brought_0 R a1 a2 w h)
set_option maxRecDepth 100000 in
set_option maxHeartbeats 4000000 in
theorem vc_X7_lowers_0 {K : jj_K} (R : wo_T → Prop)  (a1 : Int32) (w : wo_T)
    (h : jj_J K mX7_lowers (jj_Rv R) 5 [(0, .ref 58), (1, .int a1), (2, .long 0), (4, .int 0)] [] w) :
    jj_J K mX7_lowers (jj_Rv R) 0 [(0, .ref 58), (1, .int a1)] [] w := by
  refine jj_lconst (pc := 0) (v := 0) dX7_lowers_0 (by decide) ?_
  refine jj_lstore_n (pc := 1) (l2 := [(2, .long 0), (0, .ref 58), (1, .int a1)]) dX7_lowers_1 (by decide) rfl ?_
  refine jj_iconst (pc := 2) (v := 0) dX7_lowers_2 (by decide) ?_
  refine jj_istore (pc := 3) (l2 := [(4, .int 0), (2, .long 0), (0, .ref 58), (1, .int a1)]) dX7_lowers_3 (by decide) rfl ?_
  exact jj_sub [2, 3, 1, 0] rfl h
theorem en_X7_lowers {K : jj_K} (R : wo_T → Prop)  (a1 : Int32) (w : wo_T)
    (h : jj_J K mX7_lowers (jj_Rv R) 5 [(0, .ref 58), (1, .int a1), (2, .long 0), (4, .int 0)] [] w) : jj_Cv K mX7_lowers [.ref 58, .int a1] w R :=
  jj_Cv_intro pn_RX7 (Nat.le_of_ble_eq_true rfl) (vc_X7_lowers_0 R a1 w h)
set_option maxRecDepth 100000 in
set_option maxHeartbeats 4000000 in
theorem vc_X7_lowers_5 {K : jj_K} (R : wo_T → Prop)  (a1 : Int32) (a2 : Int64) (a4 : Int32) (w : wo_T)
    (h : (11 ≤ a4 → jj_J K mX7_lowers (jj_Rv R) 35 [(0, .ref 58), (1, .int a1), (2, .long a2), (4, .int 0)] [] w) ∧ (¬ 11 ≤ a4 → vp_in (a1 + a4) 110 ∧ (jj_Cl K mX7_divisor [.long a2, .long (w.2 64 (a1 + a4).toNatClampNeg)] w (fun v2 w3 => jj_J K mX7_lowers (jj_Rv R) 5 [(0, .ref 58), (1, .int a1), (2, .long v2), (4, .int (a4 + 1))] [] w3)))) :
    jj_J K mX7_lowers (jj_Rv R) 5 [(0, .ref 58), (1, .int a1), (2, .long a2), (4, .int a4)] [] w := by
  refine jj_iload (pc := 5) dX7_lowers_5 3 rfl ?_
  refine jj_bipush (pc := 7) (v := 11) dX7_lowers_7 (by decide) ?_
  refine jj_icmp_ge (pc := 9) (tgt := 32) dX7_lowers_9 (by decide) (fun c1 => ?_) (fun c1 => ?_)
  · replace h := h.1 c1
    refine jj_iconst (pc := 32) (v := 0) dX7_lowers_32 (by decide) ?_
    refine jj_istore (pc := 33) (l2 := [(4, .int 0), (0, .ref 58), (1, .int a1), (2, .long a2)]) dX7_lowers_33 (by decide) rfl ?_
    exact jj_sub [1, 2, 3, 0] rfl h
  · replace h := h.2 c1
    refine jj_lload_n (pc := 12) dX7_lowers_12 2 rfl ?_
    refine jj_aload_n (pc := 13) dX7_lowers_13 0 rfl ?_
    refine jj_getR (pc := 14) (ci := 7) (k := 7) dX7_lowers_14 rfl rfl (by decide) rfl lk_RX7_25 ?_
    refine jj_iload_n (pc := 17) dX7_lowers_17 1 rfl ?_
    refine jj_iload (pc := 18) dX7_lowers_18 3 rfl ?_
    refine jj_iadd (pc := 20) dX7_lowers_20 ?_
    refine jj_lald (pc := 21) dX7_lowers_21 rfl h.1 ?_
    replace h := h.2
    refine jj_callSl (pc := 22) (N := mX7_divisor) (as := [.long a2, .long (w.2 64 (a1 + a4).toNatClampNeg)]) (st := []) dX7_lowers_22 lk_RX7_56 hv_X7_divisor rfl rfl h (fun v2 w3 h => ?_)
    refine jj_lstore_n (pc := 25) (l2 := [(2, .long v2), (0, .ref 58), (1, .int a1), (4, .int a4)]) dX7_lowers_25 (by decide) rfl ?_
    refine jj_iinc (pc := 26) (v := a4 + 1) (l2 := [(4, .int (a4 + 1)), (2, .long v2), (0, .ref 58), (1, .int a1)]) dX7_lowers_26 3 rfl rfl (by decide) rfl ?_
    refine jj_goto (pc := 29) (tgt := 5) dX7_lowers_29 (by decide) ?_
    exact jj_sub [2, 3, 1, 0] rfl h
set_option maxRecDepth 100000 in
set_option maxHeartbeats 4000000 in
theorem vc_X7_lowers_35 {K : jj_K} (R : wo_T → Prop)  (a1 : Int32) (a2 : Int64) (a4 : Int32) (w : wo_T)
    (h : (11 ≤ a4 → R w) ∧ (¬ 11 ≤ a4 → (a2 ≤ 1 → R w) ∧ (¬ a2 ≤ 1 → vp_in (a1 + a4) 110 ∧ ((¬ a2 = 0) ∧ (vp_in (a1 + a4) 110 ∧ (jj_J K mX7_lowers (jj_Rv R) 35 [(0, .ref 58), (1, .int a1), (2, .long a2), (4, .int (a4 + 1))] [] (wo_l w 64 (a1 + a4).toNatClampNeg ((w.2 64 (a1 + a4).toNatClampNeg) / a2)))))))) :
    jj_J K mX7_lowers (jj_Rv R) 35 [(0, .ref 58), (1, .int a1), (2, .long a2), (4, .int a4)] [] w := by
  refine jj_iload (pc := 35) dX7_lowers_35 3 rfl ?_
  refine jj_bipush (pc := 37) (v := 11) dX7_lowers_37 (by decide) ?_
  refine jj_icmp_ge (pc := 39) (tgt := 67) dX7_lowers_39 (by decide) (fun c1 => ?_) (fun c1 => ?_)
  · replace h := h.1 c1
    exact jj_vret (pc := 67) dX7_lowers_67 rfl h
  · replace h := h.2 c1
    refine jj_lload_n (pc := 42) dX7_lowers_42 2 rfl ?_
    refine jj_lconst (pc := 43) (v := 1) dX7_lowers_43 (by decide) ?_
    refine jj_lcmp_le (pc := 44) (tgt := 67) dX7_lowers_44 dX7_lowers_45 (by decide) (fun c2 => ?_) (fun c2 => ?_)
    · replace h := h.1 c2
      exact jj_vret (pc := 67) dX7_lowers_67 rfl h
    · replace h := h.2 c2
      refine jj_aload_n (pc := 48) dX7_lowers_48 0 rfl ?_
      refine jj_getR (pc := 49) (ci := 7) (k := 7) dX7_lowers_49 rfl rfl (by decide) rfl lk_RX7_25 ?_
      refine jj_iload_n (pc := 52) dX7_lowers_52 1 rfl ?_
      refine jj_iload (pc := 53) dX7_lowers_53 3 rfl ?_
      refine jj_iadd (pc := 55) dX7_lowers_55 ?_
      refine jj_dup2 (pc := 56) dX7_lowers_56 rfl rfl ?_
      refine jj_lald (pc := 57) dX7_lowers_57 rfl h.1 ?_
      replace h := h.2
      refine jj_lload_n (pc := 58) dX7_lowers_58 2 rfl ?_
      refine jj_ldiv (pc := 59) dX7_lowers_59 h.1 ?_
      replace h := h.2
      refine jj_last (pc := 60) dX7_lowers_60 rfl h.1 ?_
      replace h := h.2
      refine jj_iinc (pc := 61) (v := a4 + 1) (l2 := [(4, .int (a4 + 1)), (0, .ref 58), (1, .int a1), (2, .long a2)]) dX7_lowers_61 3 rfl rfl (by decide) rfl ?_
      refine jj_goto (pc := 64) (tgt := 35) dX7_lowers_64 (by decide) ?_
      exact jj_sub [1, 2, 3, 0] rfl h
set_option maxRecDepth 100000 in
set_option maxHeartbeats 4000000 in
theorem vc_X7_clears_0 {K : jj_K} (R : wo_T → Prop)  (a1 : Int32) (a2 : Int32) (a3 : Int32) (w : wo_T)
    (h : vp_in (a1 + a3) 110 ∧ (∀ x1 : Int64, x1 = w.2 64 (a1 + a3).toNatClampNeg → (vp_in (a2 + a3) 110 ∧ (∀ x2 : Int64, x2 = w.2 64 (a2 + a3).toNatClampNeg → ((x1 = 0 → R w) ∧ (¬ x1 = 0 → jj_J K mX7_clears (jj_Rv R) 30 [(0, .ref 58), (1, .int a1), (2, .int a2), (3, .int a3), (4, .long x1), (6, .long x2), (8, .int 0)] [] w)))))) :
    jj_J K mX7_clears (jj_Rv R) 0 [(0, .ref 58), (1, .int a1), (2, .int a2), (3, .int a3)] [] w := by
  refine jj_aload_n (pc := 0) dX7_clears_0 0 rfl ?_
  refine jj_getR (pc := 1) (ci := 7) (k := 7) dX7_clears_1 rfl rfl (by decide) rfl lk_RX7_25 ?_
  refine jj_iload_n (pc := 4) dX7_clears_4 1 rfl ?_
  refine jj_iload_n (pc := 5) dX7_clears_5 3 rfl ?_
  refine jj_iadd (pc := 6) dX7_clears_6 ?_
  refine jj_lald (pc := 7) dX7_clears_7 rfl h.1 ?_
  replace h := h.2
  refine jj_nml (fun x1 ex1 => ?_)
  replace h := h x1 ex1
  refine jj_lstore (pc := 8) (l2 := [(4, .long x1), (0, .ref 58), (1, .int a1), (2, .int a2), (3, .int a3)]) dX7_clears_8 (by decide) rfl ?_
  refine jj_aload_n (pc := 10) dX7_clears_10 1 rfl ?_
  refine jj_getR (pc := 11) (ci := 7) (k := 7) dX7_clears_11 rfl rfl (by decide) rfl lk_RX7_25 ?_
  refine jj_iload_n (pc := 14) dX7_clears_14 3 rfl ?_
  refine jj_iload_n (pc := 15) dX7_clears_15 4 rfl ?_
  refine jj_iadd (pc := 16) dX7_clears_16 ?_
  refine jj_lald (pc := 17) dX7_clears_17 rfl h.1 ?_
  replace h := h.2
  refine jj_nml (fun x2 ex2 => ?_)
  replace h := h x2 ex2
  refine jj_lstore (pc := 18) (l2 := [(6, .long x2), (4, .long x1), (0, .ref 58), (1, .int a1), (2, .int a2), (3, .int a3)]) dX7_clears_18 (by decide) rfl ?_
  refine jj_lload (pc := 20) dX7_clears_20 1 rfl ?_
  refine jj_lconst (pc := 22) (v := 0) dX7_clears_22 (by decide) ?_
  refine jj_lcmp_eq (pc := 23) (tgt := 82) dX7_clears_23 dX7_clears_24 (by decide) (fun c3 => ?_) (fun c3 => ?_)
  · replace h := h.1 c3
    exact jj_vret (pc := 82) dX7_clears_82 rfl h
  · replace h := h.2 c3
    refine jj_iconst (pc := 27) (v := 0) dX7_clears_27 (by decide) ?_
    refine jj_istore (pc := 28) (l2 := [(8, .int 0), (6, .long x2), (4, .long x1), (0, .ref 58), (1, .int a1), (2, .int a2), (3, .int a3)]) dX7_clears_28 (by decide) rfl ?_
    exact jj_sub [3, 4, 5, 6, 2, 1, 0] rfl h
theorem en_X7_clears {K : jj_K} (R : wo_T → Prop)  (a1 : Int32) (a2 : Int32) (a3 : Int32) (w : wo_T)
    (h : vp_in (a1 + a3) 110 ∧ (∀ x1 : Int64, x1 = w.2 64 (a1 + a3).toNatClampNeg → (vp_in (a2 + a3) 110 ∧ (∀ x2 : Int64, x2 = w.2 64 (a2 + a3).toNatClampNeg → ((x1 = 0 → R w) ∧ (¬ x1 = 0 → jj_J K mX7_clears (jj_Rv R) 30 [(0, .ref 58), (1, .int a1), (2, .int a2), (3, .int a3), (4, .long x1), (6, .long x2), (8, .int 0)] [] w)))))) : jj_Cv K mX7_clears [.ref 58, .int a1, .int a2, .int a3] w R :=
  jj_Cv_intro pn_RX7 (Nat.le_of_ble_eq_true rfl) (vc_X7_clears_0 R a1 a2 a3 w h)
set_option maxRecDepth 100000 in
set_option maxHeartbeats 4000000 in
theorem vc_X7_clears_30 {K : jj_K} (R : wo_T → Prop)  (a1 : Int32) (a2 : Int32) (a3 : Int32) (a4 : Int64) (a6 : Int64) (a8 : Int32) (w : wo_T)
    (h : (11 ≤ a8 → jj_Cv K mX7_lowers [.ref 58, .int a1] w (fun w3 => R w3)) ∧ (¬ 11 ≤ a8 → vp_in (a1 + a8) 110 ∧ (vp_in (a2 + a8) 110 ∧ (vp_in (a1 + a8) 110 ∧ (jj_J K mX7_clears (jj_Rv R) 30 [(0, .ref 58), (1, .int a1), (2, .int a2), (3, .int a3), (4, .long a4), (6, .long a6), (8, .int (a8 + 1))] [] (wo_l w 64 (a1 + a8).toNatClampNeg (((w.2 64 (a1 + a8).toNatClampNeg) * a6) - ((w.2 64 (a2 + a8).toNatClampNeg) * a4)))))))) :
    jj_J K mX7_clears (jj_Rv R) 30 [(0, .ref 58), (1, .int a1), (2, .int a2), (3, .int a3), (4, .long a4), (6, .long a6), (8, .int a8)] [] w := by
  refine jj_iload (pc := 30) dX7_clears_30 6 rfl ?_
  refine jj_bipush (pc := 32) (v := 11) dX7_clears_32 (by decide) ?_
  refine jj_icmp_ge (pc := 34) (tgt := 77) dX7_clears_34 (by decide) (fun c1 => ?_) (fun c1 => ?_)
  · replace h := h.1 c1
    refine jj_aload_n (pc := 77) dX7_clears_77 0 rfl ?_
    refine jj_iload_n (pc := 78) dX7_clears_78 1 rfl ?_
    refine jj_callVv (pc := 79) (N := mX7_lowers) (as := [.int a1]) (st := []) dX7_clears_79 rfl rfl rfl lk_RX7_117 hv_X7_lowers rfl rfl h (fun w3 h => ?_)
    exact jj_vret (pc := 82) dX7_clears_82 rfl h
  · replace h := h.2 c1
    refine jj_aload_n (pc := 37) dX7_clears_37 0 rfl ?_
    refine jj_getR (pc := 38) (ci := 7) (k := 7) dX7_clears_38 rfl rfl (by decide) rfl lk_RX7_25 ?_
    refine jj_iload_n (pc := 41) dX7_clears_41 1 rfl ?_
    refine jj_iload (pc := 42) dX7_clears_42 6 rfl ?_
    refine jj_iadd (pc := 44) dX7_clears_44 ?_
    refine jj_aload_n (pc := 45) dX7_clears_45 0 rfl ?_
    refine jj_getR (pc := 46) (ci := 7) (k := 7) dX7_clears_46 rfl rfl (by decide) rfl lk_RX7_25 ?_
    refine jj_iload_n (pc := 49) dX7_clears_49 1 rfl ?_
    refine jj_iload (pc := 50) dX7_clears_50 6 rfl ?_
    refine jj_iadd (pc := 52) dX7_clears_52 ?_
    refine jj_lald (pc := 53) dX7_clears_53 rfl h.1 ?_
    replace h := h.2
    refine jj_lload (pc := 54) dX7_clears_54 5 rfl ?_
    refine jj_lmul (pc := 56) dX7_clears_56 ?_
    refine jj_aload_n (pc := 57) dX7_clears_57 0 rfl ?_
    refine jj_getR (pc := 58) (ci := 7) (k := 7) dX7_clears_58 rfl rfl (by decide) rfl lk_RX7_25 ?_
    refine jj_iload_n (pc := 61) dX7_clears_61 2 rfl ?_
    refine jj_iload (pc := 62) dX7_clears_62 6 rfl ?_
    refine jj_iadd (pc := 64) dX7_clears_64 ?_
    refine jj_lald (pc := 65) dX7_clears_65 rfl h.1 ?_
    replace h := h.2
    refine jj_lload (pc := 66) dX7_clears_66 4 rfl ?_
    refine jj_lmul (pc := 68) dX7_clears_68 ?_
    refine jj_lsub (pc := 69) dX7_clears_69 ?_
    refine jj_last (pc := 70) dX7_clears_70 rfl h.1 ?_
    replace h := h.2
    refine jj_iinc (pc := 71) (v := a8 + 1) (l2 := [(8, .int (a8 + 1)), (0, .ref 58), (1, .int a1), (2, .int a2), (3, .int a3), (4, .long a4), (6, .long a6)]) dX7_clears_71 6 rfl rfl (by decide) rfl ?_
    refine jj_goto (pc := 74) (tgt := 30) dX7_clears_74 (by decide) ?_
    exact jj_sub [1, 2, 3, 4, 5, 6, 0] rfl h
set_option maxRecDepth 100000 in
set_option maxHeartbeats 4000000 in
theorem vc_X7_adds_0 {K : jj_K} (R : Int32 → wo_T → Prop)  (a1 : Int32) (a2 : Int32) (w : wo_T)
    (h : ∀ x1 : Int32, x1 = 11 * (w.1 58 9) → (jj_J K mX7_adds (jj_Ri R) 11 [(0, .ref 58), (1, .int a1), (2, .int a2), (3, .int x1), (4, .int 0)] [] w)) :
    jj_J K mX7_adds (jj_Ri R) 0 [(0, .ref 58), (1, .int a1), (2, .int a2)] [] w := by
  refine jj_bipush (pc := 0) (v := 11) dX7_adds_0 (by decide) ?_
  refine jj_aload_n (pc := 2) dX7_adds_2 0 rfl ?_
  refine jj_getI (pc := 3) (ci := 7) (k := 9) dX7_adds_3 rfl rfl (by decide) rfl lk_RX7_121 ?_
  refine jj_imul (pc := 6) dX7_adds_6 ?_
  refine jj_nmi (fun x1 ex1 => ?_)
  replace h := h x1 ex1
  refine jj_istore_n (pc := 7) (l2 := [(3, .int x1), (0, .ref 58), (1, .int a1), (2, .int a2)]) dX7_adds_7 (by decide) rfl ?_
  refine jj_iconst (pc := 8) (v := 0) dX7_adds_8 (by decide) ?_
  refine jj_istore (pc := 9) (l2 := [(4, .int 0), (3, .int x1), (0, .ref 58), (1, .int a1), (2, .int a2)]) dX7_adds_9 (by decide) rfl ?_
  exact jj_sub [2, 3, 4, 1, 0] rfl h
theorem en_X7_adds {K : jj_K} (R : Int32 → wo_T → Prop)  (a1 : Int32) (a2 : Int32) (w : wo_T)
    (h : ∀ x1 : Int32, x1 = 11 * (w.1 58 9) → (jj_J K mX7_adds (jj_Ri R) 11 [(0, .ref 58), (1, .int a1), (2, .int a2), (3, .int x1), (4, .int 0)] [] w)) : jj_Ci K mX7_adds [.ref 58, .int a1, .int a2] w R :=
  jj_Ci_intro pn_RX7 (Nat.le_of_ble_eq_true rfl) (vc_X7_adds_0 R a1 a2 w h)
set_option maxRecDepth 100000 in
set_option maxHeartbeats 4000000 in
theorem vc_X7_adds_11 {K : jj_K} (R : Int32 → wo_T → Prop)  (a1 : Int32) (a2 : Int32) (a3 : Int32) (a4 : Int32) (w : wo_T)
    (h : (10 ≤ a4 → vp_in a2 10 ∧ (vp_in (a3 + 10) 110 ∧ (jj_J K mX7_adds (jj_Ri R) 75 [(0, .ref 58), (1, .int a1), (2, .int a2), (3, .int a3), (4, .int 0)] [] (wo_l w 64 (a3 + 10).toNatClampNeg ((-(w.1 62 a2.toNatClampNeg)).toInt64))))) ∧ (¬ 10 ≤ a4 → (¬ ((a1 >>> (a4 &&& 31)) &&& 1) = 1 → vp_in (a3 + a4) 110 ∧ (jj_J K mX7_adds (jj_Ri R) 11 [(0, .ref 58), (1, .int a1), (2, .int a2), (3, .int a3), (4, .int (a4 + 1))] [] (wo_l w 64 (a3 + a4).toNatClampNeg 0))) ∧ (((a1 >>> (a4 &&& 31)) &&& 1) = 1 → jj_Ci K mX7_brought [.ref 58, .int a4, .int a2] w (fun v3 w4 => vp_in (a3 + a4) 110 ∧ (jj_J K mX7_adds (jj_Ri R) 11 [(0, .ref 58), (1, .int a1), (2, .int a2), (3, .int a3), (4, .int (a4 + 1))] [] (wo_l w4 64 (a3 + a4).toNatClampNeg v3.toInt64)))))) :
    jj_J K mX7_adds (jj_Ri R) 11 [(0, .ref 58), (1, .int a1), (2, .int a2), (3, .int a3), (4, .int a4)] [] w := by
  refine jj_iload (pc := 11) dX7_adds_11 4 rfl ?_
  refine jj_bipush (pc := 13) (v := 10) dX7_adds_13 (by decide) ?_
  refine jj_icmp_ge (pc := 15) (tgt := 55) dX7_adds_15 (by decide) (fun c1 => ?_) (fun c1 => ?_)
  · replace h := h.1 c1
    refine jj_aload_n (pc := 55) dX7_adds_55 0 rfl ?_
    refine jj_getR (pc := 56) (ci := 7) (k := 7) dX7_adds_56 rfl rfl (by decide) rfl lk_RX7_25 ?_
    refine jj_iload_n (pc := 59) dX7_adds_59 3 rfl ?_
    refine jj_bipush (pc := 60) (v := 10) dX7_adds_60 (by decide) ?_
    refine jj_iadd (pc := 62) dX7_adds_62 ?_
    refine jj_aload_n (pc := 63) dX7_adds_63 0 rfl ?_
    refine jj_getR (pc := 64) (ci := 7) (k := 3) dX7_adds_64 rfl rfl (by decide) rfl lk_RX7_19 ?_
    refine jj_iload_n (pc := 67) dX7_adds_67 2 rfl ?_
    refine jj_iald (pc := 68) dX7_adds_68 rfl h.1 ?_
    replace h := h.2
    refine jj_ineg (pc := 69) dX7_adds_69 ?_
    refine jj_i2l (pc := 70) dX7_adds_70 ?_
    refine jj_last (pc := 71) dX7_adds_71 rfl h.1 ?_
    replace h := h.2
    refine jj_iconst (pc := 72) (v := 0) dX7_adds_72 (by decide) ?_
    refine jj_istore (pc := 73) (l2 := [(4, .int 0), (0, .ref 58), (1, .int a1), (2, .int a2), (3, .int a3)]) dX7_adds_73 (by decide) rfl ?_
    exact jj_sub [1, 2, 3, 4, 0] rfl h
  · replace h := h.2 c1
    refine jj_aload_n (pc := 18) dX7_adds_18 0 rfl ?_
    refine jj_getR (pc := 19) (ci := 7) (k := 7) dX7_adds_19 rfl rfl (by decide) rfl lk_RX7_25 ?_
    refine jj_iload_n (pc := 22) dX7_adds_22 3 rfl ?_
    refine jj_iload (pc := 23) dX7_adds_23 4 rfl ?_
    refine jj_iadd (pc := 25) dX7_adds_25 ?_
    refine jj_iload_n (pc := 26) dX7_adds_26 1 rfl ?_
    refine jj_iload (pc := 27) dX7_adds_27 4 rfl ?_
    refine jj_ishr (pc := 29) dX7_adds_29 ?_
    refine jj_iconst (pc := 30) (v := 1) dX7_adds_30 (by decide) ?_
    refine jj_iand (pc := 31) dX7_adds_31 ?_
    refine jj_iconst (pc := 32) (v := 1) dX7_adds_32 (by decide) ?_
    refine jj_icmp_ne (pc := 33) (tgt := 47) dX7_adds_33 (by decide) (fun c2 => ?_) (fun c2 => ?_)
    · replace h := h.1 c2
      refine jj_lconst (pc := 47) (v := 0) dX7_adds_47 (by decide) ?_
      refine jj_last (pc := 48) dX7_adds_48 rfl h.1 ?_
      replace h := h.2
      refine jj_iinc (pc := 49) (v := a4 + 1) (l2 := [(4, .int (a4 + 1)), (0, .ref 58), (1, .int a1), (2, .int a2), (3, .int a3)]) dX7_adds_49 4 rfl rfl (by decide) rfl ?_
      refine jj_goto (pc := 52) (tgt := 11) dX7_adds_52 (by decide) ?_
      exact jj_sub [1, 2, 3, 4, 0] rfl h
    · replace h := h.2 c2
      refine jj_aload_n (pc := 36) dX7_adds_36 0 rfl ?_
      refine jj_iload (pc := 37) dX7_adds_37 4 rfl ?_
      refine jj_iload_n (pc := 39) dX7_adds_39 2 rfl ?_
      refine jj_callVi (pc := 40) (N := mX7_brought) (as := [.int a4, .int a2]) (st := [.int (a3 + a4), .ref 64]) dX7_adds_40 rfl rfl rfl lk_RX7_124 hv_X7_brought rfl rfl h (fun v3 w4 h => ?_)
      refine jj_i2l (pc := 43) dX7_adds_43 ?_
      refine jj_goto (pc := 44) (tgt := 48) dX7_adds_44 (by decide) ?_
      refine jj_last (pc := 48) dX7_adds_48 rfl h.1 ?_
      replace h := h.2
      refine jj_iinc (pc := 49) (v := a4 + 1) (l2 := [(4, .int (a4 + 1)), (0, .ref 58), (1, .int a1), (2, .int a2), (3, .int a3)]) dX7_adds_49 4 rfl rfl (by decide) rfl ?_
      refine jj_goto (pc := 52) (tgt := 11) dX7_adds_52 (by decide) ?_
      exact jj_sub [1, 2, 3, 4, 0] rfl h
set_option maxRecDepth 100000 in
set_option maxHeartbeats 4000000 in
theorem vc_X7_adds_75 {K : jj_K} (R : Int32 → wo_T → Prop)  (a1 : Int32) (a2 : Int32) (a3 : Int32) (a4 : Int32) (w : wo_T)
    (h : ((w.1 58 9) ≤ a4 → jj_J K mX7_adds (jj_Ri R) 114 [(0, .ref 58), (1, .int a1), (2, .int a2), (3, .int a3), (4, .int (-1)), (5, .int 9)] [] w) ∧ (¬ (w.1 58 9) ≤ a4 → vp_in a4 10 ∧ (jj_Cv K mX7_clears [.ref 58, .int a3, .int (11 * a4), .int (w.1 65 a4.toNatClampNeg)] w (fun w3 => jj_J K mX7_adds (jj_Ri R) 75 [(0, .ref 58), (1, .int a1), (2, .int a2), (3, .int a3), (4, .int (a4 + 1))] [] w3)))) :
    jj_J K mX7_adds (jj_Ri R) 75 [(0, .ref 58), (1, .int a1), (2, .int a2), (3, .int a3), (4, .int a4)] [] w := by
  refine jj_iload (pc := 75) dX7_adds_75 4 rfl ?_
  refine jj_aload_n (pc := 77) dX7_adds_77 0 rfl ?_
  refine jj_getI (pc := 78) (ci := 7) (k := 9) dX7_adds_78 rfl rfl (by decide) rfl lk_RX7_121 ?_
  refine jj_icmp_ge (pc := 81) (tgt := 107) dX7_adds_81 (by decide) (fun c1 => ?_) (fun c1 => ?_)
  · replace h := h.1 c1
    refine jj_iconst (pc := 107) (v := (-1)) dX7_adds_107 (by decide) ?_
    refine jj_istore (pc := 108) (l2 := [(4, .int (-1)), (0, .ref 58), (1, .int a1), (2, .int a2), (3, .int a3)]) dX7_adds_108 (by decide) rfl ?_
    refine jj_bipush (pc := 110) (v := 9) dX7_adds_110 (by decide) ?_
    refine jj_istore (pc := 112) (l2 := [(5, .int 9), (4, .int (-1)), (0, .ref 58), (1, .int a1), (2, .int a2), (3, .int a3)]) dX7_adds_112 (by decide) rfl ?_
    exact jj_sub [2, 3, 4, 5, 1, 0] rfl h
  · replace h := h.2 c1
    refine jj_aload_n (pc := 84) dX7_adds_84 0 rfl ?_
    refine jj_iload_n (pc := 85) dX7_adds_85 3 rfl ?_
    refine jj_bipush (pc := 86) (v := 11) dX7_adds_86 (by decide) ?_
    refine jj_iload (pc := 88) dX7_adds_88 4 rfl ?_
    refine jj_imul (pc := 90) dX7_adds_90 ?_
    refine jj_aload_n (pc := 91) dX7_adds_91 0 rfl ?_
    refine jj_getR (pc := 92) (ci := 7) (k := 8) dX7_adds_92 rfl rfl (by decide) rfl lk_RX7_29 ?_
    refine jj_iload (pc := 95) dX7_adds_95 4 rfl ?_
    refine jj_iald (pc := 97) dX7_adds_97 rfl h.1 ?_
    replace h := h.2
    refine jj_callVv (pc := 98) (N := mX7_clears) (as := [.int a3, .int (11 * a4), .int (w.1 65 a4.toNatClampNeg)]) (st := []) dX7_adds_98 rfl rfl rfl lk_RX7_127 hv_X7_clears rfl rfl h (fun w3 h => ?_)
    refine jj_iinc (pc := 101) (v := a4 + 1) (l2 := [(4, .int (a4 + 1)), (0, .ref 58), (1, .int a1), (2, .int a2), (3, .int a3)]) dX7_adds_101 4 rfl rfl (by decide) rfl ?_
    refine jj_goto (pc := 104) (tgt := 75) dX7_adds_104 (by decide) ?_
    exact jj_sub [1, 2, 3, 4, 0] rfl h
set_option maxRecDepth 100000 in
set_option maxHeartbeats 4000000 in
theorem vc_X7_adds_114 {K : jj_K} (R : Int32 → wo_T → Prop)  (a1 : Int32) (a2 : Int32) (a3 : Int32) (a4 : Int32) (a5 : Int32) (w : wo_T)
    (h : (a5 < 0 → (¬ a4 = (-1) → jj_Cv K mX7_lowers [.ref 58, .int a3] w (fun w4 => jj_J K mX7_adds (jj_Ri R) 182 [(0, .ref 58), (1, .int a1), (2, .int a2), (3, .int a3), (4, .int a4), (5, .int 0)] [] w4)) ∧ (a4 = (-1) → vp_in (a3 + 10) 110 ∧ ((¬ (w.2 64 (a3 + 10).toNatClampNeg) = 0 → R 0 w) ∧ ((w.2 64 (a3 + 10).toNatClampNeg) = 0 → R 1 w)))) ∧ (¬ a5 < 0 → vp_in (a3 + a5) 110 ∧ (((w.2 64 (a3 + a5).toNatClampNeg) = 0 → jj_J K mX7_adds (jj_Ri R) 114 [(0, .ref 58), (1, .int a1), (2, .int a2), (3, .int a3), (4, .int a4), (5, .int (a5 + (-1)))] [] w) ∧ (¬ (w.2 64 (a3 + a5).toNatClampNeg) = 0 → jj_J K mX7_adds (jj_Ri R) 114 [(0, .ref 58), (1, .int a1), (2, .int a2), (3, .int a3), (4, .int a5), (5, .int (a5 + (-1)))] [] w)))) :
    jj_J K mX7_adds (jj_Ri R) 114 [(0, .ref 58), (1, .int a1), (2, .int a2), (3, .int a3), (4, .int a4), (5, .int a5)] [] w := by
  refine jj_iload (pc := 114) dX7_adds_114 5 rfl ?_
  refine jj_if_lt (pc := 116) (tgt := 148) dX7_adds_116 (by decide) (fun c1 => ?_) (fun c1 => ?_)
  · replace h := h.1 c1
    refine jj_iload (pc := 148) dX7_adds_148 4 rfl ?_
    refine jj_iconst (pc := 150) (v := (-1)) dX7_adds_150 (by decide) ?_
    refine jj_icmp_ne (pc := 151) (tgt := 174) dX7_adds_151 (by decide) (fun c2 => ?_) (fun c2 => ?_)
    · replace h := h.1 c2
      refine jj_aload_n (pc := 174) dX7_adds_174 0 rfl ?_
      refine jj_iload_n (pc := 175) dX7_adds_175 3 rfl ?_
      refine jj_callVv (pc := 176) (N := mX7_lowers) (as := [.int a3]) (st := []) dX7_adds_176 rfl rfl rfl lk_RX7_117 hv_X7_lowers rfl rfl h (fun w4 h => ?_)
      refine jj_iconst (pc := 179) (v := 0) dX7_adds_179 (by decide) ?_
      refine jj_istore (pc := 180) (l2 := [(5, .int 0), (0, .ref 58), (1, .int a1), (2, .int a2), (3, .int a3), (4, .int a4)]) dX7_adds_180 (by decide) rfl ?_
      exact jj_sub [1, 2, 3, 4, 5, 0] rfl h
    · replace h := h.2 c2
      refine jj_aload_n (pc := 154) dX7_adds_154 0 rfl ?_
      refine jj_getR (pc := 155) (ci := 7) (k := 7) dX7_adds_155 rfl rfl (by decide) rfl lk_RX7_25 ?_
      refine jj_iload_n (pc := 158) dX7_adds_158 3 rfl ?_
      refine jj_bipush (pc := 159) (v := 10) dX7_adds_159 (by decide) ?_
      refine jj_iadd (pc := 161) dX7_adds_161 ?_
      refine jj_lald (pc := 162) dX7_adds_162 rfl h.1 ?_
      replace h := h.2
      refine jj_lconst (pc := 163) (v := 0) dX7_adds_163 (by decide) ?_
      refine jj_lcmp_ne (pc := 164) (tgt := 172) dX7_adds_164 dX7_adds_165 (by decide) (fun c5 => ?_) (fun c5 => ?_)
      · replace h := h.1 c5
        refine jj_iconst (pc := 172) (v := 0) dX7_adds_172 (by decide) ?_
        exact jj_zret (pc := 173) dX7_adds_173 rfl (Or.inl rfl) h
      · replace h := h.2 c5
        refine jj_iconst (pc := 168) (v := 1) dX7_adds_168 (by decide) ?_
        refine jj_goto (pc := 169) (tgt := 173) dX7_adds_169 (by decide) ?_
        exact jj_zret (pc := 173) dX7_adds_173 rfl (Or.inr rfl) h
  · replace h := h.2 c1
    refine jj_aload_n (pc := 119) dX7_adds_119 0 rfl ?_
    refine jj_getR (pc := 120) (ci := 7) (k := 7) dX7_adds_120 rfl rfl (by decide) rfl lk_RX7_25 ?_
    refine jj_iload_n (pc := 123) dX7_adds_123 3 rfl ?_
    refine jj_iload (pc := 124) dX7_adds_124 5 rfl ?_
    refine jj_iadd (pc := 126) dX7_adds_126 ?_
    refine jj_lald (pc := 127) dX7_adds_127 rfl h.1 ?_
    replace h := h.2
    refine jj_lconst (pc := 128) (v := 0) dX7_adds_128 (by decide) ?_
    refine jj_lcmp_eq (pc := 129) (tgt := 138) dX7_adds_129 dX7_adds_130 (by decide) (fun c6 => ?_) (fun c6 => ?_)
    · replace h := h.1 c6
      refine jj_iload (pc := 138) dX7_adds_138 4 rfl ?_
      refine jj_istore (pc := 140) (l2 := [(4, .int a4), (0, .ref 58), (1, .int a1), (2, .int a2), (3, .int a3), (5, .int a5)]) dX7_adds_140 (by decide) rfl ?_
      refine jj_iinc (pc := 142) (v := a5 + (-1)) (l2 := [(5, .int (a5 + (-1))), (4, .int a4), (0, .ref 58), (1, .int a1), (2, .int a2), (3, .int a3)]) dX7_adds_142 5 rfl rfl (by decide) rfl ?_
      refine jj_goto (pc := 145) (tgt := 114) dX7_adds_145 (by decide) ?_
      exact jj_sub [2, 3, 4, 5, 1, 0] rfl h
    · replace h := h.2 c6
      refine jj_iload (pc := 133) dX7_adds_133 5 rfl ?_
      refine jj_goto (pc := 135) (tgt := 140) dX7_adds_135 (by decide) ?_
      refine jj_istore (pc := 140) (l2 := [(4, .int a5), (0, .ref 58), (1, .int a1), (2, .int a2), (3, .int a3), (5, .int a5)]) dX7_adds_140 (by decide) rfl ?_
      refine jj_iinc (pc := 142) (v := a5 + (-1)) (l2 := [(5, .int (a5 + (-1))), (4, .int a5), (0, .ref 58), (1, .int a1), (2, .int a2), (3, .int a3)]) dX7_adds_142 5 rfl rfl (by decide) rfl ?_
      refine jj_goto (pc := 145) (tgt := 114) dX7_adds_145 (by decide) ?_
      exact jj_sub [2, 3, 4, 5, 1, 0] rfl h
set_option maxRecDepth 100000 in
set_option maxHeartbeats 4000000 in
theorem vc_X7_adds_182 {K : jj_K} (R : Int32 → wo_T → Prop)  (a1 : Int32) (a2 : Int32) (a3 : Int32) (a4 : Int32) (a5 : Int32) (w : wo_T)
    (h : ((w.1 58 9) ≤ a5 → vp_in (w.1 58 9) 10 ∧ (R 1 (wo_i (wo_i w 65 (w.1 58 9).toNatClampNeg a4) 58 9 (((wo_i w 65 (w.1 58 9).toNatClampNeg a4).1 58 9) + 1)))) ∧ (¬ (w.1 58 9) ≤ a5 → jj_Cv K mX7_clears [.ref 58, .int (11 * a5), .int a3, .int a4] w (fun w3 => jj_J K mX7_adds (jj_Ri R) 182 [(0, .ref 58), (1, .int a1), (2, .int a2), (3, .int a3), (4, .int a4), (5, .int (a5 + 1))] [] w3))) :
    jj_J K mX7_adds (jj_Ri R) 182 [(0, .ref 58), (1, .int a1), (2, .int a2), (3, .int a3), (4, .int a4), (5, .int a5)] [] w := by
  refine jj_iload (pc := 182) dX7_adds_182 5 rfl ?_
  refine jj_aload_n (pc := 184) dX7_adds_184 0 rfl ?_
  refine jj_getI (pc := 185) (ci := 7) (k := 9) dX7_adds_185 rfl rfl (by decide) rfl lk_RX7_121 ?_
  refine jj_icmp_ge (pc := 188) (tgt := 209) dX7_adds_188 (by decide) (fun c1 => ?_) (fun c1 => ?_)
  · replace h := h.1 c1
    refine jj_aload_n (pc := 209) dX7_adds_209 0 rfl ?_
    refine jj_getR (pc := 210) (ci := 7) (k := 8) dX7_adds_210 rfl rfl (by decide) rfl lk_RX7_29 ?_
    refine jj_aload_n (pc := 213) dX7_adds_213 0 rfl ?_
    refine jj_getI (pc := 214) (ci := 7) (k := 9) dX7_adds_214 rfl rfl (by decide) rfl lk_RX7_121 ?_
    refine jj_iload (pc := 217) dX7_adds_217 4 rfl ?_
    refine jj_iast (pc := 219) dX7_adds_219 rfl h.1 ?_
    replace h := h.2
    refine jj_aload_n (pc := 220) dX7_adds_220 0 rfl ?_
    refine jj_dup (pc := 221) dX7_adds_221 rfl ?_
    refine jj_getI (pc := 222) (ci := 7) (k := 9) dX7_adds_222 rfl rfl (by decide) rfl lk_RX7_121 ?_
    refine jj_iconst (pc := 225) (v := 1) dX7_adds_225 (by decide) ?_
    refine jj_iadd (pc := 226) dX7_adds_226 ?_
    refine jj_putI (pc := 227) (ci := 7) (k := 9) (ty := .int) dX7_adds_227 rfl rfl (by decide) rfl lk_RX7_121 rfl (by decide) rfl rfl ?_
    refine jj_iconst (pc := 230) (v := 1) dX7_adds_230 (by decide) ?_
    exact jj_zret (pc := 231) dX7_adds_231 rfl (Or.inr rfl) h
  · replace h := h.2 c1
    refine jj_aload_n (pc := 191) dX7_adds_191 0 rfl ?_
    refine jj_bipush (pc := 192) (v := 11) dX7_adds_192 (by decide) ?_
    refine jj_iload (pc := 194) dX7_adds_194 5 rfl ?_
    refine jj_imul (pc := 196) dX7_adds_196 ?_
    refine jj_iload_n (pc := 197) dX7_adds_197 3 rfl ?_
    refine jj_iload (pc := 198) dX7_adds_198 4 rfl ?_
    refine jj_callVv (pc := 200) (N := mX7_clears) (as := [.int (11 * a5), .int a3, .int a4]) (st := []) dX7_adds_200 rfl rfl rfl lk_RX7_127 hv_X7_clears rfl rfl h (fun w3 h => ?_)
    refine jj_iinc (pc := 203) (v := a5 + 1) (l2 := [(5, .int (a5 + 1)), (0, .ref 58), (1, .int a1), (2, .int a2), (3, .int a3), (4, .int a4)]) dX7_adds_203 5 rfl rfl (by decide) rfl ?_
    refine jj_goto (pc := 206) (tgt := 182) dX7_adds_206 (by decide) ?_
    exact jj_sub [1, 2, 3, 4, 5, 0] rfl h
set_option maxRecDepth 100000 in
set_option maxHeartbeats 4000000 in
theorem vc_X7_faultOf_0 {K : jj_K} (R : Int32 → wo_T → Prop)  (a1 : Int32) (w : wo_T)
    (h : jj_J K mX7_faultOf (jj_Ri R) 7 [(0, .ref 58), (1, .int a1), (2, .int 0)] [] (wo_i w 58 9 0)) :
    jj_J K mX7_faultOf (jj_Ri R) 0 [(0, .ref 58), (1, .int a1)] [] w := by
  refine jj_aload_n (pc := 0) dX7_faultOf_0 0 rfl ?_
  refine jj_iconst (pc := 1) (v := 0) dX7_faultOf_1 (by decide) ?_
  refine jj_putI (pc := 2) (ci := 7) (k := 9) (ty := .int) dX7_faultOf_2 rfl rfl (by decide) rfl lk_RX7_121 rfl (by decide) rfl rfl ?_
  refine jj_iconst (pc := 5) (v := 0) dX7_faultOf_5 (by decide) ?_
  refine jj_istore_n (pc := 6) (l2 := [(2, .int 0), (0, .ref 58), (1, .int a1)]) dX7_faultOf_6 (by decide) rfl ?_
  exact jj_sub [1, 2, 0] rfl h
theorem en_X7_faultOf {K : jj_K} (R : Int32 → wo_T → Prop)  (a1 : Int32) (w : wo_T)
    (h : jj_J K mX7_faultOf (jj_Ri R) 7 [(0, .ref 58), (1, .int a1), (2, .int 0)] [] (wo_i w 58 9 0)) : jj_Ci K mX7_faultOf [.ref 58, .int a1] w R :=
  jj_Ci_intro pn_RX7 (Nat.le_of_ble_eq_true rfl) (vc_X7_faultOf_0 R a1 w h)
set_option maxRecDepth 100000 in
set_option maxHeartbeats 4000000 in
theorem vc_X7_faultOf_7 {K : jj_K} (R : Int32 → wo_T → Prop)  (a1 : Int32) (a2 : Int32) (w : wo_T)
    (h : (10 ≤ a2 → R (-1) w) ∧ (¬ 10 ≤ a2 → jj_Ci K mX7_isWay [.ref 58, .int a2] w (fun v2 w3 => (v2 = 0 → jj_J K mX7_faultOf (jj_Ri R) 7 [(0, .ref 58), (1, .int a1), (2, .int (a2 + 1))] [] w3) ∧ (¬ v2 = 0 → jj_Ci K mX7_adds [.ref 58, .int a1, .int a2] w3 (fun v5 w6 => (¬ v5 = 0 → jj_J K mX7_faultOf (jj_Ri R) 7 [(0, .ref 58), (1, .int a1), (2, .int (a2 + 1))] [] w6) ∧ (v5 = 0 → R a2 w6)))))) :
    jj_J K mX7_faultOf (jj_Ri R) 7 [(0, .ref 58), (1, .int a1), (2, .int a2)] [] w := by
  refine jj_iload_n (pc := 7) dX7_faultOf_7 2 rfl ?_
  refine jj_bipush (pc := 8) (v := 10) dX7_faultOf_8 (by decide) ?_
  refine jj_icmp_ge (pc := 10) (tgt := 38) dX7_faultOf_10 (by decide) (fun c1 => ?_) (fun c1 => ?_)
  · replace h := h.1 c1
    refine jj_iconst (pc := 38) (v := (-1)) dX7_faultOf_38 (by decide) ?_
    exact jj_iret (pc := 39) dX7_faultOf_39 rfl h
  · replace h := h.2 c1
    refine jj_aload_n (pc := 13) dX7_faultOf_13 0 rfl ?_
    refine jj_iload_n (pc := 14) dX7_faultOf_14 2 rfl ?_
    refine jj_callVi (pc := 15) (N := mX7_isWay) (as := [.int a2]) (st := []) dX7_faultOf_15 rfl rfl rfl lk_RX7_131 hv_X7_isWay rfl rfl h (fun v2 w3 h => ?_)
    refine jj_if_eq (pc := 18) (tgt := 32) dX7_faultOf_18 (by decide) (fun c4 => ?_) (fun c4 => ?_)
    · replace h := h.1 c4
      refine jj_iinc (pc := 32) (v := a2 + 1) (l2 := [(2, .int (a2 + 1)), (0, .ref 58), (1, .int a1)]) dX7_faultOf_32 2 rfl rfl (by decide) rfl ?_
      refine jj_goto (pc := 35) (tgt := 7) dX7_faultOf_35 (by decide) ?_
      exact jj_sub [1, 2, 0] rfl h
    · replace h := h.2 c4
      refine jj_aload_n (pc := 21) dX7_faultOf_21 0 rfl ?_
      refine jj_iload_n (pc := 22) dX7_faultOf_22 1 rfl ?_
      refine jj_iload_n (pc := 23) dX7_faultOf_23 2 rfl ?_
      refine jj_callVi (pc := 24) (N := mX7_adds) (as := [.int a1, .int a2]) (st := []) dX7_faultOf_24 rfl rfl rfl lk_RX7_134 hv_X7_adds rfl rfl h (fun v5 w6 h => ?_)
      refine jj_if_ne (pc := 27) (tgt := 32) dX7_faultOf_27 (by decide) (fun c7 => ?_) (fun c7 => ?_)
      · replace h := h.1 c7
        refine jj_iinc (pc := 32) (v := a2 + 1) (l2 := [(2, .int (a2 + 1)), (0, .ref 58), (1, .int a1)]) dX7_faultOf_32 2 rfl rfl (by decide) rfl ?_
        refine jj_goto (pc := 35) (tgt := 7) dX7_faultOf_35 (by decide) ?_
        exact jj_sub [1, 2, 0] rfl h
      · replace h := h.2 c7
        refine jj_iload_n (pc := 30) dX7_faultOf_30 2 rfl ?_
        exact jj_iret (pc := 31) dX7_faultOf_31 rfl h
set_option maxRecDepth 100000 in
set_option maxHeartbeats 4000000 in
theorem vc_X7_size_0 {K : jj_K} (R : Int32 → wo_T → Prop)  (a0 : Int32) (w : wo_T)
    (h : jj_J K mX7_size (jj_Ri R) 4 [(0, .int a0), (1, .int 0), (2, .int 0)] [] w) :
    jj_J K mX7_size (jj_Ri R) 0 [(0, .int a0)] [] w := by
  refine jj_iconst (pc := 0) (v := 0) dX7_size_0 (by decide) ?_
  refine jj_istore_n (pc := 1) (l2 := [(1, .int 0), (0, .int a0)]) dX7_size_1 (by decide) rfl ?_
  refine jj_iconst (pc := 2) (v := 0) dX7_size_2 (by decide) ?_
  refine jj_istore_n (pc := 3) (l2 := [(2, .int 0), (1, .int 0), (0, .int a0)]) dX7_size_3 (by decide) rfl ?_
  exact jj_sub [2, 1, 0] rfl h
theorem en_X7_size {K : jj_K} (R : Int32 → wo_T → Prop)  (a0 : Int32) (w : wo_T)
    (h : jj_J K mX7_size (jj_Ri R) 4 [(0, .int a0), (1, .int 0), (2, .int 0)] [] w) : jj_Ci K mX7_size [.int a0] w R :=
  jj_Ci_intro pn_RX7 (Nat.le_of_ble_eq_true rfl) (vc_X7_size_0 R a0 w h)
set_option maxRecDepth 100000 in
set_option maxHeartbeats 4000000 in
theorem vc_X7_size_4 {K : jj_K} (R : Int32 → wo_T → Prop)  (a0 : Int32) (a1 : Int32) (a2 : Int32) (w : wo_T)
    (h : (10 ≤ a2 → R a1 w) ∧ (¬ 10 ≤ a2 → ∀ x2 : Int32, x2 = a1 + ((a0 >>> (a2 &&& 31)) &&& 1) → (jj_J K mX7_size (jj_Ri R) 4 [(0, .int a0), (1, .int x2), (2, .int (a2 + 1))] [] w))) :
    jj_J K mX7_size (jj_Ri R) 4 [(0, .int a0), (1, .int a1), (2, .int a2)] [] w := by
  refine jj_iload_n (pc := 4) dX7_size_4 2 rfl ?_
  refine jj_bipush (pc := 5) (v := 10) dX7_size_5 (by decide) ?_
  refine jj_icmp_ge (pc := 7) (tgt := 24) dX7_size_7 (by decide) (fun c1 => ?_) (fun c1 => ?_)
  · replace h := h.1 c1
    refine jj_iload_n (pc := 24) dX7_size_24 1 rfl ?_
    exact jj_iret (pc := 25) dX7_size_25 rfl h
  · replace h := h.2 c1
    refine jj_iload_n (pc := 10) dX7_size_10 1 rfl ?_
    refine jj_iload_n (pc := 11) dX7_size_11 0 rfl ?_
    refine jj_iload_n (pc := 12) dX7_size_12 2 rfl ?_
    refine jj_ishr (pc := 13) dX7_size_13 ?_
    refine jj_iconst (pc := 14) (v := 1) dX7_size_14 (by decide) ?_
    refine jj_iand (pc := 15) dX7_size_15 ?_
    refine jj_iadd (pc := 16) dX7_size_16 ?_
    refine jj_nmi (fun x2 ex2 => ?_)
    replace h := h x2 ex2
    refine jj_istore_n (pc := 17) (l2 := [(1, .int x2), (0, .int a0), (2, .int a2)]) dX7_size_17 (by decide) rfl ?_
    refine jj_iinc (pc := 18) (v := a2 + 1) (l2 := [(2, .int (a2 + 1)), (1, .int x2), (0, .int a0)]) dX7_size_18 2 rfl rfl (by decide) rfl ?_
    refine jj_goto (pc := 21) (tgt := 4) dX7_size_21 (by decide) ?_
    exact jj_sub [2, 1, 0] rfl h
set_option maxRecDepth 100000 in
set_option maxHeartbeats 4000000 in
theorem vc_X7_volumes_0 {K : jj_K} (R : wo_T → Prop)  (a1 : Int32) (w : wo_T)
    (h : jj_J K mX7_volumes (jj_Rv R) 8 [(0, .ref 58), (1, .int a1), (2, .long 0), (4, .long 1), (6, .int 0)] [] w) :
    jj_J K mX7_volumes (jj_Rv R) 0 [(0, .ref 58), (1, .int a1)] [] w := by
  refine jj_lconst (pc := 0) (v := 0) dX7_volumes_0 (by decide) ?_
  refine jj_lstore_n (pc := 1) (l2 := [(2, .long 0), (0, .ref 58), (1, .int a1)]) dX7_volumes_1 (by decide) rfl ?_
  refine jj_lconst (pc := 2) (v := 1) dX7_volumes_2 (by decide) ?_
  refine jj_lstore (pc := 3) (l2 := [(4, .long 1), (2, .long 0), (0, .ref 58), (1, .int a1)]) dX7_volumes_3 (by decide) rfl ?_
  refine jj_iconst (pc := 5) (v := 0) dX7_volumes_5 (by decide) ?_
  refine jj_istore (pc := 6) (l2 := [(6, .int 0), (4, .long 1), (2, .long 0), (0, .ref 58), (1, .int a1)]) dX7_volumes_6 (by decide) rfl ?_
  exact jj_sub [3, 4, 2, 1, 0] rfl h
theorem en_X7_volumes {K : jj_K} (R : wo_T → Prop)  (a1 : Int32) (w : wo_T)
    (h : jj_J K mX7_volumes (jj_Rv R) 8 [(0, .ref 58), (1, .int a1), (2, .long 0), (4, .long 1), (6, .int 0)] [] w) : jj_Cv K mX7_volumes [.ref 58, .int a1] w R :=
  jj_Cv_intro pn_RX7 (Nat.le_of_ble_eq_true rfl) (vc_X7_volumes_0 R a1 w h)
set_option maxRecDepth 100000 in
set_option maxHeartbeats 4000000 in
theorem vc_X7_volumes_8 {K : jj_K} (R : wo_T → Prop)  (a1 : Int32) (a2 : Int64) (a4 : Int64) (a6 : Int32) (w : wo_T)
    (h : ((w.1 58 9) ≤ a6 → vp_in a1 1024 ∧ (vp_in a1 1024 ∧ (R (wo_l (wo_l w 67 a1.toNatClampNeg a2) 68 a1.toNatClampNeg a4)))) ∧ (¬ (w.1 58 9) ≤ a6 → vp_in ((11 * a6) + 10) 110 ∧ (∀ x2 : Int64, x2 = w.2 64 ((11 * a6) + 10).toNatClampNeg → (vp_in a6 10 ∧ (vp_in ((11 * a6) + (w.1 65 a6.toNatClampNeg)) 110 ∧ (∀ x3 : Int64, x3 = w.2 64 ((11 * a6) + (w.1 65 a6.toNatClampNeg)).toNatClampNeg → ((0 ≤ x2 → (0 ≤ x3 → vp_in a6 10 ∧ (jj_Ci K mX7_quad [.ref 58, .int (w.1 65 a6.toNatClampNeg)] w (fun v6 w7 => ∀ x8 : Int64, x8 = (a2 * x3) + ((a4 * x2) * v6.toInt64) → ∀ x9 : Int64, x9 = a4 * x3 → (jj_Cl K mX7_partOf [.long x8, .long x9, .int 0] w7 (fun v10 w11 => jj_Cl K mX7_partOf [.long x8, .long x9, .int 1] w11 (fun v12 w13 => jj_J K mX7_volumes (jj_Rv R) 8 [(0, .ref 58), (1, .int a1), (2, .long v10), (4, .long v12), (6, .int (a6 + 1))] [] w13)))))) ∧ (¬ 0 ≤ x3 → ∀ x14 : Int64, x14 = -x3 → (vp_in a6 10 ∧ (jj_Ci K mX7_quad [.ref 58, .int (w.1 65 a6.toNatClampNeg)] w (fun v15 w16 => ∀ x17 : Int64, x17 = (a2 * x14) + ((a4 * x2) * v15.toInt64) → ∀ x18 : Int64, x18 = a4 * x14 → (jj_Cl K mX7_partOf [.long x17, .long x18, .int 0] w16 (fun v19 w20 => jj_Cl K mX7_partOf [.long x17, .long x18, .int 1] w20 (fun v21 w22 => jj_J K mX7_volumes (jj_Rv R) 8 [(0, .ref 58), (1, .int a1), (2, .long v19), (4, .long v21), (6, .int (a6 + 1))] [] w22)))))))) ∧ (¬ 0 ≤ x2 → ∀ x23 : Int64, x23 = -x2 → ((0 ≤ x3 → vp_in a6 10 ∧ (jj_Ci K mX7_quad [.ref 58, .int (w.1 65 a6.toNatClampNeg)] w (fun v25 w26 => ∀ x27 : Int64, x27 = (a2 * x3) + ((a4 * x23) * v25.toInt64) → ∀ x28 : Int64, x28 = a4 * x3 → (jj_Cl K mX7_partOf [.long x27, .long x28, .int 0] w26 (fun v29 w30 => jj_Cl K mX7_partOf [.long x27, .long x28, .int 1] w30 (fun v31 w32 => jj_J K mX7_volumes (jj_Rv R) 8 [(0, .ref 58), (1, .int a1), (2, .long v29), (4, .long v31), (6, .int (a6 + 1))] [] w32)))))) ∧ (¬ 0 ≤ x3 → ∀ x33 : Int64, x33 = -x3 → (vp_in a6 10 ∧ (jj_Ci K mX7_quad [.ref 58, .int (w.1 65 a6.toNatClampNeg)] w (fun v34 w35 => ∀ x36 : Int64, x36 = (a2 * x33) + ((a4 * x23) * v34.toInt64) → ∀ x37 : Int64, x37 = a4 * x33 → (jj_Cl K mX7_partOf [.long x36, .long x37, .int 0] w35 (fun v38 w39 => jj_Cl K mX7_partOf [.long x36, .long x37, .int 1] w39 (fun v40 w41 => jj_J K mX7_volumes (jj_Rv R) 8 [(0, .ref 58), (1, .int a1), (2, .long v38), (4, .long v40), (6, .int (a6 + 1))] [] w41)))))))))))))))) :
    jj_J K mX7_volumes (jj_Rv R) 8 [(0, .ref 58), (1, .int a1), (2, .long a2), (4, .long a4), (6, .int a6)] [] w := by
  refine jj_iload (pc := 8) dX7_volumes_8 4 rfl ?_
  refine jj_aload_n (pc := 10) dX7_volumes_10 0 rfl ?_
  refine jj_getI (pc := 11) (ci := 7) (k := 9) dX7_volumes_11 rfl rfl (by decide) rfl lk_RX7_121 ?_
  refine jj_icmp_ge (pc := 14) (tgt := 143) dX7_volumes_14 (by decide) (fun c1 => ?_) (fun c1 => ?_)
  · replace h := h.1 c1
    refine jj_aload_n (pc := 143) dX7_volumes_143 0 rfl ?_
    refine jj_getR (pc := 144) (ci := 7) (k := 11) dX7_volumes_144 rfl rfl (by decide) rfl lk_RX7_36 ?_
    refine jj_iload_n (pc := 147) dX7_volumes_147 1 rfl ?_
    refine jj_lload_n (pc := 148) dX7_volumes_148 2 rfl ?_
    refine jj_last (pc := 149) dX7_volumes_149 rfl h.1 ?_
    replace h := h.2
    refine jj_aload_n (pc := 150) dX7_volumes_150 0 rfl ?_
    refine jj_getR (pc := 151) (ci := 7) (k := 12) dX7_volumes_151 rfl rfl (by decide) rfl lk_RX7_39 ?_
    refine jj_iload_n (pc := 154) dX7_volumes_154 1 rfl ?_
    refine jj_lload (pc := 155) dX7_volumes_155 3 rfl ?_
    refine jj_last (pc := 157) dX7_volumes_157 rfl h.1 ?_
    replace h := h.2
    exact jj_vret (pc := 158) dX7_volumes_158 rfl h
  · replace h := h.2 c1
    refine jj_aload_n (pc := 17) dX7_volumes_17 0 rfl ?_
    refine jj_getR (pc := 18) (ci := 7) (k := 7) dX7_volumes_18 rfl rfl (by decide) rfl lk_RX7_25 ?_
    refine jj_bipush (pc := 21) (v := 11) dX7_volumes_21 (by decide) ?_
    refine jj_iload (pc := 23) dX7_volumes_23 4 rfl ?_
    refine jj_imul (pc := 25) dX7_volumes_25 ?_
    refine jj_bipush (pc := 26) (v := 10) dX7_volumes_26 (by decide) ?_
    refine jj_iadd (pc := 28) dX7_volumes_28 ?_
    refine jj_lald (pc := 29) dX7_volumes_29 rfl h.1 ?_
    replace h := h.2
    refine jj_nml (fun x2 ex2 => ?_)
    replace h := h x2 ex2
    refine jj_lstore (pc := 30) (l2 := [(7, .long x2), (0, .ref 58), (1, .int a1), (2, .long a2), (4, .long a4), (6, .int a6)]) dX7_volumes_30 (by decide) rfl ?_
    refine jj_aload_n (pc := 32) dX7_volumes_32 1 rfl ?_
    refine jj_getR (pc := 33) (ci := 7) (k := 7) dX7_volumes_33 rfl rfl (by decide) rfl lk_RX7_25 ?_
    refine jj_bipush (pc := 36) (v := 11) dX7_volumes_36 (by decide) ?_
    refine jj_iload (pc := 38) dX7_volumes_38 5 rfl ?_
    refine jj_imul (pc := 40) dX7_volumes_40 ?_
    refine jj_aload_n (pc := 41) dX7_volumes_41 1 rfl ?_
    refine jj_getR (pc := 42) (ci := 7) (k := 8) dX7_volumes_42 rfl rfl (by decide) rfl lk_RX7_29 ?_
    refine jj_iload (pc := 45) dX7_volumes_45 5 rfl ?_
    refine jj_iald (pc := 47) dX7_volumes_47 rfl h.1 ?_
    replace h := h.2
    refine jj_iadd (pc := 48) dX7_volumes_48 ?_
    refine jj_lald (pc := 49) dX7_volumes_49 rfl h.1 ?_
    replace h := h.2
    refine jj_nml (fun x3 ex3 => ?_)
    replace h := h x3 ex3
    refine jj_lstore (pc := 50) (l2 := [(9, .long x3), (7, .long x2), (0, .ref 58), (1, .int a1), (2, .long a2), (4, .long a4), (6, .int a6)]) dX7_volumes_50 (by decide) rfl ?_
    refine jj_lload (pc := 52) dX7_volumes_52 1 rfl ?_
    refine jj_lconst (pc := 54) (v := 0) dX7_volumes_54 (by decide) ?_
    refine jj_lcmp_ge (pc := 55) (tgt := 65) dX7_volumes_55 dX7_volumes_56 (by decide) (fun c4 => ?_) (fun c4 => ?_)
    · replace h := h.1 c4
      refine jj_lload (pc := 65) dX7_volumes_65 1 rfl ?_
      refine jj_lstore (pc := 67) (l2 := [(7, .long x2), (9, .long x3), (0, .ref 58), (1, .int a1), (2, .long a2), (4, .long a4), (6, .int a6)]) dX7_volumes_67 (by decide) rfl ?_
      refine jj_lload (pc := 69) dX7_volumes_69 1 rfl ?_
      refine jj_lconst (pc := 71) (v := 0) dX7_volumes_71 (by decide) ?_
      refine jj_lcmp_ge (pc := 72) (tgt := 82) dX7_volumes_72 dX7_volumes_73 (by decide) (fun c5 => ?_) (fun c5 => ?_)
      · replace h := h.1 c5
        refine jj_lload (pc := 82) dX7_volumes_82 1 rfl ?_
        refine jj_lstore (pc := 84) (l2 := [(9, .long x3), (7, .long x2), (0, .ref 58), (1, .int a1), (2, .long a2), (4, .long a4), (6, .int a6)]) dX7_volumes_84 (by decide) rfl ?_
        refine jj_lload_n (pc := 86) dX7_volumes_86 4 rfl ?_
        refine jj_lload (pc := 87) dX7_volumes_87 0 rfl ?_
        refine jj_lmul (pc := 89) dX7_volumes_89 ?_
        refine jj_lload (pc := 90) dX7_volumes_90 5 rfl ?_
        refine jj_lload (pc := 92) dX7_volumes_92 1 rfl ?_
        refine jj_lmul (pc := 94) dX7_volumes_94 ?_
        refine jj_aload_n (pc := 95) dX7_volumes_95 2 rfl ?_
        refine jj_aload_n (pc := 96) dX7_volumes_96 2 rfl ?_
        refine jj_getR (pc := 97) (ci := 7) (k := 8) dX7_volumes_97 rfl rfl (by decide) rfl lk_RX7_29 ?_
        refine jj_iload (pc := 100) dX7_volumes_100 6 rfl ?_
        refine jj_iald (pc := 102) dX7_volumes_102 rfl h.1 ?_
        replace h := h.2
        refine jj_callVi (pc := 103) (N := mX7_quad) (as := [.int (w.1 65 a6.toNatClampNeg)]) (st := [.long (a4 * x2), .long (a2 * x3)]) dX7_volumes_103 rfl rfl rfl lk_RX7_111 hv_X7_quad rfl rfl h (fun v6 w7 h => ?_)
        refine jj_i2l (pc := 106) dX7_volumes_106 ?_
        refine jj_lmul (pc := 107) dX7_volumes_107 ?_
        refine jj_ladd (pc := 108) dX7_volumes_108 ?_
        refine jj_nml (fun x8 ex8 => ?_)
        replace h := h x8 ex8
        refine jj_lstore (pc := 109) (l2 := [(11, .long x8), (9, .long x3), (7, .long x2), (0, .ref 58), (1, .int a1), (2, .long a2), (4, .long a4), (6, .int a6)]) dX7_volumes_109 (by decide) rfl ?_
        refine jj_lload (pc := 111) dX7_volumes_111 6 rfl ?_
        refine jj_lload (pc := 113) dX7_volumes_113 1 rfl ?_
        refine jj_lmul (pc := 115) dX7_volumes_115 ?_
        refine jj_nml (fun x9 ex9 => ?_)
        replace h := h x9 ex9
        refine jj_lstore (pc := 116) (l2 := [(13, .long x9), (11, .long x8), (9, .long x3), (7, .long x2), (0, .ref 58), (1, .int a1), (2, .long a2), (4, .long a4), (6, .int a6)]) dX7_volumes_116 (by decide) rfl ?_
        refine jj_lload (pc := 118) dX7_volumes_118 1 rfl ?_
        refine jj_lload (pc := 120) dX7_volumes_120 0 rfl ?_
        refine jj_iconst (pc := 122) (v := 0) dX7_volumes_122 (by decide) ?_
        refine jj_callSl (pc := 123) (N := mX7_partOf) (as := [.long x8, .long x9, .int 0]) (st := []) dX7_volumes_123 lk_RX7_138 hv_X7_partOf rfl rfl h (fun v10 w11 h => ?_)
        refine jj_lstore_n (pc := 126) (l2 := [(2, .long v10), (13, .long x9), (11, .long x8), (9, .long x3), (7, .long x2), (0, .ref 58), (1, .int a1), (4, .long a4), (6, .int a6)]) dX7_volumes_126 (by decide) rfl ?_
        refine jj_lload (pc := 127) dX7_volumes_127 2 rfl ?_
        refine jj_lload (pc := 129) dX7_volumes_129 1 rfl ?_
        refine jj_iconst (pc := 131) (v := 1) dX7_volumes_131 (by decide) ?_
        refine jj_callSl (pc := 132) (N := mX7_partOf) (as := [.long x8, .long x9, .int 1]) (st := []) dX7_volumes_132 lk_RX7_138 hv_X7_partOf rfl rfl h (fun v12 w13 h => ?_)
        refine jj_lstore (pc := 135) (l2 := [(4, .long v12), (2, .long v10), (13, .long x9), (11, .long x8), (9, .long x3), (7, .long x2), (0, .ref 58), (1, .int a1), (6, .int a6)]) dX7_volumes_135 (by decide) rfl ?_
        refine jj_iinc (pc := 137) (v := a6 + 1) (l2 := [(6, .int (a6 + 1)), (4, .long v12), (2, .long v10), (13, .long x9), (11, .long x8), (9, .long x3), (7, .long x2), (0, .ref 58), (1, .int a1)]) dX7_volumes_137 8 rfl rfl (by decide) rfl ?_
        refine jj_goto (pc := 140) (tgt := 8) dX7_volumes_140 (by decide) ?_
        exact jj_sub [7, 8, 2, 1, 0] rfl h
      · replace h := h.2 c5
        refine jj_lload (pc := 76) dX7_volumes_76 1 rfl ?_
        refine jj_lneg (pc := 78) dX7_volumes_78 ?_
        refine jj_goto (pc := 79) (tgt := 84) dX7_volumes_79 (by decide) ?_
        refine jj_nml (fun x14 ex14 => ?_)
        replace h := h x14 ex14
        refine jj_lstore (pc := 84) (l2 := [(9, .long x14), (7, .long x2), (0, .ref 58), (1, .int a1), (2, .long a2), (4, .long a4), (6, .int a6)]) dX7_volumes_84 (by decide) rfl ?_
        refine jj_lload_n (pc := 86) dX7_volumes_86 4 rfl ?_
        refine jj_lload (pc := 87) dX7_volumes_87 0 rfl ?_
        refine jj_lmul (pc := 89) dX7_volumes_89 ?_
        refine jj_lload (pc := 90) dX7_volumes_90 5 rfl ?_
        refine jj_lload (pc := 92) dX7_volumes_92 1 rfl ?_
        refine jj_lmul (pc := 94) dX7_volumes_94 ?_
        refine jj_aload_n (pc := 95) dX7_volumes_95 2 rfl ?_
        refine jj_aload_n (pc := 96) dX7_volumes_96 2 rfl ?_
        refine jj_getR (pc := 97) (ci := 7) (k := 8) dX7_volumes_97 rfl rfl (by decide) rfl lk_RX7_29 ?_
        refine jj_iload (pc := 100) dX7_volumes_100 6 rfl ?_
        refine jj_iald (pc := 102) dX7_volumes_102 rfl h.1 ?_
        replace h := h.2
        refine jj_callVi (pc := 103) (N := mX7_quad) (as := [.int (w.1 65 a6.toNatClampNeg)]) (st := [.long (a4 * x2), .long (a2 * x14)]) dX7_volumes_103 rfl rfl rfl lk_RX7_111 hv_X7_quad rfl rfl h (fun v15 w16 h => ?_)
        refine jj_i2l (pc := 106) dX7_volumes_106 ?_
        refine jj_lmul (pc := 107) dX7_volumes_107 ?_
        refine jj_ladd (pc := 108) dX7_volumes_108 ?_
        refine jj_nml (fun x17 ex17 => ?_)
        replace h := h x17 ex17
        refine jj_lstore (pc := 109) (l2 := [(11, .long x17), (9, .long x14), (7, .long x2), (0, .ref 58), (1, .int a1), (2, .long a2), (4, .long a4), (6, .int a6)]) dX7_volumes_109 (by decide) rfl ?_
        refine jj_lload (pc := 111) dX7_volumes_111 6 rfl ?_
        refine jj_lload (pc := 113) dX7_volumes_113 1 rfl ?_
        refine jj_lmul (pc := 115) dX7_volumes_115 ?_
        refine jj_nml (fun x18 ex18 => ?_)
        replace h := h x18 ex18
        refine jj_lstore (pc := 116) (l2 := [(13, .long x18), (11, .long x17), (9, .long x14), (7, .long x2), (0, .ref 58), (1, .int a1), (2, .long a2), (4, .long a4), (6, .int a6)]) dX7_volumes_116 (by decide) rfl ?_
        refine jj_lload (pc := 118) dX7_volumes_118 1 rfl ?_
        refine jj_lload (pc := 120) dX7_volumes_120 0 rfl ?_
        refine jj_iconst (pc := 122) (v := 0) dX7_volumes_122 (by decide) ?_
        refine jj_callSl (pc := 123) (N := mX7_partOf) (as := [.long x17, .long x18, .int 0]) (st := []) dX7_volumes_123 lk_RX7_138 hv_X7_partOf rfl rfl h (fun v19 w20 h => ?_)
        refine jj_lstore_n (pc := 126) (l2 := [(2, .long v19), (13, .long x18), (11, .long x17), (9, .long x14), (7, .long x2), (0, .ref 58), (1, .int a1), (4, .long a4), (6, .int a6)]) dX7_volumes_126 (by decide) rfl ?_
        refine jj_lload (pc := 127) dX7_volumes_127 2 rfl ?_
        refine jj_lload (pc := 129) dX7_volumes_129 1 rfl ?_
        refine jj_iconst (pc := 131) (v := 1) dX7_volumes_131 (by decide) ?_
        refine jj_callSl (pc := 132) (N := mX7_partOf) (as := [.long x17, .long x18, .int 1]) (st := []) dX7_volumes_132 lk_RX7_138 hv_X7_partOf rfl rfl h (fun v21 w22 h => ?_)
        refine jj_lstore (pc := 135) (l2 := [(4, .long v21), (2, .long v19), (13, .long x18), (11, .long x17), (9, .long x14), (7, .long x2), (0, .ref 58), (1, .int a1), (6, .int a6)]) dX7_volumes_135 (by decide) rfl ?_
        refine jj_iinc (pc := 137) (v := a6 + 1) (l2 := [(6, .int (a6 + 1)), (4, .long v21), (2, .long v19), (13, .long x18), (11, .long x17), (9, .long x14), (7, .long x2), (0, .ref 58), (1, .int a1)]) dX7_volumes_137 8 rfl rfl (by decide) rfl ?_
        refine jj_goto (pc := 140) (tgt := 8) dX7_volumes_140 (by decide) ?_
        exact jj_sub [7, 8, 2, 1, 0] rfl h
    · replace h := h.2 c4
      refine jj_lload (pc := 59) dX7_volumes_59 1 rfl ?_
      refine jj_lneg (pc := 61) dX7_volumes_61 ?_
      refine jj_goto (pc := 62) (tgt := 67) dX7_volumes_62 (by decide) ?_
      refine jj_nml (fun x23 ex23 => ?_)
      replace h := h x23 ex23
      refine jj_lstore (pc := 67) (l2 := [(7, .long x23), (9, .long x3), (0, .ref 58), (1, .int a1), (2, .long a2), (4, .long a4), (6, .int a6)]) dX7_volumes_67 (by decide) rfl ?_
      refine jj_lload (pc := 69) dX7_volumes_69 1 rfl ?_
      refine jj_lconst (pc := 71) (v := 0) dX7_volumes_71 (by decide) ?_
      refine jj_lcmp_ge (pc := 72) (tgt := 82) dX7_volumes_72 dX7_volumes_73 (by decide) (fun c24 => ?_) (fun c24 => ?_)
      · replace h := h.1 c24
        refine jj_lload (pc := 82) dX7_volumes_82 1 rfl ?_
        refine jj_lstore (pc := 84) (l2 := [(9, .long x3), (7, .long x23), (0, .ref 58), (1, .int a1), (2, .long a2), (4, .long a4), (6, .int a6)]) dX7_volumes_84 (by decide) rfl ?_
        refine jj_lload_n (pc := 86) dX7_volumes_86 4 rfl ?_
        refine jj_lload (pc := 87) dX7_volumes_87 0 rfl ?_
        refine jj_lmul (pc := 89) dX7_volumes_89 ?_
        refine jj_lload (pc := 90) dX7_volumes_90 5 rfl ?_
        refine jj_lload (pc := 92) dX7_volumes_92 1 rfl ?_
        refine jj_lmul (pc := 94) dX7_volumes_94 ?_
        refine jj_aload_n (pc := 95) dX7_volumes_95 2 rfl ?_
        refine jj_aload_n (pc := 96) dX7_volumes_96 2 rfl ?_
        refine jj_getR (pc := 97) (ci := 7) (k := 8) dX7_volumes_97 rfl rfl (by decide) rfl lk_RX7_29 ?_
        refine jj_iload (pc := 100) dX7_volumes_100 6 rfl ?_
        refine jj_iald (pc := 102) dX7_volumes_102 rfl h.1 ?_
        replace h := h.2
        refine jj_callVi (pc := 103) (N := mX7_quad) (as := [.int (w.1 65 a6.toNatClampNeg)]) (st := [.long (a4 * x23), .long (a2 * x3)]) dX7_volumes_103 rfl rfl rfl lk_RX7_111 hv_X7_quad rfl rfl h (fun v25 w26 h => ?_)
        refine jj_i2l (pc := 106) dX7_volumes_106 ?_
        refine jj_lmul (pc := 107) dX7_volumes_107 ?_
        refine jj_ladd (pc := 108) dX7_volumes_108 ?_
        refine jj_nml (fun x27 ex27 => ?_)
        replace h := h x27 ex27
        refine jj_lstore (pc := 109) (l2 := [(11, .long x27), (9, .long x3), (7, .long x23), (0, .ref 58), (1, .int a1), (2, .long a2), (4, .long a4), (6, .int a6)]) dX7_volumes_109 (by decide) rfl ?_
        refine jj_lload (pc := 111) dX7_volumes_111 6 rfl ?_
        refine jj_lload (pc := 113) dX7_volumes_113 1 rfl ?_
        refine jj_lmul (pc := 115) dX7_volumes_115 ?_
        refine jj_nml (fun x28 ex28 => ?_)
        replace h := h x28 ex28
        refine jj_lstore (pc := 116) (l2 := [(13, .long x28), (11, .long x27), (9, .long x3), (7, .long x23), (0, .ref 58), (1, .int a1), (2, .long a2), (4, .long a4), (6, .int a6)]) dX7_volumes_116 (by decide) rfl ?_
        refine jj_lload (pc := 118) dX7_volumes_118 1 rfl ?_
        refine jj_lload (pc := 120) dX7_volumes_120 0 rfl ?_
        refine jj_iconst (pc := 122) (v := 0) dX7_volumes_122 (by decide) ?_
        refine jj_callSl (pc := 123) (N := mX7_partOf) (as := [.long x27, .long x28, .int 0]) (st := []) dX7_volumes_123 lk_RX7_138 hv_X7_partOf rfl rfl h (fun v29 w30 h => ?_)
        refine jj_lstore_n (pc := 126) (l2 := [(2, .long v29), (13, .long x28), (11, .long x27), (9, .long x3), (7, .long x23), (0, .ref 58), (1, .int a1), (4, .long a4), (6, .int a6)]) dX7_volumes_126 (by decide) rfl ?_
        refine jj_lload (pc := 127) dX7_volumes_127 2 rfl ?_
        refine jj_lload (pc := 129) dX7_volumes_129 1 rfl ?_
        refine jj_iconst (pc := 131) (v := 1) dX7_volumes_131 (by decide) ?_
        refine jj_callSl (pc := 132) (N := mX7_partOf) (as := [.long x27, .long x28, .int 1]) (st := []) dX7_volumes_132 lk_RX7_138 hv_X7_partOf rfl rfl h (fun v31 w32 h => ?_)
        refine jj_lstore (pc := 135) (l2 := [(4, .long v31), (2, .long v29), (13, .long x28), (11, .long x27), (9, .long x3), (7, .long x23), (0, .ref 58), (1, .int a1), (6, .int a6)]) dX7_volumes_135 (by decide) rfl ?_
        refine jj_iinc (pc := 137) (v := a6 + 1) (l2 := [(6, .int (a6 + 1)), (4, .long v31), (2, .long v29), (13, .long x28), (11, .long x27), (9, .long x3), (7, .long x23), (0, .ref 58), (1, .int a1)]) dX7_volumes_137 8 rfl rfl (by decide) rfl ?_
        refine jj_goto (pc := 140) (tgt := 8) dX7_volumes_140 (by decide) ?_
        exact jj_sub [7, 8, 2, 1, 0] rfl h
      · replace h := h.2 c24
        refine jj_lload (pc := 76) dX7_volumes_76 1 rfl ?_
        refine jj_lneg (pc := 78) dX7_volumes_78 ?_
        refine jj_goto (pc := 79) (tgt := 84) dX7_volumes_79 (by decide) ?_
        refine jj_nml (fun x33 ex33 => ?_)
        replace h := h x33 ex33
        refine jj_lstore (pc := 84) (l2 := [(9, .long x33), (7, .long x23), (0, .ref 58), (1, .int a1), (2, .long a2), (4, .long a4), (6, .int a6)]) dX7_volumes_84 (by decide) rfl ?_
        refine jj_lload_n (pc := 86) dX7_volumes_86 4 rfl ?_
        refine jj_lload (pc := 87) dX7_volumes_87 0 rfl ?_
        refine jj_lmul (pc := 89) dX7_volumes_89 ?_
        refine jj_lload (pc := 90) dX7_volumes_90 5 rfl ?_
        refine jj_lload (pc := 92) dX7_volumes_92 1 rfl ?_
        refine jj_lmul (pc := 94) dX7_volumes_94 ?_
        refine jj_aload_n (pc := 95) dX7_volumes_95 2 rfl ?_
        refine jj_aload_n (pc := 96) dX7_volumes_96 2 rfl ?_
        refine jj_getR (pc := 97) (ci := 7) (k := 8) dX7_volumes_97 rfl rfl (by decide) rfl lk_RX7_29 ?_
        refine jj_iload (pc := 100) dX7_volumes_100 6 rfl ?_
        refine jj_iald (pc := 102) dX7_volumes_102 rfl h.1 ?_
        replace h := h.2
        refine jj_callVi (pc := 103) (N := mX7_quad) (as := [.int (w.1 65 a6.toNatClampNeg)]) (st := [.long (a4 * x23), .long (a2 * x33)]) dX7_volumes_103 rfl rfl rfl lk_RX7_111 hv_X7_quad rfl rfl h (fun v34 w35 h => ?_)
        refine jj_i2l (pc := 106) dX7_volumes_106 ?_
        refine jj_lmul (pc := 107) dX7_volumes_107 ?_
        refine jj_ladd (pc := 108) dX7_volumes_108 ?_
        refine jj_nml (fun x36 ex36 => ?_)
        replace h := h x36 ex36
        refine jj_lstore (pc := 109) (l2 := [(11, .long x36), (9, .long x33), (7, .long x23), (0, .ref 58), (1, .int a1), (2, .long a2), (4, .long a4), (6, .int a6)]) dX7_volumes_109 (by decide) rfl ?_
        refine jj_lload (pc := 111) dX7_volumes_111 6 rfl ?_
        refine jj_lload (pc := 113) dX7_volumes_113 1 rfl ?_
        refine jj_lmul (pc := 115) dX7_volumes_115 ?_
        refine jj_nml (fun x37 ex37 => ?_)
        replace h := h x37 ex37
        refine jj_lstore (pc := 116) (l2 := [(13, .long x37), (11, .long x36), (9, .long x33), (7, .long x23), (0, .ref 58), (1, .int a1), (2, .long a2), (4, .long a4), (6, .int a6)]) dX7_volumes_116 (by decide) rfl ?_
        refine jj_lload (pc := 118) dX7_volumes_118 1 rfl ?_
        refine jj_lload (pc := 120) dX7_volumes_120 0 rfl ?_
        refine jj_iconst (pc := 122) (v := 0) dX7_volumes_122 (by decide) ?_
        refine jj_callSl (pc := 123) (N := mX7_partOf) (as := [.long x36, .long x37, .int 0]) (st := []) dX7_volumes_123 lk_RX7_138 hv_X7_partOf rfl rfl h (fun v38 w39 h => ?_)
        refine jj_lstore_n (pc := 126) (l2 := [(2, .long v38), (13, .long x37), (11, .long x36), (9, .long x33), (7, .long x23), (0, .ref 58), (1, .int a1), (4, .long a4), (6, .int a6)]) dX7_volumes_126 (by decide) rfl ?_
        refine jj_lload (pc := 127) dX7_volumes_127 2 rfl ?_
        refine jj_lload (pc := 129) dX7_volumes_129 1 rfl ?_
        refine jj_iconst (pc := 131) (v := 1) dX7_volumes_131 (by decide) ?_
        refine jj_callSl (pc := 132) (N := mX7_partOf) (as := [.long x36, .long x37, .int 1]) (st := []) dX7_volumes_132 lk_RX7_138 hv_X7_partOf rfl rfl h (fun v40 w41 h => ?_)
        refine jj_lstore (pc := 135) (l2 := [(4, .long v40), (2, .long v38), (13, .long x37), (11, .long x36), (9, .long x33), (7, .long x23), (0, .ref 58), (1, .int a1), (6, .int a6)]) dX7_volumes_135 (by decide) rfl ?_
        refine jj_iinc (pc := 137) (v := a6 + 1) (l2 := [(6, .int (a6 + 1)), (4, .long v40), (2, .long v38), (13, .long x37), (11, .long x36), (9, .long x33), (7, .long x23), (0, .ref 58), (1, .int a1)]) dX7_volumes_137 8 rfl rfl (by decide) rfl ?_
        refine jj_goto (pc := 140) (tgt := 8) dX7_volumes_140 (by decide) ?_
        exact jj_sub [7, 8, 2, 1, 0] rfl h
set_option maxRecDepth 100000 in
set_option maxHeartbeats 4000000 in
theorem vc_X7_finds_0 {K : jj_K} (R : wo_T → Prop)   (w : wo_T)
    (h : jj_J K mX7_finds (jj_Rv R) 2 [(0, .ref 58), (1, .int 0)] [] w) :
    jj_J K mX7_finds (jj_Rv R) 0 [(0, .ref 58)] [] w := by
  refine jj_iconst (pc := 0) (v := 0) dX7_finds_0 (by decide) ?_
  refine jj_istore_n (pc := 1) (l2 := [(1, .int 0), (0, .ref 58)]) dX7_finds_1 (by decide) rfl ?_
  exact jj_sub [1, 0] rfl h
theorem en_X7_finds {K : jj_K} (R : wo_T → Prop)   (w : wo_T)
    (h : jj_J K mX7_finds (jj_Rv R) 2 [(0, .ref 58), (1, .int 0)] [] w) : jj_Cv K mX7_finds [.ref 58] w R :=
  jj_Cv_intro pn_RX7 (Nat.le_of_ble_eq_true rfl) (vc_X7_finds_0 R  w h)
set_option maxRecDepth 100000 in
set_option maxHeartbeats 4000000 in
theorem vc_X7_finds_2 {K : jj_K} (R : wo_T → Prop)  (a1 : Int32) (w : wo_T)
    (h : jj_Ci K mX7_pairs [.ref 58] w (fun v1 w2 => (((1 : Int32) <<< (v1 &&& 31)) ≤ a1 → R (wo_i w2 58 13 1)) ∧ (¬ ((1 : Int32) <<< (v1 &&& 31)) ≤ a1 → (¬ (w2.1 58 13) = 0 → R (wo_i w2 58 13 1)) ∧ ((w2.1 58 13) = 0 → jj_Ci K mX7_faultOf [.ref 58, .int a1] w2 (fun v5 w6 => (¬ v5 = (-1) → vp_in a1 1024 ∧ (vp_in a1 1024 ∧ ((((wo_i w6 66 a1.toNatClampNeg (vp_nar .boolean 0)).1 66 a1.toNatClampNeg) = 0 → jj_J K mX7_finds (jj_Rv R) 2 [(0, .ref 58), (1, .int (a1 + 1))] [] (wo_i w6 66 a1.toNatClampNeg (vp_nar .boolean 0))) ∧ (¬ ((wo_i w6 66 a1.toNatClampNeg (vp_nar .boolean 0)).1 66 a1.toNatClampNeg) = 0 → jj_Cv K mX7_volumes [.ref 58, .int a1] (wo_i w6 66 a1.toNatClampNeg (vp_nar .boolean 0)) (fun w10 => jj_J K mX7_finds (jj_Rv R) 2 [(0, .ref 58), (1, .int (a1 + 1))] [] w10))))) ∧ (v5 = (-1) → jj_Ci K mX7_size [.int a1] w6 (fun v11 w12 => (¬ (w6.1 58 9) = v11 → vp_in a1 1024 ∧ (vp_in a1 1024 ∧ ((((wo_i w12 66 a1.toNatClampNeg (vp_nar .boolean 0)).1 66 a1.toNatClampNeg) = 0 → jj_J K mX7_finds (jj_Rv R) 2 [(0, .ref 58), (1, .int (a1 + 1))] [] (wo_i w12 66 a1.toNatClampNeg (vp_nar .boolean 0))) ∧ (¬ ((wo_i w12 66 a1.toNatClampNeg (vp_nar .boolean 0)).1 66 a1.toNatClampNeg) = 0 → jj_Cv K mX7_volumes [.ref 58, .int a1] (wo_i w12 66 a1.toNatClampNeg (vp_nar .boolean 0)) (fun w16 => jj_J K mX7_finds (jj_Rv R) 2 [(0, .ref 58), (1, .int (a1 + 1))] [] w16))))) ∧ ((w6.1 58 9) = v11 → vp_in a1 1024 ∧ (vp_in a1 1024 ∧ ((((wo_i w12 66 a1.toNatClampNeg (vp_nar .boolean 1)).1 66 a1.toNatClampNeg) = 0 → jj_J K mX7_finds (jj_Rv R) 2 [(0, .ref 58), (1, .int (a1 + 1))] [] (wo_i w12 66 a1.toNatClampNeg (vp_nar .boolean 1))) ∧ (¬ ((wo_i w12 66 a1.toNatClampNeg (vp_nar .boolean 1)).1 66 a1.toNatClampNeg) = 0 → jj_Cv K mX7_volumes [.ref 58, .int a1] (wo_i w12 66 a1.toNatClampNeg (vp_nar .boolean 1)) (fun w19 => jj_J K mX7_finds (jj_Rv R) 2 [(0, .ref 58), (1, .int (a1 + 1))] [] w19)))))))))))) :
    jj_J K mX7_finds (jj_Rv R) 2 [(0, .ref 58), (1, .int a1)] [] w := by
  refine jj_iload_n (pc := 2) dX7_finds_2 1 rfl ?_
  refine jj_iconst (pc := 3) (v := 1) dX7_finds_3 (by decide) ?_
  refine jj_aload_n (pc := 4) dX7_finds_4 0 rfl ?_
  refine jj_callVi (pc := 5) (N := mX7_pairs) (as := []) (st := [.int 1, .int a1]) dX7_finds_5 rfl rfl rfl lk_RX7_68 hv_X7_pairs rfl rfl h (fun v1 w2 h => ?_)
  refine jj_ishl (pc := 8) dX7_finds_8 ?_
  refine jj_icmp_ge (pc := 9) (tgt := 70) dX7_finds_9 (by decide) (fun c3 => ?_) (fun c3 => ?_)
  · replace h := h.1 c3
    refine jj_aload_n (pc := 70) dX7_finds_70 0 rfl ?_
    refine jj_iconst (pc := 71) (v := 1) dX7_finds_71 (by decide) ?_
    refine jj_putI (pc := 72) (ci := 7) (k := 13) (ty := .boolean) dX7_finds_72 rfl rfl (by decide) rfl lk_RX7_90 rfl (by decide) rfl rfl ?_
    exact jj_vret (pc := 75) dX7_finds_75 rfl h
  · replace h := h.2 c3
    refine jj_aload_n (pc := 12) dX7_finds_12 0 rfl ?_
    refine jj_getI (pc := 13) (ci := 7) (k := 13) dX7_finds_13 rfl rfl (by decide) rfl lk_RX7_90 ?_
    refine jj_if_ne (pc := 16) (tgt := 70) dX7_finds_16 (by decide) (fun c4 => ?_) (fun c4 => ?_)
    · replace h := h.1 c4
      refine jj_aload_n (pc := 70) dX7_finds_70 0 rfl ?_
      refine jj_iconst (pc := 71) (v := 1) dX7_finds_71 (by decide) ?_
      refine jj_putI (pc := 72) (ci := 7) (k := 13) (ty := .boolean) dX7_finds_72 rfl rfl (by decide) rfl lk_RX7_90 rfl (by decide) rfl rfl ?_
      exact jj_vret (pc := 75) dX7_finds_75 rfl h
    · replace h := h.2 c4
      refine jj_aload_n (pc := 19) dX7_finds_19 0 rfl ?_
      refine jj_getR (pc := 20) (ci := 7) (k := 10) dX7_finds_20 rfl rfl (by decide) rfl lk_RX7_32 ?_
      refine jj_iload_n (pc := 23) dX7_finds_23 1 rfl ?_
      refine jj_aload_n (pc := 24) dX7_finds_24 0 rfl ?_
      refine jj_iload_n (pc := 25) dX7_finds_25 1 rfl ?_
      refine jj_callVi (pc := 26) (N := mX7_faultOf) (as := [.int a1]) (st := [.int a1, .ref 66]) dX7_finds_26 rfl rfl rfl lk_RX7_142 hv_X7_faultOf rfl rfl h (fun v5 w6 h => ?_)
      refine jj_iconst (pc := 29) (v := (-1)) dX7_finds_29 (by decide) ?_
      refine jj_icmp_ne (pc := 30) (tgt := 48) dX7_finds_30 (by decide) (fun c7 => ?_) (fun c7 => ?_)
      · replace h := h.1 c7
        refine jj_iconst (pc := 48) (v := 0) dX7_finds_48 (by decide) ?_
        refine jj_zast (pc := 49) dX7_finds_49 rfl h.1 ?_
        replace h := h.2
        refine jj_aload_n (pc := 50) dX7_finds_50 0 rfl ?_
        refine jj_getR (pc := 51) (ci := 7) (k := 10) dX7_finds_51 rfl rfl (by decide) rfl lk_RX7_32 ?_
        refine jj_iload_n (pc := 54) dX7_finds_54 1 rfl ?_
        refine jj_zald (pc := 55) dX7_finds_55 rfl h.1 ?_
        replace h := h.2
        refine jj_if_eq (pc := 56) (tgt := 64) dX7_finds_56 (by decide) (fun c8 => ?_) (fun c8 => ?_)
        · replace h := h.1 c8
          refine jj_iinc (pc := 64) (v := a1 + 1) (l2 := [(1, .int (a1 + 1)), (0, .ref 58)]) dX7_finds_64 1 rfl rfl (by decide) rfl ?_
          refine jj_goto (pc := 67) (tgt := 2) dX7_finds_67 (by decide) ?_
          exact jj_sub [1, 0] rfl h
        · replace h := h.2 c8
          refine jj_aload_n (pc := 59) dX7_finds_59 0 rfl ?_
          refine jj_iload_n (pc := 60) dX7_finds_60 1 rfl ?_
          refine jj_callVv (pc := 61) (N := mX7_volumes) (as := [.int a1]) (st := []) dX7_finds_61 rfl rfl rfl lk_RX7_148 hv_X7_volumes rfl rfl h (fun w10 h => ?_)
          refine jj_iinc (pc := 64) (v := a1 + 1) (l2 := [(1, .int (a1 + 1)), (0, .ref 58)]) dX7_finds_64 1 rfl rfl (by decide) rfl ?_
          refine jj_goto (pc := 67) (tgt := 2) dX7_finds_67 (by decide) ?_
          exact jj_sub [1, 0] rfl h
      · replace h := h.2 c7
        refine jj_aload_n (pc := 33) dX7_finds_33 0 rfl ?_
        refine jj_getI (pc := 34) (ci := 7) (k := 9) dX7_finds_34 rfl rfl (by decide) rfl lk_RX7_121 ?_
        refine jj_iload_n (pc := 37) dX7_finds_37 1 rfl ?_
        refine jj_callSi (pc := 38) (N := mX7_size) (as := [.int a1]) (st := [.int (w6.1 58 9), .int a1, .ref 66]) dX7_finds_38 lk_RX7_145 hv_X7_size rfl rfl h (fun v11 w12 h => ?_)
        refine jj_icmp_ne (pc := 41) (tgt := 48) dX7_finds_41 (by decide) (fun c13 => ?_) (fun c13 => ?_)
        · replace h := h.1 c13
          refine jj_iconst (pc := 48) (v := 0) dX7_finds_48 (by decide) ?_
          refine jj_zast (pc := 49) dX7_finds_49 rfl h.1 ?_
          replace h := h.2
          refine jj_aload_n (pc := 50) dX7_finds_50 0 rfl ?_
          refine jj_getR (pc := 51) (ci := 7) (k := 10) dX7_finds_51 rfl rfl (by decide) rfl lk_RX7_32 ?_
          refine jj_iload_n (pc := 54) dX7_finds_54 1 rfl ?_
          refine jj_zald (pc := 55) dX7_finds_55 rfl h.1 ?_
          replace h := h.2
          refine jj_if_eq (pc := 56) (tgt := 64) dX7_finds_56 (by decide) (fun c14 => ?_) (fun c14 => ?_)
          · replace h := h.1 c14
            refine jj_iinc (pc := 64) (v := a1 + 1) (l2 := [(1, .int (a1 + 1)), (0, .ref 58)]) dX7_finds_64 1 rfl rfl (by decide) rfl ?_
            refine jj_goto (pc := 67) (tgt := 2) dX7_finds_67 (by decide) ?_
            exact jj_sub [1, 0] rfl h
          · replace h := h.2 c14
            refine jj_aload_n (pc := 59) dX7_finds_59 0 rfl ?_
            refine jj_iload_n (pc := 60) dX7_finds_60 1 rfl ?_
            refine jj_callVv (pc := 61) (N := mX7_volumes) (as := [.int a1]) (st := []) dX7_finds_61 rfl rfl rfl lk_RX7_148 hv_X7_volumes rfl rfl h (fun w16 h => ?_)
            refine jj_iinc (pc := 64) (v := a1 + 1) (l2 := [(1, .int (a1 + 1)), (0, .ref 58)]) dX7_finds_64 1 rfl rfl (by decide) rfl ?_
            refine jj_goto (pc := 67) (tgt := 2) dX7_finds_67 (by decide) ?_
            exact jj_sub [1, 0] rfl h
        · replace h := h.2 c13
          refine jj_iconst (pc := 44) (v := 1) dX7_finds_44 (by decide) ?_
          refine jj_goto (pc := 45) (tgt := 49) dX7_finds_45 (by decide) ?_
          refine jj_zast (pc := 49) dX7_finds_49 rfl h.1 ?_
          replace h := h.2
          refine jj_aload_n (pc := 50) dX7_finds_50 0 rfl ?_
          refine jj_getR (pc := 51) (ci := 7) (k := 10) dX7_finds_51 rfl rfl (by decide) rfl lk_RX7_32 ?_
          refine jj_iload_n (pc := 54) dX7_finds_54 1 rfl ?_
          refine jj_zald (pc := 55) dX7_finds_55 rfl h.1 ?_
          replace h := h.2
          refine jj_if_eq (pc := 56) (tgt := 64) dX7_finds_56 (by decide) (fun c17 => ?_) (fun c17 => ?_)
          · replace h := h.1 c17
            refine jj_iinc (pc := 64) (v := a1 + 1) (l2 := [(1, .int (a1 + 1)), (0, .ref 58)]) dX7_finds_64 1 rfl rfl (by decide) rfl ?_
            refine jj_goto (pc := 67) (tgt := 2) dX7_finds_67 (by decide) ?_
            exact jj_sub [1, 0] rfl h
          · replace h := h.2 c17
            refine jj_aload_n (pc := 59) dX7_finds_59 0 rfl ?_
            refine jj_iload_n (pc := 60) dX7_finds_60 1 rfl ?_
            refine jj_callVv (pc := 61) (N := mX7_volumes) (as := [.int a1]) (st := []) dX7_finds_61 rfl rfl rfl lk_RX7_148 hv_X7_volumes rfl rfl h (fun w19 h => ?_)
            refine jj_iinc (pc := 64) (v := a1 + 1) (l2 := [(1, .int (a1 + 1)), (0, .ref 58)]) dX7_finds_64 1 rfl rfl (by decide) rfl ?_
            refine jj_goto (pc := 67) (tgt := 2) dX7_finds_67 (by decide) ?_
            exact jj_sub [1, 0] rfl h
set_option maxRecDepth 100000 in
set_option maxHeartbeats 4000000 in
theorem vc_X7_isLess_0 {K : jj_K} (R : Int32 → wo_T → Prop)  (a1 : Int32) (a2 : Int32) (w : wo_T)
    (h : vp_in a1 1024 ∧ (vp_in a2 1024 ∧ (vp_in a2 1024 ∧ (vp_in a1 1024 ∧ ((((w.2 67 a2.toNatClampNeg) * (w.2 68 a1.toNatClampNeg)) ≤ ((w.2 67 a1.toNatClampNeg) * (w.2 68 a2.toNatClampNeg)) → R 0 w) ∧ (¬ ((w.2 67 a2.toNatClampNeg) * (w.2 68 a1.toNatClampNeg)) ≤ ((w.2 67 a1.toNatClampNeg) * (w.2 68 a2.toNatClampNeg)) → R 1 w)))))) :
    jj_J K mX7_isLess (jj_Ri R) 0 [(0, .ref 58), (1, .int a1), (2, .int a2)] [] w := by
  refine jj_aload_n (pc := 0) dX7_isLess_0 0 rfl ?_
  refine jj_getR (pc := 1) (ci := 7) (k := 11) dX7_isLess_1 rfl rfl (by decide) rfl lk_RX7_36 ?_
  refine jj_iload_n (pc := 4) dX7_isLess_4 1 rfl ?_
  refine jj_lald (pc := 5) dX7_isLess_5 rfl h.1 ?_
  replace h := h.2
  refine jj_aload_n (pc := 6) dX7_isLess_6 0 rfl ?_
  refine jj_getR (pc := 7) (ci := 7) (k := 12) dX7_isLess_7 rfl rfl (by decide) rfl lk_RX7_39 ?_
  refine jj_iload_n (pc := 10) dX7_isLess_10 2 rfl ?_
  refine jj_lald (pc := 11) dX7_isLess_11 rfl h.1 ?_
  replace h := h.2
  refine jj_lmul (pc := 12) dX7_isLess_12 ?_
  refine jj_aload_n (pc := 13) dX7_isLess_13 0 rfl ?_
  refine jj_getR (pc := 14) (ci := 7) (k := 11) dX7_isLess_14 rfl rfl (by decide) rfl lk_RX7_36 ?_
  refine jj_iload_n (pc := 17) dX7_isLess_17 2 rfl ?_
  refine jj_lald (pc := 18) dX7_isLess_18 rfl h.1 ?_
  replace h := h.2
  refine jj_aload_n (pc := 19) dX7_isLess_19 0 rfl ?_
  refine jj_getR (pc := 20) (ci := 7) (k := 12) dX7_isLess_20 rfl rfl (by decide) rfl lk_RX7_39 ?_
  refine jj_iload_n (pc := 23) dX7_isLess_23 1 rfl ?_
  refine jj_lald (pc := 24) dX7_isLess_24 rfl h.1 ?_
  replace h := h.2
  refine jj_lmul (pc := 25) dX7_isLess_25 ?_
  refine jj_lcmp_ge (pc := 26) (tgt := 34) dX7_isLess_26 dX7_isLess_27 (by decide) (fun c1 => ?_) (fun c1 => ?_)
  · replace h := h.1 c1
    refine jj_iconst (pc := 34) (v := 0) dX7_isLess_34 (by decide) ?_
    exact jj_zret (pc := 35) dX7_isLess_35 rfl (Or.inl rfl) h
  · replace h := h.2 c1
    refine jj_iconst (pc := 30) (v := 1) dX7_isLess_30 (by decide) ?_
    refine jj_goto (pc := 31) (tgt := 35) dX7_isLess_31 (by decide) ?_
    exact jj_zret (pc := 35) dX7_isLess_35 rfl (Or.inr rfl) h
theorem en_X7_isLess {K : jj_K} (R : Int32 → wo_T → Prop)  (a1 : Int32) (a2 : Int32) (w : wo_T)
    (h : vp_in a1 1024 ∧ (vp_in a2 1024 ∧ (vp_in a2 1024 ∧ (vp_in a1 1024 ∧ ((((w.2 67 a2.toNatClampNeg) * (w.2 68 a1.toNatClampNeg)) ≤ ((w.2 67 a1.toNatClampNeg) * (w.2 68 a2.toNatClampNeg)) → R 0 w) ∧ (¬ ((w.2 67 a2.toNatClampNeg) * (w.2 68 a1.toNatClampNeg)) ≤ ((w.2 67 a1.toNatClampNeg) * (w.2 68 a2.toNatClampNeg)) → R 1 w)))))) : jj_Ci K mX7_isLess [.ref 58, .int a1, .int a2] w R :=
  jj_Ci_intro pn_RX7 (Nat.le_of_ble_eq_true rfl) (vc_X7_isLess_0 R a1 a2 w h)
set_option maxRecDepth 100000 in
set_option maxHeartbeats 4000000 in
theorem vc_X7_bestOf_0 {K : jj_K} (R : Int32 → wo_T → Prop)  (a1 : Int32) (w : wo_T)
    (h : jj_Cv K mX7_finds [.ref 58] w (fun w2 => jj_J K mX7_bestOf (jj_Ri R) 8 [(0, .ref 58), (1, .int a1), (2, .int (-1)), (3, .int 0)] [] w2)) :
    jj_J K mX7_bestOf (jj_Ri R) 0 [(0, .ref 58), (1, .int a1)] [] w := by
  refine jj_aload_n (pc := 0) dX7_bestOf_0 0 rfl ?_
  refine jj_callVv (pc := 1) (N := mX7_finds) (as := []) (st := []) dX7_bestOf_1 rfl rfl rfl lk_RX7_151 hv_X7_finds rfl rfl h (fun w2 h => ?_)
  refine jj_iconst (pc := 4) (v := (-1)) dX7_bestOf_4 (by decide) ?_
  refine jj_istore_n (pc := 5) (l2 := [(2, .int (-1)), (0, .ref 58), (1, .int a1)]) dX7_bestOf_5 (by decide) rfl ?_
  refine jj_iconst (pc := 6) (v := 0) dX7_bestOf_6 (by decide) ?_
  refine jj_istore_n (pc := 7) (l2 := [(3, .int 0), (2, .int (-1)), (0, .ref 58), (1, .int a1)]) dX7_bestOf_7 (by decide) rfl ?_
  exact jj_sub [2, 3, 1, 0] rfl h
theorem en_X7_bestOf {K : jj_K} (R : Int32 → wo_T → Prop)  (a1 : Int32) (w : wo_T)
    (h : jj_Cv K mX7_finds [.ref 58] w (fun w2 => jj_J K mX7_bestOf (jj_Ri R) 8 [(0, .ref 58), (1, .int a1), (2, .int (-1)), (3, .int 0)] [] w2)) : jj_Ci K mX7_bestOf [.ref 58, .int a1] w R :=
  jj_Ci_intro pn_RX7 (Nat.le_of_ble_eq_true rfl) (vc_X7_bestOf_0 R a1 w h)
set_option maxRecDepth 100000 in
set_option maxHeartbeats 4000000 in
theorem vc_X7_bestOf_8 {K : jj_K} (R : Int32 → wo_T → Prop)  (a1 : Int32) (a2 : Int32) (a3 : Int32) (w : wo_T)
    (h : jj_Ci K mX7_pairs [.ref 58] w (fun v1 w2 => (((1 : Int32) <<< (v1 &&& 31)) ≤ a3 → R a2 w2) ∧ (¬ ((1 : Int32) <<< (v1 &&& 31)) ≤ a3 → (¬ (a3 &&& (a1 ^^^ (-1))) = 0 → jj_J K mX7_bestOf (jj_Ri R) 8 [(0, .ref 58), (1, .int a1), (2, .int a2), (3, .int (a3 + 1))] [] w2) ∧ ((a3 &&& (a1 ^^^ (-1))) = 0 → vp_in a3 1024 ∧ (((w2.1 66 a3.toNatClampNeg) = 0 → jj_J K mX7_bestOf (jj_Ri R) 8 [(0, .ref 58), (1, .int a1), (2, .int a2), (3, .int (a3 + 1))] [] w2) ∧ (¬ (w2.1 66 a3.toNatClampNeg) = 0 → (a2 = (-1) → jj_J K mX7_bestOf (jj_Ri R) 8 [(0, .ref 58), (1, .int a1), (2, .int a3), (3, .int (a3 + 1))] [] w2) ∧ (¬ a2 = (-1) → jj_Ci K mX7_isLess [.ref 58, .int a3, .int a2] w2 (fun v10 w11 => (v10 = 0 → jj_J K mX7_bestOf (jj_Ri R) 8 [(0, .ref 58), (1, .int a1), (2, .int a2), (3, .int (a3 + 1))] [] w11) ∧ (¬ v10 = 0 → jj_J K mX7_bestOf (jj_Ri R) 8 [(0, .ref 58), (1, .int a1), (2, .int a3), (3, .int (a3 + 1))] [] w11))))))))) :
    jj_J K mX7_bestOf (jj_Ri R) 8 [(0, .ref 58), (1, .int a1), (2, .int a2), (3, .int a3)] [] w := by
  refine jj_iload_n (pc := 8) dX7_bestOf_8 3 rfl ?_
  refine jj_iconst (pc := 9) (v := 1) dX7_bestOf_9 (by decide) ?_
  refine jj_aload_n (pc := 10) dX7_bestOf_10 0 rfl ?_
  refine jj_callVi (pc := 11) (N := mX7_pairs) (as := []) (st := [.int 1, .int a3]) dX7_bestOf_11 rfl rfl rfl lk_RX7_68 hv_X7_pairs rfl rfl h (fun v1 w2 h => ?_)
  refine jj_ishl (pc := 14) dX7_bestOf_14 ?_
  refine jj_icmp_ge (pc := 15) (tgt := 73) dX7_bestOf_15 (by decide) (fun c3 => ?_) (fun c3 => ?_)
  · replace h := h.1 c3
    refine jj_iload_n (pc := 73) dX7_bestOf_73 2 rfl ?_
    exact jj_iret (pc := 74) dX7_bestOf_74 rfl h
  · replace h := h.2 c3
    refine jj_iload_n (pc := 18) dX7_bestOf_18 3 rfl ?_
    refine jj_iload_n (pc := 19) dX7_bestOf_19 1 rfl ?_
    refine jj_iconst (pc := 20) (v := (-1)) dX7_bestOf_20 (by decide) ?_
    refine jj_ixor (pc := 21) dX7_bestOf_21 ?_
    refine jj_iand (pc := 22) dX7_bestOf_22 ?_
    refine jj_if_ne (pc := 23) (tgt := 39) dX7_bestOf_23 (by decide) (fun c4 => ?_) (fun c4 => ?_)
    · replace h := h.1 c4
      refine jj_iconst (pc := 39) (v := 0) dX7_bestOf_39 (by decide) ?_
      refine jj_istore (pc := 40) (l2 := [(4, .int 0), (0, .ref 58), (1, .int a1), (2, .int a2), (3, .int a3)]) dX7_bestOf_40 (by decide) rfl ?_
      refine jj_iload (pc := 42) dX7_bestOf_42 0 rfl ?_
      refine jj_if_eq (pc := 44) (tgt := 65) dX7_bestOf_44 (by decide) (fun _ => ?_) (fun z => absurd z (by decide))
      refine jj_iload_n (pc := 65) dX7_bestOf_65 3 rfl ?_
      refine jj_istore_n (pc := 66) (l2 := [(2, .int a2), (4, .int 0), (0, .ref 58), (1, .int a1), (3, .int a3)]) dX7_bestOf_66 (by decide) rfl ?_
      refine jj_iinc (pc := 67) (v := a3 + 1) (l2 := [(3, .int (a3 + 1)), (2, .int a2), (4, .int 0), (0, .ref 58), (1, .int a1)]) dX7_bestOf_67 4 rfl rfl (by decide) rfl ?_
      refine jj_goto (pc := 70) (tgt := 8) dX7_bestOf_70 (by decide) ?_
      exact jj_sub [3, 4, 1, 0] rfl h
    · replace h := h.2 c4
      refine jj_aload_n (pc := 26) dX7_bestOf_26 0 rfl ?_
      refine jj_getR (pc := 27) (ci := 7) (k := 10) dX7_bestOf_27 rfl rfl (by decide) rfl lk_RX7_32 ?_
      refine jj_iload_n (pc := 30) dX7_bestOf_30 3 rfl ?_
      refine jj_zald (pc := 31) dX7_bestOf_31 rfl h.1 ?_
      replace h := h.2
      refine jj_if_eq (pc := 32) (tgt := 39) dX7_bestOf_32 (by decide) (fun c6 => ?_) (fun c6 => ?_)
      · replace h := h.1 c6
        refine jj_iconst (pc := 39) (v := 0) dX7_bestOf_39 (by decide) ?_
        refine jj_istore (pc := 40) (l2 := [(4, .int 0), (0, .ref 58), (1, .int a1), (2, .int a2), (3, .int a3)]) dX7_bestOf_40 (by decide) rfl ?_
        refine jj_iload (pc := 42) dX7_bestOf_42 0 rfl ?_
        refine jj_if_eq (pc := 44) (tgt := 65) dX7_bestOf_44 (by decide) (fun _ => ?_) (fun z => absurd z (by decide))
        refine jj_iload_n (pc := 65) dX7_bestOf_65 3 rfl ?_
        refine jj_istore_n (pc := 66) (l2 := [(2, .int a2), (4, .int 0), (0, .ref 58), (1, .int a1), (3, .int a3)]) dX7_bestOf_66 (by decide) rfl ?_
        refine jj_iinc (pc := 67) (v := a3 + 1) (l2 := [(3, .int (a3 + 1)), (2, .int a2), (4, .int 0), (0, .ref 58), (1, .int a1)]) dX7_bestOf_67 4 rfl rfl (by decide) rfl ?_
        refine jj_goto (pc := 70) (tgt := 8) dX7_bestOf_70 (by decide) ?_
        exact jj_sub [3, 4, 1, 0] rfl h
      · replace h := h.2 c6
        refine jj_iconst (pc := 35) (v := 1) dX7_bestOf_35 (by decide) ?_
        refine jj_goto (pc := 36) (tgt := 40) dX7_bestOf_36 (by decide) ?_
        refine jj_istore (pc := 40) (l2 := [(4, .int 1), (0, .ref 58), (1, .int a1), (2, .int a2), (3, .int a3)]) dX7_bestOf_40 (by decide) rfl ?_
        refine jj_iload (pc := 42) dX7_bestOf_42 0 rfl ?_
        refine jj_if_eq (pc := 44) (tgt := 65) dX7_bestOf_44 (by decide) (fun z => absurd z (by decide)) (fun _ => ?_)
        refine jj_iload_n (pc := 47) dX7_bestOf_47 3 rfl ?_
        refine jj_iconst (pc := 48) (v := (-1)) dX7_bestOf_48 (by decide) ?_
        refine jj_icmp_eq (pc := 49) (tgt := 61) dX7_bestOf_49 (by decide) (fun c9 => ?_) (fun c9 => ?_)
        · replace h := h.1 c9
          refine jj_iload_n (pc := 61) dX7_bestOf_61 4 rfl ?_
          refine jj_goto (pc := 62) (tgt := 66) dX7_bestOf_62 (by decide) ?_
          refine jj_istore_n (pc := 66) (l2 := [(2, .int a3), (4, .int 1), (0, .ref 58), (1, .int a1), (3, .int a3)]) dX7_bestOf_66 (by decide) rfl ?_
          refine jj_iinc (pc := 67) (v := a3 + 1) (l2 := [(3, .int (a3 + 1)), (2, .int a3), (4, .int 1), (0, .ref 58), (1, .int a1)]) dX7_bestOf_67 4 rfl rfl (by decide) rfl ?_
          refine jj_goto (pc := 70) (tgt := 8) dX7_bestOf_70 (by decide) ?_
          exact jj_sub [3, 4, 1, 0] rfl h
        · replace h := h.2 c9
          refine jj_aload_n (pc := 52) dX7_bestOf_52 1 rfl ?_
          refine jj_iload_n (pc := 53) dX7_bestOf_53 4 rfl ?_
          refine jj_iload_n (pc := 54) dX7_bestOf_54 3 rfl ?_
          refine jj_callVi (pc := 55) (N := mX7_isLess) (as := [.int a3, .int a2]) (st := []) dX7_bestOf_55 rfl rfl rfl lk_RX7_154 hv_X7_isLess rfl rfl h (fun v10 w11 h => ?_)
          refine jj_if_eq (pc := 58) (tgt := 65) dX7_bestOf_58 (by decide) (fun c12 => ?_) (fun c12 => ?_)
          · replace h := h.1 c12
            refine jj_iload_n (pc := 65) dX7_bestOf_65 3 rfl ?_
            refine jj_istore_n (pc := 66) (l2 := [(2, .int a2), (4, .int 1), (0, .ref 58), (1, .int a1), (3, .int a3)]) dX7_bestOf_66 (by decide) rfl ?_
            refine jj_iinc (pc := 67) (v := a3 + 1) (l2 := [(3, .int (a3 + 1)), (2, .int a2), (4, .int 1), (0, .ref 58), (1, .int a1)]) dX7_bestOf_67 4 rfl rfl (by decide) rfl ?_
            refine jj_goto (pc := 70) (tgt := 8) dX7_bestOf_70 (by decide) ?_
            exact jj_sub [3, 4, 1, 0] rfl h
          · replace h := h.2 c12
            refine jj_iload_n (pc := 61) dX7_bestOf_61 4 rfl ?_
            refine jj_goto (pc := 62) (tgt := 66) dX7_bestOf_62 (by decide) ?_
            refine jj_istore_n (pc := 66) (l2 := [(2, .int a3), (4, .int 1), (0, .ref 58), (1, .int a1), (3, .int a3)]) dX7_bestOf_66 (by decide) rfl ?_
            refine jj_iinc (pc := 67) (v := a3 + 1) (l2 := [(3, .int (a3 + 1)), (2, .int a3), (4, .int 1), (0, .ref 58), (1, .int a1)]) dX7_bestOf_67 4 rfl rfl (by decide) rfl ?_
            refine jj_goto (pc := 70) (tgt := 8) dX7_bestOf_70 (by decide) ?_
            exact jj_sub [3, 4, 1, 0] rfl h
set_option maxRecDepth 100000 in
set_option maxHeartbeats 4000000 in
theorem vc_X7_volumeOf_0 {K : jj_K} (R : Int64 → wo_T → Prop)  (a1 : Int32) (a2 : Int32) (w : wo_T)
    (h : jj_Ci K mX7_bestOf [.ref 58, .int a1] w (fun v1 w2 => (¬ v1 = (-1) → (¬ a2 = 0 → vp_in v1 1024 ∧ (R (w2.2 68 v1.toNatClampNeg) w2)) ∧ (a2 = 0 → vp_in v1 1024 ∧ (R (w2.2 67 v1.toNatClampNeg) w2))) ∧ (v1 = (-1) → jj_Cl K mX7_no [.int (-3)] w2 (fun v5 w6 => R v5 w6)))) :
    jj_J K mX7_volumeOf (jj_Rl R) 0 [(0, .ref 58), (1, .int a1), (2, .int a2)] [] w := by
  refine jj_aload_n (pc := 0) dX7_volumeOf_0 0 rfl ?_
  refine jj_iload_n (pc := 1) dX7_volumeOf_1 1 rfl ?_
  refine jj_callVi (pc := 2) (N := mX7_bestOf) (as := [.int a1]) (st := []) dX7_volumeOf_2 rfl rfl rfl lk_RX7_157 hv_X7_bestOf rfl rfl h (fun v1 w2 h => ?_)
  refine jj_istore_n (pc := 5) (l2 := [(3, .int v1), (0, .ref 58), (1, .int a1), (2, .int a2)]) dX7_volumeOf_5 (by decide) rfl ?_
  refine jj_iload_n (pc := 6) dX7_volumeOf_6 0 rfl ?_
  refine jj_iconst (pc := 7) (v := (-1)) dX7_volumeOf_7 (by decide) ?_
  refine jj_icmp_ne (pc := 8) (tgt := 19) dX7_volumeOf_8 (by decide) (fun c3 => ?_) (fun c3 => ?_)
  · replace h := h.1 c3
    refine jj_iload_n (pc := 19) dX7_volumeOf_19 3 rfl ?_
    refine jj_if_ne (pc := 20) (tgt := 32) dX7_volumeOf_20 (by decide) (fun c4 => ?_) (fun c4 => ?_)
    · replace h := h.1 c4
      refine jj_aload_n (pc := 32) dX7_volumeOf_32 1 rfl ?_
      refine jj_getR (pc := 33) (ci := 7) (k := 12) dX7_volumeOf_33 rfl rfl (by decide) rfl lk_RX7_39 ?_
      refine jj_iload_n (pc := 36) dX7_volumeOf_36 0 rfl ?_
      refine jj_lald (pc := 37) dX7_volumeOf_37 rfl h.1 ?_
      replace h := h.2
      exact jj_lret (pc := 38) dX7_volumeOf_38 rfl h
    · replace h := h.2 c4
      refine jj_aload_n (pc := 23) dX7_volumeOf_23 1 rfl ?_
      refine jj_getR (pc := 24) (ci := 7) (k := 11) dX7_volumeOf_24 rfl rfl (by decide) rfl lk_RX7_36 ?_
      refine jj_iload_n (pc := 27) dX7_volumeOf_27 0 rfl ?_
      refine jj_lald (pc := 28) dX7_volumeOf_28 rfl h.1 ?_
      replace h := h.2
      refine jj_goto (pc := 29) (tgt := 38) dX7_volumeOf_29 (by decide) ?_
      exact jj_lret (pc := 38) dX7_volumeOf_38 rfl h
  · replace h := h.2 c3
    refine jj_bipush (pc := 11) (v := (-3)) dX7_volumeOf_11 (by decide) ?_
    refine jj_callSl (pc := 13) (N := mX7_no) (as := [.int (-3)]) (st := []) dX7_volumeOf_13 lk_RX7_160 hv_X7_no rfl rfl h (fun v5 w6 h => ?_)
    refine jj_goto (pc := 16) (tgt := 38) dX7_volumeOf_16 (by decide) ?_
    exact jj_lret (pc := 38) dX7_volumeOf_38 rfl h
theorem en_X7_volumeOf {K : jj_K} (R : Int64 → wo_T → Prop)  (a1 : Int32) (a2 : Int32) (w : wo_T)
    (h : jj_Ci K mX7_bestOf [.ref 58, .int a1] w (fun v1 w2 => (¬ v1 = (-1) → (¬ a2 = 0 → vp_in v1 1024 ∧ (R (w2.2 68 v1.toNatClampNeg) w2)) ∧ (a2 = 0 → vp_in v1 1024 ∧ (R (w2.2 67 v1.toNatClampNeg) w2))) ∧ (v1 = (-1) → jj_Cl K mX7_no [.int (-3)] w2 (fun v5 w6 => R v5 w6)))) : jj_Cl K mX7_volumeOf [.ref 58, .int a1, .int a2] w R :=
  jj_Cl_intro pn_RX7 (Nat.le_of_ble_eq_true rfl) (vc_X7_volumeOf_0 R a1 a2 w h)
set_option maxRecDepth 100000 in
set_option maxHeartbeats 4000000 in
theorem vc_X7_least_0 {K : jj_K} (R : Int64 → wo_T → Prop)  (a1 : Int32) (w : wo_T)
    (h : jj_Ci K mX7_in [.int a1, .int 0, .int 1] w (fun v1 w2 => (v1 = 0 → jj_Cl K mX7_no [.int (-2)] w2 (fun v4 w5 => R v4 w5)) ∧ (¬ v1 = 0 → jj_Cl K mX7_volumeOf [.ref 58, .int (w2.1 58 6), .int a1] w2 (fun v6 w7 => R v6 w7)))) :
    jj_J K mX7_least (jj_Rl R) 0 [(0, .ref 58), (1, .int a1)] [] w := by
  refine jj_iload_n (pc := 0) dX7_least_0 1 rfl ?_
  refine jj_iconst (pc := 1) (v := 0) dX7_least_1 (by decide) ?_
  refine jj_iconst (pc := 2) (v := 1) dX7_least_2 (by decide) ?_
  refine jj_callSi (pc := 3) (N := mX7_in) (as := [.int a1, .int 0, .int 1]) (st := []) dX7_least_3 lk_RX7_64 hv_X7_in rfl rfl h (fun v1 w2 h => ?_)
  refine jj_if_eq (pc := 6) (tgt := 21) dX7_least_6 (by decide) (fun c3 => ?_) (fun c3 => ?_)
  · replace h := h.1 c3
    refine jj_bipush (pc := 21) (v := (-2)) dX7_least_21 (by decide) ?_
    refine jj_callSl (pc := 23) (N := mX7_no) (as := [.int (-2)]) (st := []) dX7_least_23 lk_RX7_160 hv_X7_no rfl rfl h (fun v4 w5 h => ?_)
    exact jj_lret (pc := 26) dX7_least_26 rfl h
  · replace h := h.2 c3
    refine jj_aload_n (pc := 9) dX7_least_9 0 rfl ?_
    refine jj_aload_n (pc := 10) dX7_least_10 0 rfl ?_
    refine jj_getI (pc := 11) (ci := 7) (k := 6) dX7_least_11 rfl rfl (by decide) rfl lk_RX7_76 ?_
    refine jj_iload_n (pc := 14) dX7_least_14 1 rfl ?_
    refine jj_callVl (pc := 15) (N := mX7_volumeOf) (as := [.int (w2.1 58 6), .int a1]) (st := []) dX7_least_15 rfl rfl rfl lk_RX7_164 hv_X7_volumeOf rfl rfl h (fun v6 w7 h => ?_)
    refine jj_goto (pc := 18) (tgt := 26) dX7_least_18 (by decide) ?_
    exact jj_lret (pc := 26) dX7_least_26 rfl h
theorem en_X7_least {K : jj_K} (R : Int64 → wo_T → Prop)  (a1 : Int32) (w : wo_T)
    (h : jj_Ci K mX7_in [.int a1, .int 0, .int 1] w (fun v1 w2 => (v1 = 0 → jj_Cl K mX7_no [.int (-2)] w2 (fun v4 w5 => R v4 w5)) ∧ (¬ v1 = 0 → jj_Cl K mX7_volumeOf [.ref 58, .int (w2.1 58 6), .int a1] w2 (fun v6 w7 => R v6 w7)))) : jj_Cl K mX7_least [.ref 58, .int a1] w R :=
  jj_Cl_intro pn_RX7 (Nat.le_of_ble_eq_true rfl) (vc_X7_least_0 R a1 w h)
set_option maxRecDepth 100000 in
set_option maxHeartbeats 4000000 in
theorem vc_X7_fault_0 {K : jj_K} (R : Int32 → wo_T → Prop)   (w : wo_T)
    (h : jj_Ci K mX7_faultOf [.ref 58, .int (w.1 58 6)] w (fun v1 w2 => R v1 w2)) :
    jj_J K mX7_fault (jj_Ri R) 0 [(0, .ref 58)] [] w := by
  refine jj_aload_n (pc := 0) dX7_fault_0 0 rfl ?_
  refine jj_aload_n (pc := 1) dX7_fault_1 0 rfl ?_
  refine jj_getI (pc := 2) (ci := 7) (k := 6) dX7_fault_2 rfl rfl (by decide) rfl lk_RX7_76 ?_
  refine jj_callVi (pc := 5) (N := mX7_faultOf) (as := [.int (w.1 58 6)]) (st := []) dX7_fault_5 rfl rfl rfl lk_RX7_142 hv_X7_faultOf rfl rfl h (fun v1 w2 h => ?_)
  exact jj_iret (pc := 8) dX7_fault_8 rfl h
theorem en_X7_fault {K : jj_K} (R : Int32 → wo_T → Prop)   (w : wo_T)
    (h : jj_Ci K mX7_faultOf [.ref 58, .int (w.1 58 6)] w (fun v1 w2 => R v1 w2)) : jj_Ci K mX7_fault [.ref 58] w R :=
  jj_Ci_intro pn_RX7 (Nat.le_of_ble_eq_true rfl) (vc_X7_fault_0 R  w h)
set_option maxRecDepth 100000 in
set_option maxHeartbeats 4000000 in
theorem vc_X7_frameNow_0 {K : jj_K} (R : Int32 → wo_T → Prop)   (w : wo_T)
    (h : jj_Ci K mX7_bestOf [.ref 58, .int (w.1 58 6)] w (fun v1 w2 => (¬ v1 = (-1) → R v1 w2) ∧ (v1 = (-1) → R (-3) w2))) :
    jj_J K mX7_frameNow (jj_Ri R) 0 [(0, .ref 58)] [] w := by
  refine jj_aload_n (pc := 0) dX7_frameNow_0 0 rfl ?_
  refine jj_aload_n (pc := 1) dX7_frameNow_1 0 rfl ?_
  refine jj_getI (pc := 2) (ci := 7) (k := 6) dX7_frameNow_2 rfl rfl (by decide) rfl lk_RX7_76 ?_
  refine jj_callVi (pc := 5) (N := mX7_bestOf) (as := [.int (w.1 58 6)]) (st := []) dX7_frameNow_5 rfl rfl rfl lk_RX7_157 hv_X7_bestOf rfl rfl h (fun v1 w2 h => ?_)
  refine jj_istore_n (pc := 8) (l2 := [(1, .int v1), (0, .ref 58)]) dX7_frameNow_8 (by decide) rfl ?_
  refine jj_iload_n (pc := 9) dX7_frameNow_9 0 rfl ?_
  refine jj_iconst (pc := 10) (v := (-1)) dX7_frameNow_10 (by decide) ?_
  refine jj_icmp_ne (pc := 11) (tgt := 19) dX7_frameNow_11 (by decide) (fun c3 => ?_) (fun c3 => ?_)
  · replace h := h.1 c3
    refine jj_iload_n (pc := 19) dX7_frameNow_19 0 rfl ?_
    exact jj_iret (pc := 20) dX7_frameNow_20 rfl h
  · replace h := h.2 c3
    refine jj_bipush (pc := 14) (v := (-3)) dX7_frameNow_14 (by decide) ?_
    refine jj_goto (pc := 16) (tgt := 20) dX7_frameNow_16 (by decide) ?_
    exact jj_iret (pc := 20) dX7_frameNow_20 rfl h
theorem en_X7_frameNow {K : jj_K} (R : Int32 → wo_T → Prop)   (w : wo_T)
    (h : jj_Ci K mX7_bestOf [.ref 58, .int (w.1 58 6)] w (fun v1 w2 => (¬ v1 = (-1) → R v1 w2) ∧ (v1 = (-1) → R (-3) w2))) : jj_Ci K mX7_frameNow [.ref 58] w R :=
  jj_Ci_intro pn_RX7 (Nat.le_of_ble_eq_true rfl) (vc_X7_frameNow_0 R  w h)
set_option maxRecDepth 100000 in
set_option maxHeartbeats 4000000 in
theorem vc_X7_frame_0 {K : jj_K} (R : Int32 → wo_T → Prop)   (w : wo_T)
    (h : jj_Ci K mX7_frameNow [.ref 58] w (fun v1 w2 => R v1 w2)) :
    jj_J K mX7_frame (jj_Ri R) 0 [(0, .ref 58)] [] w := by
  refine jj_aload_n (pc := 0) dX7_frame_0 0 rfl ?_
  refine jj_callVi (pc := 1) (N := mX7_frameNow) (as := []) (st := []) dX7_frame_1 rfl rfl rfl lk_RX7_168 hv_X7_frameNow rfl rfl h (fun v1 w2 h => ?_)
  exact jj_iret (pc := 4) dX7_frame_4 rfl h
theorem en_X7_frame {K : jj_K} (R : Int32 → wo_T → Prop)   (w : wo_T)
    (h : jj_Ci K mX7_frameNow [.ref 58] w (fun v1 w2 => R v1 w2)) : jj_Ci K mX7_frame [.ref 58] w R :=
  jj_Ci_intro pn_RX7 (Nat.le_of_ble_eq_true rfl) (vc_X7_frame_0 R  w h)
set_option maxRecDepth 100000 in
set_option maxHeartbeats 4000000 in
theorem vc_X7_pullOf_0 {K : jj_K} (R : Int64 → wo_T → Prop)  (a1 : Int32) (a2 : Int32) (w : wo_T)
    (h : jj_Ci K mX7_bestOf [.ref 58, .int (w.1 58 6)] w (fun v1 w2 => (¬ v1 = (-1) → (¬ ((v1 >>> (a1 &&& 31)) &&& 1) = 0 → jj_Ci K mX7_faultOf [.ref 58, .int v1] w2 (fun v5 w6 => jj_J K mX7_pullOf (jj_Rl R) 43 [(0, .ref 58), (1, .int a1), (2, .int a2), (3, .int v1), (4, .long 0), (6, .int 0)] [] w6)) ∧ (((v1 >>> (a1 &&& 31)) &&& 1) = 0 → R a2.toInt64 w2)) ∧ (v1 = (-1) → jj_Cl K mX7_no [.int (-3)] w2 (fun v7 w8 => R v7 w8)))) :
    jj_J K mX7_pullOf (jj_Rl R) 0 [(0, .ref 58), (1, .int a1), (2, .int a2)] [] w := by
  refine jj_aload_n (pc := 0) dX7_pullOf_0 0 rfl ?_
  refine jj_aload_n (pc := 1) dX7_pullOf_1 0 rfl ?_
  refine jj_getI (pc := 2) (ci := 7) (k := 6) dX7_pullOf_2 rfl rfl (by decide) rfl lk_RX7_76 ?_
  refine jj_callVi (pc := 5) (N := mX7_bestOf) (as := [.int (w.1 58 6)]) (st := []) dX7_pullOf_5 rfl rfl rfl lk_RX7_157 hv_X7_bestOf rfl rfl h (fun v1 w2 h => ?_)
  refine jj_istore_n (pc := 8) (l2 := [(3, .int v1), (0, .ref 58), (1, .int a1), (2, .int a2)]) dX7_pullOf_8 (by decide) rfl ?_
  refine jj_iload_n (pc := 9) dX7_pullOf_9 0 rfl ?_
  refine jj_iconst (pc := 10) (v := (-1)) dX7_pullOf_10 (by decide) ?_
  refine jj_icmp_ne (pc := 11) (tgt := 20) dX7_pullOf_11 (by decide) (fun c3 => ?_) (fun c3 => ?_)
  · replace h := h.1 c3
    refine jj_iload_n (pc := 20) dX7_pullOf_20 0 rfl ?_
    refine jj_iload_n (pc := 21) dX7_pullOf_21 2 rfl ?_
    refine jj_ishr (pc := 22) dX7_pullOf_22 ?_
    refine jj_iconst (pc := 23) (v := 1) dX7_pullOf_23 (by decide) ?_
    refine jj_iand (pc := 24) dX7_pullOf_24 ?_
    refine jj_if_ne (pc := 25) (tgt := 31) dX7_pullOf_25 (by decide) (fun c4 => ?_) (fun c4 => ?_)
    · replace h := h.1 c4
      refine jj_aload_n (pc := 31) dX7_pullOf_31 1 rfl ?_
      refine jj_iload_n (pc := 32) dX7_pullOf_32 0 rfl ?_
      refine jj_callVi (pc := 33) (N := mX7_faultOf) (as := [.int v1]) (st := []) dX7_pullOf_33 rfl rfl rfl lk_RX7_142 hv_X7_faultOf rfl rfl h (fun v5 w6 h => ?_)
      refine jj_pop (pc := 36) dX7_pullOf_36 rfl ?_
      refine jj_lconst (pc := 37) (v := 0) dX7_pullOf_37 (by decide) ?_
      refine jj_lstore (pc := 38) (l2 := [(4, .long 0), (3, .int v1), (0, .ref 58), (1, .int a1), (2, .int a2)]) dX7_pullOf_38 (by decide) rfl ?_
      refine jj_iconst (pc := 40) (v := 0) dX7_pullOf_40 (by decide) ?_
      refine jj_istore (pc := 41) (l2 := [(6, .int 0), (4, .long 0), (3, .int v1), (0, .ref 58), (1, .int a1), (2, .int a2)]) dX7_pullOf_41 (by decide) rfl ?_
      exact jj_sub [3, 4, 5, 2, 1, 0] rfl h
    · replace h := h.2 c4
      refine jj_iload_n (pc := 28) dX7_pullOf_28 3 rfl ?_
      refine jj_i2l (pc := 29) dX7_pullOf_29 ?_
      exact jj_lret (pc := 30) dX7_pullOf_30 rfl h
  · replace h := h.2 c3
    refine jj_bipush (pc := 14) (v := (-3)) dX7_pullOf_14 (by decide) ?_
    refine jj_callSl (pc := 16) (N := mX7_no) (as := [.int (-3)]) (st := []) dX7_pullOf_16 lk_RX7_160 hv_X7_no rfl rfl h (fun v7 w8 h => ?_)
    exact jj_lret (pc := 19) dX7_pullOf_19 rfl h
theorem en_X7_pullOf {K : jj_K} (R : Int64 → wo_T → Prop)  (a1 : Int32) (a2 : Int32) (w : wo_T)
    (h : jj_Ci K mX7_bestOf [.ref 58, .int (w.1 58 6)] w (fun v1 w2 => (¬ v1 = (-1) → (¬ ((v1 >>> (a1 &&& 31)) &&& 1) = 0 → jj_Ci K mX7_faultOf [.ref 58, .int v1] w2 (fun v5 w6 => jj_J K mX7_pullOf (jj_Rl R) 43 [(0, .ref 58), (1, .int a1), (2, .int a2), (3, .int v1), (4, .long 0), (6, .int 0)] [] w6)) ∧ (((v1 >>> (a1 &&& 31)) &&& 1) = 0 → R a2.toInt64 w2)) ∧ (v1 = (-1) → jj_Cl K mX7_no [.int (-3)] w2 (fun v7 w8 => R v7 w8)))) : jj_Cl K mX7_pullOf [.ref 58, .int a1, .int a2] w R :=
  jj_Cl_intro pn_RX7 (Nat.le_of_ble_eq_true rfl) (vc_X7_pullOf_0 R a1 a2 w h)
set_option maxRecDepth 100000 in
set_option maxHeartbeats 4000000 in
theorem vc_X7_pullOf_43 {K : jj_K} (R : Int64 → wo_T → Prop)  (a1 : Int32) (a2 : Int32) (a3 : Int32) (a4 : Int64) (a6 : Int32) (w : wo_T)
    (h : ((w.1 58 9) ≤ a6 → R a4 w) ∧ (¬ (w.1 58 9) ≤ a6 → vp_in a6 10 ∧ ((¬ (w.1 65 a6.toNatClampNeg) = a1 → jj_J K mX7_pullOf (jj_Rl R) 43 [(0, .ref 58), (1, .int a1), (2, .int a2), (3, .int a3), (4, .long a4), (6, .int (a6 + 1))] [] w) ∧ ((w.1 65 a6.toNatClampNeg) = a1 → vp_in ((11 * a6) + 10) 110 ∧ (vp_in ((11 * a6) + a1) 110 ∧ (jj_Cl K mX7_partOf [.long (w.2 64 ((11 * a6) + 10).toNatClampNeg), .long (w.2 64 ((11 * a6) + a1).toNatClampNeg), .int a2] w (fun v3 w4 => jj_J K mX7_pullOf (jj_Rl R) 43 [(0, .ref 58), (1, .int a1), (2, .int a2), (3, .int a3), (4, .long v3), (6, .int (a6 + 1))] [] w4))))))) :
    jj_J K mX7_pullOf (jj_Rl R) 43 [(0, .ref 58), (1, .int a1), (2, .int a2), (3, .int a3), (4, .long a4), (6, .int a6)] [] w := by
  refine jj_iload (pc := 43) dX7_pullOf_43 5 rfl ?_
  refine jj_aload_n (pc := 45) dX7_pullOf_45 0 rfl ?_
  refine jj_getI (pc := 46) (ci := 7) (k := 9) dX7_pullOf_46 rfl rfl (by decide) rfl lk_RX7_121 ?_
  refine jj_icmp_ge (pc := 49) (tgt := 105) dX7_pullOf_49 (by decide) (fun c1 => ?_) (fun c1 => ?_)
  · replace h := h.1 c1
    refine jj_lload (pc := 105) dX7_pullOf_105 4 rfl ?_
    exact jj_lret (pc := 107) dX7_pullOf_107 rfl h
  · replace h := h.2 c1
    refine jj_aload_n (pc := 52) dX7_pullOf_52 0 rfl ?_
    refine jj_getR (pc := 53) (ci := 7) (k := 8) dX7_pullOf_53 rfl rfl (by decide) rfl lk_RX7_29 ?_
    refine jj_iload (pc := 56) dX7_pullOf_56 5 rfl ?_
    refine jj_iald (pc := 58) dX7_pullOf_58 rfl h.1 ?_
    replace h := h.2
    refine jj_iload_n (pc := 59) dX7_pullOf_59 1 rfl ?_
    refine jj_icmp_ne (pc := 60) (tgt := 95) dX7_pullOf_60 (by decide) (fun c2 => ?_) (fun c2 => ?_)
    · replace h := h.1 c2
      refine jj_lload (pc := 95) dX7_pullOf_95 4 rfl ?_
      refine jj_lstore (pc := 97) (l2 := [(4, .long a4), (0, .ref 58), (1, .int a1), (2, .int a2), (3, .int a3), (6, .int a6)]) dX7_pullOf_97 (by decide) rfl ?_
      refine jj_iinc (pc := 99) (v := a6 + 1) (l2 := [(6, .int (a6 + 1)), (4, .long a4), (0, .ref 58), (1, .int a1), (2, .int a2), (3, .int a3)]) dX7_pullOf_99 5 rfl rfl (by decide) rfl ?_
      refine jj_goto (pc := 102) (tgt := 43) dX7_pullOf_102 (by decide) ?_
      exact jj_sub [2, 3, 4, 5, 1, 0] rfl h
    · replace h := h.2 c2
      refine jj_aload_n (pc := 63) dX7_pullOf_63 0 rfl ?_
      refine jj_getR (pc := 64) (ci := 7) (k := 7) dX7_pullOf_64 rfl rfl (by decide) rfl lk_RX7_25 ?_
      refine jj_bipush (pc := 67) (v := 11) dX7_pullOf_67 (by decide) ?_
      refine jj_iload (pc := 69) dX7_pullOf_69 5 rfl ?_
      refine jj_imul (pc := 71) dX7_pullOf_71 ?_
      refine jj_bipush (pc := 72) (v := 10) dX7_pullOf_72 (by decide) ?_
      refine jj_iadd (pc := 74) dX7_pullOf_74 ?_
      refine jj_lald (pc := 75) dX7_pullOf_75 rfl h.1 ?_
      replace h := h.2
      refine jj_aload_n (pc := 76) dX7_pullOf_76 0 rfl ?_
      refine jj_getR (pc := 77) (ci := 7) (k := 7) dX7_pullOf_77 rfl rfl (by decide) rfl lk_RX7_25 ?_
      refine jj_bipush (pc := 80) (v := 11) dX7_pullOf_80 (by decide) ?_
      refine jj_iload (pc := 82) dX7_pullOf_82 5 rfl ?_
      refine jj_imul (pc := 84) dX7_pullOf_84 ?_
      refine jj_iload_n (pc := 85) dX7_pullOf_85 1 rfl ?_
      refine jj_iadd (pc := 86) dX7_pullOf_86 ?_
      refine jj_lald (pc := 87) dX7_pullOf_87 rfl h.1 ?_
      replace h := h.2
      refine jj_iload_n (pc := 88) dX7_pullOf_88 2 rfl ?_
      refine jj_callSl (pc := 89) (N := mX7_partOf) (as := [.long (w.2 64 ((11 * a6) + 10).toNatClampNeg), .long (w.2 64 ((11 * a6) + a1).toNatClampNeg), .int a2]) (st := []) dX7_pullOf_89 lk_RX7_138 hv_X7_partOf rfl rfl h (fun v3 w4 h => ?_)
      refine jj_goto (pc := 92) (tgt := 97) dX7_pullOf_92 (by decide) ?_
      refine jj_lstore (pc := 97) (l2 := [(4, .long v3), (0, .ref 58), (1, .int a1), (2, .int a2), (3, .int a3), (6, .int a6)]) dX7_pullOf_97 (by decide) rfl ?_
      refine jj_iinc (pc := 99) (v := a6 + 1) (l2 := [(6, .int (a6 + 1)), (4, .long v3), (0, .ref 58), (1, .int a1), (2, .int a2), (3, .int a3)]) dX7_pullOf_99 5 rfl rfl (by decide) rfl ?_
      refine jj_goto (pc := 102) (tgt := 43) dX7_pullOf_102 (by decide) ?_
      exact jj_sub [2, 3, 4, 5, 1, 0] rfl h
set_option maxRecDepth 100000 in
set_option maxHeartbeats 4000000 in
theorem vc_X7_pull_0 {K : jj_K} (R : Int64 → wo_T → Prop)  (a1 : Int32) (a2 : Int32) (w : wo_T)
    (h : jj_Ci K mX7_isPair [.ref 58, .int a1] w (fun v1 w2 => (v1 = 0 → jj_Cl K mX7_no [.int (-2)] w2 (fun v4 w5 => R v4 w5)) ∧ (¬ v1 = 0 → jj_Ci K mX7_in [.int a2, .int 0, .int 1] w2 (fun v6 w7 => (v6 = 0 → jj_Cl K mX7_no [.int (-2)] w7 (fun v9 w10 => R v9 w10)) ∧ (¬ v6 = 0 → jj_Cl K mX7_pullOf [.ref 58, .int a1, .int a2] w7 (fun v11 w12 => R v11 w12)))))) :
    jj_J K mX7_pull (jj_Rl R) 0 [(0, .ref 58), (1, .int a1), (2, .int a2)] [] w := by
  refine jj_aload_n (pc := 0) dX7_pull_0 0 rfl ?_
  refine jj_iload_n (pc := 1) dX7_pull_1 1 rfl ?_
  refine jj_callVi (pc := 2) (N := mX7_isPair) (as := [.int a1]) (st := []) dX7_pull_2 rfl rfl rfl lk_RX7_72 hv_X7_isPair rfl rfl h (fun v1 w2 h => ?_)
  refine jj_if_eq (pc := 5) (tgt := 26) dX7_pull_5 (by decide) (fun c3 => ?_) (fun c3 => ?_)
  · replace h := h.1 c3
    refine jj_bipush (pc := 26) (v := (-2)) dX7_pull_26 (by decide) ?_
    refine jj_callSl (pc := 28) (N := mX7_no) (as := [.int (-2)]) (st := []) dX7_pull_28 lk_RX7_160 hv_X7_no rfl rfl h (fun v4 w5 h => ?_)
    exact jj_lret (pc := 31) dX7_pull_31 rfl h
  · replace h := h.2 c3
    refine jj_iload_n (pc := 8) dX7_pull_8 2 rfl ?_
    refine jj_iconst (pc := 9) (v := 0) dX7_pull_9 (by decide) ?_
    refine jj_iconst (pc := 10) (v := 1) dX7_pull_10 (by decide) ?_
    refine jj_callSi (pc := 11) (N := mX7_in) (as := [.int a2, .int 0, .int 1]) (st := []) dX7_pull_11 lk_RX7_64 hv_X7_in rfl rfl h (fun v6 w7 h => ?_)
    refine jj_if_eq (pc := 14) (tgt := 26) dX7_pull_14 (by decide) (fun c8 => ?_) (fun c8 => ?_)
    · replace h := h.1 c8
      refine jj_bipush (pc := 26) (v := (-2)) dX7_pull_26 (by decide) ?_
      refine jj_callSl (pc := 28) (N := mX7_no) (as := [.int (-2)]) (st := []) dX7_pull_28 lk_RX7_160 hv_X7_no rfl rfl h (fun v9 w10 h => ?_)
      exact jj_lret (pc := 31) dX7_pull_31 rfl h
    · replace h := h.2 c8
      refine jj_aload_n (pc := 17) dX7_pull_17 0 rfl ?_
      refine jj_iload_n (pc := 18) dX7_pull_18 1 rfl ?_
      refine jj_iload_n (pc := 19) dX7_pull_19 2 rfl ?_
      refine jj_callVl (pc := 20) (N := mX7_pullOf) (as := [.int a1, .int a2]) (st := []) dX7_pull_20 rfl rfl rfl lk_RX7_171 hv_X7_pullOf rfl rfl h (fun v11 w12 h => ?_)
      refine jj_goto (pc := 23) (tgt := 31) dX7_pull_23 (by decide) ?_
      exact jj_lret (pc := 31) dX7_pull_31 rfl h
theorem en_X7_pull {K : jj_K} (R : Int64 → wo_T → Prop)  (a1 : Int32) (a2 : Int32) (w : wo_T)
    (h : jj_Ci K mX7_isPair [.ref 58, .int a1] w (fun v1 w2 => (v1 = 0 → jj_Cl K mX7_no [.int (-2)] w2 (fun v4 w5 => R v4 w5)) ∧ (¬ v1 = 0 → jj_Ci K mX7_in [.int a2, .int 0, .int 1] w2 (fun v6 w7 => (v6 = 0 → jj_Cl K mX7_no [.int (-2)] w7 (fun v9 w10 => R v9 w10)) ∧ (¬ v6 = 0 → jj_Cl K mX7_pullOf [.ref 58, .int a1, .int a2] w7 (fun v11 w12 => R v11 w12)))))) : jj_Cl K mX7_pull [.ref 58, .int a1, .int a2] w R :=
  jj_Cl_intro pn_RX7 (Nat.le_of_ble_eq_true rfl) (vc_X7_pull_0 R a1 a2 w h)
set_option maxRecDepth 100000 in
set_option maxHeartbeats 4000000 in
theorem vc_X7_without_0 {K : jj_K} (R : Int64 → wo_T → Prop)  (a1 : Int32) (a2 : Int32) (w : wo_T)
    (h : jj_Ci K mX7_isBar [.ref 58, .int a1] w (fun v1 w2 => (v1 = 0 → jj_Cl K mX7_no [.int (-2)] w2 (fun v4 w5 => R v4 w5)) ∧ (¬ v1 = 0 → jj_Ci K mX7_in [.int a2, .int 0, .int 1] w2 (fun v6 w7 => (v6 = 0 → jj_Cl K mX7_no [.int (-2)] w7 (fun v9 w10 => R v9 w10)) ∧ (¬ v6 = 0 → jj_Cl K mX7_volumeOf [.ref 58, .int ((w7.1 58 6) &&& (((1 : Int32) <<< (a1 &&& 31)) ^^^ (-1))), .int a2] w7 (fun v11 w12 => R v11 w12)))))) :
    jj_J K mX7_without (jj_Rl R) 0 [(0, .ref 58), (1, .int a1), (2, .int a2)] [] w := by
  refine jj_aload_n (pc := 0) dX7_without_0 0 rfl ?_
  refine jj_iload_n (pc := 1) dX7_without_1 1 rfl ?_
  refine jj_callVi (pc := 2) (N := mX7_isBar) (as := [.int a1]) (st := []) dX7_without_2 rfl rfl rfl lk_RX7_174 hv_X7_isBar rfl rfl h (fun v1 w2 h => ?_)
  refine jj_if_eq (pc := 5) (tgt := 35) dX7_without_5 (by decide) (fun c3 => ?_) (fun c3 => ?_)
  · replace h := h.1 c3
    refine jj_bipush (pc := 35) (v := (-2)) dX7_without_35 (by decide) ?_
    refine jj_callSl (pc := 37) (N := mX7_no) (as := [.int (-2)]) (st := []) dX7_without_37 lk_RX7_160 hv_X7_no rfl rfl h (fun v4 w5 h => ?_)
    exact jj_lret (pc := 40) dX7_without_40 rfl h
  · replace h := h.2 c3
    refine jj_iload_n (pc := 8) dX7_without_8 2 rfl ?_
    refine jj_iconst (pc := 9) (v := 0) dX7_without_9 (by decide) ?_
    refine jj_iconst (pc := 10) (v := 1) dX7_without_10 (by decide) ?_
    refine jj_callSi (pc := 11) (N := mX7_in) (as := [.int a2, .int 0, .int 1]) (st := []) dX7_without_11 lk_RX7_64 hv_X7_in rfl rfl h (fun v6 w7 h => ?_)
    refine jj_if_eq (pc := 14) (tgt := 35) dX7_without_14 (by decide) (fun c8 => ?_) (fun c8 => ?_)
    · replace h := h.1 c8
      refine jj_bipush (pc := 35) (v := (-2)) dX7_without_35 (by decide) ?_
      refine jj_callSl (pc := 37) (N := mX7_no) (as := [.int (-2)]) (st := []) dX7_without_37 lk_RX7_160 hv_X7_no rfl rfl h (fun v9 w10 h => ?_)
      exact jj_lret (pc := 40) dX7_without_40 rfl h
    · replace h := h.2 c8
      refine jj_aload_n (pc := 17) dX7_without_17 0 rfl ?_
      refine jj_aload_n (pc := 18) dX7_without_18 0 rfl ?_
      refine jj_getI (pc := 19) (ci := 7) (k := 6) dX7_without_19 rfl rfl (by decide) rfl lk_RX7_76 ?_
      refine jj_iconst (pc := 22) (v := 1) dX7_without_22 (by decide) ?_
      refine jj_iload_n (pc := 23) dX7_without_23 1 rfl ?_
      refine jj_ishl (pc := 24) dX7_without_24 ?_
      refine jj_iconst (pc := 25) (v := (-1)) dX7_without_25 (by decide) ?_
      refine jj_ixor (pc := 26) dX7_without_26 ?_
      refine jj_iand (pc := 27) dX7_without_27 ?_
      refine jj_iload_n (pc := 28) dX7_without_28 2 rfl ?_
      refine jj_callVl (pc := 29) (N := mX7_volumeOf) (as := [.int ((w7.1 58 6) &&& (((1 : Int32) <<< (a1 &&& 31)) ^^^ (-1))), .int a2]) (st := []) dX7_without_29 rfl rfl rfl lk_RX7_164 hv_X7_volumeOf rfl rfl h (fun v11 w12 h => ?_)
      refine jj_goto (pc := 32) (tgt := 40) dX7_without_32 (by decide) ?_
      exact jj_lret (pc := 40) dX7_without_40 rfl h
theorem en_X7_without {K : jj_K} (R : Int64 → wo_T → Prop)  (a1 : Int32) (a2 : Int32) (w : wo_T)
    (h : jj_Ci K mX7_isBar [.ref 58, .int a1] w (fun v1 w2 => (v1 = 0 → jj_Cl K mX7_no [.int (-2)] w2 (fun v4 w5 => R v4 w5)) ∧ (¬ v1 = 0 → jj_Ci K mX7_in [.int a2, .int 0, .int 1] w2 (fun v6 w7 => (v6 = 0 → jj_Cl K mX7_no [.int (-2)] w7 (fun v9 w10 => R v9 w10)) ∧ (¬ v6 = 0 → jj_Cl K mX7_volumeOf [.ref 58, .int ((w7.1 58 6) &&& (((1 : Int32) <<< (a1 &&& 31)) ^^^ (-1))), .int a2] w7 (fun v11 w12 => R v11 w12)))))) : jj_Cl K mX7_without [.ref 58, .int a1, .int a2] w R :=
  jj_Cl_intro pn_RX7 (Nat.le_of_ble_eq_true rfl) (vc_X7_without_0 R a1 a2 w h)
set_option maxRecDepth 100000 in
set_option maxHeartbeats 4000000 in
theorem vc_X7_why_0 {K : jj_K} (R : Int32 → wo_T → Prop)  (a1 : Int32) (w : wo_T)
    (h : jj_Ci K mX7_isBar [.ref 58, .int a1] w (fun v1 w2 => (v1 = 0 → R (-2) w2) ∧ (¬ v1 = 0 → jj_Ci K mX7_faultOf [.ref 58, .int ((w2.1 58 6) &&& (((1 : Int32) <<< (a1 &&& 31)) ^^^ (-1)))] w2 (fun v4 w5 => R v4 w5)))) :
    jj_J K mX7_why (jj_Ri R) 0 [(0, .ref 58), (1, .int a1)] [] w := by
  refine jj_aload_n (pc := 0) dX7_why_0 0 rfl ?_
  refine jj_iload_n (pc := 1) dX7_why_1 1 rfl ?_
  refine jj_callVi (pc := 2) (N := mX7_isBar) (as := [.int a1]) (st := []) dX7_why_2 rfl rfl rfl lk_RX7_174 hv_X7_isBar rfl rfl h (fun v1 w2 h => ?_)
  refine jj_if_eq (pc := 5) (tgt := 25) dX7_why_5 (by decide) (fun c3 => ?_) (fun c3 => ?_)
  · replace h := h.1 c3
    refine jj_bipush (pc := 25) (v := (-2)) dX7_why_25 (by decide) ?_
    exact jj_iret (pc := 27) dX7_why_27 rfl h
  · replace h := h.2 c3
    refine jj_aload_n (pc := 8) dX7_why_8 0 rfl ?_
    refine jj_aload_n (pc := 9) dX7_why_9 0 rfl ?_
    refine jj_getI (pc := 10) (ci := 7) (k := 6) dX7_why_10 rfl rfl (by decide) rfl lk_RX7_76 ?_
    refine jj_iconst (pc := 13) (v := 1) dX7_why_13 (by decide) ?_
    refine jj_iload_n (pc := 14) dX7_why_14 1 rfl ?_
    refine jj_ishl (pc := 15) dX7_why_15 ?_
    refine jj_iconst (pc := 16) (v := (-1)) dX7_why_16 (by decide) ?_
    refine jj_ixor (pc := 17) dX7_why_17 ?_
    refine jj_iand (pc := 18) dX7_why_18 ?_
    refine jj_callVi (pc := 19) (N := mX7_faultOf) (as := [.int ((w2.1 58 6) &&& (((1 : Int32) <<< (a1 &&& 31)) ^^^ (-1)))]) (st := []) dX7_why_19 rfl rfl rfl lk_RX7_142 hv_X7_faultOf rfl rfl h (fun v4 w5 h => ?_)
    refine jj_goto (pc := 22) (tgt := 27) dX7_why_22 (by decide) ?_
    exact jj_iret (pc := 27) dX7_why_27 rfl h
theorem en_X7_why {K : jj_K} (R : Int32 → wo_T → Prop)  (a1 : Int32) (w : wo_T)
    (h : jj_Ci K mX7_isBar [.ref 58, .int a1] w (fun v1 w2 => (v1 = 0 → R (-2) w2) ∧ (¬ v1 = 0 → jj_Ci K mX7_faultOf [.ref 58, .int ((w2.1 58 6) &&& (((1 : Int32) <<< (a1 &&& 31)) ^^^ (-1)))] w2 (fun v4 w5 => R v4 w5)))) : jj_Ci K mX7_why [.ref 58, .int a1] w R :=
  jj_Ci_intro pn_RX7 (Nat.le_of_ble_eq_true rfl) (vc_X7_why_0 R a1 w h)
set_option maxRecDepth 100000 in
set_option maxHeartbeats 4000000 in
theorem vc_X7_isNeeded_0 {K : jj_K} (R : Int32 → wo_T → Prop)  (a1 : Int32) (a2 : Int32) (w : wo_T)
    (h : jj_Ci K mX7_bestOf [.ref 58, .int ((w.1 58 6) &&& (((1 : Int32) <<< (a1 &&& 31)) ^^^ (-1)))] w (fun v1 w2 => (v1 = (-1) → R 1 w2) ∧ (¬ v1 = (-1) → jj_Ci K mX7_isLess [.ref 58, .int a2, .int v1] w2 (fun v4 w5 => (v4 = 0 → R 0 w5) ∧ (¬ v4 = 0 → R 1 w5))))) :
    jj_J K mX7_isNeeded (jj_Ri R) 0 [(0, .ref 58), (1, .int a1), (2, .int a2)] [] w := by
  refine jj_aload_n (pc := 0) dX7_isNeeded_0 0 rfl ?_
  refine jj_aload_n (pc := 1) dX7_isNeeded_1 0 rfl ?_
  refine jj_getI (pc := 2) (ci := 7) (k := 6) dX7_isNeeded_2 rfl rfl (by decide) rfl lk_RX7_76 ?_
  refine jj_iconst (pc := 5) (v := 1) dX7_isNeeded_5 (by decide) ?_
  refine jj_iload_n (pc := 6) dX7_isNeeded_6 1 rfl ?_
  refine jj_ishl (pc := 7) dX7_isNeeded_7 ?_
  refine jj_iconst (pc := 8) (v := (-1)) dX7_isNeeded_8 (by decide) ?_
  refine jj_ixor (pc := 9) dX7_isNeeded_9 ?_
  refine jj_iand (pc := 10) dX7_isNeeded_10 ?_
  refine jj_callVi (pc := 11) (N := mX7_bestOf) (as := [.int ((w.1 58 6) &&& (((1 : Int32) <<< (a1 &&& 31)) ^^^ (-1)))]) (st := []) dX7_isNeeded_11 rfl rfl rfl lk_RX7_157 hv_X7_bestOf rfl rfl h (fun v1 w2 h => ?_)
  refine jj_istore_n (pc := 14) (l2 := [(3, .int v1), (0, .ref 58), (1, .int a1), (2, .int a2)]) dX7_isNeeded_14 (by decide) rfl ?_
  refine jj_iload_n (pc := 15) dX7_isNeeded_15 0 rfl ?_
  refine jj_iconst (pc := 16) (v := (-1)) dX7_isNeeded_16 (by decide) ?_
  refine jj_icmp_eq (pc := 17) (tgt := 29) dX7_isNeeded_17 (by decide) (fun c3 => ?_) (fun c3 => ?_)
  · replace h := h.1 c3
    refine jj_iconst (pc := 29) (v := 1) dX7_isNeeded_29 (by decide) ?_
    refine jj_goto (pc := 30) (tgt := 34) dX7_isNeeded_30 (by decide) ?_
    exact jj_zret (pc := 34) dX7_isNeeded_34 rfl (Or.inr rfl) h
  · replace h := h.2 c3
    refine jj_aload_n (pc := 20) dX7_isNeeded_20 1 rfl ?_
    refine jj_iload_n (pc := 21) dX7_isNeeded_21 3 rfl ?_
    refine jj_iload_n (pc := 22) dX7_isNeeded_22 0 rfl ?_
    refine jj_callVi (pc := 23) (N := mX7_isLess) (as := [.int a2, .int v1]) (st := []) dX7_isNeeded_23 rfl rfl rfl lk_RX7_154 hv_X7_isLess rfl rfl h (fun v4 w5 h => ?_)
    refine jj_if_eq (pc := 26) (tgt := 33) dX7_isNeeded_26 (by decide) (fun c6 => ?_) (fun c6 => ?_)
    · replace h := h.1 c6
      refine jj_iconst (pc := 33) (v := 0) dX7_isNeeded_33 (by decide) ?_
      exact jj_zret (pc := 34) dX7_isNeeded_34 rfl (Or.inl rfl) h
    · replace h := h.2 c6
      refine jj_iconst (pc := 29) (v := 1) dX7_isNeeded_29 (by decide) ?_
      refine jj_goto (pc := 30) (tgt := 34) dX7_isNeeded_30 (by decide) ?_
      exact jj_zret (pc := 34) dX7_isNeeded_34 rfl (Or.inr rfl) h
theorem en_X7_isNeeded {K : jj_K} (R : Int32 → wo_T → Prop)  (a1 : Int32) (a2 : Int32) (w : wo_T)
    (h : jj_Ci K mX7_bestOf [.ref 58, .int ((w.1 58 6) &&& (((1 : Int32) <<< (a1 &&& 31)) ^^^ (-1)))] w (fun v1 w2 => (v1 = (-1) → R 1 w2) ∧ (¬ v1 = (-1) → jj_Ci K mX7_isLess [.ref 58, .int a2, .int v1] w2 (fun v4 w5 => (v4 = 0 → R 0 w5) ∧ (¬ v4 = 0 → R 1 w5))))) : jj_Ci K mX7_isNeeded [.ref 58, .int a1, .int a2] w R :=
  jj_Ci_intro pn_RX7 (Nat.le_of_ble_eq_true rfl) (vc_X7_isNeeded_0 R a1 a2 w h)
set_option maxRecDepth 100000 in
set_option maxHeartbeats 4000000 in
theorem vc_X7_neededNow_0 {K : jj_K} (R : Int32 → wo_T → Prop)   (w : wo_T)
    (h : jj_Ci K mX7_bestOf [.ref 58, .int (w.1 58 6)] w (fun v1 w2 => jj_J K mX7_neededNow (jj_Ri R) 13 [(0, .ref 58), (1, .int v1), (2, .int 0), (3, .int 0)] [] w2)) :
    jj_J K mX7_neededNow (jj_Ri R) 0 [(0, .ref 58)] [] w := by
  refine jj_aload_n (pc := 0) dX7_neededNow_0 0 rfl ?_
  refine jj_aload_n (pc := 1) dX7_neededNow_1 0 rfl ?_
  refine jj_getI (pc := 2) (ci := 7) (k := 6) dX7_neededNow_2 rfl rfl (by decide) rfl lk_RX7_76 ?_
  refine jj_callVi (pc := 5) (N := mX7_bestOf) (as := [.int (w.1 58 6)]) (st := []) dX7_neededNow_5 rfl rfl rfl lk_RX7_157 hv_X7_bestOf rfl rfl h (fun v1 w2 h => ?_)
  refine jj_istore_n (pc := 8) (l2 := [(1, .int v1), (0, .ref 58)]) dX7_neededNow_8 (by decide) rfl ?_
  refine jj_iconst (pc := 9) (v := 0) dX7_neededNow_9 (by decide) ?_
  refine jj_istore_n (pc := 10) (l2 := [(2, .int 0), (1, .int v1), (0, .ref 58)]) dX7_neededNow_10 (by decide) rfl ?_
  refine jj_iconst (pc := 11) (v := 0) dX7_neededNow_11 (by decide) ?_
  refine jj_istore_n (pc := 12) (l2 := [(3, .int 0), (2, .int 0), (1, .int v1), (0, .ref 58)]) dX7_neededNow_12 (by decide) rfl ?_
  exact jj_sub [3, 2, 1, 0] rfl h
theorem en_X7_neededNow {K : jj_K} (R : Int32 → wo_T → Prop)   (w : wo_T)
    (h : jj_Ci K mX7_bestOf [.ref 58, .int (w.1 58 6)] w (fun v1 w2 => jj_J K mX7_neededNow (jj_Ri R) 13 [(0, .ref 58), (1, .int v1), (2, .int 0), (3, .int 0)] [] w2)) : jj_Ci K mX7_neededNow [.ref 58] w R :=
  jj_Ci_intro pn_RX7 (Nat.le_of_ble_eq_true rfl) (vc_X7_neededNow_0 R  w h)
set_option maxRecDepth 100000 in
set_option maxHeartbeats 4000000 in
theorem vc_X7_neededNow_13 {K : jj_K} (R : Int32 → wo_T → Prop)  (a1 : Int32) (a2 : Int32) (a3 : Int32) (w : wo_T)
    (h : jj_Ci K mX7_pairs [.ref 58] w (fun v1 w2 => (v1 ≤ a3 → (¬ a1 = (-1) → R a2 w2) ∧ (a1 = (-1) → R (-3) w2)) ∧ (¬ v1 ≤ a3 → (a1 = (-1) → (¬ a1 = (-1) → R a2 w2) ∧ (a1 = (-1) → R (-3) w2)) ∧ (¬ a1 = (-1) → jj_Ci K mX7_isBar [.ref 58, .int a3] w2 (fun v7 w8 => (v7 = 0 → ∀ x10 : Int32, x10 = a2 ||| 0 → (jj_J K mX7_neededNow (jj_Ri R) 13 [(0, .ref 58), (1, .int a1), (2, .int x10), (3, .int (a3 + 1))] [] w8)) ∧ (¬ v7 = 0 → jj_Ci K mX7_isNeeded [.ref 58, .int a3, .int a1] w8 (fun v11 w12 => (v11 = 0 → ∀ x14 : Int32, x14 = a2 ||| 0 → (jj_J K mX7_neededNow (jj_Ri R) 13 [(0, .ref 58), (1, .int a1), (2, .int x14), (3, .int (a3 + 1))] [] w12)) ∧ (¬ v11 = 0 → ∀ x15 : Int32, x15 = a2 ||| ((1 : Int32) <<< (a3 &&& 31)) → (jj_J K mX7_neededNow (jj_Ri R) 13 [(0, .ref 58), (1, .int a1), (2, .int x15), (3, .int (a3 + 1))] [] w12))))))))) :
    jj_J K mX7_neededNow (jj_Ri R) 13 [(0, .ref 58), (1, .int a1), (2, .int a2), (3, .int a3)] [] w := by
  refine jj_iload_n (pc := 13) dX7_neededNow_13 3 rfl ?_
  refine jj_aload_n (pc := 14) dX7_neededNow_14 0 rfl ?_
  refine jj_callVi (pc := 15) (N := mX7_pairs) (as := []) (st := [.int a3]) dX7_neededNow_15 rfl rfl rfl lk_RX7_68 hv_X7_pairs rfl rfl h (fun v1 w2 h => ?_)
  refine jj_icmp_ge (pc := 18) (tgt := 59) dX7_neededNow_18 (by decide) (fun c3 => ?_) (fun c3 => ?_)
  · replace h := h.1 c3
    refine jj_iload_n (pc := 59) dX7_neededNow_59 1 rfl ?_
    refine jj_iconst (pc := 60) (v := (-1)) dX7_neededNow_60 (by decide) ?_
    refine jj_icmp_ne (pc := 61) (tgt := 69) dX7_neededNow_61 (by decide) (fun c4 => ?_) (fun c4 => ?_)
    · replace h := h.1 c4
      refine jj_iload_n (pc := 69) dX7_neededNow_69 2 rfl ?_
      exact jj_iret (pc := 70) dX7_neededNow_70 rfl h
    · replace h := h.2 c4
      refine jj_bipush (pc := 64) (v := (-3)) dX7_neededNow_64 (by decide) ?_
      refine jj_goto (pc := 66) (tgt := 70) dX7_neededNow_66 (by decide) ?_
      exact jj_iret (pc := 70) dX7_neededNow_70 rfl h
  · replace h := h.2 c3
    refine jj_iload_n (pc := 21) dX7_neededNow_21 1 rfl ?_
    refine jj_iconst (pc := 22) (v := (-1)) dX7_neededNow_22 (by decide) ?_
    refine jj_icmp_eq (pc := 23) (tgt := 59) dX7_neededNow_23 (by decide) (fun c5 => ?_) (fun c5 => ?_)
    · replace h := h.1 c5
      refine jj_iload_n (pc := 59) dX7_neededNow_59 1 rfl ?_
      refine jj_iconst (pc := 60) (v := (-1)) dX7_neededNow_60 (by decide) ?_
      refine jj_icmp_ne (pc := 61) (tgt := 69) dX7_neededNow_61 (by decide) (fun c6 => ?_) (fun c6 => ?_)
      · replace h := h.1 c6
        refine jj_iload_n (pc := 69) dX7_neededNow_69 2 rfl ?_
        exact jj_iret (pc := 70) dX7_neededNow_70 rfl h
      · replace h := h.2 c6
        refine jj_bipush (pc := 64) (v := (-3)) dX7_neededNow_64 (by decide) ?_
        refine jj_goto (pc := 66) (tgt := 70) dX7_neededNow_66 (by decide) ?_
        exact jj_iret (pc := 70) dX7_neededNow_70 rfl h
    · replace h := h.2 c5
      refine jj_iload_n (pc := 26) dX7_neededNow_26 2 rfl ?_
      refine jj_aload_n (pc := 27) dX7_neededNow_27 0 rfl ?_
      refine jj_iload_n (pc := 28) dX7_neededNow_28 3 rfl ?_
      refine jj_callVi (pc := 29) (N := mX7_isBar) (as := [.int a3]) (st := [.int a2]) dX7_neededNow_29 rfl rfl rfl lk_RX7_174 hv_X7_isBar rfl rfl h (fun v7 w8 h => ?_)
      refine jj_if_eq (pc := 32) (tgt := 50) dX7_neededNow_32 (by decide) (fun c9 => ?_) (fun c9 => ?_)
      · replace h := h.1 c9
        refine jj_iconst (pc := 50) (v := 0) dX7_neededNow_50 (by decide) ?_
        refine jj_ior (pc := 51) dX7_neededNow_51 ?_
        refine jj_nmi (fun x10 ex10 => ?_)
        replace h := h x10 ex10
        refine jj_istore_n (pc := 52) (l2 := [(2, .int x10), (0, .ref 58), (1, .int a1), (3, .int a3)]) dX7_neededNow_52 (by decide) rfl ?_
        refine jj_iinc (pc := 53) (v := a3 + 1) (l2 := [(3, .int (a3 + 1)), (2, .int x10), (0, .ref 58), (1, .int a1)]) dX7_neededNow_53 3 rfl rfl (by decide) rfl ?_
        refine jj_goto (pc := 56) (tgt := 13) dX7_neededNow_56 (by decide) ?_
        exact jj_sub [2, 3, 1, 0] rfl h
      · replace h := h.2 c9
        refine jj_aload_n (pc := 35) dX7_neededNow_35 0 rfl ?_
        refine jj_iload_n (pc := 36) dX7_neededNow_36 3 rfl ?_
        refine jj_iload_n (pc := 37) dX7_neededNow_37 1 rfl ?_
        refine jj_callVi (pc := 38) (N := mX7_isNeeded) (as := [.int a3, .int a1]) (st := [.int a2]) dX7_neededNow_38 rfl rfl rfl lk_RX7_177 hv_X7_isNeeded rfl rfl h (fun v11 w12 h => ?_)
        refine jj_if_eq (pc := 41) (tgt := 50) dX7_neededNow_41 (by decide) (fun c13 => ?_) (fun c13 => ?_)
        · replace h := h.1 c13
          refine jj_iconst (pc := 50) (v := 0) dX7_neededNow_50 (by decide) ?_
          refine jj_ior (pc := 51) dX7_neededNow_51 ?_
          refine jj_nmi (fun x14 ex14 => ?_)
          replace h := h x14 ex14
          refine jj_istore_n (pc := 52) (l2 := [(2, .int x14), (0, .ref 58), (1, .int a1), (3, .int a3)]) dX7_neededNow_52 (by decide) rfl ?_
          refine jj_iinc (pc := 53) (v := a3 + 1) (l2 := [(3, .int (a3 + 1)), (2, .int x14), (0, .ref 58), (1, .int a1)]) dX7_neededNow_53 3 rfl rfl (by decide) rfl ?_
          refine jj_goto (pc := 56) (tgt := 13) dX7_neededNow_56 (by decide) ?_
          exact jj_sub [2, 3, 1, 0] rfl h
        · replace h := h.2 c13
          refine jj_iconst (pc := 44) (v := 1) dX7_neededNow_44 (by decide) ?_
          refine jj_iload_n (pc := 45) dX7_neededNow_45 3 rfl ?_
          refine jj_ishl (pc := 46) dX7_neededNow_46 ?_
          refine jj_goto (pc := 47) (tgt := 51) dX7_neededNow_47 (by decide) ?_
          refine jj_ior (pc := 51) dX7_neededNow_51 ?_
          refine jj_nmi (fun x15 ex15 => ?_)
          replace h := h x15 ex15
          refine jj_istore_n (pc := 52) (l2 := [(2, .int x15), (0, .ref 58), (1, .int a1), (3, .int a3)]) dX7_neededNow_52 (by decide) rfl ?_
          refine jj_iinc (pc := 53) (v := a3 + 1) (l2 := [(3, .int (a3 + 1)), (2, .int x15), (0, .ref 58), (1, .int a1)]) dX7_neededNow_53 3 rfl rfl (by decide) rfl ?_
          refine jj_goto (pc := 56) (tgt := 13) dX7_neededNow_56 (by decide) ?_
          exact jj_sub [2, 3, 1, 0] rfl h
set_option maxRecDepth 100000 in
set_option maxHeartbeats 4000000 in
theorem vc_X7_needed_0 {K : jj_K} (R : Int32 → wo_T → Prop)   (w : wo_T)
    (h : jj_Ci K mX7_neededNow [.ref 58] w (fun v1 w2 => R v1 w2)) :
    jj_J K mX7_needed (jj_Ri R) 0 [(0, .ref 58)] [] w := by
  refine jj_aload_n (pc := 0) dX7_needed_0 0 rfl ?_
  refine jj_callVi (pc := 1) (N := mX7_neededNow) (as := []) (st := []) dX7_needed_1 rfl rfl rfl lk_RX7_180 hv_X7_neededNow rfl rfl h (fun v1 w2 h => ?_)
  exact jj_iret (pc := 4) dX7_needed_4 rfl h
theorem en_X7_needed {K : jj_K} (R : Int32 → wo_T → Prop)   (w : wo_T)
    (h : jj_Ci K mX7_neededNow [.ref 58] w (fun v1 w2 => R v1 w2)) : jj_Ci K mX7_needed [.ref 58] w R :=
  jj_Ci_intro pn_RX7 (Nat.le_of_ble_eq_true rfl) (vc_X7_needed_0 R  w h)
set_option maxRecDepth 100000 in
set_option maxHeartbeats 4000000 in
theorem vc_X7_dearestNow_0 {K : jj_K} (R : Int32 → wo_T → Prop)   (w : wo_T)
    (h : jj_Ci K mX7_neededNow [.ref 58] w (fun v1 w2 => jj_J K mX7_dearestNow (jj_Ri R) 15 [(0, .ref 58), (1, .int v1), (2, .int (-1)), (3, .int (-1)), (4, .int 0), (5, .int 0)] [] w2)) :
    jj_J K mX7_dearestNow (jj_Ri R) 0 [(0, .ref 58)] [] w := by
  refine jj_aload_n (pc := 0) dX7_dearestNow_0 0 rfl ?_
  refine jj_callVi (pc := 1) (N := mX7_neededNow) (as := []) (st := []) dX7_dearestNow_1 rfl rfl rfl lk_RX7_180 hv_X7_neededNow rfl rfl h (fun v1 w2 h => ?_)
  refine jj_istore_n (pc := 4) (l2 := [(1, .int v1), (0, .ref 58)]) dX7_dearestNow_4 (by decide) rfl ?_
  refine jj_iconst (pc := 5) (v := (-1)) dX7_dearestNow_5 (by decide) ?_
  refine jj_istore_n (pc := 6) (l2 := [(2, .int (-1)), (1, .int v1), (0, .ref 58)]) dX7_dearestNow_6 (by decide) rfl ?_
  refine jj_iconst (pc := 7) (v := (-1)) dX7_dearestNow_7 (by decide) ?_
  refine jj_istore_n (pc := 8) (l2 := [(3, .int (-1)), (2, .int (-1)), (1, .int v1), (0, .ref 58)]) dX7_dearestNow_8 (by decide) rfl ?_
  refine jj_iconst (pc := 9) (v := 0) dX7_dearestNow_9 (by decide) ?_
  refine jj_istore (pc := 10) (l2 := [(4, .int 0), (3, .int (-1)), (2, .int (-1)), (1, .int v1), (0, .ref 58)]) dX7_dearestNow_10 (by decide) rfl ?_
  refine jj_iconst (pc := 12) (v := 0) dX7_dearestNow_12 (by decide) ?_
  refine jj_istore (pc := 13) (l2 := [(5, .int 0), (4, .int 0), (3, .int (-1)), (2, .int (-1)), (1, .int v1), (0, .ref 58)]) dX7_dearestNow_13 (by decide) rfl ?_
  exact jj_sub [5, 4, 3, 2, 1, 0] rfl h
theorem en_X7_dearestNow {K : jj_K} (R : Int32 → wo_T → Prop)   (w : wo_T)
    (h : jj_Ci K mX7_neededNow [.ref 58] w (fun v1 w2 => jj_J K mX7_dearestNow (jj_Ri R) 15 [(0, .ref 58), (1, .int v1), (2, .int (-1)), (3, .int (-1)), (4, .int 0), (5, .int 0)] [] w2)) : jj_Ci K mX7_dearestNow [.ref 58] w R :=
  jj_Ci_intro pn_RX7 (Nat.le_of_ble_eq_true rfl) (vc_X7_dearestNow_0 R  w h)
set_option maxRecDepth 100000 in
set_option maxHeartbeats 4000000 in
theorem vc_X7_dearestNow_15 {K : jj_K} (R : Int32 → wo_T → Prop)  (a1 : Int32) (a2 : Int32) (a3 : Int32) (a4 : Int32) (a5 : Int32) (w : wo_T)
    (h : jj_Ci K mX7_pairs [.ref 58] w (fun v1 w2 => (v1 ≤ a5 → (¬ a1 = (-3) → R a2 w2) ∧ (a1 = (-3) → R (-3) w2)) ∧ (¬ v1 ≤ a5 → (a1 ≤ 0 → (¬ a1 = (-3) → R a2 w2) ∧ (a1 = (-3) → R (-3) w2)) ∧ (¬ a1 ≤ 0 → (¬ ((a1 >>> (a5 &&& 31)) &&& 1) = 1 → jj_J K mX7_dearestNow (jj_Ri R) 15 [(0, .ref 58), (1, .int a1), (2, .int a2), (3, .int a3), (4, .int a4), (5, .int (a5 + 1))] [] w2) ∧ (((a1 >>> (a5 &&& 31)) &&& 1) = 1 → (¬ a4 = 0 → jj_J K mX7_dearestNow (jj_Ri R) 15 [(0, .ref 58), (1, .int a1), (2, .int a2), (3, .int a3), (4, .int a4), (5, .int (a5 + 1))] [] w2) ∧ (a4 = 0 → jj_Ci K mX7_bestOf [.ref 58, .int ((w2.1 58 6) &&& (((1 : Int32) <<< (a5 &&& 31)) ^^^ (-1)))] w2 (fun v9 w10 => (¬ v9 = (-1) → (a2 = (-1) → jj_J K mX7_dearestNow (jj_Ri R) 15 [(0, .ref 58), (1, .int a1), (2, .int a5), (3, .int v9), (4, .int 0), (5, .int (a5 + 1))] [] w10) ∧ (¬ a2 = (-1) → jj_Ci K mX7_isLess [.ref 58, .int a3, .int v9] w10 (fun v16 w17 => (v16 = 0 → (¬ a2 = a5 → jj_J K mX7_dearestNow (jj_Ri R) 15 [(0, .ref 58), (1, .int a1), (2, .int a2), (3, .int a3), (4, .int 0), (5, .int (a5 + 1))] [] w17) ∧ (a2 = a5 → jj_J K mX7_dearestNow (jj_Ri R) 15 [(0, .ref 58), (1, .int a1), (2, .int a2), (3, .int v9), (4, .int 0), (5, .int (a5 + 1))] [] w17)) ∧ (¬ v16 = 0 → jj_J K mX7_dearestNow (jj_Ri R) 15 [(0, .ref 58), (1, .int a1), (2, .int a5), (3, .int v9), (4, .int 0), (5, .int (a5 + 1))] [] w17)))) ∧ (v9 = (-1) → jj_J K mX7_dearestNow (jj_Ri R) 15 [(0, .ref 58), (1, .int a1), (2, .int a5), (3, .int v9), (4, .int 1), (5, .int (a5 + 1))] [] w10)))))))) :
    jj_J K mX7_dearestNow (jj_Ri R) 15 [(0, .ref 58), (1, .int a1), (2, .int a2), (3, .int a3), (4, .int a4), (5, .int a5)] [] w := by
  refine jj_iload (pc := 15) dX7_dearestNow_15 5 rfl ?_
  refine jj_aload_n (pc := 17) dX7_dearestNow_17 0 rfl ?_
  refine jj_callVi (pc := 18) (N := mX7_pairs) (as := []) (st := [.int a5]) dX7_dearestNow_18 rfl rfl rfl lk_RX7_68 hv_X7_pairs rfl rfl h (fun v1 w2 h => ?_)
  refine jj_icmp_ge (pc := 21) (tgt := 124) dX7_dearestNow_21 (by decide) (fun c3 => ?_) (fun c3 => ?_)
  · replace h := h.1 c3
    refine jj_iload_n (pc := 124) dX7_dearestNow_124 1 rfl ?_
    refine jj_bipush (pc := 125) (v := (-3)) dX7_dearestNow_125 (by decide) ?_
    refine jj_icmp_ne (pc := 127) (tgt := 135) dX7_dearestNow_127 (by decide) (fun c4 => ?_) (fun c4 => ?_)
    · replace h := h.1 c4
      refine jj_iload_n (pc := 135) dX7_dearestNow_135 2 rfl ?_
      exact jj_iret (pc := 136) dX7_dearestNow_136 rfl h
    · replace h := h.2 c4
      refine jj_bipush (pc := 130) (v := (-3)) dX7_dearestNow_130 (by decide) ?_
      refine jj_goto (pc := 132) (tgt := 136) dX7_dearestNow_132 (by decide) ?_
      exact jj_iret (pc := 136) dX7_dearestNow_136 rfl h
  · replace h := h.2 c3
    refine jj_iload_n (pc := 24) dX7_dearestNow_24 1 rfl ?_
    refine jj_if_le (pc := 25) (tgt := 124) dX7_dearestNow_25 (by decide) (fun c5 => ?_) (fun c5 => ?_)
    · replace h := h.1 c5
      refine jj_iload_n (pc := 124) dX7_dearestNow_124 1 rfl ?_
      refine jj_bipush (pc := 125) (v := (-3)) dX7_dearestNow_125 (by decide) ?_
      refine jj_icmp_ne (pc := 127) (tgt := 135) dX7_dearestNow_127 (by decide) (fun c6 => ?_) (fun c6 => ?_)
      · replace h := h.1 c6
        refine jj_iload_n (pc := 135) dX7_dearestNow_135 2 rfl ?_
        exact jj_iret (pc := 136) dX7_dearestNow_136 rfl h
      · replace h := h.2 c6
        refine jj_bipush (pc := 130) (v := (-3)) dX7_dearestNow_130 (by decide) ?_
        refine jj_goto (pc := 132) (tgt := 136) dX7_dearestNow_132 (by decide) ?_
        exact jj_iret (pc := 136) dX7_dearestNow_136 rfl h
    · replace h := h.2 c5
      refine jj_iload_n (pc := 28) dX7_dearestNow_28 1 rfl ?_
      refine jj_iload (pc := 29) dX7_dearestNow_29 5 rfl ?_
      refine jj_ishr (pc := 31) dX7_dearestNow_31 ?_
      refine jj_iconst (pc := 32) (v := 1) dX7_dearestNow_32 (by decide) ?_
      refine jj_iand (pc := 33) dX7_dearestNow_33 ?_
      refine jj_iconst (pc := 34) (v := 1) dX7_dearestNow_34 (by decide) ?_
      refine jj_icmp_ne (pc := 35) (tgt := 118) dX7_dearestNow_35 (by decide) (fun c7 => ?_) (fun c7 => ?_)
      · replace h := h.1 c7
        refine jj_iinc (pc := 118) (v := a5 + 1) (l2 := [(5, .int (a5 + 1)), (0, .ref 58), (1, .int a1), (2, .int a2), (3, .int a3), (4, .int a4)]) dX7_dearestNow_118 5 rfl rfl (by decide) rfl ?_
        refine jj_goto (pc := 121) (tgt := 15) dX7_dearestNow_121 (by decide) ?_
        exact jj_sub [1, 2, 3, 4, 5, 0] rfl h
      · replace h := h.2 c7
        refine jj_iload (pc := 38) dX7_dearestNow_38 4 rfl ?_
        refine jj_if_ne (pc := 40) (tgt := 118) dX7_dearestNow_40 (by decide) (fun c8 => ?_) (fun c8 => ?_)
        · replace h := h.1 c8
          refine jj_iinc (pc := 118) (v := a5 + 1) (l2 := [(5, .int (a5 + 1)), (0, .ref 58), (1, .int a1), (2, .int a2), (3, .int a3), (4, .int a4)]) dX7_dearestNow_118 5 rfl rfl (by decide) rfl ?_
          refine jj_goto (pc := 121) (tgt := 15) dX7_dearestNow_121 (by decide) ?_
          exact jj_sub [1, 2, 3, 4, 5, 0] rfl h
        · replace h := h.2 c8
          refine jj_aload_n (pc := 43) dX7_dearestNow_43 0 rfl ?_
          refine jj_aload_n (pc := 44) dX7_dearestNow_44 0 rfl ?_
          refine jj_getI (pc := 45) (ci := 7) (k := 6) dX7_dearestNow_45 rfl rfl (by decide) rfl lk_RX7_76 ?_
          refine jj_iconst (pc := 48) (v := 1) dX7_dearestNow_48 (by decide) ?_
          refine jj_iload (pc := 49) dX7_dearestNow_49 5 rfl ?_
          refine jj_ishl (pc := 51) dX7_dearestNow_51 ?_
          refine jj_iconst (pc := 52) (v := (-1)) dX7_dearestNow_52 (by decide) ?_
          refine jj_ixor (pc := 53) dX7_dearestNow_53 ?_
          refine jj_iand (pc := 54) dX7_dearestNow_54 ?_
          refine jj_callVi (pc := 55) (N := mX7_bestOf) (as := [.int ((w2.1 58 6) &&& (((1 : Int32) <<< (a5 &&& 31)) ^^^ (-1)))]) (st := []) dX7_dearestNow_55 rfl rfl rfl lk_RX7_157 hv_X7_bestOf rfl rfl h (fun v9 w10 h => ?_)
          refine jj_istore (pc := 58) (l2 := [(6, .int v9), (0, .ref 58), (1, .int a1), (2, .int a2), (3, .int a3), (4, .int a4), (5, .int a5)]) dX7_dearestNow_58 (by decide) rfl ?_
          refine jj_iload (pc := 60) dX7_dearestNow_60 0 rfl ?_
          refine jj_iconst (pc := 62) (v := (-1)) dX7_dearestNow_62 (by decide) ?_
          refine jj_icmp_ne (pc := 63) (tgt := 70) dX7_dearestNow_63 (by decide) (fun c11 => ?_) (fun c11 => ?_)
          · replace h := h.1 c11
            refine jj_iconst (pc := 70) (v := 0) dX7_dearestNow_70 (by decide) ?_
            refine jj_istore (pc := 71) (l2 := [(4, .int 0), (6, .int v9), (0, .ref 58), (1, .int a1), (2, .int a2), (3, .int a3), (5, .int a5)]) dX7_dearestNow_71 (by decide) rfl ?_
            refine jj_iload (pc := 73) dX7_dearestNow_73 0 rfl ?_
            refine jj_if_ne (pc := 75) (tgt := 93) dX7_dearestNow_75 (by decide) (fun z => absurd z (by decide)) (fun _ => ?_)
            refine jj_iload_n (pc := 78) dX7_dearestNow_78 4 rfl ?_
            refine jj_iconst (pc := 79) (v := (-1)) dX7_dearestNow_79 (by decide) ?_
            refine jj_icmp_eq (pc := 80) (tgt := 93) dX7_dearestNow_80 (by decide) (fun c13 => ?_) (fun c13 => ?_)
            · replace h := h.1 c13
              refine jj_iload (pc := 93) dX7_dearestNow_93 6 rfl ?_
              refine jj_goto (pc := 95) (tgt := 99) dX7_dearestNow_95 (by decide) ?_
              refine jj_istore_n (pc := 99) (l2 := [(2, .int a5), (4, .int 0), (6, .int v9), (0, .ref 58), (1, .int a1), (3, .int a3), (5, .int a5)]) dX7_dearestNow_99 (by decide) rfl ?_
              refine jj_iload (pc := 100) dX7_dearestNow_100 1 rfl ?_
              refine jj_if_ne (pc := 102) (tgt := 111) dX7_dearestNow_102 (by decide) (fun z => absurd z (by decide)) (fun _ => ?_)
              refine jj_iload_n (pc := 105) dX7_dearestNow_105 0 rfl ?_
              refine jj_iload (pc := 106) dX7_dearestNow_106 6 rfl ?_
              refine jj_icmp_ne (pc := 108) (tgt := 116) dX7_dearestNow_108 (by decide) (fun z => absurd rfl z) (fun _ => ?_)
              refine jj_iload (pc := 111) dX7_dearestNow_111 2 rfl ?_
              refine jj_goto (pc := 113) (tgt := 117) dX7_dearestNow_113 (by decide) ?_
              refine jj_istore_n (pc := 117) (l2 := [(3, .int v9), (2, .int a5), (4, .int 0), (6, .int v9), (0, .ref 58), (1, .int a1), (5, .int a5)]) dX7_dearestNow_117 (by decide) rfl ?_
              refine jj_iinc (pc := 118) (v := a5 + 1) (l2 := [(5, .int (a5 + 1)), (3, .int v9), (2, .int a5), (4, .int 0), (6, .int v9), (0, .ref 58), (1, .int a1)]) dX7_dearestNow_118 6 rfl rfl (by decide) rfl ?_
              refine jj_goto (pc := 121) (tgt := 15) dX7_dearestNow_121 (by decide) ?_
              exact jj_sub [5, 6, 2, 1, 3, 0] rfl h
            · replace h := h.2 c13
              refine jj_aload_n (pc := 83) dX7_dearestNow_83 2 rfl ?_
              refine jj_iload_n (pc := 84) dX7_dearestNow_84 5 rfl ?_
              refine jj_iload (pc := 85) dX7_dearestNow_85 1 rfl ?_
              refine jj_callVi (pc := 87) (N := mX7_isLess) (as := [.int a3, .int v9]) (st := []) dX7_dearestNow_87 rfl rfl rfl lk_RX7_154 hv_X7_isLess rfl rfl h (fun v16 w17 h => ?_)
              refine jj_if_eq (pc := 90) (tgt := 98) dX7_dearestNow_90 (by decide) (fun c18 => ?_) (fun c18 => ?_)
              · replace h := h.1 c18
                refine jj_iload_n (pc := 98) dX7_dearestNow_98 4 rfl ?_
                refine jj_istore_n (pc := 99) (l2 := [(2, .int a2), (4, .int 0), (6, .int v9), (0, .ref 58), (1, .int a1), (3, .int a3), (5, .int a5)]) dX7_dearestNow_99 (by decide) rfl ?_
                refine jj_iload (pc := 100) dX7_dearestNow_100 1 rfl ?_
                refine jj_if_ne (pc := 102) (tgt := 111) dX7_dearestNow_102 (by decide) (fun z => absurd z (by decide)) (fun _ => ?_)
                refine jj_iload_n (pc := 105) dX7_dearestNow_105 0 rfl ?_
                refine jj_iload (pc := 106) dX7_dearestNow_106 6 rfl ?_
                refine jj_icmp_ne (pc := 108) (tgt := 116) dX7_dearestNow_108 (by decide) (fun c20 => ?_) (fun c20 => ?_)
                · replace h := h.1 c20
                  refine jj_iload_n (pc := 116) dX7_dearestNow_116 5 rfl ?_
                  refine jj_istore_n (pc := 117) (l2 := [(3, .int a3), (2, .int a2), (4, .int 0), (6, .int v9), (0, .ref 58), (1, .int a1), (5, .int a5)]) dX7_dearestNow_117 (by decide) rfl ?_
                  refine jj_iinc (pc := 118) (v := a5 + 1) (l2 := [(5, .int (a5 + 1)), (3, .int a3), (2, .int a2), (4, .int 0), (6, .int v9), (0, .ref 58), (1, .int a1)]) dX7_dearestNow_118 6 rfl rfl (by decide) rfl ?_
                  refine jj_goto (pc := 121) (tgt := 15) dX7_dearestNow_121 (by decide) ?_
                  exact jj_sub [5, 6, 2, 1, 3, 0] rfl h
                · replace h := h.2 c20
                  refine jj_iload (pc := 111) dX7_dearestNow_111 2 rfl ?_
                  refine jj_goto (pc := 113) (tgt := 117) dX7_dearestNow_113 (by decide) ?_
                  refine jj_istore_n (pc := 117) (l2 := [(3, .int v9), (2, .int a2), (4, .int 0), (6, .int v9), (0, .ref 58), (1, .int a1), (5, .int a5)]) dX7_dearestNow_117 (by decide) rfl ?_
                  refine jj_iinc (pc := 118) (v := a5 + 1) (l2 := [(5, .int (a5 + 1)), (3, .int v9), (2, .int a2), (4, .int 0), (6, .int v9), (0, .ref 58), (1, .int a1)]) dX7_dearestNow_118 6 rfl rfl (by decide) rfl ?_
                  refine jj_goto (pc := 121) (tgt := 15) dX7_dearestNow_121 (by decide) ?_
                  exact jj_sub [5, 6, 2, 1, 3, 0] rfl h
              · replace h := h.2 c18
                refine jj_iload (pc := 93) dX7_dearestNow_93 6 rfl ?_
                refine jj_goto (pc := 95) (tgt := 99) dX7_dearestNow_95 (by decide) ?_
                refine jj_istore_n (pc := 99) (l2 := [(2, .int a5), (4, .int 0), (6, .int v9), (0, .ref 58), (1, .int a1), (3, .int a3), (5, .int a5)]) dX7_dearestNow_99 (by decide) rfl ?_
                refine jj_iload (pc := 100) dX7_dearestNow_100 1 rfl ?_
                refine jj_if_ne (pc := 102) (tgt := 111) dX7_dearestNow_102 (by decide) (fun z => absurd z (by decide)) (fun _ => ?_)
                refine jj_iload_n (pc := 105) dX7_dearestNow_105 0 rfl ?_
                refine jj_iload (pc := 106) dX7_dearestNow_106 6 rfl ?_
                refine jj_icmp_ne (pc := 108) (tgt := 116) dX7_dearestNow_108 (by decide) (fun z => absurd rfl z) (fun _ => ?_)
                refine jj_iload (pc := 111) dX7_dearestNow_111 2 rfl ?_
                refine jj_goto (pc := 113) (tgt := 117) dX7_dearestNow_113 (by decide) ?_
                refine jj_istore_n (pc := 117) (l2 := [(3, .int v9), (2, .int a5), (4, .int 0), (6, .int v9), (0, .ref 58), (1, .int a1), (5, .int a5)]) dX7_dearestNow_117 (by decide) rfl ?_
                refine jj_iinc (pc := 118) (v := a5 + 1) (l2 := [(5, .int (a5 + 1)), (3, .int v9), (2, .int a5), (4, .int 0), (6, .int v9), (0, .ref 58), (1, .int a1)]) dX7_dearestNow_118 6 rfl rfl (by decide) rfl ?_
                refine jj_goto (pc := 121) (tgt := 15) dX7_dearestNow_121 (by decide) ?_
                exact jj_sub [5, 6, 2, 1, 3, 0] rfl h
          · replace h := h.2 c11
            refine jj_iconst (pc := 66) (v := 1) dX7_dearestNow_66 (by decide) ?_
            refine jj_goto (pc := 67) (tgt := 71) dX7_dearestNow_67 (by decide) ?_
            refine jj_istore (pc := 71) (l2 := [(4, .int 1), (6, .int v9), (0, .ref 58), (1, .int a1), (2, .int a2), (3, .int a3), (5, .int a5)]) dX7_dearestNow_71 (by decide) rfl ?_
            refine jj_iload (pc := 73) dX7_dearestNow_73 0 rfl ?_
            refine jj_if_ne (pc := 75) (tgt := 93) dX7_dearestNow_75 (by decide) (fun _ => ?_) (fun z => absurd z (by decide))
            refine jj_iload (pc := 93) dX7_dearestNow_93 6 rfl ?_
            refine jj_goto (pc := 95) (tgt := 99) dX7_dearestNow_95 (by decide) ?_
            refine jj_istore_n (pc := 99) (l2 := [(2, .int a5), (4, .int 1), (6, .int v9), (0, .ref 58), (1, .int a1), (3, .int a3), (5, .int a5)]) dX7_dearestNow_99 (by decide) rfl ?_
            refine jj_iload (pc := 100) dX7_dearestNow_100 1 rfl ?_
            refine jj_if_ne (pc := 102) (tgt := 111) dX7_dearestNow_102 (by decide) (fun _ => ?_) (fun z => absurd z (by decide))
            refine jj_iload (pc := 111) dX7_dearestNow_111 2 rfl ?_
            refine jj_goto (pc := 113) (tgt := 117) dX7_dearestNow_113 (by decide) ?_
            refine jj_istore_n (pc := 117) (l2 := [(3, .int v9), (2, .int a5), (4, .int 1), (6, .int v9), (0, .ref 58), (1, .int a1), (5, .int a5)]) dX7_dearestNow_117 (by decide) rfl ?_
            refine jj_iinc (pc := 118) (v := a5 + 1) (l2 := [(5, .int (a5 + 1)), (3, .int v9), (2, .int a5), (4, .int 1), (6, .int v9), (0, .ref 58), (1, .int a1)]) dX7_dearestNow_118 6 rfl rfl (by decide) rfl ?_
            refine jj_goto (pc := 121) (tgt := 15) dX7_dearestNow_121 (by decide) ?_
            exact jj_sub [5, 6, 2, 1, 3, 0] rfl h
set_option maxRecDepth 100000 in
set_option maxHeartbeats 4000000 in
theorem vc_X7_dearest_0 {K : jj_K} (R : Int32 → wo_T → Prop)   (w : wo_T)
    (h : jj_Ci K mX7_dearestNow [.ref 58] w (fun v1 w2 => R v1 w2)) :
    jj_J K mX7_dearest (jj_Ri R) 0 [(0, .ref 58)] [] w := by
  refine jj_aload_n (pc := 0) dX7_dearest_0 0 rfl ?_
  refine jj_callVi (pc := 1) (N := mX7_dearestNow) (as := []) (st := []) dX7_dearest_1 rfl rfl rfl lk_RX7_183 hv_X7_dearestNow rfl rfl h (fun v1 w2 h => ?_)
  exact jj_iret (pc := 4) dX7_dearest_4 rfl h
theorem en_X7_dearest {K : jj_K} (R : Int32 → wo_T → Prop)   (w : wo_T)
    (h : jj_Ci K mX7_dearestNow [.ref 58] w (fun v1 w2 => R v1 w2)) : jj_Ci K mX7_dearest [.ref 58] w R :=
  jj_Ci_intro pn_RX7 (Nat.le_of_ble_eq_true rfl) (vc_X7_dearest_0 R  w h)
set_option maxRecDepth 100000 in
set_option maxHeartbeats 4000000 in
theorem vc_X7_gainOf_0 {K : jj_K} (R : Int64 → wo_T → Prop)  (a1 : Int32) (a2 : Int32) (w : wo_T)
    (h : jj_Ci K mX7_bestOf [.ref 58, .int (w.1 58 6)] w (fun v1 w2 => (¬ v1 = (-1) → jj_Ci K mX7_bestOf [.ref 58, .int ((w2.1 58 6) ||| ((1 : Int32) <<< (a1 &&& 31)))] w2 (fun v4 w5 => vp_in v1 1024 ∧ (vp_in v4 1024 ∧ (vp_in v4 1024 ∧ (vp_in v1 1024 ∧ (vp_in v1 1024 ∧ (vp_in v4 1024 ∧ (jj_Cl K mX7_partOf [.long (((w5.2 67 v1.toNatClampNeg) * (w5.2 68 v4.toNatClampNeg)) - ((w5.2 67 v4.toNatClampNeg) * (w5.2 68 v1.toNatClampNeg))), .long ((w5.2 68 v1.toNatClampNeg) * (w5.2 68 v4.toNatClampNeg)), .int a2] w5 (fun v6 w7 => R v6 w7))))))))) ∧ (v1 = (-1) → jj_Cl K mX7_no [.int (-3)] w2 (fun v8 w9 => R v8 w9)))) :
    jj_J K mX7_gainOf (jj_Rl R) 0 [(0, .ref 58), (1, .int a1), (2, .int a2)] [] w := by
  refine jj_aload_n (pc := 0) dX7_gainOf_0 0 rfl ?_
  refine jj_aload_n (pc := 1) dX7_gainOf_1 0 rfl ?_
  refine jj_getI (pc := 2) (ci := 7) (k := 6) dX7_gainOf_2 rfl rfl (by decide) rfl lk_RX7_76 ?_
  refine jj_callVi (pc := 5) (N := mX7_bestOf) (as := [.int (w.1 58 6)]) (st := []) dX7_gainOf_5 rfl rfl rfl lk_RX7_157 hv_X7_bestOf rfl rfl h (fun v1 w2 h => ?_)
  refine jj_istore_n (pc := 8) (l2 := [(3, .int v1), (0, .ref 58), (1, .int a1), (2, .int a2)]) dX7_gainOf_8 (by decide) rfl ?_
  refine jj_iload_n (pc := 9) dX7_gainOf_9 0 rfl ?_
  refine jj_iconst (pc := 10) (v := (-1)) dX7_gainOf_10 (by decide) ?_
  refine jj_icmp_ne (pc := 11) (tgt := 20) dX7_gainOf_11 (by decide) (fun c3 => ?_) (fun c3 => ?_)
  · replace h := h.1 c3
    refine jj_aload_n (pc := 20) dX7_gainOf_20 1 rfl ?_
    refine jj_aload_n (pc := 21) dX7_gainOf_21 1 rfl ?_
    refine jj_getI (pc := 22) (ci := 7) (k := 6) dX7_gainOf_22 rfl rfl (by decide) rfl lk_RX7_76 ?_
    refine jj_iconst (pc := 25) (v := 1) dX7_gainOf_25 (by decide) ?_
    refine jj_iload_n (pc := 26) dX7_gainOf_26 2 rfl ?_
    refine jj_ishl (pc := 27) dX7_gainOf_27 ?_
    refine jj_ior (pc := 28) dX7_gainOf_28 ?_
    refine jj_callVi (pc := 29) (N := mX7_bestOf) (as := [.int ((w2.1 58 6) ||| ((1 : Int32) <<< (a1 &&& 31)))]) (st := []) dX7_gainOf_29 rfl rfl rfl lk_RX7_157 hv_X7_bestOf rfl rfl h (fun v4 w5 h => ?_)
    refine jj_istore (pc := 32) (l2 := [(4, .int v4), (3, .int v1), (0, .ref 58), (1, .int a1), (2, .int a2)]) dX7_gainOf_32 (by decide) rfl ?_
    refine jj_aload_n (pc := 34) dX7_gainOf_34 2 rfl ?_
    refine jj_getR (pc := 35) (ci := 7) (k := 11) dX7_gainOf_35 rfl rfl (by decide) rfl lk_RX7_36 ?_
    refine jj_iload_n (pc := 38) dX7_gainOf_38 1 rfl ?_
    refine jj_lald (pc := 39) dX7_gainOf_39 rfl h.1 ?_
    replace h := h.2
    refine jj_aload_n (pc := 40) dX7_gainOf_40 2 rfl ?_
    refine jj_getR (pc := 41) (ci := 7) (k := 12) dX7_gainOf_41 rfl rfl (by decide) rfl lk_RX7_39 ?_
    refine jj_iload (pc := 44) dX7_gainOf_44 0 rfl ?_
    refine jj_lald (pc := 46) dX7_gainOf_46 rfl h.1 ?_
    replace h := h.2
    refine jj_lmul (pc := 47) dX7_gainOf_47 ?_
    refine jj_aload_n (pc := 48) dX7_gainOf_48 2 rfl ?_
    refine jj_getR (pc := 49) (ci := 7) (k := 11) dX7_gainOf_49 rfl rfl (by decide) rfl lk_RX7_36 ?_
    refine jj_iload (pc := 52) dX7_gainOf_52 0 rfl ?_
    refine jj_lald (pc := 54) dX7_gainOf_54 rfl h.1 ?_
    replace h := h.2
    refine jj_aload_n (pc := 55) dX7_gainOf_55 2 rfl ?_
    refine jj_getR (pc := 56) (ci := 7) (k := 12) dX7_gainOf_56 rfl rfl (by decide) rfl lk_RX7_39 ?_
    refine jj_iload_n (pc := 59) dX7_gainOf_59 1 rfl ?_
    refine jj_lald (pc := 60) dX7_gainOf_60 rfl h.1 ?_
    replace h := h.2
    refine jj_lmul (pc := 61) dX7_gainOf_61 ?_
    refine jj_lsub (pc := 62) dX7_gainOf_62 ?_
    refine jj_aload_n (pc := 63) dX7_gainOf_63 2 rfl ?_
    refine jj_getR (pc := 64) (ci := 7) (k := 12) dX7_gainOf_64 rfl rfl (by decide) rfl lk_RX7_39 ?_
    refine jj_iload_n (pc := 67) dX7_gainOf_67 1 rfl ?_
    refine jj_lald (pc := 68) dX7_gainOf_68 rfl h.1 ?_
    replace h := h.2
    refine jj_aload_n (pc := 69) dX7_gainOf_69 2 rfl ?_
    refine jj_getR (pc := 70) (ci := 7) (k := 12) dX7_gainOf_70 rfl rfl (by decide) rfl lk_RX7_39 ?_
    refine jj_iload (pc := 73) dX7_gainOf_73 0 rfl ?_
    refine jj_lald (pc := 75) dX7_gainOf_75 rfl h.1 ?_
    replace h := h.2
    refine jj_lmul (pc := 76) dX7_gainOf_76 ?_
    refine jj_iload_n (pc := 77) dX7_gainOf_77 4 rfl ?_
    refine jj_callSl (pc := 78) (N := mX7_partOf) (as := [.long (((w5.2 67 v1.toNatClampNeg) * (w5.2 68 v4.toNatClampNeg)) - ((w5.2 67 v4.toNatClampNeg) * (w5.2 68 v1.toNatClampNeg))), .long ((w5.2 68 v1.toNatClampNeg) * (w5.2 68 v4.toNatClampNeg)), .int a2]) (st := []) dX7_gainOf_78 lk_RX7_138 hv_X7_partOf rfl rfl h (fun v6 w7 h => ?_)
    exact jj_lret (pc := 81) dX7_gainOf_81 rfl h
  · replace h := h.2 c3
    refine jj_bipush (pc := 14) (v := (-3)) dX7_gainOf_14 (by decide) ?_
    refine jj_callSl (pc := 16) (N := mX7_no) (as := [.int (-3)]) (st := []) dX7_gainOf_16 lk_RX7_160 hv_X7_no rfl rfl h (fun v8 w9 h => ?_)
    exact jj_lret (pc := 19) dX7_gainOf_19 rfl h
theorem en_X7_gainOf {K : jj_K} (R : Int64 → wo_T → Prop)  (a1 : Int32) (a2 : Int32) (w : wo_T)
    (h : jj_Ci K mX7_bestOf [.ref 58, .int (w.1 58 6)] w (fun v1 w2 => (¬ v1 = (-1) → jj_Ci K mX7_bestOf [.ref 58, .int ((w2.1 58 6) ||| ((1 : Int32) <<< (a1 &&& 31)))] w2 (fun v4 w5 => vp_in v1 1024 ∧ (vp_in v4 1024 ∧ (vp_in v4 1024 ∧ (vp_in v1 1024 ∧ (vp_in v1 1024 ∧ (vp_in v4 1024 ∧ (jj_Cl K mX7_partOf [.long (((w5.2 67 v1.toNatClampNeg) * (w5.2 68 v4.toNatClampNeg)) - ((w5.2 67 v4.toNatClampNeg) * (w5.2 68 v1.toNatClampNeg))), .long ((w5.2 68 v1.toNatClampNeg) * (w5.2 68 v4.toNatClampNeg)), .int a2] w5 (fun v6 w7 => R v6 w7))))))))) ∧ (v1 = (-1) → jj_Cl K mX7_no [.int (-3)] w2 (fun v8 w9 => R v8 w9)))) : jj_Cl K mX7_gainOf [.ref 58, .int a1, .int a2] w R :=
  jj_Cl_intro pn_RX7 (Nat.le_of_ble_eq_true rfl) (vc_X7_gainOf_0 R a1 a2 w h)
set_option maxRecDepth 100000 in
set_option maxHeartbeats 4000000 in
theorem vc_X7_gain_0 {K : jj_K} (R : Int64 → wo_T → Prop)  (a1 : Int32) (a2 : Int32) (w : wo_T)
    (h : jj_Ci K mX7_isPair [.ref 58, .int a1] w (fun v1 w2 => (v1 = 0 → jj_Cl K mX7_no [.int (-2)] w2 (fun v4 w5 => R v4 w5)) ∧ (¬ v1 = 0 → jj_Ci K mX7_isBar [.ref 58, .int a1] w2 (fun v6 w7 => (¬ v6 = 0 → jj_Cl K mX7_no [.int (-2)] w7 (fun v9 w10 => R v9 w10)) ∧ (v6 = 0 → jj_Ci K mX7_in [.int a2, .int 0, .int 1] w7 (fun v11 w12 => (v11 = 0 → jj_Cl K mX7_no [.int (-2)] w12 (fun v14 w15 => R v14 w15)) ∧ (¬ v11 = 0 → jj_Cl K mX7_gainOf [.ref 58, .int a1, .int a2] w12 (fun v16 w17 => R v16 w17)))))))) :
    jj_J K mX7_gain (jj_Rl R) 0 [(0, .ref 58), (1, .int a1), (2, .int a2)] [] w := by
  refine jj_aload_n (pc := 0) dX7_gain_0 0 rfl ?_
  refine jj_iload_n (pc := 1) dX7_gain_1 1 rfl ?_
  refine jj_callVi (pc := 2) (N := mX7_isPair) (as := [.int a1]) (st := []) dX7_gain_2 rfl rfl rfl lk_RX7_72 hv_X7_isPair rfl rfl h (fun v1 w2 h => ?_)
  refine jj_if_eq (pc := 5) (tgt := 34) dX7_gain_5 (by decide) (fun c3 => ?_) (fun c3 => ?_)
  · replace h := h.1 c3
    refine jj_bipush (pc := 34) (v := (-2)) dX7_gain_34 (by decide) ?_
    refine jj_callSl (pc := 36) (N := mX7_no) (as := [.int (-2)]) (st := []) dX7_gain_36 lk_RX7_160 hv_X7_no rfl rfl h (fun v4 w5 h => ?_)
    exact jj_lret (pc := 39) dX7_gain_39 rfl h
  · replace h := h.2 c3
    refine jj_aload_n (pc := 8) dX7_gain_8 0 rfl ?_
    refine jj_iload_n (pc := 9) dX7_gain_9 1 rfl ?_
    refine jj_callVi (pc := 10) (N := mX7_isBar) (as := [.int a1]) (st := []) dX7_gain_10 rfl rfl rfl lk_RX7_174 hv_X7_isBar rfl rfl h (fun v6 w7 h => ?_)
    refine jj_if_ne (pc := 13) (tgt := 34) dX7_gain_13 (by decide) (fun c8 => ?_) (fun c8 => ?_)
    · replace h := h.1 c8
      refine jj_bipush (pc := 34) (v := (-2)) dX7_gain_34 (by decide) ?_
      refine jj_callSl (pc := 36) (N := mX7_no) (as := [.int (-2)]) (st := []) dX7_gain_36 lk_RX7_160 hv_X7_no rfl rfl h (fun v9 w10 h => ?_)
      exact jj_lret (pc := 39) dX7_gain_39 rfl h
    · replace h := h.2 c8
      refine jj_iload_n (pc := 16) dX7_gain_16 2 rfl ?_
      refine jj_iconst (pc := 17) (v := 0) dX7_gain_17 (by decide) ?_
      refine jj_iconst (pc := 18) (v := 1) dX7_gain_18 (by decide) ?_
      refine jj_callSi (pc := 19) (N := mX7_in) (as := [.int a2, .int 0, .int 1]) (st := []) dX7_gain_19 lk_RX7_64 hv_X7_in rfl rfl h (fun v11 w12 h => ?_)
      refine jj_if_eq (pc := 22) (tgt := 34) dX7_gain_22 (by decide) (fun c13 => ?_) (fun c13 => ?_)
      · replace h := h.1 c13
        refine jj_bipush (pc := 34) (v := (-2)) dX7_gain_34 (by decide) ?_
        refine jj_callSl (pc := 36) (N := mX7_no) (as := [.int (-2)]) (st := []) dX7_gain_36 lk_RX7_160 hv_X7_no rfl rfl h (fun v14 w15 h => ?_)
        exact jj_lret (pc := 39) dX7_gain_39 rfl h
      · replace h := h.2 c13
        refine jj_aload_n (pc := 25) dX7_gain_25 0 rfl ?_
        refine jj_iload_n (pc := 26) dX7_gain_26 1 rfl ?_
        refine jj_iload_n (pc := 27) dX7_gain_27 2 rfl ?_
        refine jj_callVl (pc := 28) (N := mX7_gainOf) (as := [.int a1, .int a2]) (st := []) dX7_gain_28 rfl rfl rfl lk_RX7_186 hv_X7_gainOf rfl rfl h (fun v16 w17 h => ?_)
        refine jj_goto (pc := 31) (tgt := 39) dX7_gain_31 (by decide) ?_
        exact jj_lret (pc := 39) dX7_gain_39 rfl h
theorem en_X7_gain {K : jj_K} (R : Int64 → wo_T → Prop)  (a1 : Int32) (a2 : Int32) (w : wo_T)
    (h : jj_Ci K mX7_isPair [.ref 58, .int a1] w (fun v1 w2 => (v1 = 0 → jj_Cl K mX7_no [.int (-2)] w2 (fun v4 w5 => R v4 w5)) ∧ (¬ v1 = 0 → jj_Ci K mX7_isBar [.ref 58, .int a1] w2 (fun v6 w7 => (¬ v6 = 0 → jj_Cl K mX7_no [.int (-2)] w7 (fun v9 w10 => R v9 w10)) ∧ (v6 = 0 → jj_Ci K mX7_in [.int a2, .int 0, .int 1] w7 (fun v11 w12 => (v11 = 0 → jj_Cl K mX7_no [.int (-2)] w12 (fun v14 w15 => R v14 w15)) ∧ (¬ v11 = 0 → jj_Cl K mX7_gainOf [.ref 58, .int a1, .int a2] w12 (fun v16 w17 => R v16 w17)))))))) : jj_Cl K mX7_gain [.ref 58, .int a1, .int a2] w R :=
  jj_Cl_intro pn_RX7 (Nat.le_of_ble_eq_true rfl) (vc_X7_gain_0 R a1 a2 w h)
set_option maxRecDepth 100000 in
set_option maxHeartbeats 4000000 in
theorem vc_X7_growing_0 {K : jj_K} (R : Int32 → wo_T → Prop)   (w : wo_T)
    (h : jj_Ci K mX7_bestOf [.ref 58, .int (w.1 58 6)] w (fun v1 w2 => jj_J K mX7_growing (jj_Ri R) 13 [(0, .ref 58), (1, .int v1), (2, .int (-1)), (3, .int 0)] [] w2)) :
    jj_J K mX7_growing (jj_Ri R) 0 [(0, .ref 58)] [] w := by
  refine jj_aload_n (pc := 0) dX7_growing_0 0 rfl ?_
  refine jj_aload_n (pc := 1) dX7_growing_1 0 rfl ?_
  refine jj_getI (pc := 2) (ci := 7) (k := 6) dX7_growing_2 rfl rfl (by decide) rfl lk_RX7_76 ?_
  refine jj_callVi (pc := 5) (N := mX7_bestOf) (as := [.int (w.1 58 6)]) (st := []) dX7_growing_5 rfl rfl rfl lk_RX7_157 hv_X7_bestOf rfl rfl h (fun v1 w2 h => ?_)
  refine jj_istore_n (pc := 8) (l2 := [(1, .int v1), (0, .ref 58)]) dX7_growing_8 (by decide) rfl ?_
  refine jj_iconst (pc := 9) (v := (-1)) dX7_growing_9 (by decide) ?_
  refine jj_istore_n (pc := 10) (l2 := [(2, .int (-1)), (1, .int v1), (0, .ref 58)]) dX7_growing_10 (by decide) rfl ?_
  refine jj_iconst (pc := 11) (v := 0) dX7_growing_11 (by decide) ?_
  refine jj_istore_n (pc := 12) (l2 := [(3, .int 0), (2, .int (-1)), (1, .int v1), (0, .ref 58)]) dX7_growing_12 (by decide) rfl ?_
  exact jj_sub [3, 2, 1, 0] rfl h
theorem en_X7_growing {K : jj_K} (R : Int32 → wo_T → Prop)   (w : wo_T)
    (h : jj_Ci K mX7_bestOf [.ref 58, .int (w.1 58 6)] w (fun v1 w2 => jj_J K mX7_growing (jj_Ri R) 13 [(0, .ref 58), (1, .int v1), (2, .int (-1)), (3, .int 0)] [] w2)) : jj_Ci K mX7_growing [.ref 58] w R :=
  jj_Ci_intro pn_RX7 (Nat.le_of_ble_eq_true rfl) (vc_X7_growing_0 R  w h)
set_option maxRecDepth 100000 in
set_option maxHeartbeats 4000000 in
theorem vc_X7_growing_13 {K : jj_K} (R : Int32 → wo_T → Prop)  (a1 : Int32) (a2 : Int32) (a3 : Int32) (w : wo_T)
    (h : jj_Ci K mX7_pairs [.ref 58] w (fun v1 w2 => (v1 ≤ a3 → R a2 w2) ∧ (¬ v1 ≤ a3 → jj_Ci K mX7_isBar [.ref 58, .int a3] w2 (fun v4 w5 => (v4 = 0 → jj_Ci K mX7_bestOf [.ref 58, .int ((w5.1 58 6) ||| ((1 : Int32) <<< (a3 &&& 31)))] w5 (fun v7 w8 => jj_Ci K mX7_isLess [.ref 58, .int v7, .int a1] w8 (fun v9 w10 => (v9 = 0 → jj_Ci K mX7_isLess [.ref 58, .int v7, .int a1] w10 (fun v12 w13 => (v12 = 0 → jj_J K mX7_growing (jj_Ri R) 13 [(0, .ref 58), (1, .int a1), (2, .int a2), (3, .int (a3 + 1))] [] w13) ∧ (¬ v12 = 0 → jj_J K mX7_growing (jj_Ri R) 13 [(0, .ref 58), (1, .int v7), (2, .int a2), (3, .int (a3 + 1))] [] w13))) ∧ (¬ v9 = 0 → jj_Ci K mX7_isLess [.ref 58, .int v7, .int a1] w10 (fun v15 w16 => (v15 = 0 → jj_J K mX7_growing (jj_Ri R) 13 [(0, .ref 58), (1, .int a1), (2, .int a3), (3, .int (a3 + 1))] [] w16) ∧ (¬ v15 = 0 → jj_J K mX7_growing (jj_Ri R) 13 [(0, .ref 58), (1, .int v7), (2, .int a3), (3, .int (a3 + 1))] [] w16)))))) ∧ (¬ v4 = 0 → jj_Ci K mX7_isLess [.ref 58, .int a1, .int a1] w5 (fun v18 w19 => (v18 = 0 → jj_Ci K mX7_isLess [.ref 58, .int a1, .int a1] w19 (fun v21 w22 => (v21 = 0 → jj_J K mX7_growing (jj_Ri R) 13 [(0, .ref 58), (1, .int a1), (2, .int a2), (3, .int (a3 + 1))] [] w22) ∧ (¬ v21 = 0 → jj_J K mX7_growing (jj_Ri R) 13 [(0, .ref 58), (1, .int a1), (2, .int a2), (3, .int (a3 + 1))] [] w22))) ∧ (¬ v18 = 0 → jj_Ci K mX7_isLess [.ref 58, .int a1, .int a1] w19 (fun v24 w25 => (v24 = 0 → jj_J K mX7_growing (jj_Ri R) 13 [(0, .ref 58), (1, .int a1), (2, .int a3), (3, .int (a3 + 1))] [] w25) ∧ (¬ v24 = 0 → jj_J K mX7_growing (jj_Ri R) 13 [(0, .ref 58), (1, .int a1), (2, .int a3), (3, .int (a3 + 1))] [] w25))))))))) :
    jj_J K mX7_growing (jj_Ri R) 13 [(0, .ref 58), (1, .int a1), (2, .int a2), (3, .int a3)] [] w := by
  refine jj_iload_n (pc := 13) dX7_growing_13 3 rfl ?_
  refine jj_aload_n (pc := 14) dX7_growing_14 0 rfl ?_
  refine jj_callVi (pc := 15) (N := mX7_pairs) (as := []) (st := [.int a3]) dX7_growing_15 rfl rfl rfl lk_RX7_68 hv_X7_pairs rfl rfl h (fun v1 w2 h => ?_)
  refine jj_icmp_ge (pc := 18) (tgt := 86) dX7_growing_18 (by decide) (fun c3 => ?_) (fun c3 => ?_)
  · replace h := h.1 c3
    refine jj_iload_n (pc := 86) dX7_growing_86 2 rfl ?_
    exact jj_iret (pc := 87) dX7_growing_87 rfl h
  · replace h := h.2 c3
    refine jj_aload_n (pc := 21) dX7_growing_21 0 rfl ?_
    refine jj_iload_n (pc := 22) dX7_growing_22 3 rfl ?_
    refine jj_callVi (pc := 23) (N := mX7_isBar) (as := [.int a3]) (st := []) dX7_growing_23 rfl rfl rfl lk_RX7_174 hv_X7_isBar rfl rfl h (fun v4 w5 h => ?_)
    refine jj_if_eq (pc := 26) (tgt := 33) dX7_growing_26 (by decide) (fun c6 => ?_) (fun c6 => ?_)
    · replace h := h.1 c6
      refine jj_aload_n (pc := 33) dX7_growing_33 0 rfl ?_
      refine jj_aload_n (pc := 34) dX7_growing_34 0 rfl ?_
      refine jj_getI (pc := 35) (ci := 7) (k := 6) dX7_growing_35 rfl rfl (by decide) rfl lk_RX7_76 ?_
      refine jj_iconst (pc := 38) (v := 1) dX7_growing_38 (by decide) ?_
      refine jj_iload_n (pc := 39) dX7_growing_39 3 rfl ?_
      refine jj_ishl (pc := 40) dX7_growing_40 ?_
      refine jj_ior (pc := 41) dX7_growing_41 ?_
      refine jj_callVi (pc := 42) (N := mX7_bestOf) (as := [.int ((w5.1 58 6) ||| ((1 : Int32) <<< (a3 &&& 31)))]) (st := []) dX7_growing_42 rfl rfl rfl lk_RX7_157 hv_X7_bestOf rfl rfl h (fun v7 w8 h => ?_)
      refine jj_istore (pc := 45) (l2 := [(4, .int v7), (0, .ref 58), (1, .int a1), (2, .int a2), (3, .int a3)]) dX7_growing_45 (by decide) rfl ?_
      refine jj_aload_n (pc := 47) dX7_growing_47 1 rfl ?_
      refine jj_iload (pc := 48) dX7_growing_48 0 rfl ?_
      refine jj_iload_n (pc := 50) dX7_growing_50 2 rfl ?_
      refine jj_callVi (pc := 51) (N := mX7_isLess) (as := [.int v7, .int a1]) (st := []) dX7_growing_51 rfl rfl rfl lk_RX7_154 hv_X7_isLess rfl rfl h (fun v9 w10 h => ?_)
      refine jj_if_eq (pc := 54) (tgt := 61) dX7_growing_54 (by decide) (fun c11 => ?_) (fun c11 => ?_)
      · replace h := h.1 c11
        refine jj_iload_n (pc := 61) dX7_growing_61 3 rfl ?_
        refine jj_istore_n (pc := 62) (l2 := [(2, .int a2), (4, .int v7), (0, .ref 58), (1, .int a1), (3, .int a3)]) dX7_growing_62 (by decide) rfl ?_
        refine jj_aload_n (pc := 63) dX7_growing_63 2 rfl ?_
        refine jj_iload (pc := 64) dX7_growing_64 1 rfl ?_
        refine jj_iload_n (pc := 66) dX7_growing_66 3 rfl ?_
        refine jj_callVi (pc := 67) (N := mX7_isLess) (as := [.int v7, .int a1]) (st := []) dX7_growing_67 rfl rfl rfl lk_RX7_154 hv_X7_isLess rfl rfl h (fun v12 w13 h => ?_)
        refine jj_if_eq (pc := 70) (tgt := 78) dX7_growing_70 (by decide) (fun c14 => ?_) (fun c14 => ?_)
        · replace h := h.1 c14
          refine jj_iload_n (pc := 78) dX7_growing_78 3 rfl ?_
          refine jj_istore_n (pc := 79) (l2 := [(1, .int a1), (2, .int a2), (4, .int v7), (0, .ref 58), (3, .int a3)]) dX7_growing_79 (by decide) rfl ?_
          refine jj_iinc (pc := 80) (v := a3 + 1) (l2 := [(3, .int (a3 + 1)), (1, .int a1), (2, .int a2), (4, .int v7), (0, .ref 58)]) dX7_growing_80 4 rfl rfl (by decide) rfl ?_
          refine jj_goto (pc := 83) (tgt := 13) dX7_growing_83 (by decide) ?_
          exact jj_sub [4, 1, 2, 0] rfl h
        · replace h := h.2 c14
          refine jj_iload (pc := 73) dX7_growing_73 1 rfl ?_
          refine jj_goto (pc := 75) (tgt := 79) dX7_growing_75 (by decide) ?_
          refine jj_istore_n (pc := 79) (l2 := [(1, .int v7), (2, .int a2), (4, .int v7), (0, .ref 58), (3, .int a3)]) dX7_growing_79 (by decide) rfl ?_
          refine jj_iinc (pc := 80) (v := a3 + 1) (l2 := [(3, .int (a3 + 1)), (1, .int v7), (2, .int a2), (4, .int v7), (0, .ref 58)]) dX7_growing_80 4 rfl rfl (by decide) rfl ?_
          refine jj_goto (pc := 83) (tgt := 13) dX7_growing_83 (by decide) ?_
          exact jj_sub [4, 1, 2, 0] rfl h
      · replace h := h.2 c11
        refine jj_iload_n (pc := 57) dX7_growing_57 4 rfl ?_
        refine jj_goto (pc := 58) (tgt := 62) dX7_growing_58 (by decide) ?_
        refine jj_istore_n (pc := 62) (l2 := [(2, .int a3), (4, .int v7), (0, .ref 58), (1, .int a1), (3, .int a3)]) dX7_growing_62 (by decide) rfl ?_
        refine jj_aload_n (pc := 63) dX7_growing_63 2 rfl ?_
        refine jj_iload (pc := 64) dX7_growing_64 1 rfl ?_
        refine jj_iload_n (pc := 66) dX7_growing_66 3 rfl ?_
        refine jj_callVi (pc := 67) (N := mX7_isLess) (as := [.int v7, .int a1]) (st := []) dX7_growing_67 rfl rfl rfl lk_RX7_154 hv_X7_isLess rfl rfl h (fun v15 w16 h => ?_)
        refine jj_if_eq (pc := 70) (tgt := 78) dX7_growing_70 (by decide) (fun c17 => ?_) (fun c17 => ?_)
        · replace h := h.1 c17
          refine jj_iload_n (pc := 78) dX7_growing_78 3 rfl ?_
          refine jj_istore_n (pc := 79) (l2 := [(1, .int a1), (2, .int a3), (4, .int v7), (0, .ref 58), (3, .int a3)]) dX7_growing_79 (by decide) rfl ?_
          refine jj_iinc (pc := 80) (v := a3 + 1) (l2 := [(3, .int (a3 + 1)), (1, .int a1), (2, .int a3), (4, .int v7), (0, .ref 58)]) dX7_growing_80 4 rfl rfl (by decide) rfl ?_
          refine jj_goto (pc := 83) (tgt := 13) dX7_growing_83 (by decide) ?_
          exact jj_sub [4, 1, 2, 0] rfl h
        · replace h := h.2 c17
          refine jj_iload (pc := 73) dX7_growing_73 1 rfl ?_
          refine jj_goto (pc := 75) (tgt := 79) dX7_growing_75 (by decide) ?_
          refine jj_istore_n (pc := 79) (l2 := [(1, .int v7), (2, .int a3), (4, .int v7), (0, .ref 58), (3, .int a3)]) dX7_growing_79 (by decide) rfl ?_
          refine jj_iinc (pc := 80) (v := a3 + 1) (l2 := [(3, .int (a3 + 1)), (1, .int v7), (2, .int a3), (4, .int v7), (0, .ref 58)]) dX7_growing_80 4 rfl rfl (by decide) rfl ?_
          refine jj_goto (pc := 83) (tgt := 13) dX7_growing_83 (by decide) ?_
          exact jj_sub [4, 1, 2, 0] rfl h
    · replace h := h.2 c6
      refine jj_iload_n (pc := 29) dX7_growing_29 1 rfl ?_
      refine jj_goto (pc := 30) (tgt := 45) dX7_growing_30 (by decide) ?_
      refine jj_istore (pc := 45) (l2 := [(4, .int a1), (0, .ref 58), (1, .int a1), (2, .int a2), (3, .int a3)]) dX7_growing_45 (by decide) rfl ?_
      refine jj_aload_n (pc := 47) dX7_growing_47 1 rfl ?_
      refine jj_iload (pc := 48) dX7_growing_48 0 rfl ?_
      refine jj_iload_n (pc := 50) dX7_growing_50 2 rfl ?_
      refine jj_callVi (pc := 51) (N := mX7_isLess) (as := [.int a1, .int a1]) (st := []) dX7_growing_51 rfl rfl rfl lk_RX7_154 hv_X7_isLess rfl rfl h (fun v18 w19 h => ?_)
      refine jj_if_eq (pc := 54) (tgt := 61) dX7_growing_54 (by decide) (fun c20 => ?_) (fun c20 => ?_)
      · replace h := h.1 c20
        refine jj_iload_n (pc := 61) dX7_growing_61 3 rfl ?_
        refine jj_istore_n (pc := 62) (l2 := [(2, .int a2), (4, .int a1), (0, .ref 58), (1, .int a1), (3, .int a3)]) dX7_growing_62 (by decide) rfl ?_
        refine jj_aload_n (pc := 63) dX7_growing_63 2 rfl ?_
        refine jj_iload (pc := 64) dX7_growing_64 1 rfl ?_
        refine jj_iload_n (pc := 66) dX7_growing_66 3 rfl ?_
        refine jj_callVi (pc := 67) (N := mX7_isLess) (as := [.int a1, .int a1]) (st := []) dX7_growing_67 rfl rfl rfl lk_RX7_154 hv_X7_isLess rfl rfl h (fun v21 w22 h => ?_)
        refine jj_if_eq (pc := 70) (tgt := 78) dX7_growing_70 (by decide) (fun c23 => ?_) (fun c23 => ?_)
        · replace h := h.1 c23
          refine jj_iload_n (pc := 78) dX7_growing_78 3 rfl ?_
          refine jj_istore_n (pc := 79) (l2 := [(1, .int a1), (2, .int a2), (4, .int a1), (0, .ref 58), (3, .int a3)]) dX7_growing_79 (by decide) rfl ?_
          refine jj_iinc (pc := 80) (v := a3 + 1) (l2 := [(3, .int (a3 + 1)), (1, .int a1), (2, .int a2), (4, .int a1), (0, .ref 58)]) dX7_growing_80 4 rfl rfl (by decide) rfl ?_
          refine jj_goto (pc := 83) (tgt := 13) dX7_growing_83 (by decide) ?_
          exact jj_sub [4, 1, 2, 0] rfl h
        · replace h := h.2 c23
          refine jj_iload (pc := 73) dX7_growing_73 1 rfl ?_
          refine jj_goto (pc := 75) (tgt := 79) dX7_growing_75 (by decide) ?_
          refine jj_istore_n (pc := 79) (l2 := [(1, .int a1), (2, .int a2), (4, .int a1), (0, .ref 58), (3, .int a3)]) dX7_growing_79 (by decide) rfl ?_
          refine jj_iinc (pc := 80) (v := a3 + 1) (l2 := [(3, .int (a3 + 1)), (1, .int a1), (2, .int a2), (4, .int a1), (0, .ref 58)]) dX7_growing_80 4 rfl rfl (by decide) rfl ?_
          refine jj_goto (pc := 83) (tgt := 13) dX7_growing_83 (by decide) ?_
          exact jj_sub [4, 1, 2, 0] rfl h
      · replace h := h.2 c20
        refine jj_iload_n (pc := 57) dX7_growing_57 4 rfl ?_
        refine jj_goto (pc := 58) (tgt := 62) dX7_growing_58 (by decide) ?_
        refine jj_istore_n (pc := 62) (l2 := [(2, .int a3), (4, .int a1), (0, .ref 58), (1, .int a1), (3, .int a3)]) dX7_growing_62 (by decide) rfl ?_
        refine jj_aload_n (pc := 63) dX7_growing_63 2 rfl ?_
        refine jj_iload (pc := 64) dX7_growing_64 1 rfl ?_
        refine jj_iload_n (pc := 66) dX7_growing_66 3 rfl ?_
        refine jj_callVi (pc := 67) (N := mX7_isLess) (as := [.int a1, .int a1]) (st := []) dX7_growing_67 rfl rfl rfl lk_RX7_154 hv_X7_isLess rfl rfl h (fun v24 w25 h => ?_)
        refine jj_if_eq (pc := 70) (tgt := 78) dX7_growing_70 (by decide) (fun c26 => ?_) (fun c26 => ?_)
        · replace h := h.1 c26
          refine jj_iload_n (pc := 78) dX7_growing_78 3 rfl ?_
          refine jj_istore_n (pc := 79) (l2 := [(1, .int a1), (2, .int a3), (4, .int a1), (0, .ref 58), (3, .int a3)]) dX7_growing_79 (by decide) rfl ?_
          refine jj_iinc (pc := 80) (v := a3 + 1) (l2 := [(3, .int (a3 + 1)), (1, .int a1), (2, .int a3), (4, .int a1), (0, .ref 58)]) dX7_growing_80 4 rfl rfl (by decide) rfl ?_
          refine jj_goto (pc := 83) (tgt := 13) dX7_growing_83 (by decide) ?_
          exact jj_sub [4, 1, 2, 0] rfl h
        · replace h := h.2 c26
          refine jj_iload (pc := 73) dX7_growing_73 1 rfl ?_
          refine jj_goto (pc := 75) (tgt := 79) dX7_growing_75 (by decide) ?_
          refine jj_istore_n (pc := 79) (l2 := [(1, .int a1), (2, .int a3), (4, .int a1), (0, .ref 58), (3, .int a3)]) dX7_growing_79 (by decide) rfl ?_
          refine jj_iinc (pc := 80) (v := a3 + 1) (l2 := [(3, .int (a3 + 1)), (1, .int a1), (2, .int a3), (4, .int a1), (0, .ref 58)]) dX7_growing_80 4 rfl rfl (by decide) rfl ?_
          refine jj_goto (pc := 83) (tgt := 13) dX7_growing_83 (by decide) ?_
          exact jj_sub [4, 1, 2, 0] rfl h
set_option maxRecDepth 100000 in
set_option maxHeartbeats 4000000 in
theorem vc_X7_grow_0 {K : jj_K} (R : Int32 → wo_T → Prop)   (w : wo_T)
    (h : jj_Ci K mX7_bestOf [.ref 58, .int (w.1 58 6)] w (fun v1 w2 => (¬ v1 = (-1) → jj_Ci K mX7_growing [.ref 58] w2 (fun v4 w5 => jj_J K mX7_grow (jj_Ri R) 22 [(0, .ref 58), (1, .int 0), (2, .int v4)] [] w5)) ∧ (v1 = (-1) → R (-3) w2))) :
    jj_J K mX7_grow (jj_Ri R) 0 [(0, .ref 58)] [] w := by
  refine jj_aload_n (pc := 0) dX7_grow_0 0 rfl ?_
  refine jj_aload_n (pc := 1) dX7_grow_1 0 rfl ?_
  refine jj_getI (pc := 2) (ci := 7) (k := 6) dX7_grow_2 rfl rfl (by decide) rfl lk_RX7_76 ?_
  refine jj_callVi (pc := 5) (N := mX7_bestOf) (as := [.int (w.1 58 6)]) (st := []) dX7_grow_5 rfl rfl rfl lk_RX7_157 hv_X7_bestOf rfl rfl h (fun v1 w2 h => ?_)
  refine jj_iconst (pc := 8) (v := (-1)) dX7_grow_8 (by decide) ?_
  refine jj_icmp_ne (pc := 9) (tgt := 15) dX7_grow_9 (by decide) (fun c3 => ?_) (fun c3 => ?_)
  · replace h := h.1 c3
    refine jj_iconst (pc := 15) (v := 0) dX7_grow_15 (by decide) ?_
    refine jj_istore_n (pc := 16) (l2 := [(1, .int 0), (0, .ref 58)]) dX7_grow_16 (by decide) rfl ?_
    refine jj_aload_n (pc := 17) dX7_grow_17 1 rfl ?_
    refine jj_callVi (pc := 18) (N := mX7_growing) (as := []) (st := []) dX7_grow_18 rfl rfl rfl lk_RX7_189 hv_X7_growing rfl rfl h (fun v4 w5 h => ?_)
    refine jj_istore_n (pc := 21) (l2 := [(2, .int v4), (1, .int 0), (0, .ref 58)]) dX7_grow_21 (by decide) rfl ?_
    exact jj_sub [2, 1, 0] rfl h
  · replace h := h.2 c3
    refine jj_bipush (pc := 12) (v := (-3)) dX7_grow_12 (by decide) ?_
    exact jj_iret (pc := 14) dX7_grow_14 rfl h
theorem en_X7_grow {K : jj_K} (R : Int32 → wo_T → Prop)   (w : wo_T)
    (h : jj_Ci K mX7_bestOf [.ref 58, .int (w.1 58 6)] w (fun v1 w2 => (¬ v1 = (-1) → jj_Ci K mX7_growing [.ref 58] w2 (fun v4 w5 => jj_J K mX7_grow (jj_Ri R) 22 [(0, .ref 58), (1, .int 0), (2, .int v4)] [] w5)) ∧ (v1 = (-1) → R (-3) w2))) : jj_Ci K mX7_grow [.ref 58] w R :=
  jj_Ci_intro pn_RX7 (Nat.le_of_ble_eq_true rfl) (vc_X7_grow_0 R  w h)
set_option maxRecDepth 100000 in
set_option maxHeartbeats 4000000 in
theorem vc_X7_grow_22 {K : jj_K} (R : Int32 → wo_T → Prop)  (a1 : Int32) (a2 : Int32) (w : wo_T)
    (h : (a2 = (-1) → R a1 w) ∧ (¬ a2 = (-1) → jj_Ci K mX7_growing [.ref 58] (wo_i w 58 6 ((w.1 58 6) ||| ((1 : Int32) <<< (a2 &&& 31)))) (fun v2 w3 => jj_J K mX7_grow (jj_Ri R) 22 [(0, .ref 58), (1, .int (a1 + 1)), (2, .int v2)] [] w3))) :
    jj_J K mX7_grow (jj_Ri R) 22 [(0, .ref 58), (1, .int a1), (2, .int a2)] [] w := by
  refine jj_iload_n (pc := 22) dX7_grow_22 2 rfl ?_
  refine jj_iconst (pc := 23) (v := (-1)) dX7_grow_23 (by decide) ?_
  refine jj_icmp_eq (pc := 24) (tgt := 50) dX7_grow_24 (by decide) (fun c1 => ?_) (fun c1 => ?_)
  · replace h := h.1 c1
    refine jj_iload_n (pc := 50) dX7_grow_50 1 rfl ?_
    exact jj_iret (pc := 51) dX7_grow_51 rfl h
  · replace h := h.2 c1
    refine jj_aload_n (pc := 27) dX7_grow_27 0 rfl ?_
    refine jj_dup (pc := 28) dX7_grow_28 rfl ?_
    refine jj_getI (pc := 29) (ci := 7) (k := 6) dX7_grow_29 rfl rfl (by decide) rfl lk_RX7_76 ?_
    refine jj_iconst (pc := 32) (v := 1) dX7_grow_32 (by decide) ?_
    refine jj_iload_n (pc := 33) dX7_grow_33 2 rfl ?_
    refine jj_ishl (pc := 34) dX7_grow_34 ?_
    refine jj_ior (pc := 35) dX7_grow_35 ?_
    refine jj_putI (pc := 36) (ci := 7) (k := 6) (ty := .int) dX7_grow_36 rfl rfl (by decide) rfl lk_RX7_76 rfl (by decide) rfl rfl ?_
    refine jj_iinc (pc := 39) (v := a1 + 1) (l2 := [(1, .int (a1 + 1)), (0, .ref 58), (2, .int a2)]) dX7_grow_39 1 rfl rfl (by decide) rfl ?_
    refine jj_aload_n (pc := 42) dX7_grow_42 1 rfl ?_
    refine jj_callVi (pc := 43) (N := mX7_growing) (as := []) (st := []) dX7_grow_43 rfl rfl rfl lk_RX7_189 hv_X7_growing rfl rfl h (fun v2 w3 h => ?_)
    refine jj_istore_n (pc := 46) (l2 := [(2, .int v2), (1, .int (a1 + 1)), (0, .ref 58)]) dX7_grow_46 (by decide) rfl ?_
    refine jj_goto (pc := 47) (tgt := 22) dX7_grow_47 (by decide) ?_
    exact jj_sub [2, 1, 0] rfl h
set_option maxRecDepth 100000 in
set_option maxHeartbeats 4000000 in
theorem vc_X7_prune_0 {K : jj_K} (R : Int32 → wo_T → Prop)   (w : wo_T)
    (h : jj_Ci K mX7_bestOf [.ref 58, .int (w.1 58 6)] w (fun v1 w2 => (¬ v1 = (-1) → jj_Ci K mX7_size [.int (w2.1 58 6)] w2 (fun v4 w5 => jj_Ci K mX7_size [.int v1] (wo_i w5 58 6 v1) (fun v6 w7 => R (v4 - v6) w7))) ∧ (v1 = (-1) → R (-3) w2))) :
    jj_J K mX7_prune (jj_Ri R) 0 [(0, .ref 58)] [] w := by
  refine jj_aload_n (pc := 0) dX7_prune_0 0 rfl ?_
  refine jj_aload_n (pc := 1) dX7_prune_1 0 rfl ?_
  refine jj_getI (pc := 2) (ci := 7) (k := 6) dX7_prune_2 rfl rfl (by decide) rfl lk_RX7_76 ?_
  refine jj_callVi (pc := 5) (N := mX7_bestOf) (as := [.int (w.1 58 6)]) (st := []) dX7_prune_5 rfl rfl rfl lk_RX7_157 hv_X7_bestOf rfl rfl h (fun v1 w2 h => ?_)
  refine jj_istore_n (pc := 8) (l2 := [(1, .int v1), (0, .ref 58)]) dX7_prune_8 (by decide) rfl ?_
  refine jj_iload_n (pc := 9) dX7_prune_9 0 rfl ?_
  refine jj_iconst (pc := 10) (v := (-1)) dX7_prune_10 (by decide) ?_
  refine jj_icmp_ne (pc := 11) (tgt := 17) dX7_prune_11 (by decide) (fun c3 => ?_) (fun c3 => ?_)
  · replace h := h.1 c3
    refine jj_aload_n (pc := 17) dX7_prune_17 1 rfl ?_
    refine jj_getI (pc := 18) (ci := 7) (k := 6) dX7_prune_18 rfl rfl (by decide) rfl lk_RX7_76 ?_
    refine jj_callSi (pc := 21) (N := mX7_size) (as := [.int (w2.1 58 6)]) (st := []) dX7_prune_21 lk_RX7_145 hv_X7_size rfl rfl h (fun v4 w5 h => ?_)
    refine jj_istore_n (pc := 24) (l2 := [(2, .int v4), (1, .int v1), (0, .ref 58)]) dX7_prune_24 (by decide) rfl ?_
    refine jj_aload_n (pc := 25) dX7_prune_25 2 rfl ?_
    refine jj_iload_n (pc := 26) dX7_prune_26 1 rfl ?_
    refine jj_putI (pc := 27) (ci := 7) (k := 6) (ty := .int) dX7_prune_27 rfl rfl (by decide) rfl lk_RX7_76 rfl (by decide) rfl rfl ?_
    refine jj_iload_n (pc := 30) dX7_prune_30 0 rfl ?_
    refine jj_iload_n (pc := 31) dX7_prune_31 1 rfl ?_
    refine jj_callSi (pc := 32) (N := mX7_size) (as := [.int v1]) (st := [.int v4]) dX7_prune_32 lk_RX7_145 hv_X7_size rfl rfl h (fun v6 w7 h => ?_)
    refine jj_isub (pc := 35) dX7_prune_35 ?_
    exact jj_iret (pc := 36) dX7_prune_36 rfl h
  · replace h := h.2 c3
    refine jj_bipush (pc := 14) (v := (-3)) dX7_prune_14 (by decide) ?_
    exact jj_iret (pc := 16) dX7_prune_16 rfl h
theorem en_X7_prune {K : jj_K} (R : Int32 → wo_T → Prop)   (w : wo_T)
    (h : jj_Ci K mX7_bestOf [.ref 58, .int (w.1 58 6)] w (fun v1 w2 => (¬ v1 = (-1) → jj_Ci K mX7_size [.int (w2.1 58 6)] w2 (fun v4 w5 => jj_Ci K mX7_size [.int v1] (wo_i w5 58 6 v1) (fun v6 w7 => R (v4 - v6) w7))) ∧ (v1 = (-1) → R (-3) w2))) : jj_Ci K mX7_prune [.ref 58] w R :=
  jj_Ci_intro pn_RX7 (Nat.le_of_ble_eq_true rfl) (vc_X7_prune_0 R  w h)
set_option maxRecDepth 100000 in
set_option maxHeartbeats 4000000 in
theorem vc_X7_wouldBe_0 {K : jj_K} (R : Int64 → wo_T → Prop)  (a1 : Int32) (a2 : Int32) (a3 : Int32) (w : wo_T)
    (h : vp_in a1 10 ∧ (∀ x1 : Int32, x1 = w.1 62 a1.toNatClampNeg → (vp_in a1 10 ∧ (jj_Cl K mX7_volumeOf [.ref 58, .int ((wo_i (wo_i w 62 a1.toNatClampNeg a2) 58 13 0).1 58 6), .int a3] (wo_i (wo_i w 62 a1.toNatClampNeg a2) 58 13 0) (fun v2 w3 => vp_in a1 10 ∧ (R v2 (wo_i (wo_i w3 62 a1.toNatClampNeg x1) 58 13 0))))))) :
    jj_J K mX7_wouldBe (jj_Rl R) 0 [(0, .ref 58), (1, .int a1), (2, .int a2), (3, .int a3)] [] w := by
  refine jj_aload_n (pc := 0) dX7_wouldBe_0 0 rfl ?_
  refine jj_getR (pc := 1) (ci := 7) (k := 3) dX7_wouldBe_1 rfl rfl (by decide) rfl lk_RX7_19 ?_
  refine jj_iload_n (pc := 4) dX7_wouldBe_4 1 rfl ?_
  refine jj_iald (pc := 5) dX7_wouldBe_5 rfl h.1 ?_
  replace h := h.2
  refine jj_nmi (fun x1 ex1 => ?_)
  replace h := h x1 ex1
  refine jj_istore (pc := 6) (l2 := [(4, .int x1), (0, .ref 58), (1, .int a1), (2, .int a2), (3, .int a3)]) dX7_wouldBe_6 (by decide) rfl ?_
  refine jj_aload_n (pc := 8) dX7_wouldBe_8 1 rfl ?_
  refine jj_getR (pc := 9) (ci := 7) (k := 3) dX7_wouldBe_9 rfl rfl (by decide) rfl lk_RX7_19 ?_
  refine jj_iload_n (pc := 12) dX7_wouldBe_12 2 rfl ?_
  refine jj_iload_n (pc := 13) dX7_wouldBe_13 3 rfl ?_
  refine jj_iast (pc := 14) dX7_wouldBe_14 rfl h.1 ?_
  replace h := h.2
  refine jj_aload_n (pc := 15) dX7_wouldBe_15 1 rfl ?_
  refine jj_iconst (pc := 16) (v := 0) dX7_wouldBe_16 (by decide) ?_
  refine jj_putI (pc := 17) (ci := 7) (k := 13) (ty := .boolean) dX7_wouldBe_17 rfl rfl (by decide) rfl lk_RX7_90 rfl (by decide) rfl rfl ?_
  refine jj_aload_n (pc := 20) dX7_wouldBe_20 1 rfl ?_
  refine jj_aload_n (pc := 21) dX7_wouldBe_21 1 rfl ?_
  refine jj_getI (pc := 22) (ci := 7) (k := 6) dX7_wouldBe_22 rfl rfl (by decide) rfl lk_RX7_76 ?_
  refine jj_iload_n (pc := 25) dX7_wouldBe_25 4 rfl ?_
  refine jj_callVl (pc := 26) (N := mX7_volumeOf) (as := [.int ((wo_i (wo_i w 62 a1.toNatClampNeg a2) 58 13 0).1 58 6), .int a3]) (st := []) dX7_wouldBe_26 rfl rfl rfl lk_RX7_164 hv_X7_volumeOf rfl rfl h (fun v2 w3 h => ?_)
  refine jj_lstore (pc := 29) (l2 := [(5, .long v2), (4, .int x1), (0, .ref 58), (1, .int a1), (2, .int a2), (3, .int a3)]) dX7_wouldBe_29 (by decide) rfl ?_
  refine jj_aload_n (pc := 31) dX7_wouldBe_31 2 rfl ?_
  refine jj_getR (pc := 32) (ci := 7) (k := 3) dX7_wouldBe_32 rfl rfl (by decide) rfl lk_RX7_19 ?_
  refine jj_iload_n (pc := 35) dX7_wouldBe_35 3 rfl ?_
  refine jj_iload (pc := 36) dX7_wouldBe_36 1 rfl ?_
  refine jj_iast (pc := 38) dX7_wouldBe_38 rfl h.1 ?_
  replace h := h.2
  refine jj_aload_n (pc := 39) dX7_wouldBe_39 2 rfl ?_
  refine jj_iconst (pc := 40) (v := 0) dX7_wouldBe_40 (by decide) ?_
  refine jj_putI (pc := 41) (ci := 7) (k := 13) (ty := .boolean) dX7_wouldBe_41 rfl rfl (by decide) rfl lk_RX7_90 rfl (by decide) rfl rfl ?_
  refine jj_lload (pc := 44) dX7_wouldBe_44 0 rfl ?_
  exact jj_lret (pc := 46) dX7_wouldBe_46 rfl h
theorem en_X7_wouldBe {K : jj_K} (R : Int64 → wo_T → Prop)  (a1 : Int32) (a2 : Int32) (a3 : Int32) (w : wo_T)
    (h : vp_in a1 10 ∧ (∀ x1 : Int32, x1 = w.1 62 a1.toNatClampNeg → (vp_in a1 10 ∧ (jj_Cl K mX7_volumeOf [.ref 58, .int ((wo_i (wo_i w 62 a1.toNatClampNeg a2) 58 13 0).1 58 6), .int a3] (wo_i (wo_i w 62 a1.toNatClampNeg a2) 58 13 0) (fun v2 w3 => vp_in a1 10 ∧ (R v2 (wo_i (wo_i w3 62 a1.toNatClampNeg x1) 58 13 0))))))) : jj_Cl K mX7_wouldBe [.ref 58, .int a1, .int a2, .int a3] w R :=
  jj_Cl_intro pn_RX7 (Nat.le_of_ble_eq_true rfl) (vc_X7_wouldBe_0 R a1 a2 a3 w h)
set_option maxRecDepth 100000 in
set_option maxHeartbeats 4000000 in
theorem vc_X7_would_0 {K : jj_K} (R : Int64 → wo_T → Prop)  (a1 : Int32) (a2 : Int32) (a3 : Int32) (a4 : Int32) (w : wo_T)
    (h : jj_Ci K mX7_isPoint [.ref 58, .int a1] w (fun v1 w2 => (v1 = 0 → jj_Cl K mX7_no [.int (-2)] w2 (fun v4 w5 => R v4 w5)) ∧ (¬ v1 = 0 → jj_Ci K mX7_in [.int a2, .int 0, .int 1] w2 (fun v6 w7 => (v6 = 0 → jj_Cl K mX7_no [.int (-2)] w7 (fun v9 w10 => R v9 w10)) ∧ (¬ v6 = 0 → jj_Ci K mX7_in [.int a3, .int (-9), .int 9] w7 (fun v11 w12 => (v11 = 0 → jj_Cl K mX7_no [.int (-2)] w12 (fun v14 w15 => R v14 w15)) ∧ (¬ v11 = 0 → jj_Ci K mX7_in [.int a4, .int 0, .int 1] w12 (fun v16 w17 => (v16 = 0 → jj_Cl K mX7_no [.int (-2)] w17 (fun v19 w20 => R v19 w20)) ∧ (¬ v16 = 0 → jj_Cl K mX7_wouldBe [.ref 58, .int ((2 * a1) + a2), .int a3, .int a4] w17 (fun v21 w22 => R v21 w22)))))))))) :
    jj_J K mX7_would (jj_Rl R) 0 [(0, .ref 58), (1, .int a1), (2, .int a2), (3, .int a3), (4, .int a4)] [] w := by
  refine jj_aload_n (pc := 0) dX7_would_0 0 rfl ?_
  refine jj_iload_n (pc := 1) dX7_would_1 1 rfl ?_
  refine jj_callVi (pc := 2) (N := mX7_isPoint) (as := [.int a1]) (st := []) dX7_would_2 rfl rfl rfl lk_RX7_94 hv_X7_isPoint rfl rfl h (fun v1 w2 h => ?_)
  refine jj_if_eq (pc := 5) (tgt := 53) dX7_would_5 (by decide) (fun c3 => ?_) (fun c3 => ?_)
  · replace h := h.1 c3
    refine jj_bipush (pc := 53) (v := (-2)) dX7_would_53 (by decide) ?_
    refine jj_callSl (pc := 55) (N := mX7_no) (as := [.int (-2)]) (st := []) dX7_would_55 lk_RX7_160 hv_X7_no rfl rfl h (fun v4 w5 h => ?_)
    exact jj_lret (pc := 58) dX7_would_58 rfl h
  · replace h := h.2 c3
    refine jj_iload_n (pc := 8) dX7_would_8 2 rfl ?_
    refine jj_iconst (pc := 9) (v := 0) dX7_would_9 (by decide) ?_
    refine jj_iconst (pc := 10) (v := 1) dX7_would_10 (by decide) ?_
    refine jj_callSi (pc := 11) (N := mX7_in) (as := [.int a2, .int 0, .int 1]) (st := []) dX7_would_11 lk_RX7_64 hv_X7_in rfl rfl h (fun v6 w7 h => ?_)
    refine jj_if_eq (pc := 14) (tgt := 53) dX7_would_14 (by decide) (fun c8 => ?_) (fun c8 => ?_)
    · replace h := h.1 c8
      refine jj_bipush (pc := 53) (v := (-2)) dX7_would_53 (by decide) ?_
      refine jj_callSl (pc := 55) (N := mX7_no) (as := [.int (-2)]) (st := []) dX7_would_55 lk_RX7_160 hv_X7_no rfl rfl h (fun v9 w10 h => ?_)
      exact jj_lret (pc := 58) dX7_would_58 rfl h
    · replace h := h.2 c8
      refine jj_iload_n (pc := 17) dX7_would_17 3 rfl ?_
      refine jj_bipush (pc := 18) (v := (-9)) dX7_would_18 (by decide) ?_
      refine jj_bipush (pc := 20) (v := 9) dX7_would_20 (by decide) ?_
      refine jj_callSi (pc := 22) (N := mX7_in) (as := [.int a3, .int (-9), .int 9]) (st := []) dX7_would_22 lk_RX7_64 hv_X7_in rfl rfl h (fun v11 w12 h => ?_)
      refine jj_if_eq (pc := 25) (tgt := 53) dX7_would_25 (by decide) (fun c13 => ?_) (fun c13 => ?_)
      · replace h := h.1 c13
        refine jj_bipush (pc := 53) (v := (-2)) dX7_would_53 (by decide) ?_
        refine jj_callSl (pc := 55) (N := mX7_no) (as := [.int (-2)]) (st := []) dX7_would_55 lk_RX7_160 hv_X7_no rfl rfl h (fun v14 w15 h => ?_)
        exact jj_lret (pc := 58) dX7_would_58 rfl h
      · replace h := h.2 c13
        refine jj_iload (pc := 28) dX7_would_28 4 rfl ?_
        refine jj_iconst (pc := 30) (v := 0) dX7_would_30 (by decide) ?_
        refine jj_iconst (pc := 31) (v := 1) dX7_would_31 (by decide) ?_
        refine jj_callSi (pc := 32) (N := mX7_in) (as := [.int a4, .int 0, .int 1]) (st := []) dX7_would_32 lk_RX7_64 hv_X7_in rfl rfl h (fun v16 w17 h => ?_)
        refine jj_if_eq (pc := 35) (tgt := 53) dX7_would_35 (by decide) (fun c18 => ?_) (fun c18 => ?_)
        · replace h := h.1 c18
          refine jj_bipush (pc := 53) (v := (-2)) dX7_would_53 (by decide) ?_
          refine jj_callSl (pc := 55) (N := mX7_no) (as := [.int (-2)]) (st := []) dX7_would_55 lk_RX7_160 hv_X7_no rfl rfl h (fun v19 w20 h => ?_)
          exact jj_lret (pc := 58) dX7_would_58 rfl h
        · replace h := h.2 c18
          refine jj_aload_n (pc := 38) dX7_would_38 0 rfl ?_
          refine jj_iconst (pc := 39) (v := 2) dX7_would_39 (by decide) ?_
          refine jj_iload_n (pc := 40) dX7_would_40 1 rfl ?_
          refine jj_imul (pc := 41) dX7_would_41 ?_
          refine jj_iload_n (pc := 42) dX7_would_42 2 rfl ?_
          refine jj_iadd (pc := 43) dX7_would_43 ?_
          refine jj_iload_n (pc := 44) dX7_would_44 3 rfl ?_
          refine jj_iload (pc := 45) dX7_would_45 4 rfl ?_
          refine jj_callVl (pc := 47) (N := mX7_wouldBe) (as := [.int ((2 * a1) + a2), .int a3, .int a4]) (st := []) dX7_would_47 rfl rfl rfl lk_RX7_192 hv_X7_wouldBe rfl rfl h (fun v21 w22 h => ?_)
          refine jj_goto (pc := 50) (tgt := 58) dX7_would_50 (by decide) ?_
          exact jj_lret (pc := 58) dX7_would_58 rfl h
theorem en_X7_would {K : jj_K} (R : Int64 → wo_T → Prop)  (a1 : Int32) (a2 : Int32) (a3 : Int32) (a4 : Int32) (w : wo_T)
    (h : jj_Ci K mX7_isPoint [.ref 58, .int a1] w (fun v1 w2 => (v1 = 0 → jj_Cl K mX7_no [.int (-2)] w2 (fun v4 w5 => R v4 w5)) ∧ (¬ v1 = 0 → jj_Ci K mX7_in [.int a2, .int 0, .int 1] w2 (fun v6 w7 => (v6 = 0 → jj_Cl K mX7_no [.int (-2)] w7 (fun v9 w10 => R v9 w10)) ∧ (¬ v6 = 0 → jj_Ci K mX7_in [.int a3, .int (-9), .int 9] w7 (fun v11 w12 => (v11 = 0 → jj_Cl K mX7_no [.int (-2)] w12 (fun v14 w15 => R v14 w15)) ∧ (¬ v11 = 0 → jj_Ci K mX7_in [.int a4, .int 0, .int 1] w12 (fun v16 w17 => (v16 = 0 → jj_Cl K mX7_no [.int (-2)] w17 (fun v19 w20 => R v19 w20)) ∧ (¬ v16 = 0 → jj_Cl K mX7_wouldBe [.ref 58, .int ((2 * a1) + a2), .int a3, .int a4] w17 (fun v21 w22 => R v21 w22)))))))))) : jj_Cl K mX7_would [.ref 58, .int a1, .int a2, .int a3, .int a4] w R :=
  jj_Cl_intro pn_RX7 (Nat.le_of_ble_eq_true rfl) (vc_X7_would_0 R a1 a2 a3 a4 w h)
set_option maxRecDepth 100000 in
set_option maxHeartbeats 4000000 in
theorem vc_X7_shift_0 {K : jj_K} (R : Int32 → wo_T → Prop)  (a1 : Int32) (a2 : Int32) (a3 : Int32) (w : wo_T)
    (h : jj_Ci K mX7_isPoint [.ref 58, .int a1] w (fun v1 w2 => (v1 = 0 → R (-2147483648) w2) ∧ (¬ v1 = 0 → jj_Ci K mX7_in [.int a2, .int 0, .int 1] w2 (fun v4 w5 => (v4 = 0 → R (-2147483648) w5) ∧ (¬ v4 = 0 → jj_Ci K mX7_in [.int a3, .int (-999), .int 999] w5 (fun v7 w8 => (¬ v7 = 0 → vp_in ((2 * a1) + a2) 10 ∧ (∀ x10 : Int32, x10 = w8.1 63 ((2 * a1) + a2).toNatClampNeg → (vp_in ((2 * a1) + a2) 10 ∧ (R x10 (wo_i w8 63 ((2 * a1) + a2).toNatClampNeg a3))))) ∧ (v7 = 0 → R (-2147483648) w8))))))) :
    jj_J K mX7_shift (jj_Ri R) 0 [(0, .ref 58), (1, .int a1), (2, .int a2), (3, .int a3)] [] w := by
  refine jj_aload_n (pc := 0) dX7_shift_0 0 rfl ?_
  refine jj_iload_n (pc := 1) dX7_shift_1 1 rfl ?_
  refine jj_callVi (pc := 2) (N := mX7_isPoint) (as := [.int a1]) (st := []) dX7_shift_2 rfl rfl rfl lk_RX7_94 hv_X7_isPoint rfl rfl h (fun v1 w2 h => ?_)
  refine jj_if_eq (pc := 5) (tgt := 30) dX7_shift_5 (by decide) (fun c3 => ?_) (fun c3 => ?_)
  · replace h := h.1 c3
    refine jj_ldc (pc := 30) (v := (-2147483648)) dX7_shift_30 lk_RX7_97 ?_
    exact jj_iret (pc := 32) dX7_shift_32 rfl h
  · replace h := h.2 c3
    refine jj_iload_n (pc := 8) dX7_shift_8 2 rfl ?_
    refine jj_iconst (pc := 9) (v := 0) dX7_shift_9 (by decide) ?_
    refine jj_iconst (pc := 10) (v := 1) dX7_shift_10 (by decide) ?_
    refine jj_callSi (pc := 11) (N := mX7_in) (as := [.int a2, .int 0, .int 1]) (st := []) dX7_shift_11 lk_RX7_64 hv_X7_in rfl rfl h (fun v4 w5 h => ?_)
    refine jj_if_eq (pc := 14) (tgt := 30) dX7_shift_14 (by decide) (fun c6 => ?_) (fun c6 => ?_)
    · replace h := h.1 c6
      refine jj_ldc (pc := 30) (v := (-2147483648)) dX7_shift_30 lk_RX7_97 ?_
      exact jj_iret (pc := 32) dX7_shift_32 rfl h
    · replace h := h.2 c6
      refine jj_iload_n (pc := 17) dX7_shift_17 3 rfl ?_
      refine jj_sipush (pc := 18) (v := (-999)) dX7_shift_18 (by decide) ?_
      refine jj_sipush (pc := 21) (v := 999) dX7_shift_21 (by decide) ?_
      refine jj_callSi (pc := 24) (N := mX7_in) (as := [.int a3, .int (-999), .int 999]) (st := []) dX7_shift_24 lk_RX7_64 hv_X7_in rfl rfl h (fun v7 w8 h => ?_)
      refine jj_if_ne (pc := 27) (tgt := 33) dX7_shift_27 (by decide) (fun c9 => ?_) (fun c9 => ?_)
      · replace h := h.1 c9
        refine jj_aload_n (pc := 33) dX7_shift_33 0 rfl ?_
        refine jj_getR (pc := 34) (ci := 7) (k := 4) dX7_shift_34 rfl rfl (by decide) rfl lk_RX7_22 ?_
        refine jj_iconst (pc := 37) (v := 2) dX7_shift_37 (by decide) ?_
        refine jj_iload_n (pc := 38) dX7_shift_38 1 rfl ?_
        refine jj_imul (pc := 39) dX7_shift_39 ?_
        refine jj_iload_n (pc := 40) dX7_shift_40 2 rfl ?_
        refine jj_iadd (pc := 41) dX7_shift_41 ?_
        refine jj_iald (pc := 42) dX7_shift_42 rfl h.1 ?_
        replace h := h.2
        refine jj_nmi (fun x10 ex10 => ?_)
        replace h := h x10 ex10
        refine jj_istore (pc := 43) (l2 := [(4, .int x10), (0, .ref 58), (1, .int a1), (2, .int a2), (3, .int a3)]) dX7_shift_43 (by decide) rfl ?_
        refine jj_aload_n (pc := 45) dX7_shift_45 1 rfl ?_
        refine jj_getR (pc := 46) (ci := 7) (k := 4) dX7_shift_46 rfl rfl (by decide) rfl lk_RX7_22 ?_
        refine jj_iconst (pc := 49) (v := 2) dX7_shift_49 (by decide) ?_
        refine jj_iload_n (pc := 50) dX7_shift_50 2 rfl ?_
        refine jj_imul (pc := 51) dX7_shift_51 ?_
        refine jj_iload_n (pc := 52) dX7_shift_52 3 rfl ?_
        refine jj_iadd (pc := 53) dX7_shift_53 ?_
        refine jj_iload_n (pc := 54) dX7_shift_54 4 rfl ?_
        refine jj_iast (pc := 55) dX7_shift_55 rfl h.1 ?_
        replace h := h.2
        refine jj_iload (pc := 56) dX7_shift_56 0 rfl ?_
        exact jj_iret (pc := 58) dX7_shift_58 rfl h
      · replace h := h.2 c9
        refine jj_ldc (pc := 30) (v := (-2147483648)) dX7_shift_30 lk_RX7_97 ?_
        exact jj_iret (pc := 32) dX7_shift_32 rfl h
theorem en_X7_shift {K : jj_K} (R : Int32 → wo_T → Prop)  (a1 : Int32) (a2 : Int32) (a3 : Int32) (w : wo_T)
    (h : jj_Ci K mX7_isPoint [.ref 58, .int a1] w (fun v1 w2 => (v1 = 0 → R (-2147483648) w2) ∧ (¬ v1 = 0 → jj_Ci K mX7_in [.int a2, .int 0, .int 1] w2 (fun v4 w5 => (v4 = 0 → R (-2147483648) w5) ∧ (¬ v4 = 0 → jj_Ci K mX7_in [.int a3, .int (-999), .int 999] w5 (fun v7 w8 => (¬ v7 = 0 → vp_in ((2 * a1) + a2) 10 ∧ (∀ x10 : Int32, x10 = w8.1 63 ((2 * a1) + a2).toNatClampNeg → (vp_in ((2 * a1) + a2) 10 ∧ (R x10 (wo_i w8 63 ((2 * a1) + a2).toNatClampNeg a3))))) ∧ (v7 = 0 → R (-2147483648) w8))))))) : jj_Ci K mX7_shift [.ref 58, .int a1, .int a2, .int a3] w R :=
  jj_Ci_intro pn_RX7 (Nat.le_of_ble_eq_true rfl) (vc_X7_shift_0 R a1 a2 a3 w h)
set_option maxRecDepth 100000 in
set_option maxHeartbeats 4000000 in
theorem vc_X7_shiftAt_0 {K : jj_K} (R : Int32 → wo_T → Prop)  (a1 : Int32) (w : wo_T)
    (h : jj_Ci K mX7_isWay [.ref 58, .int a1] w (fun v1 w2 => (v1 = 0 → R 0 w2) ∧ (¬ v1 = 0 → vp_in a1 10 ∧ (R (w2.1 63 a1.toNatClampNeg) w2)))) :
    jj_J K mX7_shiftAt (jj_Ri R) 0 [(0, .ref 58), (1, .int a1)] [] w := by
  refine jj_aload_n (pc := 0) dX7_shiftAt_0 0 rfl ?_
  refine jj_iload_n (pc := 1) dX7_shiftAt_1 1 rfl ?_
  refine jj_callVi (pc := 2) (N := mX7_isWay) (as := [.int a1]) (st := []) dX7_shiftAt_2 rfl rfl rfl lk_RX7_131 hv_X7_isWay rfl rfl h (fun v1 w2 h => ?_)
  refine jj_if_eq (pc := 5) (tgt := 17) dX7_shiftAt_5 (by decide) (fun c3 => ?_) (fun c3 => ?_)
  · replace h := h.1 c3
    refine jj_iconst (pc := 17) (v := 0) dX7_shiftAt_17 (by decide) ?_
    exact jj_iret (pc := 18) dX7_shiftAt_18 rfl h
  · replace h := h.2 c3
    refine jj_aload_n (pc := 8) dX7_shiftAt_8 0 rfl ?_
    refine jj_getR (pc := 9) (ci := 7) (k := 4) dX7_shiftAt_9 rfl rfl (by decide) rfl lk_RX7_22 ?_
    refine jj_iload_n (pc := 12) dX7_shiftAt_12 1 rfl ?_
    refine jj_iald (pc := 13) dX7_shiftAt_13 rfl h.1 ?_
    replace h := h.2
    refine jj_goto (pc := 14) (tgt := 18) dX7_shiftAt_14 (by decide) ?_
    exact jj_iret (pc := 18) dX7_shiftAt_18 rfl h
theorem en_X7_shiftAt {K : jj_K} (R : Int32 → wo_T → Prop)  (a1 : Int32) (w : wo_T)
    (h : jj_Ci K mX7_isWay [.ref 58, .int a1] w (fun v1 w2 => (v1 = 0 → R 0 w2) ∧ (¬ v1 = 0 → vp_in a1 10 ∧ (R (w2.1 63 a1.toNatClampNeg) w2)))) : jj_Ci K mX7_shiftAt [.ref 58, .int a1] w R :=
  jj_Ci_intro pn_RX7 (Nat.le_of_ble_eq_true rfl) (vc_X7_shiftAt_0 R a1 w h)
set_option maxRecDepth 100000 in
set_option maxHeartbeats 4000000 in
theorem vc_X7_stretchOf_0 {K : jj_K} (R : Int32 → wo_T → Prop)  (a1 : Int32) (w : wo_T)
    (h : jj_J K mX7_stretchOf (jj_Ri R) 4 [(0, .ref 58), (1, .int a1), (2, .int 0), (3, .int 0)] [] w) :
    jj_J K mX7_stretchOf (jj_Ri R) 0 [(0, .ref 58), (1, .int a1)] [] w := by
  refine jj_iconst (pc := 0) (v := 0) dX7_stretchOf_0 (by decide) ?_
  refine jj_istore_n (pc := 1) (l2 := [(2, .int 0), (0, .ref 58), (1, .int a1)]) dX7_stretchOf_1 (by decide) rfl ?_
  refine jj_iconst (pc := 2) (v := 0) dX7_stretchOf_2 (by decide) ?_
  refine jj_istore_n (pc := 3) (l2 := [(3, .int 0), (2, .int 0), (0, .ref 58), (1, .int a1)]) dX7_stretchOf_3 (by decide) rfl ?_
  exact jj_sub [2, 3, 1, 0] rfl h
theorem en_X7_stretchOf {K : jj_K} (R : Int32 → wo_T → Prop)  (a1 : Int32) (w : wo_T)
    (h : jj_J K mX7_stretchOf (jj_Ri R) 4 [(0, .ref 58), (1, .int a1), (2, .int 0), (3, .int 0)] [] w) : jj_Ci K mX7_stretchOf [.ref 58, .int a1] w R :=
  jj_Ci_intro pn_RX7 (Nat.le_of_ble_eq_true rfl) (vc_X7_stretchOf_0 R a1 w h)
set_option maxRecDepth 100000 in
set_option maxHeartbeats 4000000 in
theorem vc_X7_stretchOf_4 {K : jj_K} (R : Int32 → wo_T → Prop)  (a1 : Int32) (a2 : Int32) (a3 : Int32) (w : wo_T)
    (h : (2 ≤ a3 → R a2 w) ∧ (¬ 2 ≤ a3 → jj_Ci K mX7_greater [.int a1] w (fun v2 w3 => jj_Ci K mX7_shiftAt [.ref 58, .int ((2 * v2) + a3)] w3 (fun v4 w5 => jj_Ci K mX7_lesser [.int a1] w5 (fun v6 w7 => jj_Ci K mX7_shiftAt [.ref 58, .int ((2 * v6) + a3)] w7 (fun v8 w9 => jj_Ci K mX7_far [.ref 58, .int a1, .int a3] w9 (fun v10 w11 => ∀ x12 : Int32, x12 = a2 + ((v4 - v8) * v10) → (jj_J K mX7_stretchOf (jj_Ri R) 4 [(0, .ref 58), (1, .int a1), (2, .int x12), (3, .int (a3 + 1))] [] w11)))))))) :
    jj_J K mX7_stretchOf (jj_Ri R) 4 [(0, .ref 58), (1, .int a1), (2, .int a2), (3, .int a3)] [] w := by
  refine jj_iload_n (pc := 4) dX7_stretchOf_4 3 rfl ?_
  refine jj_iconst (pc := 5) (v := 2) dX7_stretchOf_5 (by decide) ?_
  refine jj_icmp_ge (pc := 6) (tgt := 50) dX7_stretchOf_6 (by decide) (fun c1 => ?_) (fun c1 => ?_)
  · replace h := h.1 c1
    refine jj_iload_n (pc := 50) dX7_stretchOf_50 2 rfl ?_
    exact jj_iret (pc := 51) dX7_stretchOf_51 rfl h
  · replace h := h.2 c1
    refine jj_iload_n (pc := 9) dX7_stretchOf_9 2 rfl ?_
    refine jj_aload_n (pc := 10) dX7_stretchOf_10 0 rfl ?_
    refine jj_iconst (pc := 11) (v := 2) dX7_stretchOf_11 (by decide) ?_
    refine jj_iload_n (pc := 12) dX7_stretchOf_12 1 rfl ?_
    refine jj_callSi (pc := 13) (N := mX7_greater) (as := [.int a1]) (st := [.int 2, .ref 58, .int a2]) dX7_stretchOf_13 lk_RX7_79 hv_X7_greater rfl rfl h (fun v2 w3 h => ?_)
    refine jj_imul (pc := 16) dX7_stretchOf_16 ?_
    refine jj_iload_n (pc := 17) dX7_stretchOf_17 3 rfl ?_
    refine jj_iadd (pc := 18) dX7_stretchOf_18 ?_
    refine jj_callVi (pc := 19) (N := mX7_shiftAt) (as := [.int ((2 * v2) + a3)]) (st := [.int a2]) dX7_stretchOf_19 rfl rfl rfl lk_RX7_196 hv_X7_shiftAt rfl rfl h (fun v4 w5 h => ?_)
    refine jj_aload_n (pc := 22) dX7_stretchOf_22 0 rfl ?_
    refine jj_iconst (pc := 23) (v := 2) dX7_stretchOf_23 (by decide) ?_
    refine jj_iload_n (pc := 24) dX7_stretchOf_24 1 rfl ?_
    refine jj_callSi (pc := 25) (N := mX7_lesser) (as := [.int a1]) (st := [.int 2, .ref 58, .int v4, .int a2]) dX7_stretchOf_25 lk_RX7_83 hv_X7_lesser rfl rfl h (fun v6 w7 h => ?_)
    refine jj_imul (pc := 28) dX7_stretchOf_28 ?_
    refine jj_iload_n (pc := 29) dX7_stretchOf_29 3 rfl ?_
    refine jj_iadd (pc := 30) dX7_stretchOf_30 ?_
    refine jj_callVi (pc := 31) (N := mX7_shiftAt) (as := [.int ((2 * v6) + a3)]) (st := [.int v4, .int a2]) dX7_stretchOf_31 rfl rfl rfl lk_RX7_196 hv_X7_shiftAt rfl rfl h (fun v8 w9 h => ?_)
    refine jj_isub (pc := 34) dX7_stretchOf_34 ?_
    refine jj_aload_n (pc := 35) dX7_stretchOf_35 0 rfl ?_
    refine jj_iload_n (pc := 36) dX7_stretchOf_36 1 rfl ?_
    refine jj_iload_n (pc := 37) dX7_stretchOf_37 3 rfl ?_
    refine jj_callVi (pc := 38) (N := mX7_far) (as := [.int a1, .int a3]) (st := [.int (v4 - v8), .int a2]) dX7_stretchOf_38 rfl rfl rfl lk_RX7_86 hv_X7_far rfl rfl h (fun v10 w11 h => ?_)
    refine jj_imul (pc := 41) dX7_stretchOf_41 ?_
    refine jj_iadd (pc := 42) dX7_stretchOf_42 ?_
    refine jj_nmi (fun x12 ex12 => ?_)
    replace h := h x12 ex12
    refine jj_istore_n (pc := 43) (l2 := [(2, .int x12), (0, .ref 58), (1, .int a1), (3, .int a3)]) dX7_stretchOf_43 (by decide) rfl ?_
    refine jj_iinc (pc := 44) (v := a3 + 1) (l2 := [(3, .int (a3 + 1)), (2, .int x12), (0, .ref 58), (1, .int a1)]) dX7_stretchOf_44 3 rfl rfl (by decide) rfl ?_
    refine jj_goto (pc := 47) (tgt := 4) dX7_stretchOf_47 (by decide) ?_
    exact jj_sub [2, 3, 1, 0] rfl h
set_option maxRecDepth 100000 in
set_option maxHeartbeats 4000000 in
theorem vc_X7_stretch_0 {K : jj_K} (R : Int64 → wo_T → Prop)  (a1 : Int32) (a2 : Int32) (w : wo_T)
    (h : jj_Ci K mX7_isPair [.ref 58, .int a1] w (fun v1 w2 => (v1 = 0 → jj_Cl K mX7_no [.int (-2)] w2 (fun v4 w5 => R v4 w5)) ∧ (¬ v1 = 0 → jj_Ci K mX7_in [.int a2, .int 0, .int 1] w2 (fun v6 w7 => (v6 = 0 → jj_Cl K mX7_no [.int (-2)] w7 (fun v9 w10 => R v9 w10)) ∧ (¬ v6 = 0 → jj_Ci K mX7_stretchOf [.ref 58, .int a1] w7 (fun v11 w12 => jj_Cl K mX7_partOf [.long v11.toInt64, .long 12, .int a2] w12 (fun v13 w14 => R v13 w14))))))) :
    jj_J K mX7_stretch (jj_Rl R) 0 [(0, .ref 58), (1, .int a1), (2, .int a2)] [] w := by
  refine jj_aload_n (pc := 0) dX7_stretch_0 0 rfl ?_
  refine jj_iload_n (pc := 1) dX7_stretch_1 1 rfl ?_
  refine jj_callVi (pc := 2) (N := mX7_isPair) (as := [.int a1]) (st := []) dX7_stretch_2 rfl rfl rfl lk_RX7_72 hv_X7_isPair rfl rfl h (fun v1 w2 h => ?_)
  refine jj_if_eq (pc := 5) (tgt := 33) dX7_stretch_5 (by decide) (fun c3 => ?_) (fun c3 => ?_)
  · replace h := h.1 c3
    refine jj_bipush (pc := 33) (v := (-2)) dX7_stretch_33 (by decide) ?_
    refine jj_callSl (pc := 35) (N := mX7_no) (as := [.int (-2)]) (st := []) dX7_stretch_35 lk_RX7_160 hv_X7_no rfl rfl h (fun v4 w5 h => ?_)
    exact jj_lret (pc := 38) dX7_stretch_38 rfl h
  · replace h := h.2 c3
    refine jj_iload_n (pc := 8) dX7_stretch_8 2 rfl ?_
    refine jj_iconst (pc := 9) (v := 0) dX7_stretch_9 (by decide) ?_
    refine jj_iconst (pc := 10) (v := 1) dX7_stretch_10 (by decide) ?_
    refine jj_callSi (pc := 11) (N := mX7_in) (as := [.int a2, .int 0, .int 1]) (st := []) dX7_stretch_11 lk_RX7_64 hv_X7_in rfl rfl h (fun v6 w7 h => ?_)
    refine jj_if_eq (pc := 14) (tgt := 33) dX7_stretch_14 (by decide) (fun c8 => ?_) (fun c8 => ?_)
    · replace h := h.1 c8
      refine jj_bipush (pc := 33) (v := (-2)) dX7_stretch_33 (by decide) ?_
      refine jj_callSl (pc := 35) (N := mX7_no) (as := [.int (-2)]) (st := []) dX7_stretch_35 lk_RX7_160 hv_X7_no rfl rfl h (fun v9 w10 h => ?_)
      exact jj_lret (pc := 38) dX7_stretch_38 rfl h
    · replace h := h.2 c8
      refine jj_aload_n (pc := 17) dX7_stretch_17 0 rfl ?_
      refine jj_iload_n (pc := 18) dX7_stretch_18 1 rfl ?_
      refine jj_callVi (pc := 19) (N := mX7_stretchOf) (as := [.int a1]) (st := []) dX7_stretch_19 rfl rfl rfl lk_RX7_199 hv_X7_stretchOf rfl rfl h (fun v11 w12 h => ?_)
      refine jj_i2l (pc := 22) dX7_stretch_22 ?_
      refine jj_ldc2 (pc := 23) (v := 12) dX7_stretch_23 lk_RX7_202 ?_
      refine jj_iload_n (pc := 26) dX7_stretch_26 2 rfl ?_
      refine jj_callSl (pc := 27) (N := mX7_partOf) (as := [.long v11.toInt64, .long 12, .int a2]) (st := []) dX7_stretch_27 lk_RX7_138 hv_X7_partOf rfl rfl h (fun v13 w14 h => ?_)
      refine jj_goto (pc := 30) (tgt := 38) dX7_stretch_30 (by decide) ?_
      exact jj_lret (pc := 38) dX7_stretch_38 rfl h
theorem en_X7_stretch {K : jj_K} (R : Int64 → wo_T → Prop)  (a1 : Int32) (a2 : Int32) (w : wo_T)
    (h : jj_Ci K mX7_isPair [.ref 58, .int a1] w (fun v1 w2 => (v1 = 0 → jj_Cl K mX7_no [.int (-2)] w2 (fun v4 w5 => R v4 w5)) ∧ (¬ v1 = 0 → jj_Ci K mX7_in [.int a2, .int 0, .int 1] w2 (fun v6 w7 => (v6 = 0 → jj_Cl K mX7_no [.int (-2)] w7 (fun v9 w10 => R v9 w10)) ∧ (¬ v6 = 0 → jj_Ci K mX7_stretchOf [.ref 58, .int a1] w7 (fun v11 w12 => jj_Cl K mX7_partOf [.long v11.toInt64, .long 12, .int a2] w12 (fun v13 w14 => R v13 w14))))))) : jj_Cl K mX7_stretch [.ref 58, .int a1, .int a2] w R :=
  jj_Cl_intro pn_RX7 (Nat.le_of_ble_eq_true rfl) (vc_X7_stretch_0 R a1 a2 w h)
set_option maxRecDepth 100000 in
set_option maxHeartbeats 4000000 in
theorem vc_X7_workNow_0 {K : jj_K} (R : Int32 → wo_T → Prop)   (w : wo_T)
    (h : jj_J K mX7_workNow (jj_Ri R) 4 [(0, .ref 58), (1, .int 0), (2, .int 0)] [] w) :
    jj_J K mX7_workNow (jj_Ri R) 0 [(0, .ref 58)] [] w := by
  refine jj_iconst (pc := 0) (v := 0) dX7_workNow_0 (by decide) ?_
  refine jj_istore_n (pc := 1) (l2 := [(1, .int 0), (0, .ref 58)]) dX7_workNow_1 (by decide) rfl ?_
  refine jj_iconst (pc := 2) (v := 0) dX7_workNow_2 (by decide) ?_
  refine jj_istore_n (pc := 3) (l2 := [(2, .int 0), (1, .int 0), (0, .ref 58)]) dX7_workNow_3 (by decide) rfl ?_
  exact jj_sub [2, 1, 0] rfl h
theorem en_X7_workNow {K : jj_K} (R : Int32 → wo_T → Prop)   (w : wo_T)
    (h : jj_J K mX7_workNow (jj_Ri R) 4 [(0, .ref 58), (1, .int 0), (2, .int 0)] [] w) : jj_Ci K mX7_workNow [.ref 58] w R :=
  jj_Ci_intro pn_RX7 (Nat.le_of_ble_eq_true rfl) (vc_X7_workNow_0 R  w h)
set_option maxRecDepth 100000 in
set_option maxHeartbeats 4000000 in
theorem vc_X7_workNow_4 {K : jj_K} (R : Int32 → wo_T → Prop)  (a1 : Int32) (a2 : Int32) (w : wo_T)
    (h : (10 ≤ a2 → R a1 w) ∧ (¬ 10 ≤ a2 → jj_Ci K mX7_isWay [.ref 58, .int a2] w (fun v2 w3 => (v2 = 0 → ∀ x5 : Int32, x5 = a1 + 0 → (jj_J K mX7_workNow (jj_Ri R) 4 [(0, .ref 58), (1, .int x5), (2, .int (a2 + 1))] [] w3)) ∧ (¬ v2 = 0 → vp_in a2 10 ∧ (vp_in a2 10 ∧ (∀ x6 : Int32, x6 = a1 + ((w3.1 62 a2.toNatClampNeg) * (w3.1 63 a2.toNatClampNeg)) → (jj_J K mX7_workNow (jj_Ri R) 4 [(0, .ref 58), (1, .int x6), (2, .int (a2 + 1))] [] w3))))))) :
    jj_J K mX7_workNow (jj_Ri R) 4 [(0, .ref 58), (1, .int a1), (2, .int a2)] [] w := by
  refine jj_iload_n (pc := 4) dX7_workNow_4 2 rfl ?_
  refine jj_bipush (pc := 5) (v := 10) dX7_workNow_5 (by decide) ?_
  refine jj_icmp_ge (pc := 7) (tgt := 44) dX7_workNow_7 (by decide) (fun c1 => ?_) (fun c1 => ?_)
  · replace h := h.1 c1
    refine jj_iload_n (pc := 44) dX7_workNow_44 1 rfl ?_
    exact jj_iret (pc := 45) dX7_workNow_45 rfl h
  · replace h := h.2 c1
    refine jj_iload_n (pc := 10) dX7_workNow_10 1 rfl ?_
    refine jj_aload_n (pc := 11) dX7_workNow_11 0 rfl ?_
    refine jj_iload_n (pc := 12) dX7_workNow_12 2 rfl ?_
    refine jj_callVi (pc := 13) (N := mX7_isWay) (as := [.int a2]) (st := [.int a1]) dX7_workNow_13 rfl rfl rfl lk_RX7_131 hv_X7_isWay rfl rfl h (fun v2 w3 h => ?_)
    refine jj_if_eq (pc := 16) (tgt := 35) dX7_workNow_16 (by decide) (fun c4 => ?_) (fun c4 => ?_)
    · replace h := h.1 c4
      refine jj_iconst (pc := 35) (v := 0) dX7_workNow_35 (by decide) ?_
      refine jj_iadd (pc := 36) dX7_workNow_36 ?_
      refine jj_nmi (fun x5 ex5 => ?_)
      replace h := h x5 ex5
      refine jj_istore_n (pc := 37) (l2 := [(1, .int x5), (0, .ref 58), (2, .int a2)]) dX7_workNow_37 (by decide) rfl ?_
      refine jj_iinc (pc := 38) (v := a2 + 1) (l2 := [(2, .int (a2 + 1)), (1, .int x5), (0, .ref 58)]) dX7_workNow_38 2 rfl rfl (by decide) rfl ?_
      refine jj_goto (pc := 41) (tgt := 4) dX7_workNow_41 (by decide) ?_
      exact jj_sub [2, 1, 0] rfl h
    · replace h := h.2 c4
      refine jj_aload_n (pc := 19) dX7_workNow_19 0 rfl ?_
      refine jj_getR (pc := 20) (ci := 7) (k := 3) dX7_workNow_20 rfl rfl (by decide) rfl lk_RX7_19 ?_
      refine jj_iload_n (pc := 23) dX7_workNow_23 2 rfl ?_
      refine jj_iald (pc := 24) dX7_workNow_24 rfl h.1 ?_
      replace h := h.2
      refine jj_aload_n (pc := 25) dX7_workNow_25 0 rfl ?_
      refine jj_getR (pc := 26) (ci := 7) (k := 4) dX7_workNow_26 rfl rfl (by decide) rfl lk_RX7_22 ?_
      refine jj_iload_n (pc := 29) dX7_workNow_29 2 rfl ?_
      refine jj_iald (pc := 30) dX7_workNow_30 rfl h.1 ?_
      replace h := h.2
      refine jj_imul (pc := 31) dX7_workNow_31 ?_
      refine jj_goto (pc := 32) (tgt := 36) dX7_workNow_32 (by decide) ?_
      refine jj_iadd (pc := 36) dX7_workNow_36 ?_
      refine jj_nmi (fun x6 ex6 => ?_)
      replace h := h x6 ex6
      refine jj_istore_n (pc := 37) (l2 := [(1, .int x6), (0, .ref 58), (2, .int a2)]) dX7_workNow_37 (by decide) rfl ?_
      refine jj_iinc (pc := 38) (v := a2 + 1) (l2 := [(2, .int (a2 + 1)), (1, .int x6), (0, .ref 58)]) dX7_workNow_38 2 rfl rfl (by decide) rfl ?_
      refine jj_goto (pc := 41) (tgt := 4) dX7_workNow_41 (by decide) ?_
      exact jj_sub [2, 1, 0] rfl h
set_option maxRecDepth 100000 in
set_option maxHeartbeats 4000000 in
theorem vc_X7_work_0 {K : jj_K} (R : Int64 → wo_T → Prop)  (a1 : Int32) (w : wo_T)
    (h : jj_Ci K mX7_in [.int a1, .int 0, .int 1] w (fun v1 w2 => (v1 = 0 → jj_Cl K mX7_no [.int (-2)] w2 (fun v4 w5 => R v4 w5)) ∧ (¬ v1 = 0 → jj_Ci K mX7_workNow [.ref 58] w2 (fun v6 w7 => jj_Cl K mX7_partOf [.long v6.toInt64, .long 12, .int a1] w7 (fun v8 w9 => R v8 w9))))) :
    jj_J K mX7_work (jj_Rl R) 0 [(0, .ref 58), (1, .int a1)] [] w := by
  refine jj_iload_n (pc := 0) dX7_work_0 1 rfl ?_
  refine jj_iconst (pc := 1) (v := 0) dX7_work_1 (by decide) ?_
  refine jj_iconst (pc := 2) (v := 1) dX7_work_2 (by decide) ?_
  refine jj_callSi (pc := 3) (N := mX7_in) (as := [.int a1, .int 0, .int 1]) (st := []) dX7_work_3 lk_RX7_64 hv_X7_in rfl rfl h (fun v1 w2 h => ?_)
  refine jj_if_eq (pc := 6) (tgt := 24) dX7_work_6 (by decide) (fun c3 => ?_) (fun c3 => ?_)
  · replace h := h.1 c3
    refine jj_bipush (pc := 24) (v := (-2)) dX7_work_24 (by decide) ?_
    refine jj_callSl (pc := 26) (N := mX7_no) (as := [.int (-2)]) (st := []) dX7_work_26 lk_RX7_160 hv_X7_no rfl rfl h (fun v4 w5 h => ?_)
    exact jj_lret (pc := 29) dX7_work_29 rfl h
  · replace h := h.2 c3
    refine jj_aload_n (pc := 9) dX7_work_9 0 rfl ?_
    refine jj_callVi (pc := 10) (N := mX7_workNow) (as := []) (st := []) dX7_work_10 rfl rfl rfl lk_RX7_204 hv_X7_workNow rfl rfl h (fun v6 w7 h => ?_)
    refine jj_i2l (pc := 13) dX7_work_13 ?_
    refine jj_ldc2 (pc := 14) (v := 12) dX7_work_14 lk_RX7_202 ?_
    refine jj_iload_n (pc := 17) dX7_work_17 1 rfl ?_
    refine jj_callSl (pc := 18) (N := mX7_partOf) (as := [.long v6.toInt64, .long 12, .int a1]) (st := []) dX7_work_18 lk_RX7_138 hv_X7_partOf rfl rfl h (fun v8 w9 h => ?_)
    refine jj_goto (pc := 21) (tgt := 29) dX7_work_21 (by decide) ?_
    exact jj_lret (pc := 29) dX7_work_29 rfl h
theorem en_X7_work {K : jj_K} (R : Int64 → wo_T → Prop)  (a1 : Int32) (w : wo_T)
    (h : jj_Ci K mX7_in [.int a1, .int 0, .int 1] w (fun v1 w2 => (v1 = 0 → jj_Cl K mX7_no [.int (-2)] w2 (fun v4 w5 => R v4 w5)) ∧ (¬ v1 = 0 → jj_Ci K mX7_workNow [.ref 58] w2 (fun v6 w7 => jj_Cl K mX7_partOf [.long v6.toInt64, .long 12, .int a1] w7 (fun v8 w9 => R v8 w9))))) : jj_Cl K mX7_work [.ref 58, .int a1] w R :=
  jj_Cl_intro pn_RX7 (Nat.le_of_ble_eq_true rfl) (vc_X7_work_0 R a1 w h)
set_option maxRecDepth 100000 in
set_option maxHeartbeats 4000000 in
theorem vc_X7_provesNow_0 {K : jj_K} (R : Int32 → wo_T → Prop)   (w : wo_T)
    (h : jj_J K mX7_provesNow (jj_Ri R) 2 [(0, .ref 58), (1, .int 0)] [] w) :
    jj_J K mX7_provesNow (jj_Ri R) 0 [(0, .ref 58)] [] w := by
  refine jj_iconst (pc := 0) (v := 0) dX7_provesNow_0 (by decide) ?_
  refine jj_istore_n (pc := 1) (l2 := [(1, .int 0), (0, .ref 58)]) dX7_provesNow_1 (by decide) rfl ?_
  exact jj_sub [1, 0] rfl h
theorem en_X7_provesNow {K : jj_K} (R : Int32 → wo_T → Prop)   (w : wo_T)
    (h : jj_J K mX7_provesNow (jj_Ri R) 2 [(0, .ref 58), (1, .int 0)] [] w) : jj_Ci K mX7_provesNow [.ref 58] w R :=
  jj_Ci_intro pn_RX7 (Nat.le_of_ble_eq_true rfl) (vc_X7_provesNow_0 R  w h)
set_option maxRecDepth 100000 in
set_option maxHeartbeats 4000000 in
theorem vc_X7_provesNow_2 {K : jj_K} (R : Int32 → wo_T → Prop)  (a1 : Int32) (w : wo_T)
    (h : jj_Ci K mX7_pairs [.ref 58] w (fun v1 w2 => (v1 ≤ a1 → jj_Ci K mX7_bestOf [.ref 58, .int (w2.1 58 6)] w2 (fun v4 w5 => (v4 = (-1) → R 1 w5) ∧ (¬ v4 = (-1) → jj_Ci K mX7_workNow [.ref 58] w5 (fun v7 w8 => vp_in v4 1024 ∧ (vp_in v4 1024 ∧ ((¬ (v7.toInt64 * (w8.2 68 v4.toNatClampNeg)) = (12 * (w8.2 67 v4.toNatClampNeg)) → R 1 w8) ∧ ((v7.toInt64 * (w8.2 68 v4.toNatClampNeg)) = (12 * (w8.2 67 v4.toNatClampNeg)) → R 2 w8))))))) ∧ (¬ v1 ≤ a1 → jj_Ci K mX7_stretchOf [.ref 58, .int a1] w2 (fun v10 w11 => jj_Ci K mX7_isBar [.ref 58, .int a1] w11 (fun v12 w13 => (v12 = 0 → jj_J K mX7_provesNow (jj_Ri R) 2 [(0, .ref 58), (1, .int (a1 + 1))] [] w13) ∧ (¬ v12 = 0 → jj_Ci K mX7_quad [.ref 58, .int a1] w13 (fun v15 w16 => ((12 * v15) < v10 → R 0 w16) ∧ (¬ (12 * v15) < v10 → jj_Ci K mX7_quad [.ref 58, .int a1] w16 (fun v18 w19 => (-v10 ≤ (12 * v18) → jj_J K mX7_provesNow (jj_Ri R) 2 [(0, .ref 58), (1, .int (a1 + 1))] [] w19) ∧ (¬ -v10 ≤ (12 * v18) → R 0 w19)))))))))) :
    jj_J K mX7_provesNow (jj_Ri R) 2 [(0, .ref 58), (1, .int a1)] [] w := by
  refine jj_iload_n (pc := 2) dX7_provesNow_2 1 rfl ?_
  refine jj_aload_n (pc := 3) dX7_provesNow_3 0 rfl ?_
  refine jj_callVi (pc := 4) (N := mX7_pairs) (as := []) (st := [.int a1]) dX7_provesNow_4 rfl rfl rfl lk_RX7_68 hv_X7_pairs rfl rfl h (fun v1 w2 h => ?_)
  refine jj_icmp_ge (pc := 7) (tgt := 57) dX7_provesNow_7 (by decide) (fun c3 => ?_) (fun c3 => ?_)
  · replace h := h.1 c3
    refine jj_aload_n (pc := 57) dX7_provesNow_57 0 rfl ?_
    refine jj_aload_n (pc := 58) dX7_provesNow_58 0 rfl ?_
    refine jj_getI (pc := 59) (ci := 7) (k := 6) dX7_provesNow_59 rfl rfl (by decide) rfl lk_RX7_76 ?_
    refine jj_callVi (pc := 62) (N := mX7_bestOf) (as := [.int (w2.1 58 6)]) (st := []) dX7_provesNow_62 rfl rfl rfl lk_RX7_157 hv_X7_bestOf rfl rfl h (fun v4 w5 h => ?_)
    refine jj_istore_n (pc := 65) (l2 := [(1, .int v4), (0, .ref 58)]) dX7_provesNow_65 (by decide) rfl ?_
    refine jj_iload_n (pc := 66) dX7_provesNow_66 0 rfl ?_
    refine jj_iconst (pc := 67) (v := (-1)) dX7_provesNow_67 (by decide) ?_
    refine jj_icmp_eq (pc := 68) (tgt := 101) dX7_provesNow_68 (by decide) (fun c6 => ?_) (fun c6 => ?_)
    · replace h := h.1 c6
      refine jj_iconst (pc := 101) (v := 1) dX7_provesNow_101 (by decide) ?_
      exact jj_iret (pc := 102) dX7_provesNow_102 rfl h
    · replace h := h.2 c6
      refine jj_aload_n (pc := 71) dX7_provesNow_71 1 rfl ?_
      refine jj_callVi (pc := 72) (N := mX7_workNow) (as := []) (st := []) dX7_provesNow_72 rfl rfl rfl lk_RX7_204 hv_X7_workNow rfl rfl h (fun v7 w8 h => ?_)
      refine jj_i2l (pc := 75) dX7_provesNow_75 ?_
      refine jj_aload_n (pc := 76) dX7_provesNow_76 1 rfl ?_
      refine jj_getR (pc := 77) (ci := 7) (k := 12) dX7_provesNow_77 rfl rfl (by decide) rfl lk_RX7_39 ?_
      refine jj_iload_n (pc := 80) dX7_provesNow_80 0 rfl ?_
      refine jj_lald (pc := 81) dX7_provesNow_81 rfl h.1 ?_
      replace h := h.2
      refine jj_lmul (pc := 82) dX7_provesNow_82 ?_
      refine jj_ldc2 (pc := 83) (v := 12) dX7_provesNow_83 lk_RX7_202 ?_
      refine jj_aload_n (pc := 86) dX7_provesNow_86 1 rfl ?_
      refine jj_getR (pc := 87) (ci := 7) (k := 11) dX7_provesNow_87 rfl rfl (by decide) rfl lk_RX7_36 ?_
      refine jj_iload_n (pc := 90) dX7_provesNow_90 0 rfl ?_
      refine jj_lald (pc := 91) dX7_provesNow_91 rfl h.1 ?_
      replace h := h.2
      refine jj_lmul (pc := 92) dX7_provesNow_92 ?_
      refine jj_lcmp_ne (pc := 93) (tgt := 101) dX7_provesNow_93 dX7_provesNow_94 (by decide) (fun c9 => ?_) (fun c9 => ?_)
      · replace h := h.1 c9
        refine jj_iconst (pc := 101) (v := 1) dX7_provesNow_101 (by decide) ?_
        exact jj_iret (pc := 102) dX7_provesNow_102 rfl h
      · replace h := h.2 c9
        refine jj_iconst (pc := 97) (v := 2) dX7_provesNow_97 (by decide) ?_
        refine jj_goto (pc := 98) (tgt := 102) dX7_provesNow_98 (by decide) ?_
        exact jj_iret (pc := 102) dX7_provesNow_102 rfl h
  · replace h := h.2 c3
    refine jj_aload_n (pc := 10) dX7_provesNow_10 0 rfl ?_
    refine jj_iload_n (pc := 11) dX7_provesNow_11 1 rfl ?_
    refine jj_callVi (pc := 12) (N := mX7_stretchOf) (as := [.int a1]) (st := []) dX7_provesNow_12 rfl rfl rfl lk_RX7_199 hv_X7_stretchOf rfl rfl h (fun v10 w11 h => ?_)
    refine jj_istore_n (pc := 15) (l2 := [(2, .int v10), (0, .ref 58), (1, .int a1)]) dX7_provesNow_15 (by decide) rfl ?_
    refine jj_aload_n (pc := 16) dX7_provesNow_16 1 rfl ?_
    refine jj_iload_n (pc := 17) dX7_provesNow_17 2 rfl ?_
    refine jj_callVi (pc := 18) (N := mX7_isBar) (as := [.int a1]) (st := []) dX7_provesNow_18 rfl rfl rfl lk_RX7_174 hv_X7_isBar rfl rfl h (fun v12 w13 h => ?_)
    refine jj_if_eq (pc := 21) (tgt := 51) dX7_provesNow_21 (by decide) (fun c14 => ?_) (fun c14 => ?_)
    · replace h := h.1 c14
      refine jj_iinc (pc := 51) (v := a1 + 1) (l2 := [(1, .int (a1 + 1)), (2, .int v10), (0, .ref 58)]) dX7_provesNow_51 2 rfl rfl (by decide) rfl ?_
      refine jj_goto (pc := 54) (tgt := 2) dX7_provesNow_54 (by decide) ?_
      exact jj_sub [2, 0] rfl h
    · replace h := h.2 c14
      refine jj_iload_n (pc := 24) dX7_provesNow_24 0 rfl ?_
      refine jj_bipush (pc := 25) (v := 12) dX7_provesNow_25 (by decide) ?_
      refine jj_aload_n (pc := 27) dX7_provesNow_27 1 rfl ?_
      refine jj_iload_n (pc := 28) dX7_provesNow_28 2 rfl ?_
      refine jj_callVi (pc := 29) (N := mX7_quad) (as := [.int a1]) (st := [.int 12, .int v10]) dX7_provesNow_29 rfl rfl rfl lk_RX7_111 hv_X7_quad rfl rfl h (fun v15 w16 h => ?_)
      refine jj_imul (pc := 32) dX7_provesNow_32 ?_
      refine jj_icmp_gt (pc := 33) (tgt := 49) dX7_provesNow_33 (by decide) (fun c17 => ?_) (fun c17 => ?_)
      · replace h := h.1 c17
        refine jj_iconst (pc := 49) (v := 0) dX7_provesNow_49 (by decide) ?_
        exact jj_iret (pc := 50) dX7_provesNow_50 rfl h
      · replace h := h.2 c17
        refine jj_iload_n (pc := 36) dX7_provesNow_36 0 rfl ?_
        refine jj_ineg (pc := 37) dX7_provesNow_37 ?_
        refine jj_bipush (pc := 38) (v := 12) dX7_provesNow_38 (by decide) ?_
        refine jj_aload_n (pc := 40) dX7_provesNow_40 1 rfl ?_
        refine jj_iload_n (pc := 41) dX7_provesNow_41 2 rfl ?_
        refine jj_callVi (pc := 42) (N := mX7_quad) (as := [.int a1]) (st := [.int 12, .int (-v10)]) dX7_provesNow_42 rfl rfl rfl lk_RX7_111 hv_X7_quad rfl rfl h (fun v18 w19 h => ?_)
        refine jj_imul (pc := 45) dX7_provesNow_45 ?_
        refine jj_icmp_le (pc := 46) (tgt := 51) dX7_provesNow_46 (by decide) (fun c20 => ?_) (fun c20 => ?_)
        · replace h := h.1 c20
          refine jj_iinc (pc := 51) (v := a1 + 1) (l2 := [(1, .int (a1 + 1)), (2, .int v10), (0, .ref 58)]) dX7_provesNow_51 2 rfl rfl (by decide) rfl ?_
          refine jj_goto (pc := 54) (tgt := 2) dX7_provesNow_54 (by decide) ?_
          exact jj_sub [2, 0] rfl h
        · replace h := h.2 c20
          refine jj_iconst (pc := 49) (v := 0) dX7_provesNow_49 (by decide) ?_
          exact jj_iret (pc := 50) dX7_provesNow_50 rfl h
set_option maxRecDepth 100000 in
set_option maxHeartbeats 4000000 in
theorem vc_X7_proves_0 {K : jj_K} (R : Int32 → wo_T → Prop)   (w : wo_T)
    (h : jj_Ci K mX7_provesNow [.ref 58] w (fun v1 w2 => R v1 w2)) :
    jj_J K mX7_proves (jj_Ri R) 0 [(0, .ref 58)] [] w := by
  refine jj_aload_n (pc := 0) dX7_proves_0 0 rfl ?_
  refine jj_callVi (pc := 1) (N := mX7_provesNow) (as := []) (st := []) dX7_proves_1 rfl rfl rfl lk_RX7_207 hv_X7_provesNow rfl rfl h (fun v1 w2 h => ?_)
  exact jj_iret (pc := 4) dX7_proves_4 rfl h
theorem en_X7_proves {K : jj_K} (R : Int32 → wo_T → Prop)   (w : wo_T)
    (h : jj_Ci K mX7_provesNow [.ref 58] w (fun v1 w2 => R v1 w2)) : jj_Ci K mX7_proves [.ref 58] w R :=
  jj_Ci_intro pn_RX7 (Nat.le_of_ble_eq_true rfl) (vc_X7_proves_0 R  w h)
set_option maxRecDepth 100000 in
set_option maxHeartbeats 4000000 in
theorem vc_X7_isCross_0 {K : jj_K} (R : Int32 → wo_T → Prop)  (a1 : Int32) (a2 : Int32) (w : wo_T)
    (h : jj_Ci K mX7_lesser [.int a1] w (fun v1 w2 => jj_Ci K mX7_lesser [.int a2] w2 (fun v3 w4 => (v1 = v3 → jj_J K mX7_isCross (jj_Ri R) 49 [(0, .ref 58), (1, .int a1), (2, .int a2)] [.int 0] w4) ∧ (¬ v1 = v3 → jj_Ci K mX7_lesser [.int a1] w4 (fun v6 w7 => jj_Ci K mX7_greater [.int a2] w7 (fun v8 w9 => (v6 = v8 → jj_J K mX7_isCross (jj_Ri R) 49 [(0, .ref 58), (1, .int a1), (2, .int a2)] [.int 0] w9) ∧ (¬ v6 = v8 → jj_Ci K mX7_greater [.int a1] w9 (fun v11 w12 => jj_Ci K mX7_lesser [.int a2] w12 (fun v13 w14 => (v11 = v13 → jj_J K mX7_isCross (jj_Ri R) 49 [(0, .ref 58), (1, .int a1), (2, .int a2)] [.int 0] w14) ∧ (¬ v11 = v13 → jj_Ci K mX7_greater [.int a1] w14 (fun v16 w17 => jj_Ci K mX7_greater [.int a2] w17 (fun v18 w19 => (v16 = v18 → jj_J K mX7_isCross (jj_Ri R) 49 [(0, .ref 58), (1, .int a1), (2, .int a2)] [.int 0] w19) ∧ (¬ v16 = v18 → jj_J K mX7_isCross (jj_Ri R) 49 [(0, .ref 58), (1, .int a1), (2, .int a2)] [.int 1] w19))))))))))))) :
    jj_J K mX7_isCross (jj_Ri R) 0 [(0, .ref 58), (1, .int a1), (2, .int a2)] [] w := by
  refine jj_iload_n (pc := 0) dX7_isCross_0 1 rfl ?_
  refine jj_callSi (pc := 1) (N := mX7_lesser) (as := [.int a1]) (st := []) dX7_isCross_1 lk_RX7_83 hv_X7_lesser rfl rfl h (fun v1 w2 h => ?_)
  refine jj_iload_n (pc := 4) dX7_isCross_4 2 rfl ?_
  refine jj_callSi (pc := 5) (N := mX7_lesser) (as := [.int a2]) (st := [.int v1]) dX7_isCross_5 lk_RX7_83 hv_X7_lesser rfl rfl h (fun v3 w4 h => ?_)
  refine jj_icmp_eq (pc := 8) (tgt := 48) dX7_isCross_8 (by decide) (fun c5 => ?_) (fun c5 => ?_)
  · replace h := h.1 c5
    refine jj_iconst (pc := 48) (v := 0) dX7_isCross_48 (by decide) ?_
    exact jj_sub [0, 1, 2] rfl h
  · replace h := h.2 c5
    refine jj_iload_n (pc := 11) dX7_isCross_11 1 rfl ?_
    refine jj_callSi (pc := 12) (N := mX7_lesser) (as := [.int a1]) (st := []) dX7_isCross_12 lk_RX7_83 hv_X7_lesser rfl rfl h (fun v6 w7 h => ?_)
    refine jj_iload_n (pc := 15) dX7_isCross_15 2 rfl ?_
    refine jj_callSi (pc := 16) (N := mX7_greater) (as := [.int a2]) (st := [.int v6]) dX7_isCross_16 lk_RX7_79 hv_X7_greater rfl rfl h (fun v8 w9 h => ?_)
    refine jj_icmp_eq (pc := 19) (tgt := 48) dX7_isCross_19 (by decide) (fun c10 => ?_) (fun c10 => ?_)
    · replace h := h.1 c10
      refine jj_iconst (pc := 48) (v := 0) dX7_isCross_48 (by decide) ?_
      exact jj_sub [0, 1, 2] rfl h
    · replace h := h.2 c10
      refine jj_iload_n (pc := 22) dX7_isCross_22 1 rfl ?_
      refine jj_callSi (pc := 23) (N := mX7_greater) (as := [.int a1]) (st := []) dX7_isCross_23 lk_RX7_79 hv_X7_greater rfl rfl h (fun v11 w12 h => ?_)
      refine jj_iload_n (pc := 26) dX7_isCross_26 2 rfl ?_
      refine jj_callSi (pc := 27) (N := mX7_lesser) (as := [.int a2]) (st := [.int v11]) dX7_isCross_27 lk_RX7_83 hv_X7_lesser rfl rfl h (fun v13 w14 h => ?_)
      refine jj_icmp_eq (pc := 30) (tgt := 48) dX7_isCross_30 (by decide) (fun c15 => ?_) (fun c15 => ?_)
      · replace h := h.1 c15
        refine jj_iconst (pc := 48) (v := 0) dX7_isCross_48 (by decide) ?_
        exact jj_sub [0, 1, 2] rfl h
      · replace h := h.2 c15
        refine jj_iload_n (pc := 33) dX7_isCross_33 1 rfl ?_
        refine jj_callSi (pc := 34) (N := mX7_greater) (as := [.int a1]) (st := []) dX7_isCross_34 lk_RX7_79 hv_X7_greater rfl rfl h (fun v16 w17 h => ?_)
        refine jj_iload_n (pc := 37) dX7_isCross_37 2 rfl ?_
        refine jj_callSi (pc := 38) (N := mX7_greater) (as := [.int a2]) (st := [.int v16]) dX7_isCross_38 lk_RX7_79 hv_X7_greater rfl rfl h (fun v18 w19 h => ?_)
        refine jj_icmp_eq (pc := 41) (tgt := 48) dX7_isCross_41 (by decide) (fun c20 => ?_) (fun c20 => ?_)
        · replace h := h.1 c20
          refine jj_iconst (pc := 48) (v := 0) dX7_isCross_48 (by decide) ?_
          exact jj_sub [0, 1, 2] rfl h
        · replace h := h.2 c20
          refine jj_iconst (pc := 44) (v := 1) dX7_isCross_44 (by decide) ?_
          refine jj_goto (pc := 45) (tgt := 49) dX7_isCross_45 (by decide) ?_
          exact jj_sub [0, 1, 2] rfl h
theorem en_X7_isCross {K : jj_K} (R : Int32 → wo_T → Prop)  (a1 : Int32) (a2 : Int32) (w : wo_T)
    (h : jj_Ci K mX7_lesser [.int a1] w (fun v1 w2 => jj_Ci K mX7_lesser [.int a2] w2 (fun v3 w4 => (v1 = v3 → jj_J K mX7_isCross (jj_Ri R) 49 [(0, .ref 58), (1, .int a1), (2, .int a2)] [.int 0] w4) ∧ (¬ v1 = v3 → jj_Ci K mX7_lesser [.int a1] w4 (fun v6 w7 => jj_Ci K mX7_greater [.int a2] w7 (fun v8 w9 => (v6 = v8 → jj_J K mX7_isCross (jj_Ri R) 49 [(0, .ref 58), (1, .int a1), (2, .int a2)] [.int 0] w9) ∧ (¬ v6 = v8 → jj_Ci K mX7_greater [.int a1] w9 (fun v11 w12 => jj_Ci K mX7_lesser [.int a2] w12 (fun v13 w14 => (v11 = v13 → jj_J K mX7_isCross (jj_Ri R) 49 [(0, .ref 58), (1, .int a1), (2, .int a2)] [.int 0] w14) ∧ (¬ v11 = v13 → jj_Ci K mX7_greater [.int a1] w14 (fun v16 w17 => jj_Ci K mX7_greater [.int a2] w17 (fun v18 w19 => (v16 = v18 → jj_J K mX7_isCross (jj_Ri R) 49 [(0, .ref 58), (1, .int a1), (2, .int a2)] [.int 0] w19) ∧ (¬ v16 = v18 → jj_J K mX7_isCross (jj_Ri R) 49 [(0, .ref 58), (1, .int a1), (2, .int a2)] [.int 1] w19))))))))))))) : jj_Ci K mX7_isCross [.ref 58, .int a1, .int a2] w R :=
  jj_Ci_intro pn_RX7 (Nat.le_of_ble_eq_true rfl) (vc_X7_isCross_0 R a1 a2 w h)
set_option maxRecDepth 100000 in
set_option maxHeartbeats 4000000 in
theorem vc_X7_isCross_49 {K : jj_K} (R : Int32 → wo_T → Prop)  (a1 : Int32) (a2 : Int32) (s0 : Int32) (w : wo_T)
    (h : jj_Ci K mX7_lesser [.int a2] w (fun v1 w2 => vp_in v1 5 ∧ (jj_Ci K mX7_lesser [.int a1] w2 (fun v3 w4 => vp_in v3 5 ∧ (∀ x5 : Int32, x5 = (w2.1 59 v1.toNatClampNeg) - (w4.1 59 v3.toNatClampNeg) → (jj_Ci K mX7_lesser [.int a2] w4 (fun v6 w7 => vp_in v6 5 ∧ (jj_Ci K mX7_lesser [.int a1] w7 (fun v8 w9 => vp_in v8 5 ∧ (∀ x10 : Int32, x10 = (w7.1 60 v6.toNatClampNeg) - (w9.1 60 v8.toNatClampNeg) → (jj_Ci K mX7_far [.ref 58, .int a1, .int 0] w9 (fun v11 w12 => jj_Ci K mX7_far [.ref 58, .int a2, .int 1] w12 (fun v13 w14 => jj_Ci K mX7_far [.ref 58, .int a1, .int 1] w14 (fun v15 w16 => jj_Ci K mX7_far [.ref 58, .int a2, .int 0] w16 (fun v17 w18 => (0 ≤ ((wo_i w18 58 16 ((v11 * v13) - (v15 * v17))).1 58 16) → jj_J K mX7_isCross (jj_Ri R) 135 [(0, .ref 58), (1, .int a1), (2, .int a2), (3, .int s0), (4, .int x5), (5, .int x10)] [.int 1] (wo_i w18 58 16 ((v11 * v13) - (v15 * v17)))) ∧ (¬ 0 ≤ ((wo_i w18 58 16 ((v11 * v13) - (v15 * v17))).1 58 16) → jj_J K mX7_isCross (jj_Ri R) 135 [(0, .ref 58), (1, .int a1), (2, .int a2), (3, .int s0), (4, .int x5), (5, .int x10)] [.int (-1)] (wo_i w18 58 16 ((v11 * v13) - (v15 * v17))))))))))))))))))) :
    jj_J K mX7_isCross (jj_Ri R) 49 [(0, .ref 58), (1, .int a1), (2, .int a2)] [.int s0] w := by
  refine jj_istore_n (pc := 49) (l2 := [(3, .int s0), (0, .ref 58), (1, .int a1), (2, .int a2)]) dX7_isCross_49 (by decide) rfl ?_
  refine jj_aload_n (pc := 50) dX7_isCross_50 1 rfl ?_
  refine jj_getR (pc := 51) (ci := 7) (k := 0) dX7_isCross_51 rfl rfl (by decide) rfl lk_RX7_7 ?_
  refine jj_iload_n (pc := 54) dX7_isCross_54 3 rfl ?_
  refine jj_callSi (pc := 55) (N := mX7_lesser) (as := [.int a2]) (st := [.ref 59]) dX7_isCross_55 lk_RX7_83 hv_X7_lesser rfl rfl h (fun v1 w2 h => ?_)
  refine jj_iald (pc := 58) dX7_isCross_58 rfl h.1 ?_
  replace h := h.2
  refine jj_aload_n (pc := 59) dX7_isCross_59 1 rfl ?_
  refine jj_getR (pc := 60) (ci := 7) (k := 0) dX7_isCross_60 rfl rfl (by decide) rfl lk_RX7_7 ?_
  refine jj_iload_n (pc := 63) dX7_isCross_63 2 rfl ?_
  refine jj_callSi (pc := 64) (N := mX7_lesser) (as := [.int a1]) (st := [.ref 59, .int (w2.1 59 v1.toNatClampNeg)]) dX7_isCross_64 lk_RX7_83 hv_X7_lesser rfl rfl h (fun v3 w4 h => ?_)
  refine jj_iald (pc := 67) dX7_isCross_67 rfl h.1 ?_
  replace h := h.2
  refine jj_isub (pc := 68) dX7_isCross_68 ?_
  refine jj_nmi (fun x5 ex5 => ?_)
  replace h := h x5 ex5
  refine jj_istore (pc := 69) (l2 := [(4, .int x5), (3, .int s0), (0, .ref 58), (1, .int a1), (2, .int a2)]) dX7_isCross_69 (by decide) rfl ?_
  refine jj_aload_n (pc := 71) dX7_isCross_71 2 rfl ?_
  refine jj_getR (pc := 72) (ci := 7) (k := 1) dX7_isCross_72 rfl rfl (by decide) rfl lk_RX7_13 ?_
  refine jj_iload_n (pc := 75) dX7_isCross_75 4 rfl ?_
  refine jj_callSi (pc := 76) (N := mX7_lesser) (as := [.int a2]) (st := [.ref 60]) dX7_isCross_76 lk_RX7_83 hv_X7_lesser rfl rfl h (fun v6 w7 h => ?_)
  refine jj_iald (pc := 79) dX7_isCross_79 rfl h.1 ?_
  replace h := h.2
  refine jj_aload_n (pc := 80) dX7_isCross_80 2 rfl ?_
  refine jj_getR (pc := 81) (ci := 7) (k := 1) dX7_isCross_81 rfl rfl (by decide) rfl lk_RX7_13 ?_
  refine jj_iload_n (pc := 84) dX7_isCross_84 3 rfl ?_
  refine jj_callSi (pc := 85) (N := mX7_lesser) (as := [.int a1]) (st := [.ref 60, .int (w7.1 60 v6.toNatClampNeg)]) dX7_isCross_85 lk_RX7_83 hv_X7_lesser rfl rfl h (fun v8 w9 h => ?_)
  refine jj_iald (pc := 88) dX7_isCross_88 rfl h.1 ?_
  replace h := h.2
  refine jj_isub (pc := 89) dX7_isCross_89 ?_
  refine jj_nmi (fun x10 ex10 => ?_)
  replace h := h x10 ex10
  refine jj_istore (pc := 90) (l2 := [(5, .int x10), (4, .int x5), (3, .int s0), (0, .ref 58), (1, .int a1), (2, .int a2)]) dX7_isCross_90 (by decide) rfl ?_
  refine jj_aload_n (pc := 92) dX7_isCross_92 3 rfl ?_
  refine jj_aload_n (pc := 93) dX7_isCross_93 3 rfl ?_
  refine jj_iload_n (pc := 94) dX7_isCross_94 4 rfl ?_
  refine jj_iconst (pc := 95) (v := 0) dX7_isCross_95 (by decide) ?_
  refine jj_callVi (pc := 96) (N := mX7_far) (as := [.int a1, .int 0]) (st := [.ref 58]) dX7_isCross_96 rfl rfl rfl lk_RX7_86 hv_X7_far rfl rfl h (fun v11 w12 h => ?_)
  refine jj_aload_n (pc := 99) dX7_isCross_99 3 rfl ?_
  refine jj_iload_n (pc := 100) dX7_isCross_100 5 rfl ?_
  refine jj_iconst (pc := 101) (v := 1) dX7_isCross_101 (by decide) ?_
  refine jj_callVi (pc := 102) (N := mX7_far) (as := [.int a2, .int 1]) (st := [.int v11, .ref 58]) dX7_isCross_102 rfl rfl rfl lk_RX7_86 hv_X7_far rfl rfl h (fun v13 w14 h => ?_)
  refine jj_imul (pc := 105) dX7_isCross_105 ?_
  refine jj_aload_n (pc := 106) dX7_isCross_106 3 rfl ?_
  refine jj_iload_n (pc := 107) dX7_isCross_107 4 rfl ?_
  refine jj_iconst (pc := 108) (v := 1) dX7_isCross_108 (by decide) ?_
  refine jj_callVi (pc := 109) (N := mX7_far) (as := [.int a1, .int 1]) (st := [.int (v11 * v13), .ref 58]) dX7_isCross_109 rfl rfl rfl lk_RX7_86 hv_X7_far rfl rfl h (fun v15 w16 h => ?_)
  refine jj_aload_n (pc := 112) dX7_isCross_112 3 rfl ?_
  refine jj_iload_n (pc := 113) dX7_isCross_113 5 rfl ?_
  refine jj_iconst (pc := 114) (v := 0) dX7_isCross_114 (by decide) ?_
  refine jj_callVi (pc := 115) (N := mX7_far) (as := [.int a2, .int 0]) (st := [.int v15, .int (v11 * v13), .ref 58]) dX7_isCross_115 rfl rfl rfl lk_RX7_86 hv_X7_far rfl rfl h (fun v17 w18 h => ?_)
  refine jj_imul (pc := 118) dX7_isCross_118 ?_
  refine jj_isub (pc := 119) dX7_isCross_119 ?_
  refine jj_putI (pc := 120) (ci := 7) (k := 16) (ty := .int) dX7_isCross_120 rfl rfl (by decide) rfl lk_RX7_210 rfl (by decide) rfl rfl ?_
  refine jj_aload_n (pc := 123) dX7_isCross_123 3 rfl ?_
  refine jj_getI (pc := 124) (ci := 7) (k := 16) dX7_isCross_124 rfl rfl (by decide) rfl lk_RX7_210 ?_
  refine jj_if_ge (pc := 127) (tgt := 134) dX7_isCross_127 (by decide) (fun c19 => ?_) (fun c19 => ?_)
  · replace h := h.1 c19
    refine jj_iconst (pc := 134) (v := 1) dX7_isCross_134 (by decide) ?_
    exact jj_sub [3, 4, 5, 2, 1, 0] rfl h
  · replace h := h.2 c19
    refine jj_iconst (pc := 130) (v := (-1)) dX7_isCross_130 (by decide) ?_
    refine jj_goto (pc := 131) (tgt := 135) dX7_isCross_131 (by decide) ?_
    exact jj_sub [3, 4, 5, 2, 1, 0] rfl h
set_option maxRecDepth 100000 in
set_option maxHeartbeats 4000000 in
theorem vc_X7_isCross_135 {K : jj_K} (R : Int32 → wo_T → Prop)  (a1 : Int32) (a2 : Int32) (a3 : Int32) (a4 : Int32) (a5 : Int32) (s0 : Int32) (w : wo_T)
    (h : jj_Ci K mX7_far [.ref 58, .int a2, .int 1] (wo_i w 58 16 ((w.1 58 16) * s0)) (fun v1 w2 => jj_Ci K mX7_far [.ref 58, .int a2, .int 0] w2 (fun v3 w4 => jj_Ci K mX7_far [.ref 58, .int a1, .int 1] (wo_i w4 58 14 (s0 * ((a4 * v1) - (a5 * v3)))) (fun v5 w6 => jj_Ci K mX7_far [.ref 58, .int a1, .int 0] w6 (fun v7 w8 => (a3 = 0 → R 0 (wo_i w8 58 15 (s0 * ((a4 * v5) - (a5 * v7))))) ∧ (¬ a3 = 0 → (((wo_i w8 58 15 (s0 * ((a4 * v5) - (a5 * v7)))).1 58 16) = 0 → R 0 (wo_i w8 58 15 (s0 * ((a4 * v5) - (a5 * v7))))) ∧ (¬ ((wo_i w8 58 15 (s0 * ((a4 * v5) - (a5 * v7)))).1 58 16) = 0 → jj_Ci K mX7_in [.int ((wo_i w8 58 15 (s0 * ((a4 * v5) - (a5 * v7)))).1 58 14), .int 1, .int (((wo_i w8 58 15 (s0 * ((a4 * v5) - (a5 * v7)))).1 58 16) - 1)] (wo_i w8 58 15 (s0 * ((a4 * v5) - (a5 * v7)))) (fun v11 w12 => (v11 = 0 → R 0 w12) ∧ (¬ v11 = 0 → jj_Ci K mX7_in [.int (w12.1 58 15), .int 1, .int ((w12.1 58 16) - 1)] w12 (fun v14 w15 => (v14 = 0 → R 0 w15) ∧ (¬ v14 = 0 → R 1 w15))))))))))) :
    jj_J K mX7_isCross (jj_Ri R) 135 [(0, .ref 58), (1, .int a1), (2, .int a2), (3, .int a3), (4, .int a4), (5, .int a5)] [.int s0] w := by
  refine jj_istore (pc := 135) (l2 := [(6, .int s0), (0, .ref 58), (1, .int a1), (2, .int a2), (3, .int a3), (4, .int a4), (5, .int a5)]) dX7_isCross_135 (by decide) rfl ?_
  refine jj_aload_n (pc := 137) dX7_isCross_137 1 rfl ?_
  refine jj_dup (pc := 138) dX7_isCross_138 rfl ?_
  refine jj_getI (pc := 139) (ci := 7) (k := 16) dX7_isCross_139 rfl rfl (by decide) rfl lk_RX7_210 ?_
  refine jj_iload (pc := 142) dX7_isCross_142 0 rfl ?_
  refine jj_imul (pc := 144) dX7_isCross_144 ?_
  refine jj_putI (pc := 145) (ci := 7) (k := 16) (ty := .int) dX7_isCross_145 rfl rfl (by decide) rfl lk_RX7_210 rfl (by decide) rfl rfl ?_
  refine jj_aload_n (pc := 148) dX7_isCross_148 1 rfl ?_
  refine jj_iload (pc := 149) dX7_isCross_149 0 rfl ?_
  refine jj_iload (pc := 151) dX7_isCross_151 5 rfl ?_
  refine jj_aload_n (pc := 153) dX7_isCross_153 1 rfl ?_
  refine jj_iload_n (pc := 154) dX7_isCross_154 3 rfl ?_
  refine jj_iconst (pc := 155) (v := 1) dX7_isCross_155 (by decide) ?_
  refine jj_callVi (pc := 156) (N := mX7_far) (as := [.int a2, .int 1]) (st := [.int a4, .int s0, .ref 58]) dX7_isCross_156 rfl rfl rfl lk_RX7_86 hv_X7_far rfl rfl h (fun v1 w2 h => ?_)
  refine jj_imul (pc := 159) dX7_isCross_159 ?_
  refine jj_iload (pc := 160) dX7_isCross_160 6 rfl ?_
  refine jj_aload_n (pc := 162) dX7_isCross_162 1 rfl ?_
  refine jj_iload_n (pc := 163) dX7_isCross_163 3 rfl ?_
  refine jj_iconst (pc := 164) (v := 0) dX7_isCross_164 (by decide) ?_
  refine jj_callVi (pc := 165) (N := mX7_far) (as := [.int a2, .int 0]) (st := [.int a5, .int (a4 * v1), .int s0, .ref 58]) dX7_isCross_165 rfl rfl rfl lk_RX7_86 hv_X7_far rfl rfl h (fun v3 w4 h => ?_)
  refine jj_imul (pc := 168) dX7_isCross_168 ?_
  refine jj_isub (pc := 169) dX7_isCross_169 ?_
  refine jj_imul (pc := 170) dX7_isCross_170 ?_
  refine jj_putI (pc := 171) (ci := 7) (k := 14) (ty := .int) dX7_isCross_171 rfl rfl (by decide) rfl lk_RX7_213 rfl (by decide) rfl rfl ?_
  refine jj_aload_n (pc := 174) dX7_isCross_174 1 rfl ?_
  refine jj_iload (pc := 175) dX7_isCross_175 0 rfl ?_
  refine jj_iload (pc := 177) dX7_isCross_177 5 rfl ?_
  refine jj_aload_n (pc := 179) dX7_isCross_179 1 rfl ?_
  refine jj_iload_n (pc := 180) dX7_isCross_180 2 rfl ?_
  refine jj_iconst (pc := 181) (v := 1) dX7_isCross_181 (by decide) ?_
  refine jj_callVi (pc := 182) (N := mX7_far) (as := [.int a1, .int 1]) (st := [.int a4, .int s0, .ref 58]) dX7_isCross_182 rfl rfl rfl lk_RX7_86 hv_X7_far rfl rfl h (fun v5 w6 h => ?_)
  refine jj_imul (pc := 185) dX7_isCross_185 ?_
  refine jj_iload (pc := 186) dX7_isCross_186 6 rfl ?_
  refine jj_aload_n (pc := 188) dX7_isCross_188 1 rfl ?_
  refine jj_iload_n (pc := 189) dX7_isCross_189 2 rfl ?_
  refine jj_iconst (pc := 190) (v := 0) dX7_isCross_190 (by decide) ?_
  refine jj_callVi (pc := 191) (N := mX7_far) (as := [.int a1, .int 0]) (st := [.int a5, .int (a4 * v5), .int s0, .ref 58]) dX7_isCross_191 rfl rfl rfl lk_RX7_86 hv_X7_far rfl rfl h (fun v7 w8 h => ?_)
  refine jj_imul (pc := 194) dX7_isCross_194 ?_
  refine jj_isub (pc := 195) dX7_isCross_195 ?_
  refine jj_imul (pc := 196) dX7_isCross_196 ?_
  refine jj_putI (pc := 197) (ci := 7) (k := 15) (ty := .int) dX7_isCross_197 rfl rfl (by decide) rfl lk_RX7_216 rfl (by decide) rfl rfl ?_
  refine jj_iload_n (pc := 200) dX7_isCross_200 4 rfl ?_
  refine jj_if_eq (pc := 201) (tgt := 249) dX7_isCross_201 (by decide) (fun c9 => ?_) (fun c9 => ?_)
  · replace h := h.1 c9
    refine jj_iconst (pc := 249) (v := 0) dX7_isCross_249 (by decide) ?_
    exact jj_zret (pc := 250) dX7_isCross_250 rfl (Or.inl rfl) h
  · replace h := h.2 c9
    refine jj_aload_n (pc := 204) dX7_isCross_204 1 rfl ?_
    refine jj_getI (pc := 205) (ci := 7) (k := 16) dX7_isCross_205 rfl rfl (by decide) rfl lk_RX7_210 ?_
    refine jj_if_eq (pc := 208) (tgt := 249) dX7_isCross_208 (by decide) (fun c10 => ?_) (fun c10 => ?_)
    · replace h := h.1 c10
      refine jj_iconst (pc := 249) (v := 0) dX7_isCross_249 (by decide) ?_
      exact jj_zret (pc := 250) dX7_isCross_250 rfl (Or.inl rfl) h
    · replace h := h.2 c10
      refine jj_aload_n (pc := 211) dX7_isCross_211 1 rfl ?_
      refine jj_getI (pc := 212) (ci := 7) (k := 14) dX7_isCross_212 rfl rfl (by decide) rfl lk_RX7_213 ?_
      refine jj_iconst (pc := 215) (v := 1) dX7_isCross_215 (by decide) ?_
      refine jj_aload_n (pc := 216) dX7_isCross_216 1 rfl ?_
      refine jj_getI (pc := 217) (ci := 7) (k := 16) dX7_isCross_217 rfl rfl (by decide) rfl lk_RX7_210 ?_
      refine jj_iconst (pc := 220) (v := 1) dX7_isCross_220 (by decide) ?_
      refine jj_isub (pc := 221) dX7_isCross_221 ?_
      refine jj_callSi (pc := 222) (N := mX7_in) (as := [.int ((wo_i w8 58 15 (s0 * ((a4 * v5) - (a5 * v7)))).1 58 14), .int 1, .int (((wo_i w8 58 15 (s0 * ((a4 * v5) - (a5 * v7)))).1 58 16) - 1)]) (st := []) dX7_isCross_222 lk_RX7_64 hv_X7_in rfl rfl h (fun v11 w12 h => ?_)
      refine jj_if_eq (pc := 225) (tgt := 249) dX7_isCross_225 (by decide) (fun c13 => ?_) (fun c13 => ?_)
      · replace h := h.1 c13
        refine jj_iconst (pc := 249) (v := 0) dX7_isCross_249 (by decide) ?_
        exact jj_zret (pc := 250) dX7_isCross_250 rfl (Or.inl rfl) h
      · replace h := h.2 c13
        refine jj_aload_n (pc := 228) dX7_isCross_228 1 rfl ?_
        refine jj_getI (pc := 229) (ci := 7) (k := 15) dX7_isCross_229 rfl rfl (by decide) rfl lk_RX7_216 ?_
        refine jj_iconst (pc := 232) (v := 1) dX7_isCross_232 (by decide) ?_
        refine jj_aload_n (pc := 233) dX7_isCross_233 1 rfl ?_
        refine jj_getI (pc := 234) (ci := 7) (k := 16) dX7_isCross_234 rfl rfl (by decide) rfl lk_RX7_210 ?_
        refine jj_iconst (pc := 237) (v := 1) dX7_isCross_237 (by decide) ?_
        refine jj_isub (pc := 238) dX7_isCross_238 ?_
        refine jj_callSi (pc := 239) (N := mX7_in) (as := [.int (w12.1 58 15), .int 1, .int ((w12.1 58 16) - 1)]) (st := []) dX7_isCross_239 lk_RX7_64 hv_X7_in rfl rfl h (fun v14 w15 h => ?_)
        refine jj_if_eq (pc := 242) (tgt := 249) dX7_isCross_242 (by decide) (fun c16 => ?_) (fun c16 => ?_)
        · replace h := h.1 c16
          refine jj_iconst (pc := 249) (v := 0) dX7_isCross_249 (by decide) ?_
          exact jj_zret (pc := 250) dX7_isCross_250 rfl (Or.inl rfl) h
        · replace h := h.2 c16
          refine jj_iconst (pc := 245) (v := 1) dX7_isCross_245 (by decide) ?_
          refine jj_goto (pc := 246) (tgt := 250) dX7_isCross_246 (by decide) ?_
          exact jj_zret (pc := 250) dX7_isCross_250 rfl (Or.inr rfl) h
set_option maxRecDepth 100000 in
set_option maxHeartbeats 4000000 in
theorem vc_X7_crossing_0 {K : jj_K} (R : Int32 → wo_T → Prop)  (a1 : Int32) (a2 : Int32) (w : wo_T)
    (h : jj_J K mX7_crossing (jj_Ri R) 8 [(0, .ref 58), (1, .int a1), (2, .int a2), (3, .int a1), (4, .int (-1)), (5, .int 0)] [] w) :
    jj_J K mX7_crossing (jj_Ri R) 0 [(0, .ref 58), (1, .int a1), (2, .int a2)] [] w := by
  refine jj_iload_n (pc := 0) dX7_crossing_0 1 rfl ?_
  refine jj_istore_n (pc := 1) (l2 := [(3, .int a1), (0, .ref 58), (1, .int a1), (2, .int a2)]) dX7_crossing_1 (by decide) rfl ?_
  refine jj_iconst (pc := 2) (v := (-1)) dX7_crossing_2 (by decide) ?_
  refine jj_istore (pc := 3) (l2 := [(4, .int (-1)), (3, .int a1), (0, .ref 58), (1, .int a1), (2, .int a2)]) dX7_crossing_3 (by decide) rfl ?_
  refine jj_iconst (pc := 5) (v := 0) dX7_crossing_5 (by decide) ?_
  refine jj_istore (pc := 6) (l2 := [(5, .int 0), (4, .int (-1)), (3, .int a1), (0, .ref 58), (1, .int a1), (2, .int a2)]) dX7_crossing_6 (by decide) rfl ?_
  exact jj_sub [3, 4, 5, 2, 1, 0] rfl h
theorem en_X7_crossing {K : jj_K} (R : Int32 → wo_T → Prop)  (a1 : Int32) (a2 : Int32) (w : wo_T)
    (h : jj_J K mX7_crossing (jj_Ri R) 8 [(0, .ref 58), (1, .int a1), (2, .int a2), (3, .int a1), (4, .int (-1)), (5, .int 0)] [] w) : jj_Ci K mX7_crossing [.ref 58, .int a1, .int a2] w R :=
  jj_Ci_intro pn_RX7 (Nat.le_of_ble_eq_true rfl) (vc_X7_crossing_0 R a1 a2 w h)
set_option maxRecDepth 100000 in
set_option maxHeartbeats 4000000 in
theorem vc_X7_crossing_8 {K : jj_K} (R : Int32 → wo_T → Prop)  (a1 : Int32) (a2 : Int32) (a3 : Int32) (a4 : Int32) (a5 : Int32) (w : wo_T)
    (h : jj_Ci K mX7_pairs [.ref 58] w (fun v1 w2 => (v1 ≤ a5 → R a4 w2) ∧ (¬ v1 ≤ a5 → ∀ x4 : Int32, x4 = a5 + 1 → (jj_J K mX7_crossing (jj_Ri R) 23 [(0, .ref 58), (1, .int a1), (2, .int a2), (3, .int a3), (4, .int a4), (5, .int a5), (6, .int x4)] [] w2)))) :
    jj_J K mX7_crossing (jj_Ri R) 8 [(0, .ref 58), (1, .int a1), (2, .int a2), (3, .int a3), (4, .int a4), (5, .int a5)] [] w := by
  refine jj_iload (pc := 8) dX7_crossing_8 5 rfl ?_
  refine jj_aload_n (pc := 10) dX7_crossing_10 0 rfl ?_
  refine jj_callVi (pc := 11) (N := mX7_pairs) (as := []) (st := [.int a5]) dX7_crossing_11 rfl rfl rfl lk_RX7_68 hv_X7_pairs rfl rfl h (fun v1 w2 h => ?_)
  refine jj_icmp_ge (pc := 14) (tgt := 119) dX7_crossing_14 (by decide) (fun c3 => ?_) (fun c3 => ?_)
  · replace h := h.1 c3
    refine jj_iload (pc := 119) dX7_crossing_119 4 rfl ?_
    exact jj_iret (pc := 121) dX7_crossing_121 rfl h
  · replace h := h.2 c3
    refine jj_iload (pc := 17) dX7_crossing_17 5 rfl ?_
    refine jj_iconst (pc := 19) (v := 1) dX7_crossing_19 (by decide) ?_
    refine jj_iadd (pc := 20) dX7_crossing_20 ?_
    refine jj_nmi (fun x4 ex4 => ?_)
    replace h := h x4 ex4
    refine jj_istore (pc := 21) (l2 := [(6, .int x4), (0, .ref 58), (1, .int a1), (2, .int a2), (3, .int a3), (4, .int a4), (5, .int a5)]) dX7_crossing_21 (by decide) rfl ?_
    exact jj_sub [1, 2, 3, 4, 5, 6, 0] rfl h
set_option maxRecDepth 100000 in
set_option maxHeartbeats 4000000 in
theorem vc_X7_crossing_23 {K : jj_K} (R : Int32 → wo_T → Prop)  (a1 : Int32) (a2 : Int32) (a3 : Int32) (a4 : Int32) (a5 : Int32) (a6 : Int32) (w : wo_T)
    (h : jj_Ci K mX7_pairs [.ref 58] w (fun v1 w2 => (v1 ≤ a6 → jj_J K mX7_crossing (jj_Ri R) 8 [(0, .ref 58), (1, .int a1), (2, .int a2), (3, .int a3), (4, .int a4), (5, .int (a5 + 1))] [] w2) ∧ (¬ v1 ≤ a6 → (¬ ((a2 >>> (a5 &&& 31)) &&& 1) = 1 → ∀ x7 : Int32, x7 = a3 - 0 → (jj_J K mX7_crossing (jj_Ri R) 23 [(0, .ref 58), (1, .int a1), (2, .int a2), (3, .int x7), (4, .int a4), (5, .int a5), (6, .int (a6 + 1))] [] w2)) ∧ (((a2 >>> (a5 &&& 31)) &&& 1) = 1 → (¬ ((a2 >>> (a6 &&& 31)) &&& 1) = 1 → ∀ x11 : Int32, x11 = a3 - 0 → (jj_J K mX7_crossing (jj_Ri R) 23 [(0, .ref 58), (1, .int a1), (2, .int a2), (3, .int x11), (4, .int a4), (5, .int a5), (6, .int (a6 + 1))] [] w2)) ∧ (((a2 >>> (a6 &&& 31)) &&& 1) = 1 → jj_Ci K mX7_isCross [.ref 58, .int a5, .int a6] w2 (fun v12 w13 => (v12 = 0 → ∀ x17 : Int32, x17 = a3 - 0 → (jj_J K mX7_crossing (jj_Ri R) 23 [(0, .ref 58), (1, .int a1), (2, .int a2), (3, .int x17), (4, .int a4), (5, .int a5), (6, .int (a6 + 1))] [] w13)) ∧ (¬ v12 = 0 → (¬ a3 = 0 → ∀ x21 : Int32, x21 = a3 - 1 → (jj_J K mX7_crossing (jj_Ri R) 23 [(0, .ref 58), (1, .int a1), (2, .int a2), (3, .int x21), (4, .int a4), (5, .int a5), (6, .int (a6 + 1))] [] w13)) ∧ (a3 = 0 → ∀ x22 : Int32, x22 = (16 * a5) + a6 → ∀ x24 : Int32, x24 = a3 - 1 → (jj_J K mX7_crossing (jj_Ri R) 23 [(0, .ref 58), (1, .int a1), (2, .int a2), (3, .int x24), (4, .int x22), (5, .int a5), (6, .int (a6 + 1))] [] w13))))))))) :
    jj_J K mX7_crossing (jj_Ri R) 23 [(0, .ref 58), (1, .int a1), (2, .int a2), (3, .int a3), (4, .int a4), (5, .int a5), (6, .int a6)] [] w := by
  refine jj_iload (pc := 23) dX7_crossing_23 6 rfl ?_
  refine jj_aload_n (pc := 25) dX7_crossing_25 0 rfl ?_
  refine jj_callVi (pc := 26) (N := mX7_pairs) (as := []) (st := [.int a6]) dX7_crossing_26 rfl rfl rfl lk_RX7_68 hv_X7_pairs rfl rfl h (fun v1 w2 h => ?_)
  refine jj_icmp_ge (pc := 29) (tgt := 113) dX7_crossing_29 (by decide) (fun c3 => ?_) (fun c3 => ?_)
  · replace h := h.1 c3
    refine jj_iinc (pc := 113) (v := a5 + 1) (l2 := [(5, .int (a5 + 1)), (0, .ref 58), (1, .int a1), (2, .int a2), (3, .int a3), (4, .int a4), (6, .int a6)]) dX7_crossing_113 5 rfl rfl (by decide) rfl ?_
    refine jj_goto (pc := 116) (tgt := 8) dX7_crossing_116 (by decide) ?_
    exact jj_sub [1, 2, 3, 4, 5, 0] rfl h
  · replace h := h.2 c3
    refine jj_iload_n (pc := 32) dX7_crossing_32 2 rfl ?_
    refine jj_iload (pc := 33) dX7_crossing_33 5 rfl ?_
    refine jj_ishr (pc := 35) dX7_crossing_35 ?_
    refine jj_iconst (pc := 36) (v := 1) dX7_crossing_36 (by decide) ?_
    refine jj_iand (pc := 37) dX7_crossing_37 ?_
    refine jj_iconst (pc := 38) (v := 1) dX7_crossing_38 (by decide) ?_
    refine jj_icmp_ne (pc := 39) (tgt := 67) dX7_crossing_39 (by decide) (fun c4 => ?_) (fun c4 => ?_)
    · replace h := h.1 c4
      refine jj_iconst (pc := 67) (v := 0) dX7_crossing_67 (by decide) ?_
      refine jj_istore (pc := 68) (l2 := [(7, .int 0), (0, .ref 58), (1, .int a1), (2, .int a2), (3, .int a3), (4, .int a4), (5, .int a5), (6, .int a6)]) dX7_crossing_68 (by decide) rfl ?_
      refine jj_iload (pc := 70) dX7_crossing_70 0 rfl ?_
      refine jj_if_eq (pc := 72) (tgt := 90) dX7_crossing_72 (by decide) (fun _ => ?_) (fun z => absurd z (by decide))
      refine jj_iload (pc := 90) dX7_crossing_90 5 rfl ?_
      refine jj_istore (pc := 92) (l2 := [(4, .int a4), (7, .int 0), (0, .ref 58), (1, .int a1), (2, .int a2), (3, .int a3), (5, .int a5), (6, .int a6)]) dX7_crossing_92 (by decide) rfl ?_
      refine jj_iload_n (pc := 94) dX7_crossing_94 5 rfl ?_
      refine jj_iload (pc := 95) dX7_crossing_95 1 rfl ?_
      refine jj_if_eq (pc := 97) (tgt := 104) dX7_crossing_97 (by decide) (fun _ => ?_) (fun z => absurd z (by decide))
      refine jj_iconst (pc := 104) (v := 0) dX7_crossing_104 (by decide) ?_
      refine jj_isub (pc := 105) dX7_crossing_105 ?_
      refine jj_nmi (fun x7 ex7 => ?_)
      replace h := h x7 ex7
      refine jj_istore_n (pc := 106) (l2 := [(3, .int x7), (4, .int a4), (7, .int 0), (0, .ref 58), (1, .int a1), (2, .int a2), (5, .int a5), (6, .int a6)]) dX7_crossing_106 (by decide) rfl ?_
      refine jj_iinc (pc := 107) (v := a6 + 1) (l2 := [(6, .int (a6 + 1)), (3, .int x7), (4, .int a4), (7, .int 0), (0, .ref 58), (1, .int a1), (2, .int a2), (5, .int a5)]) dX7_crossing_107 7 rfl rfl (by decide) rfl ?_
      refine jj_goto (pc := 110) (tgt := 23) dX7_crossing_110 (by decide) ?_
      exact jj_sub [4, 5, 6, 1, 2, 7, 0] rfl h
    · replace h := h.2 c4
      refine jj_iload_n (pc := 42) dX7_crossing_42 2 rfl ?_
      refine jj_iload (pc := 43) dX7_crossing_43 6 rfl ?_
      refine jj_ishr (pc := 45) dX7_crossing_45 ?_
      refine jj_iconst (pc := 46) (v := 1) dX7_crossing_46 (by decide) ?_
      refine jj_iand (pc := 47) dX7_crossing_47 ?_
      refine jj_iconst (pc := 48) (v := 1) dX7_crossing_48 (by decide) ?_
      refine jj_icmp_ne (pc := 49) (tgt := 67) dX7_crossing_49 (by decide) (fun c8 => ?_) (fun c8 => ?_)
      · replace h := h.1 c8
        refine jj_iconst (pc := 67) (v := 0) dX7_crossing_67 (by decide) ?_
        refine jj_istore (pc := 68) (l2 := [(7, .int 0), (0, .ref 58), (1, .int a1), (2, .int a2), (3, .int a3), (4, .int a4), (5, .int a5), (6, .int a6)]) dX7_crossing_68 (by decide) rfl ?_
        refine jj_iload (pc := 70) dX7_crossing_70 0 rfl ?_
        refine jj_if_eq (pc := 72) (tgt := 90) dX7_crossing_72 (by decide) (fun _ => ?_) (fun z => absurd z (by decide))
        refine jj_iload (pc := 90) dX7_crossing_90 5 rfl ?_
        refine jj_istore (pc := 92) (l2 := [(4, .int a4), (7, .int 0), (0, .ref 58), (1, .int a1), (2, .int a2), (3, .int a3), (5, .int a5), (6, .int a6)]) dX7_crossing_92 (by decide) rfl ?_
        refine jj_iload_n (pc := 94) dX7_crossing_94 5 rfl ?_
        refine jj_iload (pc := 95) dX7_crossing_95 1 rfl ?_
        refine jj_if_eq (pc := 97) (tgt := 104) dX7_crossing_97 (by decide) (fun _ => ?_) (fun z => absurd z (by decide))
        refine jj_iconst (pc := 104) (v := 0) dX7_crossing_104 (by decide) ?_
        refine jj_isub (pc := 105) dX7_crossing_105 ?_
        refine jj_nmi (fun x11 ex11 => ?_)
        replace h := h x11 ex11
        refine jj_istore_n (pc := 106) (l2 := [(3, .int x11), (4, .int a4), (7, .int 0), (0, .ref 58), (1, .int a1), (2, .int a2), (5, .int a5), (6, .int a6)]) dX7_crossing_106 (by decide) rfl ?_
        refine jj_iinc (pc := 107) (v := a6 + 1) (l2 := [(6, .int (a6 + 1)), (3, .int x11), (4, .int a4), (7, .int 0), (0, .ref 58), (1, .int a1), (2, .int a2), (5, .int a5)]) dX7_crossing_107 7 rfl rfl (by decide) rfl ?_
        refine jj_goto (pc := 110) (tgt := 23) dX7_crossing_110 (by decide) ?_
        exact jj_sub [4, 5, 6, 1, 2, 7, 0] rfl h
      · replace h := h.2 c8
        refine jj_aload_n (pc := 52) dX7_crossing_52 0 rfl ?_
        refine jj_iload (pc := 53) dX7_crossing_53 5 rfl ?_
        refine jj_iload (pc := 55) dX7_crossing_55 6 rfl ?_
        refine jj_callVi (pc := 57) (N := mX7_isCross) (as := [.int a5, .int a6]) (st := []) dX7_crossing_57 rfl rfl rfl lk_RX7_219 hv_X7_isCross rfl rfl h (fun v12 w13 h => ?_)
        refine jj_if_eq (pc := 60) (tgt := 67) dX7_crossing_60 (by decide) (fun c14 => ?_) (fun c14 => ?_)
        · replace h := h.1 c14
          refine jj_iconst (pc := 67) (v := 0) dX7_crossing_67 (by decide) ?_
          refine jj_istore (pc := 68) (l2 := [(7, .int 0), (0, .ref 58), (1, .int a1), (2, .int a2), (3, .int a3), (4, .int a4), (5, .int a5), (6, .int a6)]) dX7_crossing_68 (by decide) rfl ?_
          refine jj_iload (pc := 70) dX7_crossing_70 0 rfl ?_
          refine jj_if_eq (pc := 72) (tgt := 90) dX7_crossing_72 (by decide) (fun _ => ?_) (fun z => absurd z (by decide))
          refine jj_iload (pc := 90) dX7_crossing_90 5 rfl ?_
          refine jj_istore (pc := 92) (l2 := [(4, .int a4), (7, .int 0), (0, .ref 58), (1, .int a1), (2, .int a2), (3, .int a3), (5, .int a5), (6, .int a6)]) dX7_crossing_92 (by decide) rfl ?_
          refine jj_iload_n (pc := 94) dX7_crossing_94 5 rfl ?_
          refine jj_iload (pc := 95) dX7_crossing_95 1 rfl ?_
          refine jj_if_eq (pc := 97) (tgt := 104) dX7_crossing_97 (by decide) (fun _ => ?_) (fun z => absurd z (by decide))
          refine jj_iconst (pc := 104) (v := 0) dX7_crossing_104 (by decide) ?_
          refine jj_isub (pc := 105) dX7_crossing_105 ?_
          refine jj_nmi (fun x17 ex17 => ?_)
          replace h := h x17 ex17
          refine jj_istore_n (pc := 106) (l2 := [(3, .int x17), (4, .int a4), (7, .int 0), (0, .ref 58), (1, .int a1), (2, .int a2), (5, .int a5), (6, .int a6)]) dX7_crossing_106 (by decide) rfl ?_
          refine jj_iinc (pc := 107) (v := a6 + 1) (l2 := [(6, .int (a6 + 1)), (3, .int x17), (4, .int a4), (7, .int 0), (0, .ref 58), (1, .int a1), (2, .int a2), (5, .int a5)]) dX7_crossing_107 7 rfl rfl (by decide) rfl ?_
          refine jj_goto (pc := 110) (tgt := 23) dX7_crossing_110 (by decide) ?_
          exact jj_sub [4, 5, 6, 1, 2, 7, 0] rfl h
        · replace h := h.2 c14
          refine jj_iconst (pc := 63) (v := 1) dX7_crossing_63 (by decide) ?_
          refine jj_goto (pc := 64) (tgt := 68) dX7_crossing_64 (by decide) ?_
          refine jj_istore (pc := 68) (l2 := [(7, .int 1), (0, .ref 58), (1, .int a1), (2, .int a2), (3, .int a3), (4, .int a4), (5, .int a5), (6, .int a6)]) dX7_crossing_68 (by decide) rfl ?_
          refine jj_iload (pc := 70) dX7_crossing_70 0 rfl ?_
          refine jj_if_eq (pc := 72) (tgt := 90) dX7_crossing_72 (by decide) (fun z => absurd z (by decide)) (fun _ => ?_)
          refine jj_iload_n (pc := 75) dX7_crossing_75 4 rfl ?_
          refine jj_if_ne (pc := 76) (tgt := 90) dX7_crossing_76 (by decide) (fun c19 => ?_) (fun c19 => ?_)
          · replace h := h.1 c19
            refine jj_iload (pc := 90) dX7_crossing_90 5 rfl ?_
            refine jj_istore (pc := 92) (l2 := [(4, .int a4), (7, .int 1), (0, .ref 58), (1, .int a1), (2, .int a2), (3, .int a3), (5, .int a5), (6, .int a6)]) dX7_crossing_92 (by decide) rfl ?_
            refine jj_iload_n (pc := 94) dX7_crossing_94 5 rfl ?_
            refine jj_iload (pc := 95) dX7_crossing_95 1 rfl ?_
            refine jj_if_eq (pc := 97) (tgt := 104) dX7_crossing_97 (by decide) (fun z => absurd z (by decide)) (fun _ => ?_)
            refine jj_iconst (pc := 100) (v := 1) dX7_crossing_100 (by decide) ?_
            refine jj_goto (pc := 101) (tgt := 105) dX7_crossing_101 (by decide) ?_
            refine jj_isub (pc := 105) dX7_crossing_105 ?_
            refine jj_nmi (fun x21 ex21 => ?_)
            replace h := h x21 ex21
            refine jj_istore_n (pc := 106) (l2 := [(3, .int x21), (4, .int a4), (7, .int 1), (0, .ref 58), (1, .int a1), (2, .int a2), (5, .int a5), (6, .int a6)]) dX7_crossing_106 (by decide) rfl ?_
            refine jj_iinc (pc := 107) (v := a6 + 1) (l2 := [(6, .int (a6 + 1)), (3, .int x21), (4, .int a4), (7, .int 1), (0, .ref 58), (1, .int a1), (2, .int a2), (5, .int a5)]) dX7_crossing_107 7 rfl rfl (by decide) rfl ?_
            refine jj_goto (pc := 110) (tgt := 23) dX7_crossing_110 (by decide) ?_
            exact jj_sub [4, 5, 6, 1, 2, 7, 0] rfl h
          · replace h := h.2 c19
            refine jj_bipush (pc := 79) (v := 16) dX7_crossing_79 (by decide) ?_
            refine jj_iload (pc := 81) dX7_crossing_81 6 rfl ?_
            refine jj_imul (pc := 83) dX7_crossing_83 ?_
            refine jj_iload (pc := 84) dX7_crossing_84 7 rfl ?_
            refine jj_iadd (pc := 86) dX7_crossing_86 ?_
            refine jj_goto (pc := 87) (tgt := 92) dX7_crossing_87 (by decide) ?_
            refine jj_nmi (fun x22 ex22 => ?_)
            replace h := h x22 ex22
            refine jj_istore (pc := 92) (l2 := [(4, .int x22), (7, .int 1), (0, .ref 58), (1, .int a1), (2, .int a2), (3, .int a3), (5, .int a5), (6, .int a6)]) dX7_crossing_92 (by decide) rfl ?_
            refine jj_iload_n (pc := 94) dX7_crossing_94 5 rfl ?_
            refine jj_iload (pc := 95) dX7_crossing_95 1 rfl ?_
            refine jj_if_eq (pc := 97) (tgt := 104) dX7_crossing_97 (by decide) (fun z => absurd z (by decide)) (fun _ => ?_)
            refine jj_iconst (pc := 100) (v := 1) dX7_crossing_100 (by decide) ?_
            refine jj_goto (pc := 101) (tgt := 105) dX7_crossing_101 (by decide) ?_
            refine jj_isub (pc := 105) dX7_crossing_105 ?_
            refine jj_nmi (fun x24 ex24 => ?_)
            replace h := h x24 ex24
            refine jj_istore_n (pc := 106) (l2 := [(3, .int x24), (4, .int x22), (7, .int 1), (0, .ref 58), (1, .int a1), (2, .int a2), (5, .int a5), (6, .int a6)]) dX7_crossing_106 (by decide) rfl ?_
            refine jj_iinc (pc := 107) (v := a6 + 1) (l2 := [(6, .int (a6 + 1)), (3, .int x24), (4, .int x22), (7, .int 1), (0, .ref 58), (1, .int a1), (2, .int a2), (5, .int a5)]) dX7_crossing_107 7 rfl rfl (by decide) rfl ?_
            refine jj_goto (pc := 110) (tgt := 23) dX7_crossing_110 (by decide) ?_
            exact jj_sub [4, 5, 6, 1, 2, 7, 0] rfl h
set_option maxRecDepth 100000 in
set_option maxHeartbeats 4000000 in
theorem vc_X7_crossings_0 {K : jj_K} (R : Int32 → wo_T → Prop)   (w : wo_T)
    (h : jj_Ci K mX7_bestOf [.ref 58, .int (w.1 58 6)] w (fun v1 w2 => jj_J K mX7_crossings (jj_Ri R) 11 [(0, .ref 58), (1, .int v1), (2, .int 0)] [] w2)) :
    jj_J K mX7_crossings (jj_Ri R) 0 [(0, .ref 58)] [] w := by
  refine jj_aload_n (pc := 0) dX7_crossings_0 0 rfl ?_
  refine jj_aload_n (pc := 1) dX7_crossings_1 0 rfl ?_
  refine jj_getI (pc := 2) (ci := 7) (k := 6) dX7_crossings_2 rfl rfl (by decide) rfl lk_RX7_76 ?_
  refine jj_callVi (pc := 5) (N := mX7_bestOf) (as := [.int (w.1 58 6)]) (st := []) dX7_crossings_5 rfl rfl rfl lk_RX7_157 hv_X7_bestOf rfl rfl h (fun v1 w2 h => ?_)
  refine jj_istore_n (pc := 8) (l2 := [(1, .int v1), (0, .ref 58)]) dX7_crossings_8 (by decide) rfl ?_
  refine jj_iconst (pc := 9) (v := 0) dX7_crossings_9 (by decide) ?_
  refine jj_istore_n (pc := 10) (l2 := [(2, .int 0), (1, .int v1), (0, .ref 58)]) dX7_crossings_10 (by decide) rfl ?_
  exact jj_sub [2, 1, 0] rfl h
theorem en_X7_crossings {K : jj_K} (R : Int32 → wo_T → Prop)   (w : wo_T)
    (h : jj_Ci K mX7_bestOf [.ref 58, .int (w.1 58 6)] w (fun v1 w2 => jj_J K mX7_crossings (jj_Ri R) 11 [(0, .ref 58), (1, .int v1), (2, .int 0)] [] w2)) : jj_Ci K mX7_crossings [.ref 58] w R :=
  jj_Ci_intro pn_RX7 (Nat.le_of_ble_eq_true rfl) (vc_X7_crossings_0 R  w h)
set_option maxRecDepth 100000 in
set_option maxHeartbeats 4000000 in
theorem vc_X7_crossings_11 {K : jj_K} (R : Int32 → wo_T → Prop)  (a1 : Int32) (a2 : Int32) (w : wo_T)
    (h : (a1 = (-1) → (¬ a1 = (-1) → R a2 w) ∧ (a1 = (-1) → R (-1) w)) ∧ (¬ a1 = (-1) → jj_Ci K mX7_crossing [.ref 58, .int a2, .int a1] w (fun v3 w4 => (v3 = (-1) → (¬ a1 = (-1) → R a2 w4) ∧ (a1 = (-1) → R (-1) w4)) ∧ (¬ v3 = (-1) → jj_J K mX7_crossings (jj_Ri R) 11 [(0, .ref 58), (1, .int a1), (2, .int (a2 + 1))] [] w4)))) :
    jj_J K mX7_crossings (jj_Ri R) 11 [(0, .ref 58), (1, .int a1), (2, .int a2)] [] w := by
  refine jj_iload_n (pc := 11) dX7_crossings_11 1 rfl ?_
  refine jj_iconst (pc := 12) (v := (-1)) dX7_crossings_12 (by decide) ?_
  refine jj_icmp_eq (pc := 13) (tgt := 32) dX7_crossings_13 (by decide) (fun c1 => ?_) (fun c1 => ?_)
  · replace h := h.1 c1
    refine jj_iload_n (pc := 32) dX7_crossings_32 1 rfl ?_
    refine jj_iconst (pc := 33) (v := (-1)) dX7_crossings_33 (by decide) ?_
    refine jj_icmp_ne (pc := 34) (tgt := 41) dX7_crossings_34 (by decide) (fun c2 => ?_) (fun c2 => ?_)
    · replace h := h.1 c2
      refine jj_iload_n (pc := 41) dX7_crossings_41 2 rfl ?_
      exact jj_iret (pc := 42) dX7_crossings_42 rfl h
    · replace h := h.2 c2
      refine jj_iconst (pc := 37) (v := (-1)) dX7_crossings_37 (by decide) ?_
      refine jj_goto (pc := 38) (tgt := 42) dX7_crossings_38 (by decide) ?_
      exact jj_iret (pc := 42) dX7_crossings_42 rfl h
  · replace h := h.2 c1
    refine jj_aload_n (pc := 16) dX7_crossings_16 0 rfl ?_
    refine jj_iload_n (pc := 17) dX7_crossings_17 2 rfl ?_
    refine jj_iload_n (pc := 18) dX7_crossings_18 1 rfl ?_
    refine jj_callVi (pc := 19) (N := mX7_crossing) (as := [.int a2, .int a1]) (st := []) dX7_crossings_19 rfl rfl rfl lk_RX7_222 hv_X7_crossing rfl rfl h (fun v3 w4 h => ?_)
    refine jj_iconst (pc := 22) (v := (-1)) dX7_crossings_22 (by decide) ?_
    refine jj_icmp_eq (pc := 23) (tgt := 32) dX7_crossings_23 (by decide) (fun c5 => ?_) (fun c5 => ?_)
    · replace h := h.1 c5
      refine jj_iload_n (pc := 32) dX7_crossings_32 1 rfl ?_
      refine jj_iconst (pc := 33) (v := (-1)) dX7_crossings_33 (by decide) ?_
      refine jj_icmp_ne (pc := 34) (tgt := 41) dX7_crossings_34 (by decide) (fun c6 => ?_) (fun c6 => ?_)
      · replace h := h.1 c6
        refine jj_iload_n (pc := 41) dX7_crossings_41 2 rfl ?_
        exact jj_iret (pc := 42) dX7_crossings_42 rfl h
      · replace h := h.2 c6
        refine jj_iconst (pc := 37) (v := (-1)) dX7_crossings_37 (by decide) ?_
        refine jj_goto (pc := 38) (tgt := 42) dX7_crossings_38 (by decide) ?_
        exact jj_iret (pc := 42) dX7_crossings_42 rfl h
    · replace h := h.2 c5
      refine jj_iinc (pc := 26) (v := a2 + 1) (l2 := [(2, .int (a2 + 1)), (0, .ref 58), (1, .int a1)]) dX7_crossings_26 2 rfl rfl (by decide) rfl ?_
      refine jj_goto (pc := 29) (tgt := 11) dX7_crossings_29 (by decide) ?_
      exact jj_sub [1, 2, 0] rfl h
set_option maxRecDepth 100000 in
set_option maxHeartbeats 4000000 in
theorem vc_X7_crossOf_0 {K : jj_K} (R : Int32 → wo_T → Prop)  (a1 : Int32) (a2 : Int32) (w : wo_T)
    (h : jj_Ci K mX7_bestOf [.ref 58, .int (w.1 58 6)] w (fun v1 w2 => jj_Ci K mX7_crossing [.ref 58, .int a1, .int v1] w2 (fun v3 w4 => (¬ v3 = (-1) → ∀ x6 : Int32, x6 = v3 / 16 → ∀ x7 : Int32, x7 = v3 - v3 / 16 * 16 → (jj_Ci K mX7_isCross [.ref 58, .int x6, .int x7] w4 (fun v8 w9 => (2 ≤ a2 → (4 ≤ a2 → jj_Ci K mX7_lesser [.int x6] w9 (fun v12 w13 => vp_in v12 5 ∧ (∀ x14 : Int32, x14 = w13.1 60 v12.toNatClampNeg → ((4 ≤ a2 → jj_Ci K mX7_far [.ref 58, .int x6, .int 1] w13 (fun v16 w17 => jj_Cl K mX7_partOf [.long (((x14 * (w13.1 58 16)) + ((w13.1 58 14) * v16)).toInt64), .long ((w17.1 58 16).toInt64), .int (a2 - a2 / 2 * 2)] w17 (fun v18 w19 => R v18.toInt32 w19))) ∧ (¬ 4 ≤ a2 → jj_Ci K mX7_far [.ref 58, .int x6, .int 0] w13 (fun v20 w21 => jj_Cl K mX7_partOf [.long (((x14 * (w13.1 58 16)) + ((w13.1 58 14) * v20)).toInt64), .long ((w21.1 58 16).toInt64), .int (a2 - a2 / 2 * 2)] w21 (fun v22 w23 => R v22.toInt32 w23))))))) ∧ (¬ 4 ≤ a2 → jj_Ci K mX7_lesser [.int x6] w9 (fun v24 w25 => vp_in v24 5 ∧ (∀ x26 : Int32, x26 = w25.1 59 v24.toNatClampNeg → ((4 ≤ a2 → jj_Ci K mX7_far [.ref 58, .int x6, .int 1] w25 (fun v28 w29 => jj_Cl K mX7_partOf [.long (((x26 * (w25.1 58 16)) + ((w25.1 58 14) * v28)).toInt64), .long ((w29.1 58 16).toInt64), .int (a2 - a2 / 2 * 2)] w29 (fun v30 w31 => R v30.toInt32 w31))) ∧ (¬ 4 ≤ a2 → jj_Ci K mX7_far [.ref 58, .int x6, .int 0] w25 (fun v32 w33 => jj_Cl K mX7_partOf [.long (((x26 * (w25.1 58 16)) + ((w25.1 58 14) * v32)).toInt64), .long ((w33.1 58 16).toInt64), .int (a2 - a2 / 2 * 2)] w33 (fun v34 w35 => R v34.toInt32 w35)))))))) ∧ (¬ 2 ≤ a2 → (¬ a2 = 0 → R x7 w9) ∧ (a2 = 0 → R x6 w9))))) ∧ (v3 = (-1) → R (-2) w4)))) :
    jj_J K mX7_crossOf (jj_Ri R) 0 [(0, .ref 58), (1, .int a1), (2, .int a2)] [] w := by
  refine jj_aload_n (pc := 0) dX7_crossOf_0 0 rfl ?_
  refine jj_iload_n (pc := 1) dX7_crossOf_1 1 rfl ?_
  refine jj_aload_n (pc := 2) dX7_crossOf_2 0 rfl ?_
  refine jj_aload_n (pc := 3) dX7_crossOf_3 0 rfl ?_
  refine jj_getI (pc := 4) (ci := 7) (k := 6) dX7_crossOf_4 rfl rfl (by decide) rfl lk_RX7_76 ?_
  refine jj_callVi (pc := 7) (N := mX7_bestOf) (as := [.int (w.1 58 6)]) (st := [.int a1, .ref 58]) dX7_crossOf_7 rfl rfl rfl lk_RX7_157 hv_X7_bestOf rfl rfl h (fun v1 w2 h => ?_)
  refine jj_callVi (pc := 10) (N := mX7_crossing) (as := [.int a1, .int v1]) (st := []) dX7_crossOf_10 rfl rfl rfl lk_RX7_222 hv_X7_crossing rfl rfl h (fun v3 w4 h => ?_)
  refine jj_istore_n (pc := 13) (l2 := [(3, .int v3), (0, .ref 58), (1, .int a1), (2, .int a2)]) dX7_crossOf_13 (by decide) rfl ?_
  refine jj_iload_n (pc := 14) dX7_crossOf_14 0 rfl ?_
  refine jj_iconst (pc := 15) (v := (-1)) dX7_crossOf_15 (by decide) ?_
  refine jj_icmp_ne (pc := 16) (tgt := 22) dX7_crossOf_16 (by decide) (fun c5 => ?_) (fun c5 => ?_)
  · replace h := h.1 c5
    refine jj_iload_n (pc := 22) dX7_crossOf_22 0 rfl ?_
    refine jj_bipush (pc := 23) (v := 16) dX7_crossOf_23 (by decide) ?_
    refine jj_idiv (pc := 25) dX7_crossOf_25 (by decide) ?_
    refine jj_nmi (fun x6 ex6 => ?_)
    replace h := h x6 ex6
    refine jj_istore (pc := 26) (l2 := [(4, .int x6), (3, .int v3), (0, .ref 58), (1, .int a1), (2, .int a2)]) dX7_crossOf_26 (by decide) rfl ?_
    refine jj_iload_n (pc := 28) dX7_crossOf_28 1 rfl ?_
    refine jj_bipush (pc := 29) (v := 16) dX7_crossOf_29 (by decide) ?_
    refine jj_irem (pc := 31) dX7_crossOf_31 (by decide) ?_
    refine jj_nmi (fun x7 ex7 => ?_)
    replace h := h x7 ex7
    refine jj_istore (pc := 32) (l2 := [(5, .int x7), (4, .int x6), (3, .int v3), (0, .ref 58), (1, .int a1), (2, .int a2)]) dX7_crossOf_32 (by decide) rfl ?_
    refine jj_aload_n (pc := 34) dX7_crossOf_34 3 rfl ?_
    refine jj_iload (pc := 35) dX7_crossOf_35 1 rfl ?_
    refine jj_iload (pc := 37) dX7_crossOf_37 0 rfl ?_
    refine jj_callVi (pc := 39) (N := mX7_isCross) (as := [.int x6, .int x7]) (st := []) dX7_crossOf_39 rfl rfl rfl lk_RX7_219 hv_X7_isCross rfl rfl h (fun v8 w9 h => ?_)
    refine jj_pop (pc := 42) dX7_crossOf_42 rfl ?_
    refine jj_iload_n (pc := 43) dX7_crossOf_43 5 rfl ?_
    refine jj_iconst (pc := 44) (v := 2) dX7_crossOf_44 (by decide) ?_
    refine jj_icmp_ge (pc := 45) (tgt := 60) dX7_crossOf_45 (by decide) (fun c10 => ?_) (fun c10 => ?_)
    · replace h := h.1 c10
      refine jj_iload_n (pc := 60) dX7_crossOf_60 5 rfl ?_
      refine jj_iconst (pc := 61) (v := 4) dX7_crossOf_61 (by decide) ?_
      refine jj_icmp_ge (pc := 62) (tgt := 78) dX7_crossOf_62 (by decide) (fun c11 => ?_) (fun c11 => ?_)
      · replace h := h.1 c11
        refine jj_aload_n (pc := 78) dX7_crossOf_78 3 rfl ?_
        refine jj_getR (pc := 79) (ci := 7) (k := 1) dX7_crossOf_79 rfl rfl (by decide) rfl lk_RX7_13 ?_
        refine jj_iload (pc := 82) dX7_crossOf_82 1 rfl ?_
        refine jj_callSi (pc := 84) (N := mX7_lesser) (as := [.int x6]) (st := [.ref 60]) dX7_crossOf_84 lk_RX7_83 hv_X7_lesser rfl rfl h (fun v12 w13 h => ?_)
        refine jj_iald (pc := 87) dX7_crossOf_87 rfl h.1 ?_
        replace h := h.2
        refine jj_nmi (fun x14 ex14 => ?_)
        replace h := h x14 ex14
        refine jj_istore (pc := 88) (l2 := [(6, .int x14), (5, .int x7), (4, .int x6), (3, .int v3), (0, .ref 58), (1, .int a1), (2, .int a2)]) dX7_crossOf_88 (by decide) rfl ?_
        refine jj_iload (pc := 90) dX7_crossOf_90 0 rfl ?_
        refine jj_aload_n (pc := 92) dX7_crossOf_92 4 rfl ?_
        refine jj_getI (pc := 93) (ci := 7) (k := 16) dX7_crossOf_93 rfl rfl (by decide) rfl lk_RX7_210 ?_
        refine jj_imul (pc := 96) dX7_crossOf_96 ?_
        refine jj_aload_n (pc := 97) dX7_crossOf_97 4 rfl ?_
        refine jj_getI (pc := 98) (ci := 7) (k := 14) dX7_crossOf_98 rfl rfl (by decide) rfl lk_RX7_213 ?_
        refine jj_aload_n (pc := 101) dX7_crossOf_101 4 rfl ?_
        refine jj_iload (pc := 102) dX7_crossOf_102 2 rfl ?_
        refine jj_iload_n (pc := 104) dX7_crossOf_104 6 rfl ?_
        refine jj_iconst (pc := 105) (v := 4) dX7_crossOf_105 (by decide) ?_
        refine jj_icmp_ge (pc := 106) (tgt := 113) dX7_crossOf_106 (by decide) (fun c15 => ?_) (fun c15 => ?_)
        · replace h := h.1 c15
          refine jj_iconst (pc := 113) (v := 1) dX7_crossOf_113 (by decide) ?_
          refine jj_callVi (pc := 114) (N := mX7_far) (as := [.int x6, .int 1]) (st := [.int (w13.1 58 14), .int (x14 * (w13.1 58 16))]) dX7_crossOf_114 rfl rfl rfl lk_RX7_86 hv_X7_far rfl rfl h (fun v16 w17 h => ?_)
          refine jj_imul (pc := 117) dX7_crossOf_117 ?_
          refine jj_iadd (pc := 118) dX7_crossOf_118 ?_
          refine jj_i2l (pc := 119) dX7_crossOf_119 ?_
          refine jj_aload_n (pc := 120) dX7_crossOf_120 4 rfl ?_
          refine jj_getI (pc := 121) (ci := 7) (k := 16) dX7_crossOf_121 rfl rfl (by decide) rfl lk_RX7_210 ?_
          refine jj_i2l (pc := 124) dX7_crossOf_124 ?_
          refine jj_iload_n (pc := 125) dX7_crossOf_125 6 rfl ?_
          refine jj_iconst (pc := 126) (v := 2) dX7_crossOf_126 (by decide) ?_
          refine jj_irem (pc := 127) dX7_crossOf_127 (by decide) ?_
          refine jj_callSl (pc := 128) (N := mX7_partOf) (as := [.long (((x14 * (w13.1 58 16)) + ((w13.1 58 14) * v16)).toInt64), .long ((w17.1 58 16).toInt64), .int (a2 - a2 / 2 * 2)]) (st := []) dX7_crossOf_128 lk_RX7_138 hv_X7_partOf rfl rfl h (fun v18 w19 h => ?_)
          refine jj_l2i (pc := 131) dX7_crossOf_131 ?_
          exact jj_iret (pc := 132) dX7_crossOf_132 rfl h
        · replace h := h.2 c15
          refine jj_iconst (pc := 109) (v := 0) dX7_crossOf_109 (by decide) ?_
          refine jj_goto (pc := 110) (tgt := 114) dX7_crossOf_110 (by decide) ?_
          refine jj_callVi (pc := 114) (N := mX7_far) (as := [.int x6, .int 0]) (st := [.int (w13.1 58 14), .int (x14 * (w13.1 58 16))]) dX7_crossOf_114 rfl rfl rfl lk_RX7_86 hv_X7_far rfl rfl h (fun v20 w21 h => ?_)
          refine jj_imul (pc := 117) dX7_crossOf_117 ?_
          refine jj_iadd (pc := 118) dX7_crossOf_118 ?_
          refine jj_i2l (pc := 119) dX7_crossOf_119 ?_
          refine jj_aload_n (pc := 120) dX7_crossOf_120 4 rfl ?_
          refine jj_getI (pc := 121) (ci := 7) (k := 16) dX7_crossOf_121 rfl rfl (by decide) rfl lk_RX7_210 ?_
          refine jj_i2l (pc := 124) dX7_crossOf_124 ?_
          refine jj_iload_n (pc := 125) dX7_crossOf_125 6 rfl ?_
          refine jj_iconst (pc := 126) (v := 2) dX7_crossOf_126 (by decide) ?_
          refine jj_irem (pc := 127) dX7_crossOf_127 (by decide) ?_
          refine jj_callSl (pc := 128) (N := mX7_partOf) (as := [.long (((x14 * (w13.1 58 16)) + ((w13.1 58 14) * v20)).toInt64), .long ((w21.1 58 16).toInt64), .int (a2 - a2 / 2 * 2)]) (st := []) dX7_crossOf_128 lk_RX7_138 hv_X7_partOf rfl rfl h (fun v22 w23 h => ?_)
          refine jj_l2i (pc := 131) dX7_crossOf_131 ?_
          exact jj_iret (pc := 132) dX7_crossOf_132 rfl h
      · replace h := h.2 c11
        refine jj_aload_n (pc := 65) dX7_crossOf_65 3 rfl ?_
        refine jj_getR (pc := 66) (ci := 7) (k := 0) dX7_crossOf_66 rfl rfl (by decide) rfl lk_RX7_7 ?_
        refine jj_iload (pc := 69) dX7_crossOf_69 1 rfl ?_
        refine jj_callSi (pc := 71) (N := mX7_lesser) (as := [.int x6]) (st := [.ref 59]) dX7_crossOf_71 lk_RX7_83 hv_X7_lesser rfl rfl h (fun v24 w25 h => ?_)
        refine jj_iald (pc := 74) dX7_crossOf_74 rfl h.1 ?_
        replace h := h.2
        refine jj_goto (pc := 75) (tgt := 88) dX7_crossOf_75 (by decide) ?_
        refine jj_nmi (fun x26 ex26 => ?_)
        replace h := h x26 ex26
        refine jj_istore (pc := 88) (l2 := [(6, .int x26), (5, .int x7), (4, .int x6), (3, .int v3), (0, .ref 58), (1, .int a1), (2, .int a2)]) dX7_crossOf_88 (by decide) rfl ?_
        refine jj_iload (pc := 90) dX7_crossOf_90 0 rfl ?_
        refine jj_aload_n (pc := 92) dX7_crossOf_92 4 rfl ?_
        refine jj_getI (pc := 93) (ci := 7) (k := 16) dX7_crossOf_93 rfl rfl (by decide) rfl lk_RX7_210 ?_
        refine jj_imul (pc := 96) dX7_crossOf_96 ?_
        refine jj_aload_n (pc := 97) dX7_crossOf_97 4 rfl ?_
        refine jj_getI (pc := 98) (ci := 7) (k := 14) dX7_crossOf_98 rfl rfl (by decide) rfl lk_RX7_213 ?_
        refine jj_aload_n (pc := 101) dX7_crossOf_101 4 rfl ?_
        refine jj_iload (pc := 102) dX7_crossOf_102 2 rfl ?_
        refine jj_iload_n (pc := 104) dX7_crossOf_104 6 rfl ?_
        refine jj_iconst (pc := 105) (v := 4) dX7_crossOf_105 (by decide) ?_
        refine jj_icmp_ge (pc := 106) (tgt := 113) dX7_crossOf_106 (by decide) (fun c27 => ?_) (fun c27 => ?_)
        · replace h := h.1 c27
          refine jj_iconst (pc := 113) (v := 1) dX7_crossOf_113 (by decide) ?_
          refine jj_callVi (pc := 114) (N := mX7_far) (as := [.int x6, .int 1]) (st := [.int (w25.1 58 14), .int (x26 * (w25.1 58 16))]) dX7_crossOf_114 rfl rfl rfl lk_RX7_86 hv_X7_far rfl rfl h (fun v28 w29 h => ?_)
          refine jj_imul (pc := 117) dX7_crossOf_117 ?_
          refine jj_iadd (pc := 118) dX7_crossOf_118 ?_
          refine jj_i2l (pc := 119) dX7_crossOf_119 ?_
          refine jj_aload_n (pc := 120) dX7_crossOf_120 4 rfl ?_
          refine jj_getI (pc := 121) (ci := 7) (k := 16) dX7_crossOf_121 rfl rfl (by decide) rfl lk_RX7_210 ?_
          refine jj_i2l (pc := 124) dX7_crossOf_124 ?_
          refine jj_iload_n (pc := 125) dX7_crossOf_125 6 rfl ?_
          refine jj_iconst (pc := 126) (v := 2) dX7_crossOf_126 (by decide) ?_
          refine jj_irem (pc := 127) dX7_crossOf_127 (by decide) ?_
          refine jj_callSl (pc := 128) (N := mX7_partOf) (as := [.long (((x26 * (w25.1 58 16)) + ((w25.1 58 14) * v28)).toInt64), .long ((w29.1 58 16).toInt64), .int (a2 - a2 / 2 * 2)]) (st := []) dX7_crossOf_128 lk_RX7_138 hv_X7_partOf rfl rfl h (fun v30 w31 h => ?_)
          refine jj_l2i (pc := 131) dX7_crossOf_131 ?_
          exact jj_iret (pc := 132) dX7_crossOf_132 rfl h
        · replace h := h.2 c27
          refine jj_iconst (pc := 109) (v := 0) dX7_crossOf_109 (by decide) ?_
          refine jj_goto (pc := 110) (tgt := 114) dX7_crossOf_110 (by decide) ?_
          refine jj_callVi (pc := 114) (N := mX7_far) (as := [.int x6, .int 0]) (st := [.int (w25.1 58 14), .int (x26 * (w25.1 58 16))]) dX7_crossOf_114 rfl rfl rfl lk_RX7_86 hv_X7_far rfl rfl h (fun v32 w33 h => ?_)
          refine jj_imul (pc := 117) dX7_crossOf_117 ?_
          refine jj_iadd (pc := 118) dX7_crossOf_118 ?_
          refine jj_i2l (pc := 119) dX7_crossOf_119 ?_
          refine jj_aload_n (pc := 120) dX7_crossOf_120 4 rfl ?_
          refine jj_getI (pc := 121) (ci := 7) (k := 16) dX7_crossOf_121 rfl rfl (by decide) rfl lk_RX7_210 ?_
          refine jj_i2l (pc := 124) dX7_crossOf_124 ?_
          refine jj_iload_n (pc := 125) dX7_crossOf_125 6 rfl ?_
          refine jj_iconst (pc := 126) (v := 2) dX7_crossOf_126 (by decide) ?_
          refine jj_irem (pc := 127) dX7_crossOf_127 (by decide) ?_
          refine jj_callSl (pc := 128) (N := mX7_partOf) (as := [.long (((x26 * (w25.1 58 16)) + ((w25.1 58 14) * v32)).toInt64), .long ((w33.1 58 16).toInt64), .int (a2 - a2 / 2 * 2)]) (st := []) dX7_crossOf_128 lk_RX7_138 hv_X7_partOf rfl rfl h (fun v34 w35 h => ?_)
          refine jj_l2i (pc := 131) dX7_crossOf_131 ?_
          exact jj_iret (pc := 132) dX7_crossOf_132 rfl h
    · replace h := h.2 c10
      refine jj_iload_n (pc := 48) dX7_crossOf_48 5 rfl ?_
      refine jj_if_ne (pc := 49) (tgt := 57) dX7_crossOf_49 (by decide) (fun c36 => ?_) (fun c36 => ?_)
      · replace h := h.1 c36
        refine jj_iload (pc := 57) dX7_crossOf_57 0 rfl ?_
        exact jj_iret (pc := 59) dX7_crossOf_59 rfl h
      · replace h := h.2 c36
        refine jj_iload (pc := 52) dX7_crossOf_52 1 rfl ?_
        refine jj_goto (pc := 54) (tgt := 59) dX7_crossOf_54 (by decide) ?_
        exact jj_iret (pc := 59) dX7_crossOf_59 rfl h
  · replace h := h.2 c5
    refine jj_bipush (pc := 19) (v := (-2)) dX7_crossOf_19 (by decide) ?_
    exact jj_iret (pc := 21) dX7_crossOf_21 rfl h
theorem en_X7_crossOf {K : jj_K} (R : Int32 → wo_T → Prop)  (a1 : Int32) (a2 : Int32) (w : wo_T)
    (h : jj_Ci K mX7_bestOf [.ref 58, .int (w.1 58 6)] w (fun v1 w2 => jj_Ci K mX7_crossing [.ref 58, .int a1, .int v1] w2 (fun v3 w4 => (¬ v3 = (-1) → ∀ x6 : Int32, x6 = v3 / 16 → ∀ x7 : Int32, x7 = v3 - v3 / 16 * 16 → (jj_Ci K mX7_isCross [.ref 58, .int x6, .int x7] w4 (fun v8 w9 => (2 ≤ a2 → (4 ≤ a2 → jj_Ci K mX7_lesser [.int x6] w9 (fun v12 w13 => vp_in v12 5 ∧ (∀ x14 : Int32, x14 = w13.1 60 v12.toNatClampNeg → ((4 ≤ a2 → jj_Ci K mX7_far [.ref 58, .int x6, .int 1] w13 (fun v16 w17 => jj_Cl K mX7_partOf [.long (((x14 * (w13.1 58 16)) + ((w13.1 58 14) * v16)).toInt64), .long ((w17.1 58 16).toInt64), .int (a2 - a2 / 2 * 2)] w17 (fun v18 w19 => R v18.toInt32 w19))) ∧ (¬ 4 ≤ a2 → jj_Ci K mX7_far [.ref 58, .int x6, .int 0] w13 (fun v20 w21 => jj_Cl K mX7_partOf [.long (((x14 * (w13.1 58 16)) + ((w13.1 58 14) * v20)).toInt64), .long ((w21.1 58 16).toInt64), .int (a2 - a2 / 2 * 2)] w21 (fun v22 w23 => R v22.toInt32 w23))))))) ∧ (¬ 4 ≤ a2 → jj_Ci K mX7_lesser [.int x6] w9 (fun v24 w25 => vp_in v24 5 ∧ (∀ x26 : Int32, x26 = w25.1 59 v24.toNatClampNeg → ((4 ≤ a2 → jj_Ci K mX7_far [.ref 58, .int x6, .int 1] w25 (fun v28 w29 => jj_Cl K mX7_partOf [.long (((x26 * (w25.1 58 16)) + ((w25.1 58 14) * v28)).toInt64), .long ((w29.1 58 16).toInt64), .int (a2 - a2 / 2 * 2)] w29 (fun v30 w31 => R v30.toInt32 w31))) ∧ (¬ 4 ≤ a2 → jj_Ci K mX7_far [.ref 58, .int x6, .int 0] w25 (fun v32 w33 => jj_Cl K mX7_partOf [.long (((x26 * (w25.1 58 16)) + ((w25.1 58 14) * v32)).toInt64), .long ((w33.1 58 16).toInt64), .int (a2 - a2 / 2 * 2)] w33 (fun v34 w35 => R v34.toInt32 w35)))))))) ∧ (¬ 2 ≤ a2 → (¬ a2 = 0 → R x7 w9) ∧ (a2 = 0 → R x6 w9))))) ∧ (v3 = (-1) → R (-2) w4)))) : jj_Ci K mX7_crossOf [.ref 58, .int a1, .int a2] w R :=
  jj_Ci_intro pn_RX7 (Nat.le_of_ble_eq_true rfl) (vc_X7_crossOf_0 R a1 a2 w h)
set_option maxRecDepth 100000 in
set_option maxHeartbeats 4000000 in
theorem vc_X7_cross_0 {K : jj_K} (R : Int32 → wo_T → Prop)  (a1 : Int32) (a2 : Int32) (w : wo_T)
    (h : (a1 < 0 → R (-2) w) ∧ (¬ a1 < 0 → jj_Ci K mX7_in [.int a2, .int 0, .int 5] w (fun v2 w3 => (¬ v2 = 0 → jj_Ci K mX7_bestOf [.ref 58, .int (w3.1 58 6)] w3 (fun v5 w6 => (¬ v5 = (-1) → jj_Ci K mX7_crossOf [.ref 58, .int a1, .int a2] w6 (fun v8 w9 => R v8 w9)) ∧ (v5 = (-1) → R (-3) w6))) ∧ (v2 = 0 → R (-2) w3)))) :
    jj_J K mX7_cross (jj_Ri R) 0 [(0, .ref 58), (1, .int a1), (2, .int a2)] [] w := by
  refine jj_iload_n (pc := 0) dX7_cross_0 1 rfl ?_
  refine jj_if_lt (pc := 1) (tgt := 13) dX7_cross_1 (by decide) (fun c1 => ?_) (fun c1 => ?_)
  · replace h := h.1 c1
    refine jj_bipush (pc := 13) (v := (-2)) dX7_cross_13 (by decide) ?_
    exact jj_iret (pc := 15) dX7_cross_15 rfl h
  · replace h := h.2 c1
    refine jj_iload_n (pc := 4) dX7_cross_4 2 rfl ?_
    refine jj_iconst (pc := 5) (v := 0) dX7_cross_5 (by decide) ?_
    refine jj_iconst (pc := 6) (v := 5) dX7_cross_6 (by decide) ?_
    refine jj_callSi (pc := 7) (N := mX7_in) (as := [.int a2, .int 0, .int 5]) (st := []) dX7_cross_7 lk_RX7_64 hv_X7_in rfl rfl h (fun v2 w3 h => ?_)
    refine jj_if_ne (pc := 10) (tgt := 16) dX7_cross_10 (by decide) (fun c4 => ?_) (fun c4 => ?_)
    · replace h := h.1 c4
      refine jj_aload_n (pc := 16) dX7_cross_16 0 rfl ?_
      refine jj_aload_n (pc := 17) dX7_cross_17 0 rfl ?_
      refine jj_getI (pc := 18) (ci := 7) (k := 6) dX7_cross_18 rfl rfl (by decide) rfl lk_RX7_76 ?_
      refine jj_callVi (pc := 21) (N := mX7_bestOf) (as := [.int (w3.1 58 6)]) (st := []) dX7_cross_21 rfl rfl rfl lk_RX7_157 hv_X7_bestOf rfl rfl h (fun v5 w6 h => ?_)
      refine jj_iconst (pc := 24) (v := (-1)) dX7_cross_24 (by decide) ?_
      refine jj_icmp_ne (pc := 25) (tgt := 33) dX7_cross_25 (by decide) (fun c7 => ?_) (fun c7 => ?_)
      · replace h := h.1 c7
        refine jj_aload_n (pc := 33) dX7_cross_33 0 rfl ?_
        refine jj_iload_n (pc := 34) dX7_cross_34 1 rfl ?_
        refine jj_iload_n (pc := 35) dX7_cross_35 2 rfl ?_
        refine jj_callVi (pc := 36) (N := mX7_crossOf) (as := [.int a1, .int a2]) (st := []) dX7_cross_36 rfl rfl rfl lk_RX7_225 hv_X7_crossOf rfl rfl h (fun v8 w9 h => ?_)
        exact jj_iret (pc := 39) dX7_cross_39 rfl h
      · replace h := h.2 c7
        refine jj_bipush (pc := 28) (v := (-3)) dX7_cross_28 (by decide) ?_
        refine jj_goto (pc := 30) (tgt := 39) dX7_cross_30 (by decide) ?_
        exact jj_iret (pc := 39) dX7_cross_39 rfl h
    · replace h := h.2 c4
      refine jj_bipush (pc := 13) (v := (-2)) dX7_cross_13 (by decide) ?_
      exact jj_iret (pc := 15) dX7_cross_15 rfl h
theorem en_X7_cross {K : jj_K} (R : Int32 → wo_T → Prop)  (a1 : Int32) (a2 : Int32) (w : wo_T)
    (h : (a1 < 0 → R (-2) w) ∧ (¬ a1 < 0 → jj_Ci K mX7_in [.int a2, .int 0, .int 5] w (fun v2 w3 => (¬ v2 = 0 → jj_Ci K mX7_bestOf [.ref 58, .int (w3.1 58 6)] w3 (fun v5 w6 => (¬ v5 = (-1) → jj_Ci K mX7_crossOf [.ref 58, .int a1, .int a2] w6 (fun v8 w9 => R v8 w9)) ∧ (v5 = (-1) → R (-3) w6))) ∧ (v2 = 0 → R (-2) w3)))) : jj_Ci K mX7_cross [.ref 58, .int a1, .int a2] w R :=
  jj_Ci_intro pn_RX7 (Nat.le_of_ble_eq_true rfl) (vc_X7_cross_0 R a1 a2 w h)
set_option maxRecDepth 100000 in
set_option maxHeartbeats 4000000 in
theorem vc_X7_meets_0 {K : jj_K} (R : Int32 → wo_T → Prop)  (a1 : Int32) (w : wo_T)
    (h : R ((-10) - a1) (wo_i w 58 21 a1)) :
    jj_J K mX7_meets (jj_Ri R) 0 [(0, .ref 58), (1, .int a1)] [] w := by
  refine jj_aload_n (pc := 0) dX7_meets_0 0 rfl ?_
  refine jj_iload_n (pc := 1) dX7_meets_1 1 rfl ?_
  refine jj_putI (pc := 2) (ci := 7) (k := 21) (ty := .int) dX7_meets_2 rfl rfl (by decide) rfl lk_RX7_228 rfl (by decide) rfl rfl ?_
  refine jj_bipush (pc := 5) (v := (-10)) dX7_meets_5 (by decide) ?_
  refine jj_iload_n (pc := 7) dX7_meets_7 1 rfl ?_
  refine jj_isub (pc := 8) dX7_meets_8 ?_
  exact jj_iret (pc := 9) dX7_meets_9 rfl h
theorem en_X7_meets {K : jj_K} (R : Int32 → wo_T → Prop)  (a1 : Int32) (w : wo_T)
    (h : R ((-10) - a1) (wo_i w 58 21 a1)) : jj_Ci K mX7_meets [.ref 58, .int a1] w R :=
  jj_Ci_intro pn_RX7 (Nat.le_of_ble_eq_true rfl) (vc_X7_meets_0 R a1 w h)
set_option maxRecDepth 100000 in
set_option maxHeartbeats 4000000 in
theorem vc_X7_isSheet_0 {K : jj_K} (R : Int32 → wo_T → Prop)  (a0 : Int32) (w : wo_T)
    (h : jj_Ci K mX7_in [.int a0, .int 0, .int 3] w (fun v1 w2 => (v1 = 0 ∨ v1 = 1) ∧ R v1 w2)) :
    jj_J K mX7_isSheet (jj_Ri R) 0 [(0, .int a0)] [] w := by
  refine jj_iload_n (pc := 0) dX7_isSheet_0 0 rfl ?_
  refine jj_iconst (pc := 1) (v := 0) dX7_isSheet_1 (by decide) ?_
  refine jj_iconst (pc := 2) (v := 3) dX7_isSheet_2 (by decide) ?_
  refine jj_callSi (pc := 3) (N := mX7_in) (as := [.int a0, .int 0, .int 3]) (st := []) dX7_isSheet_3 lk_RX7_64 hv_X7_in rfl rfl h (fun v1 w2 h => ?_)
  exact jj_zret (pc := 6) dX7_isSheet_6 rfl h.1 h.2
theorem en_X7_isSheet {K : jj_K} (R : Int32 → wo_T → Prop)  (a0 : Int32) (w : wo_T)
    (h : jj_Ci K mX7_in [.int a0, .int 0, .int 3] w (fun v1 w2 => (v1 = 0 ∨ v1 = 1) ∧ R v1 w2)) : jj_Ci K mX7_isSheet [.int a0] w R :=
  jj_Ci_intro pn_RX7 (Nat.le_of_ble_eq_true rfl) (vc_X7_isSheet_0 R a0 w h)
set_option maxRecDepth 100000 in
set_option maxHeartbeats 4000000 in
theorem vc_X7_sheet_0 {K : jj_K} (R : Int32 → wo_T → Prop)  (a1 : Int32) (a2 : Int32) (a3 : Int32) (w : wo_T)
    (h : jj_Ci K mX7_isSheet [.int a1] w (fun v1 w2 => (v1 = 0 → R (-2) w2) ∧ (¬ v1 = 0 → jj_Ci K mX7_in [.int a2, .int 0, .int 1] w2 (fun v4 w5 => (v4 = 0 → R (-2) w5) ∧ (¬ v4 = 0 → (a3 ≤ 40 → (0 ≤ a3 → vp_in a1 4 ∧ (vp_in a1 4 ∧ (∀ x9 : Int32, x9 = 40 * a1 → (jj_J K mX7_sheet (jj_Ri R) 55 [(0, .ref 58), (1, .int a1), (2, .int a2), (3, .int a3), (4, .int x9)] [] (wo_i (wo_i w5 69 a1.toNatClampNeg a2) 70 a1.toNatClampNeg a3))))) ∧ (¬ 0 ≤ a3 → jj_Ci K mX7_meets [.ref 58, .int 5] w5 (fun v10 w11 => R v10 w11))) ∧ (¬ a3 ≤ 40 → R (-2) w5)))))) :
    jj_J K mX7_sheet (jj_Ri R) 0 [(0, .ref 58), (1, .int a1), (2, .int a2), (3, .int a3)] [] w := by
  refine jj_iload_n (pc := 0) dX7_sheet_0 1 rfl ?_
  refine jj_callSi (pc := 1) (N := mX7_isSheet) (as := [.int a1]) (st := []) dX7_sheet_1 lk_RX7_98 hv_X7_isSheet rfl rfl h (fun v1 w2 h => ?_)
  refine jj_if_eq (pc := 4) (tgt := 22) dX7_sheet_4 (by decide) (fun c3 => ?_) (fun c3 => ?_)
  · replace h := h.1 c3
    refine jj_bipush (pc := 22) (v := (-2)) dX7_sheet_22 (by decide) ?_
    exact jj_iret (pc := 24) dX7_sheet_24 rfl h
  · replace h := h.2 c3
    refine jj_iload_n (pc := 7) dX7_sheet_7 2 rfl ?_
    refine jj_iconst (pc := 8) (v := 0) dX7_sheet_8 (by decide) ?_
    refine jj_iconst (pc := 9) (v := 1) dX7_sheet_9 (by decide) ?_
    refine jj_callSi (pc := 10) (N := mX7_in) (as := [.int a2, .int 0, .int 1]) (st := []) dX7_sheet_10 lk_RX7_64 hv_X7_in rfl rfl h (fun v4 w5 h => ?_)
    refine jj_if_eq (pc := 13) (tgt := 22) dX7_sheet_13 (by decide) (fun c6 => ?_) (fun c6 => ?_)
    · replace h := h.1 c6
      refine jj_bipush (pc := 22) (v := (-2)) dX7_sheet_22 (by decide) ?_
      exact jj_iret (pc := 24) dX7_sheet_24 rfl h
    · replace h := h.2 c6
      refine jj_iload_n (pc := 16) dX7_sheet_16 3 rfl ?_
      refine jj_bipush (pc := 17) (v := 40) dX7_sheet_17 (by decide) ?_
      refine jj_icmp_le (pc := 19) (tgt := 25) dX7_sheet_19 (by decide) (fun c7 => ?_) (fun c7 => ?_)
      · replace h := h.1 c7
        refine jj_iload_n (pc := 25) dX7_sheet_25 3 rfl ?_
        refine jj_if_ge (pc := 26) (tgt := 35) dX7_sheet_26 (by decide) (fun c8 => ?_) (fun c8 => ?_)
        · replace h := h.1 c8
          refine jj_aload_n (pc := 35) dX7_sheet_35 0 rfl ?_
          refine jj_getR (pc := 36) (ci := 7) (k := 17) dX7_sheet_36 rfl rfl (by decide) rfl lk_RX7_42 ?_
          refine jj_iload_n (pc := 39) dX7_sheet_39 1 rfl ?_
          refine jj_iload_n (pc := 40) dX7_sheet_40 2 rfl ?_
          refine jj_iast (pc := 41) dX7_sheet_41 rfl h.1 ?_
          replace h := h.2
          refine jj_aload_n (pc := 42) dX7_sheet_42 0 rfl ?_
          refine jj_getR (pc := 43) (ci := 7) (k := 18) dX7_sheet_43 rfl rfl (by decide) rfl lk_RX7_45 ?_
          refine jj_iload_n (pc := 46) dX7_sheet_46 1 rfl ?_
          refine jj_iload_n (pc := 47) dX7_sheet_47 3 rfl ?_
          refine jj_iast (pc := 48) dX7_sheet_48 rfl h.1 ?_
          replace h := h.2
          refine jj_bipush (pc := 49) (v := 40) dX7_sheet_49 (by decide) ?_
          refine jj_iload_n (pc := 51) dX7_sheet_51 1 rfl ?_
          refine jj_imul (pc := 52) dX7_sheet_52 ?_
          refine jj_nmi (fun x9 ex9 => ?_)
          replace h := h x9 ex9
          refine jj_istore (pc := 53) (l2 := [(4, .int x9), (0, .ref 58), (1, .int a1), (2, .int a2), (3, .int a3)]) dX7_sheet_53 (by decide) rfl ?_
          exact jj_sub [1, 2, 3, 4, 0] rfl h
        · replace h := h.2 c8
          refine jj_aload_n (pc := 29) dX7_sheet_29 0 rfl ?_
          refine jj_iconst (pc := 30) (v := 5) dX7_sheet_30 (by decide) ?_
          refine jj_callVi (pc := 31) (N := mX7_meets) (as := [.int 5]) (st := []) dX7_sheet_31 rfl rfl rfl lk_RX7_101 hv_X7_meets rfl rfl h (fun v10 w11 h => ?_)
          exact jj_iret (pc := 34) dX7_sheet_34 rfl h
      · replace h := h.2 c7
        refine jj_bipush (pc := 22) (v := (-2)) dX7_sheet_22 (by decide) ?_
        exact jj_iret (pc := 24) dX7_sheet_24 rfl h
theorem en_X7_sheet {K : jj_K} (R : Int32 → wo_T → Prop)  (a1 : Int32) (a2 : Int32) (a3 : Int32) (w : wo_T)
    (h : jj_Ci K mX7_isSheet [.int a1] w (fun v1 w2 => (v1 = 0 → R (-2) w2) ∧ (¬ v1 = 0 → jj_Ci K mX7_in [.int a2, .int 0, .int 1] w2 (fun v4 w5 => (v4 = 0 → R (-2) w5) ∧ (¬ v4 = 0 → (a3 ≤ 40 → (0 ≤ a3 → vp_in a1 4 ∧ (vp_in a1 4 ∧ (∀ x9 : Int32, x9 = 40 * a1 → (jj_J K mX7_sheet (jj_Ri R) 55 [(0, .ref 58), (1, .int a1), (2, .int a2), (3, .int a3), (4, .int x9)] [] (wo_i (wo_i w5 69 a1.toNatClampNeg a2) 70 a1.toNatClampNeg a3))))) ∧ (¬ 0 ≤ a3 → jj_Ci K mX7_meets [.ref 58, .int 5] w5 (fun v10 w11 => R v10 w11))) ∧ (¬ a3 ≤ 40 → R (-2) w5)))))) : jj_Ci K mX7_sheet [.ref 58, .int a1, .int a2, .int a3] w R :=
  jj_Ci_intro pn_RX7 (Nat.le_of_ble_eq_true rfl) (vc_X7_sheet_0 R a1 a2 a3 w h)
set_option maxRecDepth 100000 in
set_option maxHeartbeats 4000000 in
theorem vc_X7_sheet_55 {K : jj_K} (R : Int32 → wo_T → Prop)  (a1 : Int32) (a2 : Int32) (a3 : Int32) (a4 : Int32) (w : wo_T)
    (h : (((40 * a1) + 40) ≤ a4 → R a3 w) ∧ (¬ ((40 * a1) + 40) ≤ a4 → vp_in a4 160 ∧ (jj_J K mX7_sheet (jj_Ri R) 55 [(0, .ref 58), (1, .int a1), (2, .int a2), (3, .int a3), (4, .int (a4 + 1))] [] (wo_l w 71 a4.toNatClampNeg 0)))) :
    jj_J K mX7_sheet (jj_Ri R) 55 [(0, .ref 58), (1, .int a1), (2, .int a2), (3, .int a3), (4, .int a4)] [] w := by
  refine jj_iload (pc := 55) dX7_sheet_55 4 rfl ?_
  refine jj_bipush (pc := 57) (v := 40) dX7_sheet_57 (by decide) ?_
  refine jj_iload_n (pc := 59) dX7_sheet_59 1 rfl ?_
  refine jj_imul (pc := 60) dX7_sheet_60 ?_
  refine jj_bipush (pc := 61) (v := 40) dX7_sheet_61 (by decide) ?_
  refine jj_iadd (pc := 63) dX7_sheet_63 ?_
  refine jj_icmp_ge (pc := 64) (tgt := 81) dX7_sheet_64 (by decide) (fun c1 => ?_) (fun c1 => ?_)
  · replace h := h.1 c1
    refine jj_iload_n (pc := 81) dX7_sheet_81 3 rfl ?_
    exact jj_iret (pc := 82) dX7_sheet_82 rfl h
  · replace h := h.2 c1
    refine jj_aload_n (pc := 67) dX7_sheet_67 0 rfl ?_
    refine jj_getR (pc := 68) (ci := 7) (k := 19) dX7_sheet_68 rfl rfl (by decide) rfl lk_RX7_48 ?_
    refine jj_iload (pc := 71) dX7_sheet_71 4 rfl ?_
    refine jj_lconst (pc := 73) (v := 0) dX7_sheet_73 (by decide) ?_
    refine jj_last (pc := 74) dX7_sheet_74 rfl h.1 ?_
    replace h := h.2
    refine jj_iinc (pc := 75) (v := a4 + 1) (l2 := [(4, .int (a4 + 1)), (0, .ref 58), (1, .int a1), (2, .int a2), (3, .int a3)]) dX7_sheet_75 4 rfl rfl (by decide) rfl ?_
    refine jj_goto (pc := 78) (tgt := 55) dX7_sheet_78 (by decide) ?_
    exact jj_sub [1, 2, 3, 4, 0] rfl h
set_option maxRecDepth 100000 in
set_option maxHeartbeats 4000000 in
theorem vc_X7_lose_0 {K : jj_K} (R : Int32 → wo_T → Prop)  (a1 : Int32) (w : wo_T)
    (h : jj_Ci K mX7_isSheet [.int a1] w (fun v1 w2 => (¬ v1 = 0 → vp_in a1 4 ∧ ((¬ (w2.1 69 a1.toNatClampNeg) = (-1) → vp_in a1 4 ∧ (vp_in a1 4 ∧ (R ((wo_i w2 69 a1.toNatClampNeg (-1)).1 70 a1.toNatClampNeg) (wo_i w2 69 a1.toNatClampNeg (-1))))) ∧ ((w2.1 69 a1.toNatClampNeg) = (-1) → jj_Ci K mX7_meets [.ref 58, .int 1] w2 (fun v5 w6 => R v5 w6)))) ∧ (v1 = 0 → R (-2) w2))) :
    jj_J K mX7_lose (jj_Ri R) 0 [(0, .ref 58), (1, .int a1)] [] w := by
  refine jj_iload_n (pc := 0) dX7_lose_0 1 rfl ?_
  refine jj_callSi (pc := 1) (N := mX7_isSheet) (as := [.int a1]) (st := []) dX7_lose_1 lk_RX7_98 hv_X7_isSheet rfl rfl h (fun v1 w2 h => ?_)
  refine jj_if_ne (pc := 4) (tgt := 10) dX7_lose_4 (by decide) (fun c3 => ?_) (fun c3 => ?_)
  · replace h := h.1 c3
    refine jj_aload_n (pc := 10) dX7_lose_10 0 rfl ?_
    refine jj_getR (pc := 11) (ci := 7) (k := 17) dX7_lose_11 rfl rfl (by decide) rfl lk_RX7_42 ?_
    refine jj_iload_n (pc := 14) dX7_lose_14 1 rfl ?_
    refine jj_iald (pc := 15) dX7_lose_15 rfl h.1 ?_
    replace h := h.2
    refine jj_iconst (pc := 16) (v := (-1)) dX7_lose_16 (by decide) ?_
    refine jj_icmp_ne (pc := 17) (tgt := 26) dX7_lose_17 (by decide) (fun c4 => ?_) (fun c4 => ?_)
    · replace h := h.1 c4
      refine jj_aload_n (pc := 26) dX7_lose_26 0 rfl ?_
      refine jj_getR (pc := 27) (ci := 7) (k := 17) dX7_lose_27 rfl rfl (by decide) rfl lk_RX7_42 ?_
      refine jj_iload_n (pc := 30) dX7_lose_30 1 rfl ?_
      refine jj_iconst (pc := 31) (v := (-1)) dX7_lose_31 (by decide) ?_
      refine jj_iast (pc := 32) dX7_lose_32 rfl h.1 ?_
      replace h := h.2
      refine jj_aload_n (pc := 33) dX7_lose_33 0 rfl ?_
      refine jj_getR (pc := 34) (ci := 7) (k := 18) dX7_lose_34 rfl rfl (by decide) rfl lk_RX7_45 ?_
      refine jj_iload_n (pc := 37) dX7_lose_37 1 rfl ?_
      refine jj_iald (pc := 38) dX7_lose_38 rfl h.1 ?_
      replace h := h.2
      exact jj_iret (pc := 39) dX7_lose_39 rfl h
    · replace h := h.2 c4
      refine jj_aload_n (pc := 20) dX7_lose_20 0 rfl ?_
      refine jj_iconst (pc := 21) (v := 1) dX7_lose_21 (by decide) ?_
      refine jj_callVi (pc := 22) (N := mX7_meets) (as := [.int 1]) (st := []) dX7_lose_22 rfl rfl rfl lk_RX7_101 hv_X7_meets rfl rfl h (fun v5 w6 h => ?_)
      exact jj_iret (pc := 25) dX7_lose_25 rfl h
  · replace h := h.2 c3
    refine jj_bipush (pc := 7) (v := (-2)) dX7_lose_7 (by decide) ?_
    exact jj_iret (pc := 9) dX7_lose_9 rfl h
theorem en_X7_lose {K : jj_K} (R : Int32 → wo_T → Prop)  (a1 : Int32) (w : wo_T)
    (h : jj_Ci K mX7_isSheet [.int a1] w (fun v1 w2 => (¬ v1 = 0 → vp_in a1 4 ∧ ((¬ (w2.1 69 a1.toNatClampNeg) = (-1) → vp_in a1 4 ∧ (vp_in a1 4 ∧ (R ((wo_i w2 69 a1.toNatClampNeg (-1)).1 70 a1.toNatClampNeg) (wo_i w2 69 a1.toNatClampNeg (-1))))) ∧ ((w2.1 69 a1.toNatClampNeg) = (-1) → jj_Ci K mX7_meets [.ref 58, .int 1] w2 (fun v5 w6 => R v5 w6)))) ∧ (v1 = 0 → R (-2) w2))) : jj_Ci K mX7_lose [.ref 58, .int a1] w R :=
  jj_Ci_intro pn_RX7 (Nat.le_of_ble_eq_true rfl) (vc_X7_lose_0 R a1 w h)
set_option maxRecDepth 100000 in
set_option maxHeartbeats 4000000 in
theorem vc_X7_put_0 {K : jj_K} (R : Int32 → wo_T → Prop)  (a1 : Int32) (a2 : Int32) (a3 : Int32) (a4 : Int32) (w : wo_T)
    (h : jj_Ci K mX7_isSheet [.int a1] w (fun v1 w2 => (v1 = 0 → R (-2) w2) ∧ (¬ v1 = 0 → jj_Ci K mX7_in [.int a2, .int 0, .int 1] w2 (fun v4 w5 => (¬ v4 = 0 → (¬ a2 = 1 → jj_J K mX7_put (jj_Ri R) 41 [(0, .ref 58), (1, .int a1), (2, .int a2), (3, .int a3), (4, .int a4)] [.int 0] w5) ∧ (a2 = 1 → jj_Ci K mX7_in [.int a4, .int (-2097152), .int 2097151] w5 (fun v8 w9 => (¬ v8 = 0 → jj_J K mX7_put (jj_Ri R) 41 [(0, .ref 58), (1, .int a1), (2, .int a2), (3, .int a3), (4, .int a4)] [.int 0] w9) ∧ (v8 = 0 → jj_J K mX7_put (jj_Ri R) 41 [(0, .ref 58), (1, .int a1), (2, .int a2), (3, .int a3), (4, .int a4)] [.int 1] w9)))) ∧ (v4 = 0 → R (-2) w5))))) :
    jj_J K mX7_put (jj_Ri R) 0 [(0, .ref 58), (1, .int a1), (2, .int a2), (3, .int a3), (4, .int a4)] [] w := by
  refine jj_iload_n (pc := 0) dX7_put_0 1 rfl ?_
  refine jj_callSi (pc := 1) (N := mX7_isSheet) (as := [.int a1]) (st := []) dX7_put_1 lk_RX7_98 hv_X7_isSheet rfl rfl h (fun v1 w2 h => ?_)
  refine jj_if_eq (pc := 4) (tgt := 16) dX7_put_4 (by decide) (fun c3 => ?_) (fun c3 => ?_)
  · replace h := h.1 c3
    refine jj_bipush (pc := 16) (v := (-2)) dX7_put_16 (by decide) ?_
    exact jj_iret (pc := 18) dX7_put_18 rfl h
  · replace h := h.2 c3
    refine jj_iload_n (pc := 7) dX7_put_7 2 rfl ?_
    refine jj_iconst (pc := 8) (v := 0) dX7_put_8 (by decide) ?_
    refine jj_iconst (pc := 9) (v := 1) dX7_put_9 (by decide) ?_
    refine jj_callSi (pc := 10) (N := mX7_in) (as := [.int a2, .int 0, .int 1]) (st := []) dX7_put_10 lk_RX7_64 hv_X7_in rfl rfl h (fun v4 w5 h => ?_)
    refine jj_if_ne (pc := 13) (tgt := 19) dX7_put_13 (by decide) (fun c6 => ?_) (fun c6 => ?_)
    · replace h := h.1 c6
      refine jj_iload_n (pc := 19) dX7_put_19 2 rfl ?_
      refine jj_iconst (pc := 20) (v := 1) dX7_put_20 (by decide) ?_
      refine jj_icmp_ne (pc := 21) (tgt := 40) dX7_put_21 (by decide) (fun c7 => ?_) (fun c7 => ?_)
      · replace h := h.1 c7
        refine jj_iconst (pc := 40) (v := 0) dX7_put_40 (by decide) ?_
        exact jj_sub [0, 1, 2, 3, 4] rfl h
      · replace h := h.2 c7
        refine jj_iload (pc := 24) dX7_put_24 4 rfl ?_
        refine jj_ldc (pc := 26) (v := (-2097152)) dX7_put_26 lk_RX7_231 ?_
        refine jj_ldc (pc := 28) (v := 2097151) dX7_put_28 lk_RX7_232 ?_
        refine jj_callSi (pc := 30) (N := mX7_in) (as := [.int a4, .int (-2097152), .int 2097151]) (st := []) dX7_put_30 lk_RX7_64 hv_X7_in rfl rfl h (fun v8 w9 h => ?_)
        refine jj_if_ne (pc := 33) (tgt := 40) dX7_put_33 (by decide) (fun c10 => ?_) (fun c10 => ?_)
        · replace h := h.1 c10
          refine jj_iconst (pc := 40) (v := 0) dX7_put_40 (by decide) ?_
          exact jj_sub [0, 1, 2, 3, 4] rfl h
        · replace h := h.2 c10
          refine jj_iconst (pc := 36) (v := 1) dX7_put_36 (by decide) ?_
          refine jj_goto (pc := 37) (tgt := 41) dX7_put_37 (by decide) ?_
          exact jj_sub [0, 1, 2, 3, 4] rfl h
    · replace h := h.2 c6
      refine jj_bipush (pc := 16) (v := (-2)) dX7_put_16 (by decide) ?_
      exact jj_iret (pc := 18) dX7_put_18 rfl h
theorem en_X7_put {K : jj_K} (R : Int32 → wo_T → Prop)  (a1 : Int32) (a2 : Int32) (a3 : Int32) (a4 : Int32) (w : wo_T)
    (h : jj_Ci K mX7_isSheet [.int a1] w (fun v1 w2 => (v1 = 0 → R (-2) w2) ∧ (¬ v1 = 0 → jj_Ci K mX7_in [.int a2, .int 0, .int 1] w2 (fun v4 w5 => (¬ v4 = 0 → (¬ a2 = 1 → jj_J K mX7_put (jj_Ri R) 41 [(0, .ref 58), (1, .int a1), (2, .int a2), (3, .int a3), (4, .int a4)] [.int 0] w5) ∧ (a2 = 1 → jj_Ci K mX7_in [.int a4, .int (-2097152), .int 2097151] w5 (fun v8 w9 => (¬ v8 = 0 → jj_J K mX7_put (jj_Ri R) 41 [(0, .ref 58), (1, .int a1), (2, .int a2), (3, .int a3), (4, .int a4)] [.int 0] w9) ∧ (v8 = 0 → jj_J K mX7_put (jj_Ri R) 41 [(0, .ref 58), (1, .int a1), (2, .int a2), (3, .int a3), (4, .int a4)] [.int 1] w9)))) ∧ (v4 = 0 → R (-2) w5))))) : jj_Ci K mX7_put [.ref 58, .int a1, .int a2, .int a3, .int a4] w R :=
  jj_Ci_intro pn_RX7 (Nat.le_of_ble_eq_true rfl) (vc_X7_put_0 R a1 a2 a3 a4 w h)
set_option maxRecDepth 100000 in
set_option maxHeartbeats 4000000 in
theorem vc_X7_put_41 {K : jj_K} (R : Int32 → wo_T → Prop)  (a1 : Int32) (a2 : Int32) (a3 : Int32) (a4 : Int32) (s0 : Int32) (w : wo_T)
    (h : vp_in a1 4 ∧ ((¬ (w.1 69 a1.toNatClampNeg) = (-1) → vp_in a1 4 ∧ (((w.1 69 a1.toNatClampNeg) = a2 → vp_in a1 4 ∧ (jj_Ci K mX7_in [.int a3, .int 0, .int ((w.1 70 a1.toNatClampNeg) - 1)] w (fun v3 w4 => (¬ v3 = 0 → (s0 = 0 → jj_J K mX7_put (jj_Ri R) 102 [(0, .ref 58), (1, .int a1), (2, .int a2), (3, .int a3), (4, .int a4), (5, .int s0)] [.int 0] w4) ∧ (¬ s0 = 0 → jj_J K mX7_put (jj_Ri R) 102 [(0, .ref 58), (1, .int a1), (2, .int a2), (3, .int a3), (4, .int a4), (5, .int s0)] [.int 6] w4)) ∧ (v3 = 0 → jj_J K mX7_put (jj_Ri R) 102 [(0, .ref 58), (1, .int a1), (2, .int a2), (3, .int a3), (4, .int a4), (5, .int s0)] [.int 2] w4)))) ∧ (¬ (w.1 69 a1.toNatClampNeg) = a2 → jj_J K mX7_put (jj_Ri R) 102 [(0, .ref 58), (1, .int a1), (2, .int a2), (3, .int a3), (4, .int a4), (5, .int s0)] [.int 3] w))) ∧ ((w.1 69 a1.toNatClampNeg) = (-1) → jj_J K mX7_put (jj_Ri R) 102 [(0, .ref 58), (1, .int a1), (2, .int a2), (3, .int a3), (4, .int a4), (5, .int s0)] [.int 1] w))) :
    jj_J K mX7_put (jj_Ri R) 41 [(0, .ref 58), (1, .int a1), (2, .int a2), (3, .int a3), (4, .int a4)] [.int s0] w := by
  refine jj_istore (pc := 41) (l2 := [(5, .int s0), (0, .ref 58), (1, .int a1), (2, .int a2), (3, .int a3), (4, .int a4)]) dX7_put_41 (by decide) rfl ?_
  refine jj_aload_n (pc := 43) dX7_put_43 1 rfl ?_
  refine jj_getR (pc := 44) (ci := 7) (k := 17) dX7_put_44 rfl rfl (by decide) rfl lk_RX7_42 ?_
  refine jj_iload_n (pc := 47) dX7_put_47 2 rfl ?_
  refine jj_iald (pc := 48) dX7_put_48 rfl h.1 ?_
  replace h := h.2
  refine jj_iconst (pc := 49) (v := (-1)) dX7_put_49 (by decide) ?_
  refine jj_icmp_ne (pc := 50) (tgt := 57) dX7_put_50 (by decide) (fun c1 => ?_) (fun c1 => ?_)
  · replace h := h.1 c1
    refine jj_aload_n (pc := 57) dX7_put_57 1 rfl ?_
    refine jj_getR (pc := 58) (ci := 7) (k := 17) dX7_put_58 rfl rfl (by decide) rfl lk_RX7_42 ?_
    refine jj_iload_n (pc := 61) dX7_put_61 2 rfl ?_
    refine jj_iald (pc := 62) dX7_put_62 rfl h.1 ?_
    replace h := h.2
    refine jj_iload_n (pc := 63) dX7_put_63 3 rfl ?_
    refine jj_icmp_eq (pc := 64) (tgt := 71) dX7_put_64 (by decide) (fun c2 => ?_) (fun c2 => ?_)
    · replace h := h.1 c2
      refine jj_iload_n (pc := 71) dX7_put_71 4 rfl ?_
      refine jj_iconst (pc := 72) (v := 0) dX7_put_72 (by decide) ?_
      refine jj_aload_n (pc := 73) dX7_put_73 1 rfl ?_
      refine jj_getR (pc := 74) (ci := 7) (k := 18) dX7_put_74 rfl rfl (by decide) rfl lk_RX7_45 ?_
      refine jj_iload_n (pc := 77) dX7_put_77 2 rfl ?_
      refine jj_iald (pc := 78) dX7_put_78 rfl h.1 ?_
      replace h := h.2
      refine jj_iconst (pc := 79) (v := 1) dX7_put_79 (by decide) ?_
      refine jj_isub (pc := 80) dX7_put_80 ?_
      refine jj_callSi (pc := 81) (N := mX7_in) (as := [.int a3, .int 0, .int ((w.1 70 a1.toNatClampNeg) - 1)]) (st := []) dX7_put_81 lk_RX7_64 hv_X7_in rfl rfl h (fun v3 w4 h => ?_)
      refine jj_if_ne (pc := 84) (tgt := 91) dX7_put_84 (by decide) (fun c5 => ?_) (fun c5 => ?_)
      · replace h := h.1 c5
        refine jj_iload (pc := 91) dX7_put_91 0 rfl ?_
        refine jj_if_eq (pc := 93) (tgt := 101) dX7_put_93 (by decide) (fun c6 => ?_) (fun c6 => ?_)
        · replace h := h.1 c6
          refine jj_iconst (pc := 101) (v := 0) dX7_put_101 (by decide) ?_
          exact jj_sub [1, 2, 3, 4, 5, 0] rfl h
        · replace h := h.2 c6
          refine jj_bipush (pc := 96) (v := 6) dX7_put_96 (by decide) ?_
          refine jj_goto (pc := 98) (tgt := 102) dX7_put_98 (by decide) ?_
          exact jj_sub [1, 2, 3, 4, 5, 0] rfl h
      · replace h := h.2 c5
        refine jj_iconst (pc := 87) (v := 2) dX7_put_87 (by decide) ?_
        refine jj_goto (pc := 88) (tgt := 102) dX7_put_88 (by decide) ?_
        exact jj_sub [1, 2, 3, 4, 5, 0] rfl h
    · replace h := h.2 c2
      refine jj_iconst (pc := 67) (v := 3) dX7_put_67 (by decide) ?_
      refine jj_goto (pc := 68) (tgt := 102) dX7_put_68 (by decide) ?_
      exact jj_sub [1, 2, 3, 4, 5, 0] rfl h
  · replace h := h.2 c1
    refine jj_iconst (pc := 53) (v := 1) dX7_put_53 (by decide) ?_
    refine jj_goto (pc := 54) (tgt := 102) dX7_put_54 (by decide) ?_
    exact jj_sub [1, 2, 3, 4, 5, 0] rfl h
set_option maxRecDepth 100000 in
set_option maxHeartbeats 4000000 in
theorem vc_X7_put_102 {K : jj_K} (R : Int32 → wo_T → Prop)  (a1 : Int32) (a2 : Int32) (a3 : Int32) (a4 : Int32) (a5 : Int32) (s0 : Int32) (w : wo_T)
    (h : (s0 ≤ 0 → (¬ a2 = 1 → vp_in ((40 * a1) + a3) 160 ∧ (R 1 (wo_l w 71 ((40 * a1) + a3).toNatClampNeg a4.toInt64))) ∧ (a2 = 1 → vp_in ((40 * a1) + a3) 160 ∧ (R 1 (wo_l w 71 ((40 * a1) + a3).toNatClampNeg ((a4.toInt64 * a4.toInt64) * a4.toInt64))))) ∧ (¬ s0 ≤ 0 → jj_Ci K mX7_meets [.ref 58, .int s0] w (fun v3 w4 => R v3 w4))) :
    jj_J K mX7_put (jj_Ri R) 102 [(0, .ref 58), (1, .int a1), (2, .int a2), (3, .int a3), (4, .int a4), (5, .int a5)] [.int s0] w := by
  refine jj_istore (pc := 102) (l2 := [(6, .int s0), (0, .ref 58), (1, .int a1), (2, .int a2), (3, .int a3), (4, .int a4), (5, .int a5)]) dX7_put_102 (by decide) rfl ?_
  refine jj_iload (pc := 104) dX7_put_104 0 rfl ?_
  refine jj_if_le (pc := 106) (tgt := 116) dX7_put_106 (by decide) (fun c1 => ?_) (fun c1 => ?_)
  · replace h := h.1 c1
    refine jj_aload_n (pc := 116) dX7_put_116 1 rfl ?_
    refine jj_getR (pc := 117) (ci := 7) (k := 19) dX7_put_117 rfl rfl (by decide) rfl lk_RX7_48 ?_
    refine jj_bipush (pc := 120) (v := 40) dX7_put_120 (by decide) ?_
    refine jj_iload_n (pc := 122) dX7_put_122 2 rfl ?_
    refine jj_imul (pc := 123) dX7_put_123 ?_
    refine jj_iload_n (pc := 124) dX7_put_124 4 rfl ?_
    refine jj_iadd (pc := 125) dX7_put_125 ?_
    refine jj_iload_n (pc := 126) dX7_put_126 3 rfl ?_
    refine jj_iconst (pc := 127) (v := 1) dX7_put_127 (by decide) ?_
    refine jj_icmp_ne (pc := 128) (tgt := 145) dX7_put_128 (by decide) (fun c2 => ?_) (fun c2 => ?_)
    · replace h := h.1 c2
      refine jj_iload (pc := 145) dX7_put_145 5 rfl ?_
      refine jj_i2l (pc := 147) dX7_put_147 ?_
      refine jj_last (pc := 148) dX7_put_148 rfl h.1 ?_
      replace h := h.2
      refine jj_iconst (pc := 149) (v := 1) dX7_put_149 (by decide) ?_
      exact jj_iret (pc := 150) dX7_put_150 rfl h
    · replace h := h.2 c2
      refine jj_iload (pc := 131) dX7_put_131 5 rfl ?_
      refine jj_i2l (pc := 133) dX7_put_133 ?_
      refine jj_iload (pc := 134) dX7_put_134 5 rfl ?_
      refine jj_i2l (pc := 136) dX7_put_136 ?_
      refine jj_lmul (pc := 137) dX7_put_137 ?_
      refine jj_iload (pc := 138) dX7_put_138 5 rfl ?_
      refine jj_i2l (pc := 140) dX7_put_140 ?_
      refine jj_lmul (pc := 141) dX7_put_141 ?_
      refine jj_goto (pc := 142) (tgt := 148) dX7_put_142 (by decide) ?_
      refine jj_last (pc := 148) dX7_put_148 rfl h.1 ?_
      replace h := h.2
      refine jj_iconst (pc := 149) (v := 1) dX7_put_149 (by decide) ?_
      exact jj_iret (pc := 150) dX7_put_150 rfl h
  · replace h := h.2 c1
    refine jj_aload_n (pc := 109) dX7_put_109 1 rfl ?_
    refine jj_iload (pc := 110) dX7_put_110 0 rfl ?_
    refine jj_callVi (pc := 112) (N := mX7_meets) (as := [.int s0]) (st := []) dX7_put_112 rfl rfl rfl lk_RX7_101 hv_X7_meets rfl rfl h (fun v3 w4 h => ?_)
    exact jj_iret (pc := 115) dX7_put_115 rfl h
set_option maxRecDepth 100000 in
set_option maxHeartbeats 4000000 in
theorem vc_X7_get_0 {K : jj_K} (R : Int64 → wo_T → Prop)  (a1 : Int32) (a2 : Int32) (w : wo_T)
    (h : jj_Ci K mX7_isSheet [.int a1] w (fun v1 w2 => (¬ v1 = 0 → vp_in a1 4 ∧ ((¬ (w2.1 69 a1.toNatClampNeg) = (-1) → vp_in a1 4 ∧ (jj_Ci K mX7_in [.int a2, .int 0, .int ((w2.1 70 a1.toNatClampNeg) - 1)] w2 (fun v5 w6 => (v5 = 0 → jj_Ci K mX7_meets [.ref 58, .int 2] w6 (fun v9 w10 => jj_Cl K mX7_no [.int v9] w10 (fun v11 w12 => R v11 w12))) ∧ (¬ v5 = 0 → vp_in ((40 * a1) + a2) 160 ∧ (R (w6.2 71 ((40 * a1) + a2).toNatClampNeg) w6))))) ∧ ((w2.1 69 a1.toNatClampNeg) = (-1) → jj_Ci K mX7_meets [.ref 58, .int 1] w2 (fun v15 w16 => jj_Cl K mX7_no [.int v15] w16 (fun v17 w18 => R v17 w18))))) ∧ (v1 = 0 → jj_Cl K mX7_no [.int (-2)] w2 (fun v19 w20 => R v19 w20)))) :
    jj_J K mX7_get (jj_Rl R) 0 [(0, .ref 58), (1, .int a1), (2, .int a2)] [] w := by
  refine jj_iload_n (pc := 0) dX7_get_0 1 rfl ?_
  refine jj_callSi (pc := 1) (N := mX7_isSheet) (as := [.int a1]) (st := []) dX7_get_1 lk_RX7_98 hv_X7_isSheet rfl rfl h (fun v1 w2 h => ?_)
  refine jj_if_ne (pc := 4) (tgt := 13) dX7_get_4 (by decide) (fun c3 => ?_) (fun c3 => ?_)
  · replace h := h.1 c3
    refine jj_aload_n (pc := 13) dX7_get_13 0 rfl ?_
    refine jj_getR (pc := 14) (ci := 7) (k := 17) dX7_get_14 rfl rfl (by decide) rfl lk_RX7_42 ?_
    refine jj_iload_n (pc := 17) dX7_get_17 1 rfl ?_
    refine jj_iald (pc := 18) dX7_get_18 rfl h.1 ?_
    replace h := h.2
    refine jj_iconst (pc := 19) (v := (-1)) dX7_get_19 (by decide) ?_
    refine jj_icmp_ne (pc := 20) (tgt := 27) dX7_get_20 (by decide) (fun c4 => ?_) (fun c4 => ?_)
    · replace h := h.1 c4
      refine jj_iload_n (pc := 27) dX7_get_27 2 rfl ?_
      refine jj_iconst (pc := 28) (v := 0) dX7_get_28 (by decide) ?_
      refine jj_aload_n (pc := 29) dX7_get_29 0 rfl ?_
      refine jj_getR (pc := 30) (ci := 7) (k := 18) dX7_get_30 rfl rfl (by decide) rfl lk_RX7_45 ?_
      refine jj_iload_n (pc := 33) dX7_get_33 1 rfl ?_
      refine jj_iald (pc := 34) dX7_get_34 rfl h.1 ?_
      replace h := h.2
      refine jj_iconst (pc := 35) (v := 1) dX7_get_35 (by decide) ?_
      refine jj_isub (pc := 36) dX7_get_36 ?_
      refine jj_callSi (pc := 37) (N := mX7_in) (as := [.int a2, .int 0, .int ((w2.1 70 a1.toNatClampNeg) - 1)]) (st := []) dX7_get_37 lk_RX7_64 hv_X7_in rfl rfl h (fun v5 w6 h => ?_)
      refine jj_if_eq (pc := 40) (tgt := 47) dX7_get_40 (by decide) (fun c7 => ?_) (fun c7 => ?_)
      · replace h := h.1 c7
        refine jj_iconst (pc := 47) (v := 2) dX7_get_47 (by decide) ?_
        refine jj_istore_n (pc := 48) (l2 := [(3, .int 2), (0, .ref 58), (1, .int a1), (2, .int a2)]) dX7_get_48 (by decide) rfl ?_
        refine jj_iload_n (pc := 49) dX7_get_49 0 rfl ?_
        refine jj_if_le (pc := 50) (tgt := 64) dX7_get_50 (by decide) (fun z => absurd z (by decide)) (fun _ => ?_)
        refine jj_aload_n (pc := 53) dX7_get_53 1 rfl ?_
        refine jj_iload_n (pc := 54) dX7_get_54 0 rfl ?_
        refine jj_callVi (pc := 55) (N := mX7_meets) (as := [.int 2]) (st := []) dX7_get_55 rfl rfl rfl lk_RX7_101 hv_X7_meets rfl rfl h (fun v9 w10 h => ?_)
        refine jj_callSl (pc := 58) (N := mX7_no) (as := [.int v9]) (st := []) dX7_get_58 lk_RX7_160 hv_X7_no rfl rfl h (fun v11 w12 h => ?_)
        refine jj_goto (pc := 61) (tgt := 75) dX7_get_61 (by decide) ?_
        exact jj_lret (pc := 75) dX7_get_75 rfl h
      · replace h := h.2 c7
        refine jj_iconst (pc := 43) (v := 0) dX7_get_43 (by decide) ?_
        refine jj_goto (pc := 44) (tgt := 48) dX7_get_44 (by decide) ?_
        refine jj_istore_n (pc := 48) (l2 := [(3, .int 0), (0, .ref 58), (1, .int a1), (2, .int a2)]) dX7_get_48 (by decide) rfl ?_
        refine jj_iload_n (pc := 49) dX7_get_49 0 rfl ?_
        refine jj_if_le (pc := 50) (tgt := 64) dX7_get_50 (by decide) (fun _ => ?_) (fun z => absurd z (by decide))
        refine jj_aload_n (pc := 64) dX7_get_64 1 rfl ?_
        refine jj_getR (pc := 65) (ci := 7) (k := 19) dX7_get_65 rfl rfl (by decide) rfl lk_RX7_48 ?_
        refine jj_bipush (pc := 68) (v := 40) dX7_get_68 (by decide) ?_
        refine jj_iload_n (pc := 70) dX7_get_70 2 rfl ?_
        refine jj_imul (pc := 71) dX7_get_71 ?_
        refine jj_iload_n (pc := 72) dX7_get_72 3 rfl ?_
        refine jj_iadd (pc := 73) dX7_get_73 ?_
        refine jj_lald (pc := 74) dX7_get_74 rfl h.1 ?_
        replace h := h.2
        exact jj_lret (pc := 75) dX7_get_75 rfl h
    · replace h := h.2 c4
      refine jj_iconst (pc := 23) (v := 1) dX7_get_23 (by decide) ?_
      refine jj_goto (pc := 24) (tgt := 48) dX7_get_24 (by decide) ?_
      refine jj_istore_n (pc := 48) (l2 := [(3, .int 1), (0, .ref 58), (1, .int a1), (2, .int a2)]) dX7_get_48 (by decide) rfl ?_
      refine jj_iload_n (pc := 49) dX7_get_49 0 rfl ?_
      refine jj_if_le (pc := 50) (tgt := 64) dX7_get_50 (by decide) (fun z => absurd z (by decide)) (fun _ => ?_)
      refine jj_aload_n (pc := 53) dX7_get_53 1 rfl ?_
      refine jj_iload_n (pc := 54) dX7_get_54 0 rfl ?_
      refine jj_callVi (pc := 55) (N := mX7_meets) (as := [.int 1]) (st := []) dX7_get_55 rfl rfl rfl lk_RX7_101 hv_X7_meets rfl rfl h (fun v15 w16 h => ?_)
      refine jj_callSl (pc := 58) (N := mX7_no) (as := [.int v15]) (st := []) dX7_get_58 lk_RX7_160 hv_X7_no rfl rfl h (fun v17 w18 h => ?_)
      refine jj_goto (pc := 61) (tgt := 75) dX7_get_61 (by decide) ?_
      exact jj_lret (pc := 75) dX7_get_75 rfl h
  · replace h := h.2 c3
    refine jj_bipush (pc := 7) (v := (-2)) dX7_get_7 (by decide) ?_
    refine jj_callSl (pc := 9) (N := mX7_no) (as := [.int (-2)]) (st := []) dX7_get_9 lk_RX7_160 hv_X7_no rfl rfl h (fun v19 w20 h => ?_)
    exact jj_lret (pc := 12) dX7_get_12 rfl h
theorem en_X7_get {K : jj_K} (R : Int64 → wo_T → Prop)  (a1 : Int32) (a2 : Int32) (w : wo_T)
    (h : jj_Ci K mX7_isSheet [.int a1] w (fun v1 w2 => (¬ v1 = 0 → vp_in a1 4 ∧ ((¬ (w2.1 69 a1.toNatClampNeg) = (-1) → vp_in a1 4 ∧ (jj_Ci K mX7_in [.int a2, .int 0, .int ((w2.1 70 a1.toNatClampNeg) - 1)] w2 (fun v5 w6 => (v5 = 0 → jj_Ci K mX7_meets [.ref 58, .int 2] w6 (fun v9 w10 => jj_Cl K mX7_no [.int v9] w10 (fun v11 w12 => R v11 w12))) ∧ (¬ v5 = 0 → vp_in ((40 * a1) + a2) 160 ∧ (R (w6.2 71 ((40 * a1) + a2).toNatClampNeg) w6))))) ∧ ((w2.1 69 a1.toNatClampNeg) = (-1) → jj_Ci K mX7_meets [.ref 58, .int 1] w2 (fun v15 w16 => jj_Cl K mX7_no [.int v15] w16 (fun v17 w18 => R v17 w18))))) ∧ (v1 = 0 → jj_Cl K mX7_no [.int (-2)] w2 (fun v19 w20 => R v19 w20)))) : jj_Cl K mX7_get [.ref 58, .int a1, .int a2] w R :=
  jj_Cl_intro pn_RX7 (Nat.le_of_ble_eq_true rfl) (vc_X7_get_0 R a1 a2 w h)
set_option maxRecDepth 100000 in
set_option maxHeartbeats 4000000 in
theorem vc_X7_copy_0 {K : jj_K} (R : Int32 → wo_T → Prop)  (a1 : Int32) (a2 : Int32) (a3 : Int32) (a4 : Int32) (a5 : Int32) (w : wo_T)
    (h : jj_Ci K mX7_isSheet [.int a1] w (fun v1 w2 => (v1 = 0 → R (-2) w2) ∧ (¬ v1 = 0 → jj_Ci K mX7_isSheet [.int a3] w2 (fun v4 w5 => (¬ v4 = 0 → vp_in a1 4 ∧ (((w5.1 69 a1.toNatClampNeg) = (-1) → jj_Ci K mX7_meets [.ref 58, .int 1] w5 (fun v8 w9 => R v8 w9)) ∧ (¬ (w5.1 69 a1.toNatClampNeg) = (-1) → vp_in a3 4 ∧ ((¬ (w5.1 69 a3.toNatClampNeg) = (-1) → vp_in a1 4 ∧ (vp_in a3 4 ∧ (((w5.1 69 a1.toNatClampNeg) = (w5.1 69 a3.toNatClampNeg) → (a2 < 0 → jj_Ci K mX7_meets [.ref 58, .int 2] w5 (fun v13 w14 => R v13 w14)) ∧ (¬ a2 < 0 → (a4 < 0 → jj_Ci K mX7_meets [.ref 58, .int 2] w5 (fun v16 w17 => R v16 w17)) ∧ (¬ a4 < 0 → (a5 < 0 → jj_Ci K mX7_meets [.ref 58, .int 2] w5 (fun v19 w20 => R v19 w20)) ∧ (¬ a5 < 0 → vp_in a1 4 ∧ ((((w5.1 70 a1.toNatClampNeg).toInt64) < (a2.toInt64 + a5.toInt64) → jj_Ci K mX7_meets [.ref 58, .int 2] w5 (fun v22 w23 => R v22 w23)) ∧ (¬ ((w5.1 70 a1.toNatClampNeg).toInt64) < (a2.toInt64 + a5.toInt64) → vp_in a3 4 ∧ (((a4.toInt64 + a5.toInt64) ≤ ((w5.1 70 a3.toNatClampNeg).toInt64) → jj_J K mX7_copy (jj_Ri R) 122 [(0, .ref 58), (1, .int a1), (2, .int a2), (3, .int a3), (4, .int a4), (5, .int a5), (6, .int 0)] [] w5) ∧ (¬ (a4.toInt64 + a5.toInt64) ≤ ((w5.1 70 a3.toNatClampNeg).toInt64) → jj_Ci K mX7_meets [.ref 58, .int 2] w5 (fun v25 w26 => R v25 w26))))))))) ∧ (¬ (w5.1 69 a1.toNatClampNeg) = (w5.1 69 a3.toNatClampNeg) → jj_Ci K mX7_meets [.ref 58, .int 4] w5 (fun v27 w28 => R v27 w28))))) ∧ ((w5.1 69 a3.toNatClampNeg) = (-1) → jj_Ci K mX7_meets [.ref 58, .int 1] w5 (fun v29 w30 => R v29 w30)))))) ∧ (v4 = 0 → R (-2) w5))))) :
    jj_J K mX7_copy (jj_Ri R) 0 [(0, .ref 58), (1, .int a1), (2, .int a2), (3, .int a3), (4, .int a4), (5, .int a5)] [] w := by
  refine jj_iload_n (pc := 0) dX7_copy_0 1 rfl ?_
  refine jj_callSi (pc := 1) (N := mX7_isSheet) (as := [.int a1]) (st := []) dX7_copy_1 lk_RX7_98 hv_X7_isSheet rfl rfl h (fun v1 w2 h => ?_)
  refine jj_if_eq (pc := 4) (tgt := 14) dX7_copy_4 (by decide) (fun c3 => ?_) (fun c3 => ?_)
  · replace h := h.1 c3
    refine jj_bipush (pc := 14) (v := (-2)) dX7_copy_14 (by decide) ?_
    exact jj_iret (pc := 16) dX7_copy_16 rfl h
  · replace h := h.2 c3
    refine jj_iload_n (pc := 7) dX7_copy_7 3 rfl ?_
    refine jj_callSi (pc := 8) (N := mX7_isSheet) (as := [.int a3]) (st := []) dX7_copy_8 lk_RX7_98 hv_X7_isSheet rfl rfl h (fun v4 w5 h => ?_)
    refine jj_if_ne (pc := 11) (tgt := 17) dX7_copy_11 (by decide) (fun c6 => ?_) (fun c6 => ?_)
    · replace h := h.1 c6
      refine jj_aload_n (pc := 17) dX7_copy_17 0 rfl ?_
      refine jj_getR (pc := 18) (ci := 7) (k := 17) dX7_copy_18 rfl rfl (by decide) rfl lk_RX7_42 ?_
      refine jj_iload_n (pc := 21) dX7_copy_21 1 rfl ?_
      refine jj_iald (pc := 22) dX7_copy_22 rfl h.1 ?_
      replace h := h.2
      refine jj_iconst (pc := 23) (v := (-1)) dX7_copy_23 (by decide) ?_
      refine jj_icmp_eq (pc := 24) (tgt := 37) dX7_copy_24 (by decide) (fun c7 => ?_) (fun c7 => ?_)
      · replace h := h.1 c7
        refine jj_aload_n (pc := 37) dX7_copy_37 0 rfl ?_
        refine jj_iconst (pc := 38) (v := 1) dX7_copy_38 (by decide) ?_
        refine jj_callVi (pc := 39) (N := mX7_meets) (as := [.int 1]) (st := []) dX7_copy_39 rfl rfl rfl lk_RX7_101 hv_X7_meets rfl rfl h (fun v8 w9 h => ?_)
        exact jj_iret (pc := 42) dX7_copy_42 rfl h
      · replace h := h.2 c7
        refine jj_aload_n (pc := 27) dX7_copy_27 0 rfl ?_
        refine jj_getR (pc := 28) (ci := 7) (k := 17) dX7_copy_28 rfl rfl (by decide) rfl lk_RX7_42 ?_
        refine jj_iload_n (pc := 31) dX7_copy_31 3 rfl ?_
        refine jj_iald (pc := 32) dX7_copy_32 rfl h.1 ?_
        replace h := h.2
        refine jj_iconst (pc := 33) (v := (-1)) dX7_copy_33 (by decide) ?_
        refine jj_icmp_ne (pc := 34) (tgt := 43) dX7_copy_34 (by decide) (fun c10 => ?_) (fun c10 => ?_)
        · replace h := h.1 c10
          refine jj_aload_n (pc := 43) dX7_copy_43 0 rfl ?_
          refine jj_getR (pc := 44) (ci := 7) (k := 17) dX7_copy_44 rfl rfl (by decide) rfl lk_RX7_42 ?_
          refine jj_iload_n (pc := 47) dX7_copy_47 1 rfl ?_
          refine jj_iald (pc := 48) dX7_copy_48 rfl h.1 ?_
          replace h := h.2
          refine jj_aload_n (pc := 49) dX7_copy_49 0 rfl ?_
          refine jj_getR (pc := 50) (ci := 7) (k := 17) dX7_copy_50 rfl rfl (by decide) rfl lk_RX7_42 ?_
          refine jj_iload_n (pc := 53) dX7_copy_53 3 rfl ?_
          refine jj_iald (pc := 54) dX7_copy_54 rfl h.1 ?_
          replace h := h.2
          refine jj_icmp_eq (pc := 55) (tgt := 64) dX7_copy_55 (by decide) (fun c11 => ?_) (fun c11 => ?_)
          · replace h := h.1 c11
            refine jj_iload_n (pc := 64) dX7_copy_64 2 rfl ?_
            refine jj_if_lt (pc := 65) (tgt := 113) dX7_copy_65 (by decide) (fun c12 => ?_) (fun c12 => ?_)
            · replace h := h.1 c12
              refine jj_aload_n (pc := 113) dX7_copy_113 0 rfl ?_
              refine jj_iconst (pc := 114) (v := 2) dX7_copy_114 (by decide) ?_
              refine jj_callVi (pc := 115) (N := mX7_meets) (as := [.int 2]) (st := []) dX7_copy_115 rfl rfl rfl lk_RX7_101 hv_X7_meets rfl rfl h (fun v13 w14 h => ?_)
              exact jj_iret (pc := 118) dX7_copy_118 rfl h
            · replace h := h.2 c12
              refine jj_iload (pc := 68) dX7_copy_68 4 rfl ?_
              refine jj_if_lt (pc := 70) (tgt := 113) dX7_copy_70 (by decide) (fun c15 => ?_) (fun c15 => ?_)
              · replace h := h.1 c15
                refine jj_aload_n (pc := 113) dX7_copy_113 0 rfl ?_
                refine jj_iconst (pc := 114) (v := 2) dX7_copy_114 (by decide) ?_
                refine jj_callVi (pc := 115) (N := mX7_meets) (as := [.int 2]) (st := []) dX7_copy_115 rfl rfl rfl lk_RX7_101 hv_X7_meets rfl rfl h (fun v16 w17 h => ?_)
                exact jj_iret (pc := 118) dX7_copy_118 rfl h
              · replace h := h.2 c15
                refine jj_iload (pc := 73) dX7_copy_73 5 rfl ?_
                refine jj_if_lt (pc := 75) (tgt := 113) dX7_copy_75 (by decide) (fun c18 => ?_) (fun c18 => ?_)
                · replace h := h.1 c18
                  refine jj_aload_n (pc := 113) dX7_copy_113 0 rfl ?_
                  refine jj_iconst (pc := 114) (v := 2) dX7_copy_114 (by decide) ?_
                  refine jj_callVi (pc := 115) (N := mX7_meets) (as := [.int 2]) (st := []) dX7_copy_115 rfl rfl rfl lk_RX7_101 hv_X7_meets rfl rfl h (fun v19 w20 h => ?_)
                  exact jj_iret (pc := 118) dX7_copy_118 rfl h
                · replace h := h.2 c18
                  refine jj_iload_n (pc := 78) dX7_copy_78 2 rfl ?_
                  refine jj_i2l (pc := 79) dX7_copy_79 ?_
                  refine jj_iload (pc := 80) dX7_copy_80 5 rfl ?_
                  refine jj_i2l (pc := 82) dX7_copy_82 ?_
                  refine jj_ladd (pc := 83) dX7_copy_83 ?_
                  refine jj_aload_n (pc := 84) dX7_copy_84 0 rfl ?_
                  refine jj_getR (pc := 85) (ci := 7) (k := 18) dX7_copy_85 rfl rfl (by decide) rfl lk_RX7_45 ?_
                  refine jj_iload_n (pc := 88) dX7_copy_88 1 rfl ?_
                  refine jj_iald (pc := 89) dX7_copy_89 rfl h.1 ?_
                  replace h := h.2
                  refine jj_i2l (pc := 90) dX7_copy_90 ?_
                  refine jj_lcmp_gt (pc := 91) (tgt := 113) dX7_copy_91 dX7_copy_92 (by decide) (fun c21 => ?_) (fun c21 => ?_)
                  · replace h := h.1 c21
                    refine jj_aload_n (pc := 113) dX7_copy_113 0 rfl ?_
                    refine jj_iconst (pc := 114) (v := 2) dX7_copy_114 (by decide) ?_
                    refine jj_callVi (pc := 115) (N := mX7_meets) (as := [.int 2]) (st := []) dX7_copy_115 rfl rfl rfl lk_RX7_101 hv_X7_meets rfl rfl h (fun v22 w23 h => ?_)
                    exact jj_iret (pc := 118) dX7_copy_118 rfl h
                  · replace h := h.2 c21
                    refine jj_iload (pc := 95) dX7_copy_95 4 rfl ?_
                    refine jj_i2l (pc := 97) dX7_copy_97 ?_
                    refine jj_iload (pc := 98) dX7_copy_98 5 rfl ?_
                    refine jj_i2l (pc := 100) dX7_copy_100 ?_
                    refine jj_ladd (pc := 101) dX7_copy_101 ?_
                    refine jj_aload_n (pc := 102) dX7_copy_102 0 rfl ?_
                    refine jj_getR (pc := 103) (ci := 7) (k := 18) dX7_copy_103 rfl rfl (by decide) rfl lk_RX7_45 ?_
                    refine jj_iload_n (pc := 106) dX7_copy_106 3 rfl ?_
                    refine jj_iald (pc := 107) dX7_copy_107 rfl h.1 ?_
                    replace h := h.2
                    refine jj_i2l (pc := 108) dX7_copy_108 ?_
                    refine jj_lcmp_le (pc := 109) (tgt := 119) dX7_copy_109 dX7_copy_110 (by decide) (fun c24 => ?_) (fun c24 => ?_)
                    · replace h := h.1 c24
                      refine jj_iconst (pc := 119) (v := 0) dX7_copy_119 (by decide) ?_
                      refine jj_istore (pc := 120) (l2 := [(6, .int 0), (0, .ref 58), (1, .int a1), (2, .int a2), (3, .int a3), (4, .int a4), (5, .int a5)]) dX7_copy_120 (by decide) rfl ?_
                      exact jj_sub [1, 2, 3, 4, 5, 6, 0] rfl h
                    · replace h := h.2 c24
                      refine jj_aload_n (pc := 113) dX7_copy_113 0 rfl ?_
                      refine jj_iconst (pc := 114) (v := 2) dX7_copy_114 (by decide) ?_
                      refine jj_callVi (pc := 115) (N := mX7_meets) (as := [.int 2]) (st := []) dX7_copy_115 rfl rfl rfl lk_RX7_101 hv_X7_meets rfl rfl h (fun v25 w26 h => ?_)
                      exact jj_iret (pc := 118) dX7_copy_118 rfl h
          · replace h := h.2 c11
            refine jj_aload_n (pc := 58) dX7_copy_58 0 rfl ?_
            refine jj_iconst (pc := 59) (v := 4) dX7_copy_59 (by decide) ?_
            refine jj_callVi (pc := 60) (N := mX7_meets) (as := [.int 4]) (st := []) dX7_copy_60 rfl rfl rfl lk_RX7_101 hv_X7_meets rfl rfl h (fun v27 w28 h => ?_)
            exact jj_iret (pc := 63) dX7_copy_63 rfl h
        · replace h := h.2 c10
          refine jj_aload_n (pc := 37) dX7_copy_37 0 rfl ?_
          refine jj_iconst (pc := 38) (v := 1) dX7_copy_38 (by decide) ?_
          refine jj_callVi (pc := 39) (N := mX7_meets) (as := [.int 1]) (st := []) dX7_copy_39 rfl rfl rfl lk_RX7_101 hv_X7_meets rfl rfl h (fun v29 w30 h => ?_)
          exact jj_iret (pc := 42) dX7_copy_42 rfl h
    · replace h := h.2 c6
      refine jj_bipush (pc := 14) (v := (-2)) dX7_copy_14 (by decide) ?_
      exact jj_iret (pc := 16) dX7_copy_16 rfl h
theorem en_X7_copy {K : jj_K} (R : Int32 → wo_T → Prop)  (a1 : Int32) (a2 : Int32) (a3 : Int32) (a4 : Int32) (a5 : Int32) (w : wo_T)
    (h : jj_Ci K mX7_isSheet [.int a1] w (fun v1 w2 => (v1 = 0 → R (-2) w2) ∧ (¬ v1 = 0 → jj_Ci K mX7_isSheet [.int a3] w2 (fun v4 w5 => (¬ v4 = 0 → vp_in a1 4 ∧ (((w5.1 69 a1.toNatClampNeg) = (-1) → jj_Ci K mX7_meets [.ref 58, .int 1] w5 (fun v8 w9 => R v8 w9)) ∧ (¬ (w5.1 69 a1.toNatClampNeg) = (-1) → vp_in a3 4 ∧ ((¬ (w5.1 69 a3.toNatClampNeg) = (-1) → vp_in a1 4 ∧ (vp_in a3 4 ∧ (((w5.1 69 a1.toNatClampNeg) = (w5.1 69 a3.toNatClampNeg) → (a2 < 0 → jj_Ci K mX7_meets [.ref 58, .int 2] w5 (fun v13 w14 => R v13 w14)) ∧ (¬ a2 < 0 → (a4 < 0 → jj_Ci K mX7_meets [.ref 58, .int 2] w5 (fun v16 w17 => R v16 w17)) ∧ (¬ a4 < 0 → (a5 < 0 → jj_Ci K mX7_meets [.ref 58, .int 2] w5 (fun v19 w20 => R v19 w20)) ∧ (¬ a5 < 0 → vp_in a1 4 ∧ ((((w5.1 70 a1.toNatClampNeg).toInt64) < (a2.toInt64 + a5.toInt64) → jj_Ci K mX7_meets [.ref 58, .int 2] w5 (fun v22 w23 => R v22 w23)) ∧ (¬ ((w5.1 70 a1.toNatClampNeg).toInt64) < (a2.toInt64 + a5.toInt64) → vp_in a3 4 ∧ (((a4.toInt64 + a5.toInt64) ≤ ((w5.1 70 a3.toNatClampNeg).toInt64) → jj_J K mX7_copy (jj_Ri R) 122 [(0, .ref 58), (1, .int a1), (2, .int a2), (3, .int a3), (4, .int a4), (5, .int a5), (6, .int 0)] [] w5) ∧ (¬ (a4.toInt64 + a5.toInt64) ≤ ((w5.1 70 a3.toNatClampNeg).toInt64) → jj_Ci K mX7_meets [.ref 58, .int 2] w5 (fun v25 w26 => R v25 w26))))))))) ∧ (¬ (w5.1 69 a1.toNatClampNeg) = (w5.1 69 a3.toNatClampNeg) → jj_Ci K mX7_meets [.ref 58, .int 4] w5 (fun v27 w28 => R v27 w28))))) ∧ ((w5.1 69 a3.toNatClampNeg) = (-1) → jj_Ci K mX7_meets [.ref 58, .int 1] w5 (fun v29 w30 => R v29 w30)))))) ∧ (v4 = 0 → R (-2) w5))))) : jj_Ci K mX7_copy [.ref 58, .int a1, .int a2, .int a3, .int a4, .int a5] w R :=
  jj_Ci_intro pn_RX7 (Nat.le_of_ble_eq_true rfl) (vc_X7_copy_0 R a1 a2 a3 a4 a5 w h)
set_option maxRecDepth 100000 in
set_option maxHeartbeats 4000000 in
theorem vc_X7_copy_122 {K : jj_K} (R : Int32 → wo_T → Prop)  (a1 : Int32) (a2 : Int32) (a3 : Int32) (a4 : Int32) (a5 : Int32) (a6 : Int32) (w : wo_T)
    (h : (a5 ≤ a6 → jj_J K mX7_copy (jj_Ri R) 159 [(0, .ref 58), (1, .int a1), (2, .int a2), (3, .int a3), (4, .int a4), (5, .int a5), (6, .int 0)] [] w) ∧ (¬ a5 ≤ a6 → vp_in (((40 * a1) + a2) + a6) 160 ∧ (vp_in a6 40 ∧ (jj_J K mX7_copy (jj_Ri R) 122 [(0, .ref 58), (1, .int a1), (2, .int a2), (3, .int a3), (4, .int a4), (5, .int a5), (6, .int (a6 + 1))] [] (wo_l w 72 a6.toNatClampNeg (w.2 71 (((40 * a1) + a2) + a6).toNatClampNeg)))))) :
    jj_J K mX7_copy (jj_Ri R) 122 [(0, .ref 58), (1, .int a1), (2, .int a2), (3, .int a3), (4, .int a4), (5, .int a5), (6, .int a6)] [] w := by
  refine jj_iload (pc := 122) dX7_copy_122 6 rfl ?_
  refine jj_iload (pc := 124) dX7_copy_124 5 rfl ?_
  refine jj_icmp_ge (pc := 126) (tgt := 156) dX7_copy_126 (by decide) (fun c1 => ?_) (fun c1 => ?_)
  · replace h := h.1 c1
    refine jj_iconst (pc := 156) (v := 0) dX7_copy_156 (by decide) ?_
    refine jj_istore (pc := 157) (l2 := [(6, .int 0), (0, .ref 58), (1, .int a1), (2, .int a2), (3, .int a3), (4, .int a4), (5, .int a5)]) dX7_copy_157 (by decide) rfl ?_
    exact jj_sub [1, 2, 3, 4, 5, 6, 0] rfl h
  · replace h := h.2 c1
    refine jj_aload_n (pc := 129) dX7_copy_129 0 rfl ?_
    refine jj_getR (pc := 130) (ci := 7) (k := 20) dX7_copy_130 rfl rfl (by decide) rfl lk_RX7_51 ?_
    refine jj_iload (pc := 133) dX7_copy_133 6 rfl ?_
    refine jj_aload_n (pc := 135) dX7_copy_135 0 rfl ?_
    refine jj_getR (pc := 136) (ci := 7) (k := 19) dX7_copy_136 rfl rfl (by decide) rfl lk_RX7_48 ?_
    refine jj_bipush (pc := 139) (v := 40) dX7_copy_139 (by decide) ?_
    refine jj_iload_n (pc := 141) dX7_copy_141 1 rfl ?_
    refine jj_imul (pc := 142) dX7_copy_142 ?_
    refine jj_iload_n (pc := 143) dX7_copy_143 2 rfl ?_
    refine jj_iadd (pc := 144) dX7_copy_144 ?_
    refine jj_iload (pc := 145) dX7_copy_145 6 rfl ?_
    refine jj_iadd (pc := 147) dX7_copy_147 ?_
    refine jj_lald (pc := 148) dX7_copy_148 rfl h.1 ?_
    replace h := h.2
    refine jj_last (pc := 149) dX7_copy_149 rfl h.1 ?_
    replace h := h.2
    refine jj_iinc (pc := 150) (v := a6 + 1) (l2 := [(6, .int (a6 + 1)), (0, .ref 58), (1, .int a1), (2, .int a2), (3, .int a3), (4, .int a4), (5, .int a5)]) dX7_copy_150 6 rfl rfl (by decide) rfl ?_
    refine jj_goto (pc := 153) (tgt := 122) dX7_copy_153 (by decide) ?_
    exact jj_sub [1, 2, 3, 4, 5, 6, 0] rfl h
set_option maxRecDepth 100000 in
set_option maxHeartbeats 4000000 in
theorem vc_X7_copy_159 {K : jj_K} (R : Int32 → wo_T → Prop)  (a1 : Int32) (a2 : Int32) (a3 : Int32) (a4 : Int32) (a5 : Int32) (a6 : Int32) (w : wo_T)
    (h : (a5 ≤ a6 → R 1 w) ∧ (¬ a5 ≤ a6 → vp_in a6 40 ∧ (vp_in (((40 * a3) + a4) + a6) 160 ∧ (jj_J K mX7_copy (jj_Ri R) 159 [(0, .ref 58), (1, .int a1), (2, .int a2), (3, .int a3), (4, .int a4), (5, .int a5), (6, .int (a6 + 1))] [] (wo_l w 71 (((40 * a3) + a4) + a6).toNatClampNeg (w.2 72 a6.toNatClampNeg)))))) :
    jj_J K mX7_copy (jj_Ri R) 159 [(0, .ref 58), (1, .int a1), (2, .int a2), (3, .int a3), (4, .int a4), (5, .int a5), (6, .int a6)] [] w := by
  refine jj_iload (pc := 159) dX7_copy_159 6 rfl ?_
  refine jj_iload (pc := 161) dX7_copy_161 5 rfl ?_
  refine jj_icmp_ge (pc := 163) (tgt := 194) dX7_copy_163 (by decide) (fun c1 => ?_) (fun c1 => ?_)
  · replace h := h.1 c1
    refine jj_iconst (pc := 194) (v := 1) dX7_copy_194 (by decide) ?_
    exact jj_iret (pc := 195) dX7_copy_195 rfl h
  · replace h := h.2 c1
    refine jj_aload_n (pc := 166) dX7_copy_166 0 rfl ?_
    refine jj_getR (pc := 167) (ci := 7) (k := 19) dX7_copy_167 rfl rfl (by decide) rfl lk_RX7_48 ?_
    refine jj_bipush (pc := 170) (v := 40) dX7_copy_170 (by decide) ?_
    refine jj_iload_n (pc := 172) dX7_copy_172 3 rfl ?_
    refine jj_imul (pc := 173) dX7_copy_173 ?_
    refine jj_iload (pc := 174) dX7_copy_174 4 rfl ?_
    refine jj_iadd (pc := 176) dX7_copy_176 ?_
    refine jj_iload (pc := 177) dX7_copy_177 6 rfl ?_
    refine jj_iadd (pc := 179) dX7_copy_179 ?_
    refine jj_aload_n (pc := 180) dX7_copy_180 0 rfl ?_
    refine jj_getR (pc := 181) (ci := 7) (k := 20) dX7_copy_181 rfl rfl (by decide) rfl lk_RX7_51 ?_
    refine jj_iload (pc := 184) dX7_copy_184 6 rfl ?_
    refine jj_lald (pc := 186) dX7_copy_186 rfl h.1 ?_
    replace h := h.2
    refine jj_last (pc := 187) dX7_copy_187 rfl h.1 ?_
    replace h := h.2
    refine jj_iinc (pc := 188) (v := a6 + 1) (l2 := [(6, .int (a6 + 1)), (0, .ref 58), (1, .int a1), (2, .int a2), (3, .int a3), (4, .int a4), (5, .int a5)]) dX7_copy_188 6 rfl rfl (by decide) rfl ?_
    refine jj_goto (pc := 191) (tgt := 159) dX7_copy_191 (by decide) ?_
    exact jj_sub [1, 2, 3, 4, 5, 6, 0] rfl h
set_option maxRecDepth 100000 in
set_option maxHeartbeats 4000000 in
theorem vc_X7_write_0 {K : jj_K} (R : Int32 → wo_T → Prop)  (a1 : Int32) (w : wo_T)
    (h : jj_Ci K mX7_isSheet [.int a1] w (fun v1 w2 => (¬ v1 = 0 → vp_in a1 4 ∧ ((¬ (w2.1 69 a1.toNatClampNeg) = (-1) → jj_Ci K mX7_bestOf [.ref 58, .int (w2.1 58 6)] w2 (fun v5 w6 => (¬ v5 = (-1) → jj_J K mX7_write (jj_Ri R) 43 [(0, .ref 58), (1, .int a1), (2, .int 0)] [] w6) ∧ (v5 = (-1) → R (-3) w6))) ∧ ((w2.1 69 a1.toNatClampNeg) = (-1) → jj_Ci K mX7_meets [.ref 58, .int 1] w2 (fun v8 w9 => R v8 w9)))) ∧ (v1 = 0 → R (-2) w2))) :
    jj_J K mX7_write (jj_Ri R) 0 [(0, .ref 58), (1, .int a1)] [] w := by
  refine jj_iload_n (pc := 0) dX7_write_0 1 rfl ?_
  refine jj_callSi (pc := 1) (N := mX7_isSheet) (as := [.int a1]) (st := []) dX7_write_1 lk_RX7_98 hv_X7_isSheet rfl rfl h (fun v1 w2 h => ?_)
  refine jj_if_ne (pc := 4) (tgt := 10) dX7_write_4 (by decide) (fun c3 => ?_) (fun c3 => ?_)
  · replace h := h.1 c3
    refine jj_aload_n (pc := 10) dX7_write_10 0 rfl ?_
    refine jj_getR (pc := 11) (ci := 7) (k := 17) dX7_write_11 rfl rfl (by decide) rfl lk_RX7_42 ?_
    refine jj_iload_n (pc := 14) dX7_write_14 1 rfl ?_
    refine jj_iald (pc := 15) dX7_write_15 rfl h.1 ?_
    replace h := h.2
    refine jj_iconst (pc := 16) (v := (-1)) dX7_write_16 (by decide) ?_
    refine jj_icmp_ne (pc := 17) (tgt := 26) dX7_write_17 (by decide) (fun c4 => ?_) (fun c4 => ?_)
    · replace h := h.1 c4
      refine jj_aload_n (pc := 26) dX7_write_26 0 rfl ?_
      refine jj_aload_n (pc := 27) dX7_write_27 0 rfl ?_
      refine jj_getI (pc := 28) (ci := 7) (k := 6) dX7_write_28 rfl rfl (by decide) rfl lk_RX7_76 ?_
      refine jj_callVi (pc := 31) (N := mX7_bestOf) (as := [.int (w2.1 58 6)]) (st := []) dX7_write_31 rfl rfl rfl lk_RX7_157 hv_X7_bestOf rfl rfl h (fun v5 w6 h => ?_)
      refine jj_iconst (pc := 34) (v := (-1)) dX7_write_34 (by decide) ?_
      refine jj_icmp_ne (pc := 35) (tgt := 41) dX7_write_35 (by decide) (fun c7 => ?_) (fun c7 => ?_)
      · replace h := h.1 c7
        refine jj_iconst (pc := 41) (v := 0) dX7_write_41 (by decide) ?_
        refine jj_istore_n (pc := 42) (l2 := [(2, .int 0), (0, .ref 58), (1, .int a1)]) dX7_write_42 (by decide) rfl ?_
        exact jj_sub [1, 2, 0] rfl h
      · replace h := h.2 c7
        refine jj_bipush (pc := 38) (v := (-3)) dX7_write_38 (by decide) ?_
        exact jj_iret (pc := 40) dX7_write_40 rfl h
    · replace h := h.2 c4
      refine jj_aload_n (pc := 20) dX7_write_20 0 rfl ?_
      refine jj_iconst (pc := 21) (v := 1) dX7_write_21 (by decide) ?_
      refine jj_callVi (pc := 22) (N := mX7_meets) (as := [.int 1]) (st := []) dX7_write_22 rfl rfl rfl lk_RX7_101 hv_X7_meets rfl rfl h (fun v8 w9 h => ?_)
      exact jj_iret (pc := 25) dX7_write_25 rfl h
  · replace h := h.2 c3
    refine jj_bipush (pc := 7) (v := (-2)) dX7_write_7 (by decide) ?_
    exact jj_iret (pc := 9) dX7_write_9 rfl h
theorem en_X7_write {K : jj_K} (R : Int32 → wo_T → Prop)  (a1 : Int32) (w : wo_T)
    (h : jj_Ci K mX7_isSheet [.int a1] w (fun v1 w2 => (¬ v1 = 0 → vp_in a1 4 ∧ ((¬ (w2.1 69 a1.toNatClampNeg) = (-1) → jj_Ci K mX7_bestOf [.ref 58, .int (w2.1 58 6)] w2 (fun v5 w6 => (¬ v5 = (-1) → jj_J K mX7_write (jj_Ri R) 43 [(0, .ref 58), (1, .int a1), (2, .int 0)] [] w6) ∧ (v5 = (-1) → R (-3) w6))) ∧ ((w2.1 69 a1.toNatClampNeg) = (-1) → jj_Ci K mX7_meets [.ref 58, .int 1] w2 (fun v8 w9 => R v8 w9)))) ∧ (v1 = 0 → R (-2) w2))) : jj_Ci K mX7_write [.ref 58, .int a1] w R :=
  jj_Ci_intro pn_RX7 (Nat.le_of_ble_eq_true rfl) (vc_X7_write_0 R a1 w h)
set_option maxRecDepth 100000 in
set_option maxHeartbeats 4000000 in
theorem vc_X7_write_43 {K : jj_K} (R : Int32 → wo_T → Prop)  (a1 : Int32) (a2 : Int32) (w : wo_T)
    (h : vp_in a1 4 ∧ (((w.1 70 a1.toNatClampNeg) ≤ a2 → R a2 w) ∧ (¬ (w.1 70 a1.toNatClampNeg) ≤ a2 → jj_Ci K mX7_pairs [.ref 58] w (fun v2 w3 => ((2 * v2) ≤ a2 → R a2 w3) ∧ (¬ (2 * v2) ≤ a2 → jj_Cl K mX7_pullOf [.ref 58, .int (a2 / 2), .int (a2 - a2 / 2 * 2)] w3 (fun v5 w6 => vp_in a1 4 ∧ ((¬ (w6.1 69 a1.toNatClampNeg) = 0 → vp_in ((40 * a1) + a2) 160 ∧ (jj_J K mX7_write (jj_Ri R) 43 [(0, .ref 58), (1, .int a1), (2, .int (a2 + 1))] [] (wo_l w6 71 ((40 * a1) + a2).toNatClampNeg v5))) ∧ ((w6.1 69 a1.toNatClampNeg) = 0 → vp_in ((40 * a1) + a2) 160 ∧ (jj_J K mX7_write (jj_Ri R) 43 [(0, .ref 58), (1, .int a1), (2, .int (a2 + 1))] [] (wo_l w6 71 ((40 * a1) + a2).toNatClampNeg v5.toInt32.toInt64)))))))))) :
    jj_J K mX7_write (jj_Ri R) 43 [(0, .ref 58), (1, .int a1), (2, .int a2)] [] w := by
  refine jj_iload_n (pc := 43) dX7_write_43 2 rfl ?_
  refine jj_aload_n (pc := 44) dX7_write_44 0 rfl ?_
  refine jj_getR (pc := 45) (ci := 7) (k := 18) dX7_write_45 rfl rfl (by decide) rfl lk_RX7_45 ?_
  refine jj_iload_n (pc := 48) dX7_write_48 1 rfl ?_
  refine jj_iald (pc := 49) dX7_write_49 rfl h.1 ?_
  replace h := h.2
  refine jj_icmp_ge (pc := 50) (tgt := 107) dX7_write_50 (by decide) (fun c1 => ?_) (fun c1 => ?_)
  · replace h := h.1 c1
    refine jj_iload_n (pc := 107) dX7_write_107 2 rfl ?_
    exact jj_iret (pc := 108) dX7_write_108 rfl h
  · replace h := h.2 c1
    refine jj_iload_n (pc := 53) dX7_write_53 2 rfl ?_
    refine jj_iconst (pc := 54) (v := 2) dX7_write_54 (by decide) ?_
    refine jj_aload_n (pc := 55) dX7_write_55 0 rfl ?_
    refine jj_callVi (pc := 56) (N := mX7_pairs) (as := []) (st := [.int 2, .int a2]) dX7_write_56 rfl rfl rfl lk_RX7_68 hv_X7_pairs rfl rfl h (fun v2 w3 h => ?_)
    refine jj_imul (pc := 59) dX7_write_59 ?_
    refine jj_icmp_ge (pc := 60) (tgt := 107) dX7_write_60 (by decide) (fun c4 => ?_) (fun c4 => ?_)
    · replace h := h.1 c4
      refine jj_iload_n (pc := 107) dX7_write_107 2 rfl ?_
      exact jj_iret (pc := 108) dX7_write_108 rfl h
    · replace h := h.2 c4
      refine jj_aload_n (pc := 63) dX7_write_63 0 rfl ?_
      refine jj_iload_n (pc := 64) dX7_write_64 2 rfl ?_
      refine jj_iconst (pc := 65) (v := 2) dX7_write_65 (by decide) ?_
      refine jj_idiv (pc := 66) dX7_write_66 (by decide) ?_
      refine jj_iload_n (pc := 67) dX7_write_67 2 rfl ?_
      refine jj_iconst (pc := 68) (v := 2) dX7_write_68 (by decide) ?_
      refine jj_irem (pc := 69) dX7_write_69 (by decide) ?_
      refine jj_callVl (pc := 70) (N := mX7_pullOf) (as := [.int (a2 / 2), .int (a2 - a2 / 2 * 2)]) (st := []) dX7_write_70 rfl rfl rfl lk_RX7_171 hv_X7_pullOf rfl rfl h (fun v5 w6 h => ?_)
      refine jj_lstore_n (pc := 73) (l2 := [(3, .long v5), (0, .ref 58), (1, .int a1), (2, .int a2)]) dX7_write_73 (by decide) rfl ?_
      refine jj_aload_n (pc := 74) dX7_write_74 1 rfl ?_
      refine jj_getR (pc := 75) (ci := 7) (k := 19) dX7_write_75 rfl rfl (by decide) rfl lk_RX7_48 ?_
      refine jj_bipush (pc := 78) (v := 40) dX7_write_78 (by decide) ?_
      refine jj_iload_n (pc := 80) dX7_write_80 2 rfl ?_
      refine jj_imul (pc := 81) dX7_write_81 ?_
      refine jj_iload_n (pc := 82) dX7_write_82 3 rfl ?_
      refine jj_iadd (pc := 83) dX7_write_83 ?_
      refine jj_aload_n (pc := 84) dX7_write_84 1 rfl ?_
      refine jj_getR (pc := 85) (ci := 7) (k := 17) dX7_write_85 rfl rfl (by decide) rfl lk_RX7_42 ?_
      refine jj_iload_n (pc := 88) dX7_write_88 2 rfl ?_
      refine jj_iald (pc := 89) dX7_write_89 rfl h.1 ?_
      replace h := h.2
      refine jj_if_ne (pc := 90) (tgt := 99) dX7_write_90 (by decide) (fun c7 => ?_) (fun c7 => ?_)
      · replace h := h.1 c7
        refine jj_lload_n (pc := 99) dX7_write_99 0 rfl ?_
        refine jj_last (pc := 100) dX7_write_100 rfl h.1 ?_
        replace h := h.2
        refine jj_iinc (pc := 101) (v := a2 + 1) (l2 := [(2, .int (a2 + 1)), (3, .long v5), (0, .ref 58), (1, .int a1)]) dX7_write_101 3 rfl rfl (by decide) rfl ?_
        refine jj_goto (pc := 104) (tgt := 43) dX7_write_104 (by decide) ?_
        exact jj_sub [2, 3, 0] rfl h
      · replace h := h.2 c7
        refine jj_lload_n (pc := 93) dX7_write_93 0 rfl ?_
        refine jj_l2i (pc := 94) dX7_write_94 ?_
        refine jj_i2l (pc := 95) dX7_write_95 ?_
        refine jj_goto (pc := 96) (tgt := 100) dX7_write_96 (by decide) ?_
        refine jj_last (pc := 100) dX7_write_100 rfl h.1 ?_
        replace h := h.2
        refine jj_iinc (pc := 101) (v := a2 + 1) (l2 := [(2, .int (a2 + 1)), (3, .long v5), (0, .ref 58), (1, .int a1)]) dX7_write_101 3 rfl rfl (by decide) rfl ?_
        refine jj_goto (pc := 104) (tgt := 43) dX7_write_104 (by decide) ?_
        exact jj_sub [2, 3, 0] rfl h
set_option maxRecDepth 100000 in
set_option maxHeartbeats 4000000 in
theorem vc_X7_ways_0 {K : jj_K} (R : Int32 → wo_T → Prop)   (w : wo_T)
    (h : jj_J K mX7_ways (jj_Ri R) 4 [(0, .ref 58), (1, .int 0), (2, .int 0)] [] w) :
    jj_J K mX7_ways (jj_Ri R) 0 [(0, .ref 58)] [] w := by
  refine jj_iconst (pc := 0) (v := 0) dX7_ways_0 (by decide) ?_
  refine jj_istore_n (pc := 1) (l2 := [(1, .int 0), (0, .ref 58)]) dX7_ways_1 (by decide) rfl ?_
  refine jj_iconst (pc := 2) (v := 0) dX7_ways_2 (by decide) ?_
  refine jj_istore_n (pc := 3) (l2 := [(2, .int 0), (1, .int 0), (0, .ref 58)]) dX7_ways_3 (by decide) rfl ?_
  exact jj_sub [2, 1, 0] rfl h
theorem en_X7_ways {K : jj_K} (R : Int32 → wo_T → Prop)   (w : wo_T)
    (h : jj_J K mX7_ways (jj_Ri R) 4 [(0, .ref 58), (1, .int 0), (2, .int 0)] [] w) : jj_Ci K mX7_ways [.ref 58] w R :=
  jj_Ci_intro pn_RX7 (Nat.le_of_ble_eq_true rfl) (vc_X7_ways_0 R  w h)
set_option maxRecDepth 100000 in
set_option maxHeartbeats 4000000 in
theorem vc_X7_ways_4 {K : jj_K} (R : Int32 → wo_T → Prop)  (a1 : Int32) (a2 : Int32) (w : wo_T)
    (h : (10 ≤ a2 → R a1 w) ∧ (¬ 10 ≤ a2 → jj_Ci K mX7_isWay [.ref 58, .int a2] w (fun v2 w3 => (v2 = 0 → ∀ x5 : Int32, x5 = a1 + 0 → (jj_J K mX7_ways (jj_Ri R) 4 [(0, .ref 58), (1, .int x5), (2, .int (a2 + 1))] [] w3)) ∧ (¬ v2 = 0 → ∀ x6 : Int32, x6 = a1 + 1 → (jj_J K mX7_ways (jj_Ri R) 4 [(0, .ref 58), (1, .int x6), (2, .int (a2 + 1))] [] w3))))) :
    jj_J K mX7_ways (jj_Ri R) 4 [(0, .ref 58), (1, .int a1), (2, .int a2)] [] w := by
  refine jj_iload_n (pc := 4) dX7_ways_4 2 rfl ?_
  refine jj_bipush (pc := 5) (v := 10) dX7_ways_5 (by decide) ?_
  refine jj_icmp_ge (pc := 7) (tgt := 32) dX7_ways_7 (by decide) (fun c1 => ?_) (fun c1 => ?_)
  · replace h := h.1 c1
    refine jj_iload_n (pc := 32) dX7_ways_32 1 rfl ?_
    exact jj_iret (pc := 33) dX7_ways_33 rfl h
  · replace h := h.2 c1
    refine jj_iload_n (pc := 10) dX7_ways_10 1 rfl ?_
    refine jj_aload_n (pc := 11) dX7_ways_11 0 rfl ?_
    refine jj_iload_n (pc := 12) dX7_ways_12 2 rfl ?_
    refine jj_callVi (pc := 13) (N := mX7_isWay) (as := [.int a2]) (st := [.int a1]) dX7_ways_13 rfl rfl rfl lk_RX7_131 hv_X7_isWay rfl rfl h (fun v2 w3 h => ?_)
    refine jj_if_eq (pc := 16) (tgt := 23) dX7_ways_16 (by decide) (fun c4 => ?_) (fun c4 => ?_)
    · replace h := h.1 c4
      refine jj_iconst (pc := 23) (v := 0) dX7_ways_23 (by decide) ?_
      refine jj_iadd (pc := 24) dX7_ways_24 ?_
      refine jj_nmi (fun x5 ex5 => ?_)
      replace h := h x5 ex5
      refine jj_istore_n (pc := 25) (l2 := [(1, .int x5), (0, .ref 58), (2, .int a2)]) dX7_ways_25 (by decide) rfl ?_
      refine jj_iinc (pc := 26) (v := a2 + 1) (l2 := [(2, .int (a2 + 1)), (1, .int x5), (0, .ref 58)]) dX7_ways_26 2 rfl rfl (by decide) rfl ?_
      refine jj_goto (pc := 29) (tgt := 4) dX7_ways_29 (by decide) ?_
      exact jj_sub [2, 1, 0] rfl h
    · replace h := h.2 c4
      refine jj_iconst (pc := 19) (v := 1) dX7_ways_19 (by decide) ?_
      refine jj_goto (pc := 20) (tgt := 24) dX7_ways_20 (by decide) ?_
      refine jj_iadd (pc := 24) dX7_ways_24 ?_
      refine jj_nmi (fun x6 ex6 => ?_)
      replace h := h x6 ex6
      refine jj_istore_n (pc := 25) (l2 := [(1, .int x6), (0, .ref 58), (2, .int a2)]) dX7_ways_25 (by decide) rfl ?_
      refine jj_iinc (pc := 26) (v := a2 + 1) (l2 := [(2, .int (a2 + 1)), (1, .int x6), (0, .ref 58)]) dX7_ways_26 2 rfl rfl (by decide) rfl ?_
      refine jj_goto (pc := 29) (tgt := 4) dX7_ways_29 (by decide) ?_
      exact jj_sub [2, 1, 0] rfl h
set_option maxRecDepth 100000 in
set_option maxHeartbeats 4000000 in
theorem vc_X7_count_0 {K : jj_K} (R : Int32 → wo_T → Prop)  (a1 : Int32) (w : wo_T)
    (h : jj_Ci K mX7_bestOf [.ref 58, .int (w.1 58 6)] w (fun v1 w2 => (a1 = 0 → R (w2.1 58 5) w2) ∧ (a1 = 1 → jj_Ci K mX7_size [.int (w2.1 58 6)] w2 (fun v5 w6 => R v5 w6)) ∧ (a1 = 2 → jj_Ci K mX7_ways [.ref 58] w2 (fun v8 w9 => R v8 w9)) ∧ (a1 = 3 → (¬ v1 = (-1) → jj_Ci K mX7_size [.int v1] w2 (fun v12 w13 => R v12 w13)) ∧ (v1 = (-1) → R (-1) w2)) ∧ (a1 = 4 → (¬ v1 = (-1) → jj_Ci K mX7_neededNow [.ref 58] w2 (fun v16 w17 => jj_Ci K mX7_size [.int v16] w17 (fun v18 w19 => R v18 w19))) ∧ (v1 = (-1) → R (-1) w2)) ∧ (a1 = 5 → (¬ v1 = (-1) → R 1 w2) ∧ (v1 = (-1) → R 0 w2)) ∧ (a1 = 6 → jj_Ci K mX7_crossings [.ref 58] w2 (fun v23 w24 => R v23 w24)) ∧ (a1 = 7 → jj_Ci K mX7_provesNow [.ref 58] w2 (fun v26 w27 => R v26 w27)) ∧ (a1 = 8 → R (w2.1 58 21) w2) ∧ (¬ a1 = 0 → ¬ a1 = 1 → ¬ a1 = 2 → ¬ a1 = 3 → ¬ a1 = 4 → ¬ a1 = 5 → ¬ a1 = 6 → ¬ a1 = 7 → ¬ a1 = 8 → R (-2) w2))) :
    jj_J K mX7_count (jj_Ri R) 0 [(0, .ref 58), (1, .int a1)] [] w := by
  refine jj_aload_n (pc := 0) dX7_count_0 0 rfl ?_
  refine jj_aload_n (pc := 1) dX7_count_1 0 rfl ?_
  refine jj_getI (pc := 2) (ci := 7) (k := 6) dX7_count_2 rfl rfl (by decide) rfl lk_RX7_76 ?_
  refine jj_callVi (pc := 5) (N := mX7_bestOf) (as := [.int (w.1 58 6)]) (st := []) dX7_count_5 rfl rfl rfl lk_RX7_157 hv_X7_bestOf rfl rfl h (fun v1 w2 h => ?_)
  refine jj_istore_n (pc := 8) (l2 := [(2, .int v1), (0, .ref 58), (1, .int a1)]) dX7_count_8 (by decide) rfl ?_
  refine jj_iload_n (pc := 9) dX7_count_9 2 rfl ?_
  by_cases c3 : a1 = 0
  · replace h := h.1 c3
    refine jj_swIn (pc := 10) (tgt := 60) dX7_count_10 (by rw [c3]; decide) (by rw [c3]; decide) (by rw [c3]; rfl) (by decide) ?_
    refine jj_aload_n (pc := 60) dX7_count_60 1 rfl ?_
    refine jj_getI (pc := 61) (ci := 7) (k := 5) dX7_count_61 rfl rfl (by decide) rfl lk_RX7_60 ?_
    exact jj_iret (pc := 64) dX7_count_64 rfl h
  replace h := h.2
  by_cases c4 : a1 = 1
  · replace h := h.1 c4
    refine jj_swIn (pc := 10) (tgt := 65) dX7_count_10 (by rw [c4]; decide) (by rw [c4]; decide) (by rw [c4]; rfl) (by decide) ?_
    refine jj_aload_n (pc := 65) dX7_count_65 1 rfl ?_
    refine jj_getI (pc := 66) (ci := 7) (k := 6) dX7_count_66 rfl rfl (by decide) rfl lk_RX7_76 ?_
    refine jj_callSi (pc := 69) (N := mX7_size) (as := [.int (w2.1 58 6)]) (st := []) dX7_count_69 lk_RX7_145 hv_X7_size rfl rfl h (fun v5 w6 h => ?_)
    exact jj_iret (pc := 72) dX7_count_72 rfl h
  replace h := h.2
  by_cases c7 : a1 = 2
  · replace h := h.1 c7
    refine jj_swIn (pc := 10) (tgt := 73) dX7_count_10 (by rw [c7]; decide) (by rw [c7]; decide) (by rw [c7]; rfl) (by decide) ?_
    refine jj_aload_n (pc := 73) dX7_count_73 1 rfl ?_
    refine jj_callVi (pc := 74) (N := mX7_ways) (as := []) (st := []) dX7_count_74 rfl rfl rfl lk_RX7_233 hv_X7_ways rfl rfl h (fun v8 w9 h => ?_)
    exact jj_iret (pc := 77) dX7_count_77 rfl h
  replace h := h.2
  by_cases c10 : a1 = 3
  · replace h := h.1 c10
    refine jj_swIn (pc := 10) (tgt := 78) dX7_count_10 (by rw [c10]; decide) (by rw [c10]; decide) (by rw [c10]; rfl) (by decide) ?_
    refine jj_iload_n (pc := 78) dX7_count_78 0 rfl ?_
    refine jj_iconst (pc := 79) (v := (-1)) dX7_count_79 (by decide) ?_
    refine jj_icmp_ne (pc := 80) (tgt := 87) dX7_count_80 (by decide) (fun c11 => ?_) (fun c11 => ?_)
    · replace h := h.1 c11
      refine jj_iload_n (pc := 87) dX7_count_87 0 rfl ?_
      refine jj_callSi (pc := 88) (N := mX7_size) (as := [.int v1]) (st := []) dX7_count_88 lk_RX7_145 hv_X7_size rfl rfl h (fun v12 w13 h => ?_)
      exact jj_iret (pc := 91) dX7_count_91 rfl h
    · replace h := h.2 c11
      refine jj_iconst (pc := 83) (v := (-1)) dX7_count_83 (by decide) ?_
      refine jj_goto (pc := 84) (tgt := 91) dX7_count_84 (by decide) ?_
      exact jj_iret (pc := 91) dX7_count_91 rfl h
  replace h := h.2
  by_cases c14 : a1 = 4
  · replace h := h.1 c14
    refine jj_swIn (pc := 10) (tgt := 92) dX7_count_10 (by rw [c14]; decide) (by rw [c14]; decide) (by rw [c14]; rfl) (by decide) ?_
    refine jj_iload_n (pc := 92) dX7_count_92 0 rfl ?_
    refine jj_iconst (pc := 93) (v := (-1)) dX7_count_93 (by decide) ?_
    refine jj_icmp_ne (pc := 94) (tgt := 101) dX7_count_94 (by decide) (fun c15 => ?_) (fun c15 => ?_)
    · replace h := h.1 c15
      refine jj_aload_n (pc := 101) dX7_count_101 1 rfl ?_
      refine jj_callVi (pc := 102) (N := mX7_neededNow) (as := []) (st := []) dX7_count_102 rfl rfl rfl lk_RX7_180 hv_X7_neededNow rfl rfl h (fun v16 w17 h => ?_)
      refine jj_callSi (pc := 105) (N := mX7_size) (as := [.int v16]) (st := []) dX7_count_105 lk_RX7_145 hv_X7_size rfl rfl h (fun v18 w19 h => ?_)
      exact jj_iret (pc := 108) dX7_count_108 rfl h
    · replace h := h.2 c15
      refine jj_iconst (pc := 97) (v := (-1)) dX7_count_97 (by decide) ?_
      refine jj_goto (pc := 98) (tgt := 108) dX7_count_98 (by decide) ?_
      exact jj_iret (pc := 108) dX7_count_108 rfl h
  replace h := h.2
  by_cases c20 : a1 = 5
  · replace h := h.1 c20
    refine jj_swIn (pc := 10) (tgt := 109) dX7_count_10 (by rw [c20]; decide) (by rw [c20]; decide) (by rw [c20]; rfl) (by decide) ?_
    refine jj_iload_n (pc := 109) dX7_count_109 0 rfl ?_
    refine jj_iconst (pc := 110) (v := (-1)) dX7_count_110 (by decide) ?_
    refine jj_icmp_ne (pc := 111) (tgt := 118) dX7_count_111 (by decide) (fun c21 => ?_) (fun c21 => ?_)
    · replace h := h.1 c21
      refine jj_iconst (pc := 118) (v := 1) dX7_count_118 (by decide) ?_
      exact jj_iret (pc := 119) dX7_count_119 rfl h
    · replace h := h.2 c21
      refine jj_iconst (pc := 114) (v := 0) dX7_count_114 (by decide) ?_
      refine jj_goto (pc := 115) (tgt := 119) dX7_count_115 (by decide) ?_
      exact jj_iret (pc := 119) dX7_count_119 rfl h
  replace h := h.2
  by_cases c22 : a1 = 6
  · replace h := h.1 c22
    refine jj_swIn (pc := 10) (tgt := 120) dX7_count_10 (by rw [c22]; decide) (by rw [c22]; decide) (by rw [c22]; rfl) (by decide) ?_
    refine jj_aload_n (pc := 120) dX7_count_120 1 rfl ?_
    refine jj_callVi (pc := 121) (N := mX7_crossings) (as := []) (st := []) dX7_count_121 rfl rfl rfl lk_RX7_236 hv_X7_crossings rfl rfl h (fun v23 w24 h => ?_)
    exact jj_iret (pc := 124) dX7_count_124 rfl h
  replace h := h.2
  by_cases c25 : a1 = 7
  · replace h := h.1 c25
    refine jj_swIn (pc := 10) (tgt := 125) dX7_count_10 (by rw [c25]; decide) (by rw [c25]; decide) (by rw [c25]; rfl) (by decide) ?_
    refine jj_aload_n (pc := 125) dX7_count_125 1 rfl ?_
    refine jj_callVi (pc := 126) (N := mX7_provesNow) (as := []) (st := []) dX7_count_126 rfl rfl rfl lk_RX7_207 hv_X7_provesNow rfl rfl h (fun v26 w27 h => ?_)
    exact jj_iret (pc := 129) dX7_count_129 rfl h
  replace h := h.2
  by_cases c28 : a1 = 8
  · replace h := h.1 c28
    refine jj_swIn (pc := 10) (tgt := 130) dX7_count_10 (by rw [c28]; decide) (by rw [c28]; decide) (by rw [c28]; rfl) (by decide) ?_
    refine jj_aload_n (pc := 130) dX7_count_130 1 rfl ?_
    refine jj_getI (pc := 131) (ci := 7) (k := 21) dX7_count_131 rfl rfl (by decide) rfl lk_RX7_228 ?_
    exact jj_iret (pc := 134) dX7_count_134 rfl h
  replace h := h.2
  replace h := h c3 c4 c7 c10 c14 c20 c22 c25 c28
  refine jj_swOut (pc := 10) (tgt := 135) dX7_count_10 (jj_swo 9 (by decide) (fun j hj => match j, hj with | 0, _ => c3 | 1, _ => c4 | 2, _ => c7 | 3, _ => c10 | 4, _ => c14 | 5, _ => c20 | 6, _ => c22 | 7, _ => c25 | 8, _ => c28 | j + 9, hj => absurd hj (by omega))) (by decide) ?_
  refine jj_bipush (pc := 135) (v := (-2)) dX7_count_135 (by decide) ?_
  exact jj_iret (pc := 137) dX7_count_137 rfl h
theorem en_X7_count {K : jj_K} (R : Int32 → wo_T → Prop)  (a1 : Int32) (w : wo_T)
    (h : jj_Ci K mX7_bestOf [.ref 58, .int (w.1 58 6)] w (fun v1 w2 => (a1 = 0 → R (w2.1 58 5) w2) ∧ (a1 = 1 → jj_Ci K mX7_size [.int (w2.1 58 6)] w2 (fun v5 w6 => R v5 w6)) ∧ (a1 = 2 → jj_Ci K mX7_ways [.ref 58] w2 (fun v8 w9 => R v8 w9)) ∧ (a1 = 3 → (¬ v1 = (-1) → jj_Ci K mX7_size [.int v1] w2 (fun v12 w13 => R v12 w13)) ∧ (v1 = (-1) → R (-1) w2)) ∧ (a1 = 4 → (¬ v1 = (-1) → jj_Ci K mX7_neededNow [.ref 58] w2 (fun v16 w17 => jj_Ci K mX7_size [.int v16] w17 (fun v18 w19 => R v18 w19))) ∧ (v1 = (-1) → R (-1) w2)) ∧ (a1 = 5 → (¬ v1 = (-1) → R 1 w2) ∧ (v1 = (-1) → R 0 w2)) ∧ (a1 = 6 → jj_Ci K mX7_crossings [.ref 58] w2 (fun v23 w24 => R v23 w24)) ∧ (a1 = 7 → jj_Ci K mX7_provesNow [.ref 58] w2 (fun v26 w27 => R v26 w27)) ∧ (a1 = 8 → R (w2.1 58 21) w2) ∧ (¬ a1 = 0 → ¬ a1 = 1 → ¬ a1 = 2 → ¬ a1 = 3 → ¬ a1 = 4 → ¬ a1 = 5 → ¬ a1 = 6 → ¬ a1 = 7 → ¬ a1 = 8 → R (-2) w2))) : jj_Ci K mX7_count [.ref 58, .int a1] w R :=
  jj_Ci_intro pn_RX7 (Nat.le_of_ble_eq_true rfl) (vc_X7_count_0 R a1 w h)
set_option maxRecDepth 100000 in
set_option maxHeartbeats 4000000 in
theorem vc_X7_pairDigest_0 {K : jj_K} (R : Int64 → wo_T → Prop)  (a1 : Int64) (a3 : Int32) (w : wo_T)
    (h : jj_J K mX7_pairDigest (jj_Rl R) 6 [(0, .ref 58), (1, .long a1), (3, .int a3), (4, .long a1), (6, .int 0)] [] w) :
    jj_J K mX7_pairDigest (jj_Rl R) 0 [(0, .ref 58), (1, .long a1), (3, .int a3)] [] w := by
  refine jj_lload_n (pc := 0) dX7_pairDigest_0 1 rfl ?_
  refine jj_lstore (pc := 1) (l2 := [(4, .long a1), (0, .ref 58), (1, .long a1), (3, .int a3)]) dX7_pairDigest_1 (by decide) rfl ?_
  refine jj_iconst (pc := 3) (v := 0) dX7_pairDigest_3 (by decide) ?_
  refine jj_istore (pc := 4) (l2 := [(6, .int 0), (4, .long a1), (0, .ref 58), (1, .long a1), (3, .int a3)]) dX7_pairDigest_4 (by decide) rfl ?_
  exact jj_sub [2, 3, 4, 1, 0] rfl h
theorem en_X7_pairDigest {K : jj_K} (R : Int64 → wo_T → Prop)  (a1 : Int64) (a3 : Int32) (w : wo_T)
    (h : jj_J K mX7_pairDigest (jj_Rl R) 6 [(0, .ref 58), (1, .long a1), (3, .int a3), (4, .long a1), (6, .int 0)] [] w) : jj_Cl K mX7_pairDigest [.ref 58, .long a1, .int a3] w R :=
  jj_Cl_intro pn_RX7 (Nat.le_of_ble_eq_true rfl) (vc_X7_pairDigest_0 R a1 a3 w h)
set_option maxRecDepth 100000 in
set_option maxHeartbeats 4000000 in
theorem vc_X7_pairDigest_6 {K : jj_K} (R : Int64 → wo_T → Prop)  (a1 : Int64) (a3 : Int32) (a4 : Int64) (a6 : Int32) (w : wo_T)
    (h : (4 ≤ a6 → jj_Cl K mX7_pullOf [.ref 58, .int a3, .int 0] w (fun v2 w3 => ∀ x4 : Int64, x4 = (31 * a4) + v2 → (jj_Cl K mX7_pullOf [.ref 58, .int a3, .int 1] w3 (fun v5 w6 => ∀ x7 : Int64, x7 = (31 * x4) + v5 → (jj_Cl K mX7_stretch [.ref 58, .int a3, .int 0] w6 (fun v8 w9 => ∀ x10 : Int64, x10 = (31 * x7) + v8 → (jj_Cl K mX7_stretch [.ref 58, .int a3, .int 1] w9 (fun v11 w12 => ∀ x13 : Int64, x13 = (31 * x10) + v11 → (jj_Ci K mX7_isBar [.ref 58, .int a3] w12 (fun v14 w15 => (v14 = 0 → jj_Cl K mX7_gainOf [.ref 58, .int a3, .int 0] w15 (fun v17 w18 => ∀ x19 : Int64, x19 = (31 * x13) + v17 → (jj_Cl K mX7_gainOf [.ref 58, .int a3, .int 1] w18 (fun v20 w21 => R ((31 * x19) + v20) w21)))) ∧ (¬ v14 = 0 → jj_Cl K mX7_without [.ref 58, .int a3, .int 0] w15 (fun v22 w23 => ∀ x24 : Int64, x24 = (31 * x13) + v22 → (jj_Cl K mX7_without [.ref 58, .int a3, .int 1] w23 (fun v25 w26 => ∀ x27 : Int64, x27 = (31 * x24) + v25 → (jj_Ci K mX7_why [.ref 58, .int a3] w26 (fun v28 w29 => R ((31 * x27) + v28.toInt64) w29)))))))))))))))) ∧ (¬ 4 ≤ a6 → jj_Ci K mX7_pairOf [.ref 58, .int a3, .int a6] w (fun v30 w31 => ∀ x32 : Int64, x32 = (31 * a4) + v30.toInt64 → (jj_J K mX7_pairDigest (jj_Rl R) 6 [(0, .ref 58), (1, .long a1), (3, .int a3), (4, .long x32), (6, .int (a6 + 1))] [] w31)))) :
    jj_J K mX7_pairDigest (jj_Rl R) 6 [(0, .ref 58), (1, .long a1), (3, .int a3), (4, .long a4), (6, .int a6)] [] w := by
  refine jj_iload (pc := 6) dX7_pairDigest_6 4 rfl ?_
  refine jj_iconst (pc := 8) (v := 4) dX7_pairDigest_8 (by decide) ?_
  refine jj_icmp_ge (pc := 9) (tgt := 35) dX7_pairDigest_9 (by decide) (fun c1 => ?_) (fun c1 => ?_)
  · replace h := h.1 c1
    refine jj_ldc2 (pc := 35) (v := 31) dX7_pairDigest_35 lk_RX7_239 ?_
    refine jj_lload (pc := 38) dX7_pairDigest_38 3 rfl ?_
    refine jj_lmul (pc := 40) dX7_pairDigest_40 ?_
    refine jj_aload_n (pc := 41) dX7_pairDigest_41 0 rfl ?_
    refine jj_iload_n (pc := 42) dX7_pairDigest_42 2 rfl ?_
    refine jj_iconst (pc := 43) (v := 0) dX7_pairDigest_43 (by decide) ?_
    refine jj_callVl (pc := 44) (N := mX7_pullOf) (as := [.int a3, .int 0]) (st := [.long (31 * a4)]) dX7_pairDigest_44 rfl rfl rfl lk_RX7_171 hv_X7_pullOf rfl rfl h (fun v2 w3 h => ?_)
    refine jj_ladd (pc := 47) dX7_pairDigest_47 ?_
    refine jj_nml (fun x4 ex4 => ?_)
    replace h := h x4 ex4
    refine jj_lstore (pc := 48) (l2 := [(4, .long x4), (0, .ref 58), (1, .long a1), (3, .int a3), (6, .int a6)]) dX7_pairDigest_48 (by decide) rfl ?_
    refine jj_ldc2 (pc := 50) (v := 31) dX7_pairDigest_50 lk_RX7_239 ?_
    refine jj_lload (pc := 53) dX7_pairDigest_53 0 rfl ?_
    refine jj_lmul (pc := 55) dX7_pairDigest_55 ?_
    refine jj_aload_n (pc := 56) dX7_pairDigest_56 1 rfl ?_
    refine jj_iload_n (pc := 57) dX7_pairDigest_57 3 rfl ?_
    refine jj_iconst (pc := 58) (v := 1) dX7_pairDigest_58 (by decide) ?_
    refine jj_callVl (pc := 59) (N := mX7_pullOf) (as := [.int a3, .int 1]) (st := [.long (31 * x4)]) dX7_pairDigest_59 rfl rfl rfl lk_RX7_171 hv_X7_pullOf rfl rfl h (fun v5 w6 h => ?_)
    refine jj_ladd (pc := 62) dX7_pairDigest_62 ?_
    refine jj_nml (fun x7 ex7 => ?_)
    replace h := h x7 ex7
    refine jj_lstore (pc := 63) (l2 := [(4, .long x7), (0, .ref 58), (1, .long a1), (3, .int a3), (6, .int a6)]) dX7_pairDigest_63 (by decide) rfl ?_
    refine jj_ldc2 (pc := 65) (v := 31) dX7_pairDigest_65 lk_RX7_239 ?_
    refine jj_lload (pc := 68) dX7_pairDigest_68 0 rfl ?_
    refine jj_lmul (pc := 70) dX7_pairDigest_70 ?_
    refine jj_aload_n (pc := 71) dX7_pairDigest_71 1 rfl ?_
    refine jj_iload_n (pc := 72) dX7_pairDigest_72 3 rfl ?_
    refine jj_iconst (pc := 73) (v := 0) dX7_pairDigest_73 (by decide) ?_
    refine jj_callVl (pc := 74) (N := mX7_stretch) (as := [.int a3, .int 0]) (st := [.long (31 * x7)]) dX7_pairDigest_74 rfl rfl rfl lk_RX7_241 hv_X7_stretch rfl rfl h (fun v8 w9 h => ?_)
    refine jj_ladd (pc := 77) dX7_pairDigest_77 ?_
    refine jj_nml (fun x10 ex10 => ?_)
    replace h := h x10 ex10
    refine jj_lstore (pc := 78) (l2 := [(4, .long x10), (0, .ref 58), (1, .long a1), (3, .int a3), (6, .int a6)]) dX7_pairDigest_78 (by decide) rfl ?_
    refine jj_ldc2 (pc := 80) (v := 31) dX7_pairDigest_80 lk_RX7_239 ?_
    refine jj_lload (pc := 83) dX7_pairDigest_83 0 rfl ?_
    refine jj_lmul (pc := 85) dX7_pairDigest_85 ?_
    refine jj_aload_n (pc := 86) dX7_pairDigest_86 1 rfl ?_
    refine jj_iload_n (pc := 87) dX7_pairDigest_87 3 rfl ?_
    refine jj_iconst (pc := 88) (v := 1) dX7_pairDigest_88 (by decide) ?_
    refine jj_callVl (pc := 89) (N := mX7_stretch) (as := [.int a3, .int 1]) (st := [.long (31 * x10)]) dX7_pairDigest_89 rfl rfl rfl lk_RX7_241 hv_X7_stretch rfl rfl h (fun v11 w12 h => ?_)
    refine jj_ladd (pc := 92) dX7_pairDigest_92 ?_
    refine jj_nml (fun x13 ex13 => ?_)
    replace h := h x13 ex13
    refine jj_lstore (pc := 93) (l2 := [(4, .long x13), (0, .ref 58), (1, .long a1), (3, .int a3), (6, .int a6)]) dX7_pairDigest_93 (by decide) rfl ?_
    refine jj_aload_n (pc := 95) dX7_pairDigest_95 1 rfl ?_
    refine jj_iload_n (pc := 96) dX7_pairDigest_96 3 rfl ?_
    refine jj_callVi (pc := 97) (N := mX7_isBar) (as := [.int a3]) (st := []) dX7_pairDigest_97 rfl rfl rfl lk_RX7_174 hv_X7_isBar rfl rfl h (fun v14 w15 h => ?_)
    refine jj_if_eq (pc := 100) (tgt := 147) dX7_pairDigest_100 (by decide) (fun c16 => ?_) (fun c16 => ?_)
    · replace h := h.1 c16
      refine jj_ldc2 (pc := 147) (v := 31) dX7_pairDigest_147 lk_RX7_239 ?_
      refine jj_lload (pc := 150) dX7_pairDigest_150 0 rfl ?_
      refine jj_lmul (pc := 152) dX7_pairDigest_152 ?_
      refine jj_aload_n (pc := 153) dX7_pairDigest_153 1 rfl ?_
      refine jj_iload_n (pc := 154) dX7_pairDigest_154 3 rfl ?_
      refine jj_iconst (pc := 155) (v := 0) dX7_pairDigest_155 (by decide) ?_
      refine jj_callVl (pc := 156) (N := mX7_gainOf) (as := [.int a3, .int 0]) (st := [.long (31 * x13)]) dX7_pairDigest_156 rfl rfl rfl lk_RX7_186 hv_X7_gainOf rfl rfl h (fun v17 w18 h => ?_)
      refine jj_ladd (pc := 159) dX7_pairDigest_159 ?_
      refine jj_nml (fun x19 ex19 => ?_)
      replace h := h x19 ex19
      refine jj_lstore (pc := 160) (l2 := [(4, .long x19), (0, .ref 58), (1, .long a1), (3, .int a3), (6, .int a6)]) dX7_pairDigest_160 (by decide) rfl ?_
      refine jj_ldc2 (pc := 162) (v := 31) dX7_pairDigest_162 lk_RX7_239 ?_
      refine jj_lload (pc := 165) dX7_pairDigest_165 0 rfl ?_
      refine jj_lmul (pc := 167) dX7_pairDigest_167 ?_
      refine jj_aload_n (pc := 168) dX7_pairDigest_168 1 rfl ?_
      refine jj_iload_n (pc := 169) dX7_pairDigest_169 3 rfl ?_
      refine jj_iconst (pc := 170) (v := 1) dX7_pairDigest_170 (by decide) ?_
      refine jj_callVl (pc := 171) (N := mX7_gainOf) (as := [.int a3, .int 1]) (st := [.long (31 * x19)]) dX7_pairDigest_171 rfl rfl rfl lk_RX7_186 hv_X7_gainOf rfl rfl h (fun v20 w21 h => ?_)
      refine jj_ladd (pc := 174) dX7_pairDigest_174 ?_
      exact jj_lret (pc := 175) dX7_pairDigest_175 rfl h
    · replace h := h.2 c16
      refine jj_ldc2 (pc := 103) (v := 31) dX7_pairDigest_103 lk_RX7_239 ?_
      refine jj_lload (pc := 106) dX7_pairDigest_106 0 rfl ?_
      refine jj_lmul (pc := 108) dX7_pairDigest_108 ?_
      refine jj_aload_n (pc := 109) dX7_pairDigest_109 1 rfl ?_
      refine jj_iload_n (pc := 110) dX7_pairDigest_110 3 rfl ?_
      refine jj_iconst (pc := 111) (v := 0) dX7_pairDigest_111 (by decide) ?_
      refine jj_callVl (pc := 112) (N := mX7_without) (as := [.int a3, .int 0]) (st := [.long (31 * x13)]) dX7_pairDigest_112 rfl rfl rfl lk_RX7_244 hv_X7_without rfl rfl h (fun v22 w23 h => ?_)
      refine jj_ladd (pc := 115) dX7_pairDigest_115 ?_
      refine jj_nml (fun x24 ex24 => ?_)
      replace h := h x24 ex24
      refine jj_lstore (pc := 116) (l2 := [(4, .long x24), (0, .ref 58), (1, .long a1), (3, .int a3), (6, .int a6)]) dX7_pairDigest_116 (by decide) rfl ?_
      refine jj_ldc2 (pc := 118) (v := 31) dX7_pairDigest_118 lk_RX7_239 ?_
      refine jj_lload (pc := 121) dX7_pairDigest_121 0 rfl ?_
      refine jj_lmul (pc := 123) dX7_pairDigest_123 ?_
      refine jj_aload_n (pc := 124) dX7_pairDigest_124 1 rfl ?_
      refine jj_iload_n (pc := 125) dX7_pairDigest_125 3 rfl ?_
      refine jj_iconst (pc := 126) (v := 1) dX7_pairDigest_126 (by decide) ?_
      refine jj_callVl (pc := 127) (N := mX7_without) (as := [.int a3, .int 1]) (st := [.long (31 * x24)]) dX7_pairDigest_127 rfl rfl rfl lk_RX7_244 hv_X7_without rfl rfl h (fun v25 w26 h => ?_)
      refine jj_ladd (pc := 130) dX7_pairDigest_130 ?_
      refine jj_nml (fun x27 ex27 => ?_)
      replace h := h x27 ex27
      refine jj_lstore (pc := 131) (l2 := [(4, .long x27), (0, .ref 58), (1, .long a1), (3, .int a3), (6, .int a6)]) dX7_pairDigest_131 (by decide) rfl ?_
      refine jj_ldc2 (pc := 133) (v := 31) dX7_pairDigest_133 lk_RX7_239 ?_
      refine jj_lload (pc := 136) dX7_pairDigest_136 0 rfl ?_
      refine jj_lmul (pc := 138) dX7_pairDigest_138 ?_
      refine jj_aload_n (pc := 139) dX7_pairDigest_139 1 rfl ?_
      refine jj_iload_n (pc := 140) dX7_pairDigest_140 3 rfl ?_
      refine jj_callVi (pc := 141) (N := mX7_why) (as := [.int a3]) (st := [.long (31 * x27)]) dX7_pairDigest_141 rfl rfl rfl lk_RX7_247 hv_X7_why rfl rfl h (fun v28 w29 h => ?_)
      refine jj_i2l (pc := 144) dX7_pairDigest_144 ?_
      refine jj_ladd (pc := 145) dX7_pairDigest_145 ?_
      exact jj_lret (pc := 146) dX7_pairDigest_146 rfl h
  · replace h := h.2 c1
    refine jj_ldc2 (pc := 12) (v := 31) dX7_pairDigest_12 lk_RX7_239 ?_
    refine jj_lload (pc := 15) dX7_pairDigest_15 3 rfl ?_
    refine jj_lmul (pc := 17) dX7_pairDigest_17 ?_
    refine jj_aload_n (pc := 18) dX7_pairDigest_18 0 rfl ?_
    refine jj_iload_n (pc := 19) dX7_pairDigest_19 2 rfl ?_
    refine jj_iload (pc := 20) dX7_pairDigest_20 4 rfl ?_
    refine jj_callVi (pc := 22) (N := mX7_pairOf) (as := [.int a3, .int a6]) (st := [.long (31 * a4)]) dX7_pairDigest_22 rfl rfl rfl lk_RX7_114 hv_X7_pairOf rfl rfl h (fun v30 w31 h => ?_)
    refine jj_i2l (pc := 25) dX7_pairDigest_25 ?_
    refine jj_ladd (pc := 26) dX7_pairDigest_26 ?_
    refine jj_nml (fun x32 ex32 => ?_)
    replace h := h x32 ex32
    refine jj_lstore (pc := 27) (l2 := [(4, .long x32), (0, .ref 58), (1, .long a1), (3, .int a3), (6, .int a6)]) dX7_pairDigest_27 (by decide) rfl ?_
    refine jj_iinc (pc := 29) (v := a6 + 1) (l2 := [(6, .int (a6 + 1)), (4, .long x32), (0, .ref 58), (1, .long a1), (3, .int a3)]) dX7_pairDigest_29 4 rfl rfl (by decide) rfl ?_
    refine jj_goto (pc := 32) (tgt := 6) dX7_pairDigest_32 (by decide) ?_
    exact jj_sub [2, 3, 4, 1, 0] rfl h
set_option maxRecDepth 100000 in
set_option maxHeartbeats 4000000 in
theorem vc_X7_digest_0 {K : jj_K} (R : Int64 → wo_T → Prop)   (w : wo_T)
    (h : jj_J K mX7_digest (jj_Rl R) 6 [(0, .ref 58), (1, .long 17), (3, .int 0)] [] w) :
    jj_J K mX7_digest (jj_Rl R) 0 [(0, .ref 58)] [] w := by
  refine jj_ldc2 (pc := 0) (v := 17) dX7_digest_0 lk_RX7_250 ?_
  refine jj_lstore_n (pc := 3) (l2 := [(1, .long 17), (0, .ref 58)]) dX7_digest_3 (by decide) rfl ?_
  refine jj_iconst (pc := 4) (v := 0) dX7_digest_4 (by decide) ?_
  refine jj_istore_n (pc := 5) (l2 := [(3, .int 0), (1, .long 17), (0, .ref 58)]) dX7_digest_5 (by decide) rfl ?_
  exact jj_sub [2, 1, 0] rfl h
theorem en_X7_digest {K : jj_K} (R : Int64 → wo_T → Prop)   (w : wo_T)
    (h : jj_J K mX7_digest (jj_Rl R) 6 [(0, .ref 58), (1, .long 17), (3, .int 0)] [] w) : jj_Cl K mX7_digest [.ref 58] w R :=
  jj_Cl_intro pn_RX7 (Nat.le_of_ble_eq_true rfl) (vc_X7_digest_0 R  w h)
set_option maxRecDepth 100000 in
set_option maxHeartbeats 4000000 in
theorem vc_X7_digest_6 {K : jj_K} (R : Int64 → wo_T → Prop)  (a1 : Int64) (a3 : Int32) (w : wo_T)
    (h : (8 ≤ a3 → jj_Cl K mX7_volumeOf [.ref 58, .int (w.1 58 6), .int 0] w (fun v2 w3 => ∀ x4 : Int64, x4 = (31 * a1) + v2 → (jj_Cl K mX7_volumeOf [.ref 58, .int (w3.1 58 6), .int 1] w3 (fun v5 w6 => ∀ x7 : Int64, x7 = (31 * x4) + v5 → (jj_Ci K mX7_fault [.ref 58] w6 (fun v8 w9 => ∀ x10 : Int64, x10 = (31 * x7) + v8.toInt64 → (jj_Ci K mX7_frameNow [.ref 58] w9 (fun v11 w12 => ∀ x13 : Int64, x13 = (31 * x10) + v11.toInt64 → (jj_Ci K mX7_neededNow [.ref 58] w12 (fun v14 w15 => ∀ x16 : Int64, x16 = (31 * x13) + v14.toInt64 → (jj_Ci K mX7_dearestNow [.ref 58] w15 (fun v17 w18 => ∀ x19 : Int64, x19 = (31 * x16) + v17.toInt64 → (jj_J K mX7_digest (jj_Rl R) 113 [(0, .ref 58), (1, .long x19), (3, .int 0)] [] w18))))))))))))) ∧ (¬ 8 ≤ a3 → jj_Ci K mX7_count [.ref 58, .int a3] w (fun v20 w21 => ∀ x22 : Int64, x22 = (31 * a1) + v20.toInt64 → (jj_J K mX7_digest (jj_Rl R) 6 [(0, .ref 58), (1, .long x22), (3, .int (a3 + 1))] [] w21)))) :
    jj_J K mX7_digest (jj_Rl R) 6 [(0, .ref 58), (1, .long a1), (3, .int a3)] [] w := by
  refine jj_iload_n (pc := 6) dX7_digest_6 2 rfl ?_
  refine jj_bipush (pc := 7) (v := 8) dX7_digest_7 (by decide) ?_
  refine jj_icmp_ge (pc := 9) (tgt := 31) dX7_digest_9 (by decide) (fun c1 => ?_) (fun c1 => ?_)
  · replace h := h.1 c1
    refine jj_ldc2 (pc := 31) (v := 31) dX7_digest_31 lk_RX7_239 ?_
    refine jj_lload_n (pc := 34) dX7_digest_34 1 rfl ?_
    refine jj_lmul (pc := 35) dX7_digest_35 ?_
    refine jj_aload_n (pc := 36) dX7_digest_36 0 rfl ?_
    refine jj_aload_n (pc := 37) dX7_digest_37 0 rfl ?_
    refine jj_getI (pc := 38) (ci := 7) (k := 6) dX7_digest_38 rfl rfl (by decide) rfl lk_RX7_76 ?_
    refine jj_iconst (pc := 41) (v := 0) dX7_digest_41 (by decide) ?_
    refine jj_callVl (pc := 42) (N := mX7_volumeOf) (as := [.int (w.1 58 6), .int 0]) (st := [.long (31 * a1)]) dX7_digest_42 rfl rfl rfl lk_RX7_164 hv_X7_volumeOf rfl rfl h (fun v2 w3 h => ?_)
    refine jj_ladd (pc := 45) dX7_digest_45 ?_
    refine jj_nml (fun x4 ex4 => ?_)
    replace h := h x4 ex4
    refine jj_lstore_n (pc := 46) (l2 := [(1, .long x4), (0, .ref 58), (3, .int a3)]) dX7_digest_46 (by decide) rfl ?_
    refine jj_ldc2 (pc := 47) (v := 31) dX7_digest_47 lk_RX7_239 ?_
    refine jj_lload_n (pc := 50) dX7_digest_50 0 rfl ?_
    refine jj_lmul (pc := 51) dX7_digest_51 ?_
    refine jj_aload_n (pc := 52) dX7_digest_52 1 rfl ?_
    refine jj_aload_n (pc := 53) dX7_digest_53 1 rfl ?_
    refine jj_getI (pc := 54) (ci := 7) (k := 6) dX7_digest_54 rfl rfl (by decide) rfl lk_RX7_76 ?_
    refine jj_iconst (pc := 57) (v := 1) dX7_digest_57 (by decide) ?_
    refine jj_callVl (pc := 58) (N := mX7_volumeOf) (as := [.int (w3.1 58 6), .int 1]) (st := [.long (31 * x4)]) dX7_digest_58 rfl rfl rfl lk_RX7_164 hv_X7_volumeOf rfl rfl h (fun v5 w6 h => ?_)
    refine jj_ladd (pc := 61) dX7_digest_61 ?_
    refine jj_nml (fun x7 ex7 => ?_)
    replace h := h x7 ex7
    refine jj_lstore_n (pc := 62) (l2 := [(1, .long x7), (0, .ref 58), (3, .int a3)]) dX7_digest_62 (by decide) rfl ?_
    refine jj_ldc2 (pc := 63) (v := 31) dX7_digest_63 lk_RX7_239 ?_
    refine jj_lload_n (pc := 66) dX7_digest_66 0 rfl ?_
    refine jj_lmul (pc := 67) dX7_digest_67 ?_
    refine jj_aload_n (pc := 68) dX7_digest_68 1 rfl ?_
    refine jj_callVi (pc := 69) (N := mX7_fault) (as := []) (st := [.long (31 * x7)]) dX7_digest_69 rfl rfl rfl lk_RX7_255 hv_X7_fault rfl rfl h (fun v8 w9 h => ?_)
    refine jj_i2l (pc := 72) dX7_digest_72 ?_
    refine jj_ladd (pc := 73) dX7_digest_73 ?_
    refine jj_nml (fun x10 ex10 => ?_)
    replace h := h x10 ex10
    refine jj_lstore_n (pc := 74) (l2 := [(1, .long x10), (0, .ref 58), (3, .int a3)]) dX7_digest_74 (by decide) rfl ?_
    refine jj_ldc2 (pc := 75) (v := 31) dX7_digest_75 lk_RX7_239 ?_
    refine jj_lload_n (pc := 78) dX7_digest_78 0 rfl ?_
    refine jj_lmul (pc := 79) dX7_digest_79 ?_
    refine jj_aload_n (pc := 80) dX7_digest_80 1 rfl ?_
    refine jj_callVi (pc := 81) (N := mX7_frameNow) (as := []) (st := [.long (31 * x10)]) dX7_digest_81 rfl rfl rfl lk_RX7_168 hv_X7_frameNow rfl rfl h (fun v11 w12 h => ?_)
    refine jj_i2l (pc := 84) dX7_digest_84 ?_
    refine jj_ladd (pc := 85) dX7_digest_85 ?_
    refine jj_nml (fun x13 ex13 => ?_)
    replace h := h x13 ex13
    refine jj_lstore_n (pc := 86) (l2 := [(1, .long x13), (0, .ref 58), (3, .int a3)]) dX7_digest_86 (by decide) rfl ?_
    refine jj_ldc2 (pc := 87) (v := 31) dX7_digest_87 lk_RX7_239 ?_
    refine jj_lload_n (pc := 90) dX7_digest_90 0 rfl ?_
    refine jj_lmul (pc := 91) dX7_digest_91 ?_
    refine jj_aload_n (pc := 92) dX7_digest_92 1 rfl ?_
    refine jj_callVi (pc := 93) (N := mX7_neededNow) (as := []) (st := [.long (31 * x13)]) dX7_digest_93 rfl rfl rfl lk_RX7_180 hv_X7_neededNow rfl rfl h (fun v14 w15 h => ?_)
    refine jj_i2l (pc := 96) dX7_digest_96 ?_
    refine jj_ladd (pc := 97) dX7_digest_97 ?_
    refine jj_nml (fun x16 ex16 => ?_)
    replace h := h x16 ex16
    refine jj_lstore_n (pc := 98) (l2 := [(1, .long x16), (0, .ref 58), (3, .int a3)]) dX7_digest_98 (by decide) rfl ?_
    refine jj_ldc2 (pc := 99) (v := 31) dX7_digest_99 lk_RX7_239 ?_
    refine jj_lload_n (pc := 102) dX7_digest_102 0 rfl ?_
    refine jj_lmul (pc := 103) dX7_digest_103 ?_
    refine jj_aload_n (pc := 104) dX7_digest_104 1 rfl ?_
    refine jj_callVi (pc := 105) (N := mX7_dearestNow) (as := []) (st := [.long (31 * x16)]) dX7_digest_105 rfl rfl rfl lk_RX7_183 hv_X7_dearestNow rfl rfl h (fun v17 w18 h => ?_)
    refine jj_i2l (pc := 108) dX7_digest_108 ?_
    refine jj_ladd (pc := 109) dX7_digest_109 ?_
    refine jj_nml (fun x19 ex19 => ?_)
    replace h := h x19 ex19
    refine jj_lstore_n (pc := 110) (l2 := [(1, .long x19), (0, .ref 58), (3, .int a3)]) dX7_digest_110 (by decide) rfl ?_
    refine jj_iconst (pc := 111) (v := 0) dX7_digest_111 (by decide) ?_
    refine jj_istore_n (pc := 112) (l2 := [(3, .int 0), (1, .long x19), (0, .ref 58)]) dX7_digest_112 (by decide) rfl ?_
    exact jj_sub [2, 1, 0] rfl h
  · replace h := h.2 c1
    refine jj_ldc2 (pc := 12) (v := 31) dX7_digest_12 lk_RX7_239 ?_
    refine jj_lload_n (pc := 15) dX7_digest_15 1 rfl ?_
    refine jj_lmul (pc := 16) dX7_digest_16 ?_
    refine jj_aload_n (pc := 17) dX7_digest_17 0 rfl ?_
    refine jj_iload_n (pc := 18) dX7_digest_18 2 rfl ?_
    refine jj_callVi (pc := 19) (N := mX7_count) (as := [.int a3]) (st := [.long (31 * a1)]) dX7_digest_19 rfl rfl rfl lk_RX7_252 hv_X7_count rfl rfl h (fun v20 w21 h => ?_)
    refine jj_i2l (pc := 22) dX7_digest_22 ?_
    refine jj_ladd (pc := 23) dX7_digest_23 ?_
    refine jj_nml (fun x22 ex22 => ?_)
    replace h := h x22 ex22
    refine jj_lstore_n (pc := 24) (l2 := [(1, .long x22), (0, .ref 58), (3, .int a3)]) dX7_digest_24 (by decide) rfl ?_
    refine jj_iinc (pc := 25) (v := a3 + 1) (l2 := [(3, .int (a3 + 1)), (1, .long x22), (0, .ref 58)]) dX7_digest_25 2 rfl rfl (by decide) rfl ?_
    refine jj_goto (pc := 28) (tgt := 6) dX7_digest_28 (by decide) ?_
    exact jj_sub [2, 1, 0] rfl h
set_option maxRecDepth 100000 in
set_option maxHeartbeats 4000000 in
theorem vc_X7_digest_113 {K : jj_K} (R : Int64 → wo_T → Prop)  (a1 : Int64) (a3 : Int32) (w : wo_T)
    (h : ((w.1 58 5) ≤ a3 → jj_J K mX7_digest (jj_Rl R) 160 [(0, .ref 58), (1, .long a1), (3, .int 0)] [] w) ∧ (¬ (w.1 58 5) ≤ a3 → jj_J K mX7_digest (jj_Rl R) 124 [(0, .ref 58), (1, .long a1), (3, .int a3), (4, .int 0)] [] w)) :
    jj_J K mX7_digest (jj_Rl R) 113 [(0, .ref 58), (1, .long a1), (3, .int a3)] [] w := by
  refine jj_iload_n (pc := 113) dX7_digest_113 2 rfl ?_
  refine jj_aload_n (pc := 114) dX7_digest_114 0 rfl ?_
  refine jj_getI (pc := 115) (ci := 7) (k := 5) dX7_digest_115 rfl rfl (by decide) rfl lk_RX7_60 ?_
  refine jj_icmp_ge (pc := 118) (tgt := 158) dX7_digest_118 (by decide) (fun c1 => ?_) (fun c1 => ?_)
  · replace h := h.1 c1
    refine jj_iconst (pc := 158) (v := 0) dX7_digest_158 (by decide) ?_
    refine jj_istore_n (pc := 159) (l2 := [(3, .int 0), (0, .ref 58), (1, .long a1)]) dX7_digest_159 (by decide) rfl ?_
    exact jj_sub [1, 2, 0] rfl h
  · replace h := h.2 c1
    refine jj_iconst (pc := 121) (v := 0) dX7_digest_121 (by decide) ?_
    refine jj_istore (pc := 122) (l2 := [(4, .int 0), (0, .ref 58), (1, .long a1), (3, .int a3)]) dX7_digest_122 (by decide) rfl ?_
    exact jj_sub [1, 2, 3, 0] rfl h
set_option maxRecDepth 100000 in
set_option maxHeartbeats 4000000 in
theorem vc_X7_digest_124 {K : jj_K} (R : Int64 → wo_T → Prop)  (a1 : Int64) (a3 : Int32) (a4 : Int32) (w : wo_T)
    (h : (7 ≤ a4 → jj_J K mX7_digest (jj_Rl R) 113 [(0, .ref 58), (1, .long a1), (3, .int (a3 + 1))] [] w) ∧ (¬ 7 ≤ a4 → jj_Ci K mX7_infoOf [.ref 58, .int a3, .int a4] w (fun v2 w3 => ∀ x4 : Int64, x4 = (31 * a1) + v2.toInt64 → (jj_J K mX7_digest (jj_Rl R) 124 [(0, .ref 58), (1, .long x4), (3, .int a3), (4, .int (a4 + 1))] [] w3)))) :
    jj_J K mX7_digest (jj_Rl R) 124 [(0, .ref 58), (1, .long a1), (3, .int a3), (4, .int a4)] [] w := by
  refine jj_iload (pc := 124) dX7_digest_124 3 rfl ?_
  refine jj_bipush (pc := 126) (v := 7) dX7_digest_126 (by decide) ?_
  refine jj_icmp_ge (pc := 128) (tgt := 152) dX7_digest_128 (by decide) (fun c1 => ?_) (fun c1 => ?_)
  · replace h := h.1 c1
    refine jj_iinc (pc := 152) (v := a3 + 1) (l2 := [(3, .int (a3 + 1)), (0, .ref 58), (1, .long a1), (4, .int a4)]) dX7_digest_152 2 rfl rfl (by decide) rfl ?_
    refine jj_goto (pc := 155) (tgt := 113) dX7_digest_155 (by decide) ?_
    exact jj_sub [1, 2, 0] rfl h
  · replace h := h.2 c1
    refine jj_ldc2 (pc := 131) (v := 31) dX7_digest_131 lk_RX7_239 ?_
    refine jj_lload_n (pc := 134) dX7_digest_134 1 rfl ?_
    refine jj_lmul (pc := 135) dX7_digest_135 ?_
    refine jj_aload_n (pc := 136) dX7_digest_136 0 rfl ?_
    refine jj_iload_n (pc := 137) dX7_digest_137 2 rfl ?_
    refine jj_iload (pc := 138) dX7_digest_138 3 rfl ?_
    refine jj_callVi (pc := 140) (N := mX7_infoOf) (as := [.int a3, .int a4]) (st := [.long (31 * a1)]) dX7_digest_140 rfl rfl rfl lk_RX7_108 hv_X7_infoOf rfl rfl h (fun v2 w3 h => ?_)
    refine jj_i2l (pc := 143) dX7_digest_143 ?_
    refine jj_ladd (pc := 144) dX7_digest_144 ?_
    refine jj_nml (fun x4 ex4 => ?_)
    replace h := h x4 ex4
    refine jj_lstore_n (pc := 145) (l2 := [(1, .long x4), (0, .ref 58), (3, .int a3), (4, .int a4)]) dX7_digest_145 (by decide) rfl ?_
    refine jj_iinc (pc := 146) (v := a4 + 1) (l2 := [(4, .int (a4 + 1)), (1, .long x4), (0, .ref 58), (3, .int a3)]) dX7_digest_146 3 rfl rfl (by decide) rfl ?_
    refine jj_goto (pc := 149) (tgt := 124) dX7_digest_149 (by decide) ?_
    exact jj_sub [2, 1, 3, 0] rfl h
set_option maxRecDepth 100000 in
set_option maxHeartbeats 4000000 in
theorem vc_X7_digest_160 {K : jj_K} (R : Int64 → wo_T → Prop)  (a1 : Int64) (a3 : Int32) (w : wo_T)
    (h : jj_Ci K mX7_pairs [.ref 58] w (fun v1 w2 => (v1 ≤ a3 → jj_Cl K mX7_work [.ref 58, .int 0] w2 (fun v4 w5 => ∀ x6 : Int64, x6 = (31 * a1) + v4 → (jj_Cl K mX7_work [.ref 58, .int 1] w5 (fun v7 w8 => ∀ x9 : Int64, x9 = (31 * x6) + v7 → (jj_Ci K mX7_crossings [.ref 58] w8 (fun v10 w11 => jj_J K mX7_digest (jj_Rl R) 213 [(0, .ref 58), (1, .long x9), (3, .int v10), (4, .int 0)] [] w11)))))) ∧ (¬ v1 ≤ a3 → jj_Cl K mX7_pairDigest [.ref 58, .long a1, .int a3] w2 (fun v12 w13 => jj_J K mX7_digest (jj_Rl R) 160 [(0, .ref 58), (1, .long v12), (3, .int (a3 + 1))] [] w13)))) :
    jj_J K mX7_digest (jj_Rl R) 160 [(0, .ref 58), (1, .long a1), (3, .int a3)] [] w := by
  refine jj_iload_n (pc := 160) dX7_digest_160 2 rfl ?_
  refine jj_aload_n (pc := 161) dX7_digest_161 0 rfl ?_
  refine jj_callVi (pc := 162) (N := mX7_pairs) (as := []) (st := [.int a3]) dX7_digest_162 rfl rfl rfl lk_RX7_68 hv_X7_pairs rfl rfl h (fun v1 w2 h => ?_)
  refine jj_icmp_ge (pc := 165) (tgt := 181) dX7_digest_165 (by decide) (fun c3 => ?_) (fun c3 => ?_)
  · replace h := h.1 c3
    refine jj_ldc2 (pc := 181) (v := 31) dX7_digest_181 lk_RX7_239 ?_
    refine jj_lload_n (pc := 184) dX7_digest_184 1 rfl ?_
    refine jj_lmul (pc := 185) dX7_digest_185 ?_
    refine jj_aload_n (pc := 186) dX7_digest_186 0 rfl ?_
    refine jj_iconst (pc := 187) (v := 0) dX7_digest_187 (by decide) ?_
    refine jj_callVl (pc := 188) (N := mX7_work) (as := [.int 0]) (st := [.long (31 * a1)]) dX7_digest_188 rfl rfl rfl lk_RX7_262 hv_X7_work rfl rfl h (fun v4 w5 h => ?_)
    refine jj_ladd (pc := 191) dX7_digest_191 ?_
    refine jj_nml (fun x6 ex6 => ?_)
    replace h := h x6 ex6
    refine jj_lstore_n (pc := 192) (l2 := [(1, .long x6), (0, .ref 58), (3, .int a3)]) dX7_digest_192 (by decide) rfl ?_
    refine jj_ldc2 (pc := 193) (v := 31) dX7_digest_193 lk_RX7_239 ?_
    refine jj_lload_n (pc := 196) dX7_digest_196 0 rfl ?_
    refine jj_lmul (pc := 197) dX7_digest_197 ?_
    refine jj_aload_n (pc := 198) dX7_digest_198 1 rfl ?_
    refine jj_iconst (pc := 199) (v := 1) dX7_digest_199 (by decide) ?_
    refine jj_callVl (pc := 200) (N := mX7_work) (as := [.int 1]) (st := [.long (31 * x6)]) dX7_digest_200 rfl rfl rfl lk_RX7_262 hv_X7_work rfl rfl h (fun v7 w8 h => ?_)
    refine jj_ladd (pc := 203) dX7_digest_203 ?_
    refine jj_nml (fun x9 ex9 => ?_)
    replace h := h x9 ex9
    refine jj_lstore_n (pc := 204) (l2 := [(1, .long x9), (0, .ref 58), (3, .int a3)]) dX7_digest_204 (by decide) rfl ?_
    refine jj_aload_n (pc := 205) dX7_digest_205 1 rfl ?_
    refine jj_callVi (pc := 206) (N := mX7_crossings) (as := []) (st := []) dX7_digest_206 rfl rfl rfl lk_RX7_236 hv_X7_crossings rfl rfl h (fun v10 w11 h => ?_)
    refine jj_istore_n (pc := 209) (l2 := [(3, .int v10), (1, .long x9), (0, .ref 58)]) dX7_digest_209 (by decide) rfl ?_
    refine jj_iconst (pc := 210) (v := 0) dX7_digest_210 (by decide) ?_
    refine jj_istore (pc := 211) (l2 := [(4, .int 0), (3, .int v10), (1, .long x9), (0, .ref 58)]) dX7_digest_211 (by decide) rfl ?_
    exact jj_sub [3, 2, 1, 0] rfl h
  · replace h := h.2 c3
    refine jj_aload_n (pc := 168) dX7_digest_168 0 rfl ?_
    refine jj_lload_n (pc := 169) dX7_digest_169 1 rfl ?_
    refine jj_iload_n (pc := 170) dX7_digest_170 2 rfl ?_
    refine jj_callVl (pc := 171) (N := mX7_pairDigest) (as := [.long a1, .int a3]) (st := []) dX7_digest_171 rfl rfl rfl lk_RX7_258 hv_X7_pairDigest rfl rfl h (fun v12 w13 h => ?_)
    refine jj_lstore_n (pc := 174) (l2 := [(1, .long v12), (0, .ref 58), (3, .int a3)]) dX7_digest_174 (by decide) rfl ?_
    refine jj_iinc (pc := 175) (v := a3 + 1) (l2 := [(3, .int (a3 + 1)), (1, .long v12), (0, .ref 58)]) dX7_digest_175 2 rfl rfl (by decide) rfl ?_
    refine jj_goto (pc := 178) (tgt := 160) dX7_digest_178 (by decide) ?_
    exact jj_sub [2, 1, 0] rfl h
set_option maxRecDepth 100000 in
set_option maxHeartbeats 4000000 in
theorem vc_X7_digest_213 {K : jj_K} (R : Int64 → wo_T → Prop)  (a1 : Int64) (a3 : Int32) (a4 : Int32) (w : wo_T)
    (h : (a3 ≤ a4 → R a1 w) ∧ (¬ a3 ≤ a4 → jj_J K mX7_digest (jj_Rl R) 222 [(0, .ref 58), (1, .long a1), (3, .int a3), (4, .int a4), (5, .int 0)] [] w)) :
    jj_J K mX7_digest (jj_Rl R) 213 [(0, .ref 58), (1, .long a1), (3, .int a3), (4, .int a4)] [] w := by
  refine jj_iload (pc := 213) dX7_digest_213 3 rfl ?_
  refine jj_iload_n (pc := 215) dX7_digest_215 2 rfl ?_
  refine jj_icmp_ge (pc := 216) (tgt := 257) dX7_digest_216 (by decide) (fun c1 => ?_) (fun c1 => ?_)
  · replace h := h.1 c1
    refine jj_lload_n (pc := 257) dX7_digest_257 1 rfl ?_
    exact jj_lret (pc := 258) dX7_digest_258 rfl h
  · replace h := h.2 c1
    refine jj_iconst (pc := 219) (v := 0) dX7_digest_219 (by decide) ?_
    refine jj_istore (pc := 220) (l2 := [(5, .int 0), (0, .ref 58), (1, .long a1), (3, .int a3), (4, .int a4)]) dX7_digest_220 (by decide) rfl ?_
    exact jj_sub [1, 2, 3, 4, 0] rfl h
set_option maxRecDepth 100000 in
set_option maxHeartbeats 4000000 in
theorem vc_X7_digest_222 {K : jj_K} (R : Int64 → wo_T → Prop)  (a1 : Int64) (a3 : Int32) (a4 : Int32) (a5 : Int32) (w : wo_T)
    (h : (6 ≤ a5 → jj_J K mX7_digest (jj_Rl R) 213 [(0, .ref 58), (1, .long a1), (3, .int a3), (4, .int (a4 + 1))] [] w) ∧ (¬ 6 ≤ a5 → jj_Ci K mX7_crossOf [.ref 58, .int a4, .int a5] w (fun v2 w3 => ∀ x4 : Int64, x4 = (31 * a1) + v2.toInt64 → (jj_J K mX7_digest (jj_Rl R) 222 [(0, .ref 58), (1, .long x4), (3, .int a3), (4, .int a4), (5, .int (a5 + 1))] [] w3)))) :
    jj_J K mX7_digest (jj_Rl R) 222 [(0, .ref 58), (1, .long a1), (3, .int a3), (4, .int a4), (5, .int a5)] [] w := by
  refine jj_iload (pc := 222) dX7_digest_222 4 rfl ?_
  refine jj_bipush (pc := 224) (v := 6) dX7_digest_224 (by decide) ?_
  refine jj_icmp_ge (pc := 226) (tgt := 251) dX7_digest_226 (by decide) (fun c1 => ?_) (fun c1 => ?_)
  · replace h := h.1 c1
    refine jj_iinc (pc := 251) (v := a4 + 1) (l2 := [(4, .int (a4 + 1)), (0, .ref 58), (1, .long a1), (3, .int a3), (5, .int a5)]) dX7_digest_251 3 rfl rfl (by decide) rfl ?_
    refine jj_goto (pc := 254) (tgt := 213) dX7_digest_254 (by decide) ?_
    exact jj_sub [1, 2, 3, 0] rfl h
  · replace h := h.2 c1
    refine jj_ldc2 (pc := 229) (v := 31) dX7_digest_229 lk_RX7_239 ?_
    refine jj_lload_n (pc := 232) dX7_digest_232 1 rfl ?_
    refine jj_lmul (pc := 233) dX7_digest_233 ?_
    refine jj_aload_n (pc := 234) dX7_digest_234 0 rfl ?_
    refine jj_iload (pc := 235) dX7_digest_235 3 rfl ?_
    refine jj_iload (pc := 237) dX7_digest_237 4 rfl ?_
    refine jj_callVi (pc := 239) (N := mX7_crossOf) (as := [.int a4, .int a5]) (st := [.long (31 * a1)]) dX7_digest_239 rfl rfl rfl lk_RX7_225 hv_X7_crossOf rfl rfl h (fun v2 w3 h => ?_)
    refine jj_i2l (pc := 242) dX7_digest_242 ?_
    refine jj_ladd (pc := 243) dX7_digest_243 ?_
    refine jj_nml (fun x4 ex4 => ?_)
    replace h := h x4 ex4
    refine jj_lstore_n (pc := 244) (l2 := [(1, .long x4), (0, .ref 58), (3, .int a3), (4, .int a4), (5, .int a5)]) dX7_digest_244 (by decide) rfl ?_
    refine jj_iinc (pc := 245) (v := a5 + 1) (l2 := [(5, .int (a5 + 1)), (1, .long x4), (0, .ref 58), (3, .int a3), (4, .int a4)]) dX7_digest_245 4 rfl rfl (by decide) rfl ?_
    refine jj_goto (pc := 248) (tgt := 222) dX7_digest_248 (by decide) ?_
    exact jj_sub [2, 1, 3, 4, 0] rfl h
