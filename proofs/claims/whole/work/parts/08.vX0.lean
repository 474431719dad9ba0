set_option maxRecDepth 100000 in
set_option maxHeartbeats 4000000 in
theorem vc_X0_gather_0 {K : jj_K} (R : wo_T → Prop) (o : Nat) (ho : o = 23 ∨ o = 29) (a2 : Int32) (w : wo_T)
    (h : jj_Cv K mX5_lay [.ref 8, .ref 1, .int a2] (wo_i (wo_i (wo_i w o 7 0) o 8 (-1)) o 10 (-1)) (fun w2 => jj_Ci K mX5_bears [.ref 8, .int 0] w2 (fun v3 w4 => (v3 = 0 → vp_in 0 8 ∧ (jj_J K mX0_gather (jj_Rv R) 54 [(0, .ref o), (1, .ref 1), (2, .int a2), (3, .int 0), (4, .int 0)] [] (wo_i w4 (o + 5) 0 0))) ∧ (¬ v3 = 0 → jj_Cv K mX0_keep [.ref o, .ref 1, .int 0] w4 (fun w7 => R w7))))) :
    jj_J K mX0_gather (jj_Rv R) 0 [(0, .ref o), (1, .ref 1), (2, .int a2)] [] w := by
  refine jj_aload_n (pc := 0) dX0_gather_0 0 rfl ?_
  refine jj_iconst (pc := 1) (v := 0) dX0_gather_1 (by decide) ?_
  refine jj_putI (pc := 2) (ci := 0) (k := 7) (ty := .int) dX0_gather_2 (wo_lB ho) rfl (by decide) rfl lk_RX0_48 rfl (by decide) rfl rfl ?_
  refine jj_aload_n (pc := 5) dX0_gather_5 0 rfl ?_
  refine jj_iconst (pc := 6) (v := (-1)) dX0_gather_6 (by decide) ?_
  refine jj_putI (pc := 7) (ci := 0) (k := 8) (ty := .int) dX0_gather_7 (wo_lB ho) rfl (by decide) rfl lk_RX0_34 rfl (by decide) rfl rfl ?_
  refine jj_aload_n (pc := 10) dX0_gather_10 0 rfl ?_
  refine jj_iconst (pc := 11) (v := (-1)) dX0_gather_11 (by decide) ?_
  refine jj_putI (pc := 12) (ci := 0) (k := 10) (ty := .int) dX0_gather_12 (wo_lB ho) rfl (by decide) rfl lk_RX0_41 rfl (by decide) rfl rfl ?_
  refine jj_aload_n (pc := 15) dX0_gather_15 0 rfl ?_
  refine jj_getR (pc := 16) (ci := 0) (k := 5) dX0_gather_16 (wo_lB ho) rfl (by decide) rfl lk_RX0_44 ?_
  refine jj_aload_n (pc := 19) dX0_gather_19 1 rfl ?_
  refine jj_iload_n (pc := 20) dX0_gather_20 2 rfl ?_
  refine jj_callVv (pc := 21) (N := mX5_lay) (as := [.ref 1, .int a2]) (st := []) dX0_gather_21 rfl rfl rfl lk_RX0_51 hv_X5_lay rfl rfl h (fun w2 h => ?_)
  refine jj_aload_n (pc := 24) dX0_gather_24 0 rfl ?_
  refine jj_getR (pc := 25) (ci := 0) (k := 5) dX0_gather_25 (wo_lB ho) rfl (by decide) rfl lk_RX0_44 ?_
  refine jj_iconst (pc := 28) (v := 0) dX0_gather_28 (by decide) ?_
  refine jj_callVi (pc := 29) (N := mX5_bears) (as := [.int 0]) (st := []) dX0_gather_29 rfl rfl rfl lk_RX0_55 hv_X5_bears rfl rfl h (fun v3 w4 h => ?_)
  refine jj_if_eq (pc := 32) (tgt := 42) dX0_gather_32 (by decide) (fun c5 => ?_) (fun c5 => ?_)
  · replace h := h.1 c5
    refine jj_iconst (pc := 42) (v := 0) dX0_gather_42 (by decide) ?_
    refine jj_istore_n (pc := 43) (l2 := [(3, .int 0), (0, .ref o), (1, .ref 1), (2, .int a2)]) dX0_gather_43 (by decide) rfl ?_
    refine jj_aload_n (pc := 44) dX0_gather_44 1 rfl ?_
    refine jj_getR (pc := 45) (ci := 0) (k := 6) dX0_gather_45 (wo_lB ho) rfl (by decide) rfl lk_RX0_31 ?_
    refine jj_iconst (pc := 48) (v := 0) dX0_gather_48 (by decide) ?_
    refine jj_iconst (pc := 49) (v := 0) dX0_gather_49 (by decide) ?_
    refine jj_iast (pc := 50) dX0_gather_50 (wo_lB5 ho) h.1 ?_
    replace h := h.2
    refine jj_iconst (pc := 51) (v := 0) dX0_gather_51 (by decide) ?_
    refine jj_istore (pc := 52) (l2 := [(4, .int 0), (3, .int 0), (0, .ref o), (1, .ref 1), (2, .int a2)]) dX0_gather_52 (by decide) rfl ?_
    exact jj_sub [2, 3, 4, 1, 0] rfl h
  · replace h := h.2 c5
    refine jj_aload_n (pc := 35) dX0_gather_35 0 rfl ?_
    refine jj_aload_n (pc := 36) dX0_gather_36 1 rfl ?_
    refine jj_iconst (pc := 37) (v := 0) dX0_gather_37 (by decide) ?_
    refine jj_callVv (pc := 38) (N := mX0_keep) (as := [.ref 1, .int 0]) (st := []) dX0_gather_38 (wo_lB ho) rfl rfl lk_RX0_59 hv_X0_keep rfl rfl h (fun w7 h => ?_)
    exact jj_vret (pc := 41) dX0_gather_41 rfl h
theorem en_X0_gather {K : jj_K} (R : wo_T → Prop) (o : Nat) (ho : o = 23 ∨ o = 29) (a2 : Int32) (w : wo_T)
    (h : jj_Cv K mX5_lay [.ref 8, .ref 1, .int a2] (wo_i (wo_i (wo_i w o 7 0) o 8 (-1)) o 10 (-1)) (fun w2 => jj_Ci K mX5_bears [.ref 8, .int 0] w2 (fun v3 w4 => (v3 = 0 → vp_in 0 8 ∧ (jj_J K mX0_gather (jj_Rv R) 54 [(0, .ref o), (1, .ref 1), (2, .int a2), (3, .int 0), (4, .int 0)] [] (wo_i w4 (o + 5) 0 0))) ∧ (¬ v3 = 0 → jj_Cv K mX0_keep [.ref o, .ref 1, .int 0] w4 (fun w7 => R w7))))) : jj_Cv K mX0_gather [.ref o, .ref 1, .int a2] w R :=
  jj_Cv_intro pn_RX0 (Nat.le_of_ble_eq_true rfl) (vc_X0_gather_0 R o ho a2 w h)
set_option maxRecDepth 100000 in
set_option maxHeartbeats 4000000 in
theorem vc_X0_gather_54 {K : jj_K} (R : wo_T → Prop) (o : Nat) (ho : o = 23 ∨ o = 29) (a2 : Int32) (a3 : Int32) (a4 : Int32) (w : wo_T)
    (h : (2048 ≤ a4 → R w) ∧ (¬ 2048 ≤ a4 → (a3 < 0 → R w) ∧ (¬ a3 < 0 → vp_in a3 8 ∧ (∀ x3 : Int32, x3 = w.1 (o + 5) a3.toNatClampNeg → ((x3 < (w.1 8 7) → vp_in a3 8 ∧ (jj_Ci K mX5_enter [.ref 8, .int a3, .int x3] (wo_i w (o + 5) a3.toNatClampNeg (x3 + 1)) (fun v5 w6 => (¬ v5 = 0 → jj_Ci K mX5_bears [.ref 8, .int (a3 + 1)] w6 (fun v8 w9 => (v8 = 0 → vp_in (a3 + 1) 8 ∧ (jj_J K mX0_gather (jj_Rv R) 54 [(0, .ref o), (1, .ref 1), (2, .int a2), (3, .int (a3 + 1)), (4, .int (a4 + 1))] [] (wo_i w9 (o + 5) (a3 + 1).toNatClampNeg (x3 + 1)))) ∧ (¬ v8 = 0 → jj_Cv K mX0_keep [.ref o, .ref 1, .int (a3 + 1)] w9 (fun w12 => jj_J K mX0_gather (jj_Rv R) 54 [(0, .ref o), (1, .ref 1), (2, .int a2), (3, .int a3), (4, .int (a4 + 1))] [] w12)))) ∧ (v5 = 0 → jj_J K mX0_gather (jj_Rv R) 54 [(0, .ref o), (1, .ref 1), (2, .int a2), (3, .int a3), (4, .int (a4 + 1))] [] w6)))) ∧ (¬ x3 < (w.1 8 7) → jj_J K mX0_gather (jj_Rv R) 54 [(0, .ref o), (1, .ref 1), (2, .int a2), (3, .int (a3 + (-1))), (4, .int (a4 + 1))] [] w)))))) :
    jj_J K mX0_gather (jj_Rv R) 54 [(0, .ref o), (1, .ref 1), (2, .int a2), (3, .int a3), (4, .int a4)] [] w := by
  refine jj_iload (pc := 54) dX0_gather_54 4 rfl ?_
  refine jj_sipush (pc := 56) (v := 2048) dX0_gather_56 (by decide) ?_
  refine jj_icmp_ge (pc := 59) (tgt := 161) dX0_gather_59 (by decide) (fun c1 => ?_) (fun c1 => ?_)
  · replace h := h.1 c1
    exact jj_vret (pc := 161) dX0_gather_161 rfl h
  · replace h := h.2 c1
    refine jj_iload_n (pc := 62) dX0_gather_62 3 rfl ?_
    refine jj_if_lt (pc := 63) (tgt := 161) dX0_gather_63 (by decide) (fun c2 => ?_) (fun c2 => ?_)
    · replace h := h.1 c2
      exact jj_vret (pc := 161) dX0_gather_161 rfl h
    · replace h := h.2 c2
      refine jj_aload_n (pc := 66) dX0_gather_66 0 rfl ?_
      refine jj_getR (pc := 67) (ci := 0) (k := 6) dX0_gather_67 (wo_lB ho) rfl (by decide) rfl lk_RX0_31 ?_
      refine jj_iload_n (pc := 70) dX0_gather_70 3 rfl ?_
      refine jj_iald (pc := 71) dX0_gather_71 (wo_lB5 ho) h.1 ?_
      replace h := h.2
      refine jj_nmi (fun x3 ex3 => ?_)
      replace h := h x3 ex3
      refine jj_istore (pc := 72) (l2 := [(5, .int x3), (0, .ref o), (1, .ref 1), (2, .int a2), (3, .int a3), (4, .int a4)]) dX0_gather_72 (by decide) rfl ?_
      refine jj_iload (pc := 74) dX0_gather_74 0 rfl ?_
      refine jj_aload_n (pc := 76) dX0_gather_76 1 rfl ?_
      refine jj_getR (pc := 77) (ci := 0) (k := 5) dX0_gather_77 (wo_lB ho) rfl (by decide) rfl lk_RX0_44 ?_
      refine jj_getI (pc := 80) (ci := 5) (k := 7) dX0_gather_80 rfl rfl (by decide) rfl lk_RX0_62 ?_
      refine jj_icmp_lt (pc := 83) (tgt := 92) dX0_gather_83 (by decide) (fun c4 => ?_) (fun c4 => ?_)
      · replace h := h.1 c4
        refine jj_aload_n (pc := 92) dX0_gather_92 1 rfl ?_
        refine jj_getR (pc := 93) (ci := 0) (k := 6) dX0_gather_93 (wo_lB ho) rfl (by decide) rfl lk_RX0_31 ?_
        refine jj_iload_n (pc := 96) dX0_gather_96 4 rfl ?_
        refine jj_iload (pc := 97) dX0_gather_97 0 rfl ?_
        refine jj_iconst (pc := 99) (v := 1) dX0_gather_99 (by decide) ?_
        refine jj_iadd (pc := 100) dX0_gather_100 ?_
        refine jj_iast (pc := 101) dX0_gather_101 (wo_lB5 ho) h.1 ?_
        replace h := h.2
        refine jj_aload_n (pc := 102) dX0_gather_102 1 rfl ?_
        refine jj_getR (pc := 103) (ci := 0) (k := 5) dX0_gather_103 (wo_lB ho) rfl (by decide) rfl lk_RX0_44 ?_
        refine jj_iload_n (pc := 106) dX0_gather_106 4 rfl ?_
        refine jj_iload (pc := 107) dX0_gather_107 0 rfl ?_
        refine jj_callVi (pc := 109) (N := mX5_enter) (as := [.int a3, .int x3]) (st := []) dX0_gather_109 rfl rfl rfl lk_RX0_65 hv_X5_enter rfl rfl h (fun v5 w6 h => ?_)
        refine jj_if_ne (pc := 112) (tgt := 118) dX0_gather_112 (by decide) (fun c7 => ?_) (fun c7 => ?_)
        · replace h := h.1 c7
          refine jj_aload_n (pc := 118) dX0_gather_118 1 rfl ?_
          refine jj_getR (pc := 119) (ci := 0) (k := 5) dX0_gather_119 (wo_lB ho) rfl (by decide) rfl lk_RX0_44 ?_
          refine jj_iload_n (pc := 122) dX0_gather_122 4 rfl ?_
          refine jj_iconst (pc := 123) (v := 1) dX0_gather_123 (by decide) ?_
          refine jj_iadd (pc := 124) dX0_gather_124 ?_
          refine jj_callVi (pc := 125) (N := mX5_bears) (as := [.int (a3 + 1)]) (st := []) dX0_gather_125 rfl rfl rfl lk_RX0_55 hv_X5_bears rfl rfl h (fun v8 w9 h => ?_)
          refine jj_if_eq (pc := 128) (tgt := 142) dX0_gather_128 (by decide) (fun c10 => ?_) (fun c10 => ?_)
          · replace h := h.1 c10
            refine jj_iinc (pc := 142) (v := a3 + 1) (l2 := [(3, .int (a3 + 1)), (5, .int x3), (0, .ref o), (1, .ref 1), (2, .int a2), (4, .int a4)]) dX0_gather_142 4 rfl rfl (by decide) rfl ?_
            refine jj_aload_n (pc := 145) dX0_gather_145 2 rfl ?_
            refine jj_getR (pc := 146) (ci := 0) (k := 6) dX0_gather_146 (wo_lB ho) rfl (by decide) rfl lk_RX0_31 ?_
            refine jj_iload_n (pc := 149) dX0_gather_149 0 rfl ?_
            refine jj_iload (pc := 150) dX0_gather_150 1 rfl ?_
            refine jj_iconst (pc := 152) (v := 1) dX0_gather_152 (by decide) ?_
            refine jj_iadd (pc := 153) dX0_gather_153 ?_
            refine jj_iast (pc := 154) dX0_gather_154 (wo_lB5 ho) h.1 ?_
            replace h := h.2
            refine jj_iinc (pc := 155) (v := a4 + 1) (l2 := [(4, .int (a4 + 1)), (3, .int (a3 + 1)), (5, .int x3), (0, .ref o), (1, .ref 1), (2, .int a2)]) dX0_gather_155 5 rfl rfl (by decide) rfl ?_
            refine jj_goto (pc := 158) (tgt := 54) dX0_gather_158 (by decide) ?_
            exact jj_sub [3, 4, 5, 1, 0] rfl h
          · replace h := h.2 c10
            refine jj_aload_n (pc := 131) dX0_gather_131 1 rfl ?_
            refine jj_aload_n (pc := 132) dX0_gather_132 2 rfl ?_
            refine jj_iload_n (pc := 133) dX0_gather_133 4 rfl ?_
            refine jj_iconst (pc := 134) (v := 1) dX0_gather_134 (by decide) ?_
            refine jj_iadd (pc := 135) dX0_gather_135 ?_
            refine jj_callVv (pc := 136) (N := mX0_keep) (as := [.ref 1, .int (a3 + 1)]) (st := []) dX0_gather_136 (wo_lB ho) rfl rfl lk_RX0_59 hv_X0_keep rfl rfl h (fun w12 h => ?_)
            refine jj_goto (pc := 139) (tgt := 155) dX0_gather_139 (by decide) ?_
            refine jj_iinc (pc := 155) (v := a4 + 1) (l2 := [(4, .int (a4 + 1)), (5, .int x3), (0, .ref o), (1, .ref 1), (2, .int a2), (3, .int a3)]) dX0_gather_155 5 rfl rfl (by decide) rfl ?_
            refine jj_goto (pc := 158) (tgt := 54) dX0_gather_158 (by decide) ?_
            exact jj_sub [2, 3, 4, 5, 0] rfl h
        · replace h := h.2 c7
          refine jj_goto (pc := 115) (tgt := 155) dX0_gather_115 (by decide) ?_
          refine jj_iinc (pc := 155) (v := a4 + 1) (l2 := [(4, .int (a4 + 1)), (5, .int x3), (0, .ref o), (1, .ref 1), (2, .int a2), (3, .int a3)]) dX0_gather_155 5 rfl rfl (by decide) rfl ?_
          refine jj_goto (pc := 158) (tgt := 54) dX0_gather_158 (by decide) ?_
          exact jj_sub [2, 3, 4, 5, 0] rfl h
      · replace h := h.2 c4
        refine jj_iinc (pc := 86) (v := a3 + (-1)) (l2 := [(3, .int (a3 + (-1))), (5, .int x3), (0, .ref o), (1, .ref 1), (2, .int a2), (4, .int a4)]) dX0_gather_86 4 rfl rfl (by decide) rfl ?_
        refine jj_goto (pc := 89) (tgt := 155) dX0_gather_89 (by decide) ?_
        refine jj_iinc (pc := 155) (v := a4 + 1) (l2 := [(4, .int (a4 + 1)), (3, .int (a3 + (-1))), (5, .int x3), (0, .ref o), (1, .ref 1), (2, .int a2)]) dX0_gather_155 5 rfl rfl (by decide) rfl ?_
        refine jj_goto (pc := 158) (tgt := 54) dX0_gather_158 (by decide) ?_
        exact jj_sub [3, 4, 5, 1, 0] rfl h
set_option maxRecDepth 100000 in
set_option maxHeartbeats 4000000 in
theorem vc_X0_keep_0 {K : jj_K} (R : wo_T → Prop) (o : Nat) (ho : o = 23 ∨ o = 29) (a2 : Int32) (w : wo_T)
    (h : jj_Cv K mX5_solve [.ref 8, .int a2] w (fun w2 => jj_J K mX0_keep (jj_Rv R) 16 [(0, .ref o), (1, .ref 1), (2, .int a2), (3, .int 0), (4, .long 0), (6, .int 0)] [] w2)) :
    jj_J K mX0_keep (jj_Rv R) 0 [(0, .ref o), (1, .ref 1), (2, .int a2)] [] w := by
  refine jj_aload_n (pc := 0) dX0_keep_0 0 rfl ?_
  refine jj_getR (pc := 1) (ci := 0) (k := 5) dX0_keep_1 (wo_lB ho) rfl (by decide) rfl lk_RX0_44 ?_
  refine jj_iload_n (pc := 4) dX0_keep_4 2 rfl ?_
  refine jj_callVv (pc := 5) (N := mX5_solve) (as := [.int a2]) (st := []) dX0_keep_5 rfl rfl rfl lk_RX0_69 hv_X5_solve rfl rfl h (fun w2 h => ?_)
  refine jj_iconst (pc := 8) (v := 0) dX0_keep_8 (by decide) ?_
  refine jj_istore_n (pc := 9) (l2 := [(3, .int 0), (0, .ref o), (1, .ref 1), (2, .int a2)]) dX0_keep_9 (by decide) rfl ?_
  refine jj_lconst (pc := 10) (v := 0) dX0_keep_10 (by decide) ?_
  refine jj_lstore (pc := 11) (l2 := [(4, .long 0), (3, .int 0), (0, .ref o), (1, .ref 1), (2, .int a2)]) dX0_keep_11 (by decide) rfl ?_
  refine jj_iconst (pc := 13) (v := 0) dX0_keep_13 (by decide) ?_
  refine jj_istore (pc := 14) (l2 := [(6, .int 0), (4, .long 0), (3, .int 0), (0, .ref o), (1, .ref 1), (2, .int a2)]) dX0_keep_14 (by decide) rfl ?_
  exact jj_sub [3, 4, 5, 2, 1, 0] rfl h
theorem en_X0_keep {K : jj_K} (R : wo_T → Prop) (o : Nat) (ho : o = 23 ∨ o = 29) (a2 : Int32) (w : wo_T)
    (h : jj_Cv K mX5_solve [.ref 8, .int a2] w (fun w2 => jj_J K mX0_keep (jj_Rv R) 16 [(0, .ref o), (1, .ref 1), (2, .int a2), (3, .int 0), (4, .long 0), (6, .int 0)] [] w2)) : jj_Cv K mX0_keep [.ref o, .ref 1, .int a2] w R :=
  jj_Cv_intro pn_RX0 (Nat.le_of_ble_eq_true rfl) (vc_X0_keep_0 R o ho a2 w h)
set_option maxRecDepth 100000 in
set_option maxHeartbeats 4000000 in
theorem vc_X0_keep_16 {K : jj_K} (R : wo_T → Prop) (o : Nat) (ho : o = 23 ∨ o = 29) (a2 : Int32) (a3 : Int32) (a4 : Int64) (a6 : Int32) (w : wo_T)
    (h : (a2 ≤ a6 → (252 ≤ (w.1 o 7) → R w) ∧ (¬ 252 ≤ (w.1 o 7) → vp_in (w.1 o 7) 252 ∧ (vp_in ((wo_i w (o + 1) (w.1 o 7).toNatClampNeg a3).1 o 7) 252 ∧ (vp_in a2 8 ∧ (vp_in ((wo_l (wo_i w (o + 1) (w.1 o 7).toNatClampNeg a3) (o + 2) ((wo_i w (o + 1) (w.1 o 7).toNatClampNeg a3).1 o 7).toNatClampNeg a4).1 o 7) 252 ∧ (R (wo_i (wo_l (wo_l (wo_i w (o + 1) (w.1 o 7).toNatClampNeg a3) (o + 2) ((wo_i w (o + 1) (w.1 o 7).toNatClampNeg a3).1 o 7).toNatClampNeg a4) (o + 3) ((wo_l (wo_i w (o + 1) (w.1 o 7).toNatClampNeg a3) (o + 2) ((wo_i w (o + 1) (w.1 o 7).toNatClampNeg a3).1 o 7).toNatClampNeg a4).1 o 7).toNatClampNeg (if 0 < ((wo_l (wo_i w (o + 1) (w.1 o 7).toNatClampNeg a3) (o + 2) ((wo_i w (o + 1) (w.1 o 7).toNatClampNeg a3).1 o 7).toNatClampNeg a4).2 21 a2.toNatClampNeg) then ((wo_l (wo_i w (o + 1) (w.1 o 7).toNatClampNeg a3) (o + 2) ((wo_i w (o + 1) (w.1 o 7).toNatClampNeg a3).1 o 7).toNatClampNeg a4).2 21 a2.toNatClampNeg) else -((wo_l (wo_i w (o + 1) (w.1 o 7).toNatClampNeg a3) (o + 2) ((wo_i w (o + 1) (w.1 o 7).toNatClampNeg a3).1 o 7).toNatClampNeg a4).2 21 a2.toNatClampNeg))) o 7 (((wo_l (wo_l (wo_i w (o + 1) (w.1 o 7).toNatClampNeg a3) (o + 2) ((wo_i w (o + 1) (w.1 o 7).toNatClampNeg a3).1 o 7).toNatClampNeg a4) (o + 3) ((wo_l (wo_i w (o + 1) (w.1 o 7).toNatClampNeg a3) (o + 2) ((wo_i w (o + 1) (w.1 o 7).toNatClampNeg a3).1 o 7).toNatClampNeg a4).1 o 7).toNatClampNeg (if 0 < ((wo_l (wo_i w (o + 1) (w.1 o 7).toNatClampNeg a3) (o + 2) ((wo_i w (o + 1) (w.1 o 7).toNatClampNeg a3).1 o 7).toNatClampNeg a4).2 21 a2.toNatClampNeg) then ((wo_l (wo_i w (o + 1) (w.1 o 7).toNatClampNeg a3) (o + 2) ((wo_i w (o + 1) (w.1 o 7).toNatClampNeg a3).1 o 7).toNatClampNeg a4).2 21 a2.toNatClampNeg) else -((wo_l (wo_i w (o + 1) (w.1 o 7).toNatClampNeg a3) (o + 2) ((wo_i w (o + 1) (w.1 o 7).toNatClampNeg a3).1 o 7).toNatClampNeg a4).2 21 a2.toNatClampNeg))).1 o 7) + 1)))))))) ∧ (¬ a2 ≤ a6 → vp_in a6 8 ∧ ((¬ (w.2 22 a6.toNatClampNeg) = 0 → vp_in a6 8 ∧ (∀ x4 : Int32, x4 = w.1 18 a6.toNatClampNeg → ∀ x5 : Int32, x5 = a3 ||| ((1 : Int32) <<< (x4 &&& 31)) → (vp_in x4 10 ∧ (vp_in a6 8 ∧ (∀ x6 : Int64, x6 = a4 + (((w.1 7 x4.toNatClampNeg).toInt64) * (if 0 < (w.2 22 a6.toNatClampNeg) then (w.2 22 a6.toNatClampNeg) else -(w.2 22 a6.toNatClampNeg))) → (jj_J K mX0_keep (jj_Rv R) 16 [(0, .ref o), (1, .ref 1), (2, .int a2), (3, .int x5), (4, .long x6), (6, .int (a6 + 1))] [] w)))))) ∧ ((w.2 22 a6.toNatClampNeg) = 0 → R w)))) :
    jj_J K mX0_keep (jj_Rv R) 16 [(0, .ref o), (1, .ref 1), (2, .int a2), (3, .int a3), (4, .long a4), (6, .int a6)] [] w := by
  refine jj_iload (pc := 16) dX0_keep_16 5 rfl ?_
  refine jj_iload_n (pc := 18) dX0_keep_18 2 rfl ?_
  refine jj_icmp_ge (pc := 19) (tgt := 90) dX0_keep_19 (by decide) (fun c1 => ?_) (fun c1 => ?_)
  · replace h := h.1 c1
    refine jj_aload_n (pc := 90) dX0_keep_90 0 rfl ?_
    refine jj_getI (pc := 91) (ci := 0) (k := 7) dX0_keep_91 (wo_lB ho) rfl (by decide) rfl lk_RX0_48 ?_
    refine jj_sipush (pc := 94) (v := 252) dX0_keep_94 (by decide) ?_
    refine jj_icmp_ge (pc := 97) (tgt := 152) dX0_keep_97 (by decide) (fun c2 => ?_) (fun c2 => ?_)
    · replace h := h.1 c2
      exact jj_vret (pc := 152) dX0_keep_152 rfl h
    · replace h := h.2 c2
      refine jj_aload_n (pc := 100) dX0_keep_100 0 rfl ?_
      refine jj_getR (pc := 101) (ci := 0) (k := 0) dX0_keep_101 (wo_lB ho) rfl (by decide) rfl lk_RX0_11 ?_
      refine jj_aload_n (pc := 104) dX0_keep_104 0 rfl ?_
      refine jj_getI (pc := 105) (ci := 0) (k := 7) dX0_keep_105 (wo_lB ho) rfl (by decide) rfl lk_RX0_48 ?_
      refine jj_iload_n (pc := 108) dX0_keep_108 3 rfl ?_
      refine jj_iast (pc := 109) dX0_keep_109 (wo_lB1 ho) h.1 ?_
      replace h := h.2
      refine jj_aload_n (pc := 110) dX0_keep_110 0 rfl ?_
      refine jj_getR (pc := 111) (ci := 0) (k := 1) dX0_keep_111 (wo_lB ho) rfl (by decide) rfl lk_RX0_15 ?_
      refine jj_aload_n (pc := 114) dX0_keep_114 0 rfl ?_
      refine jj_getI (pc := 115) (ci := 0) (k := 7) dX0_keep_115 (wo_lB ho) rfl (by decide) rfl lk_RX0_48 ?_
      refine jj_lload (pc := 118) dX0_keep_118 4 rfl ?_
      refine jj_last (pc := 120) dX0_keep_120 (wo_lB2 ho) h.1 ?_
      replace h := h.2
      refine jj_aload_n (pc := 121) dX0_keep_121 0 rfl ?_
      refine jj_getR (pc := 122) (ci := 0) (k := 2) dX0_keep_122 (wo_lB ho) rfl (by decide) rfl lk_RX0_19 ?_
      refine jj_aload_n (pc := 125) dX0_keep_125 0 rfl ?_
      refine jj_getI (pc := 126) (ci := 0) (k := 7) dX0_keep_126 (wo_lB ho) rfl (by decide) rfl lk_RX0_48 ?_
      refine jj_aload_n (pc := 129) dX0_keep_129 0 rfl ?_
      refine jj_getR (pc := 130) (ci := 0) (k := 5) dX0_keep_130 (wo_lB ho) rfl (by decide) rfl lk_RX0_44 ?_
      refine jj_getR (pc := 133) (ci := 5) (k := 4) dX0_keep_133 rfl rfl (by decide) rfl lk_RX0_90 ?_
      refine jj_iload_n (pc := 136) dX0_keep_136 2 rfl ?_
      refine jj_lald (pc := 137) dX0_keep_137 rfl h.1 ?_
      replace h := h.2
      refine jj_mabs (pc := 138) dX0_keep_138 lk_RX0_84 lk_Sabs lk_IMath lk_Cabs (by decide) (Nat.le_of_ble_eq_true rfl) ?_
      refine jj_last (pc := 141) dX0_keep_141 (wo_lB3 ho) h.1 ?_
      replace h := h.2
      refine jj_aload_n (pc := 142) dX0_keep_142 0 rfl ?_
      refine jj_dup (pc := 143) dX0_keep_143 rfl ?_
      refine jj_getI (pc := 144) (ci := 0) (k := 7) dX0_keep_144 (wo_lB ho) rfl (by decide) rfl lk_RX0_48 ?_
      refine jj_iconst (pc := 147) (v := 1) dX0_keep_147 (by decide) ?_
      refine jj_iadd (pc := 148) dX0_keep_148 ?_
      refine jj_putI (pc := 149) (ci := 0) (k := 7) (ty := .int) dX0_keep_149 (wo_lB ho) rfl (by decide) rfl lk_RX0_48 rfl (by decide) rfl rfl ?_
      exact jj_vret (pc := 152) dX0_keep_152 rfl h
  · replace h := h.2 c1
    refine jj_aload_n (pc := 22) dX0_keep_22 0 rfl ?_
    refine jj_getR (pc := 23) (ci := 0) (k := 5) dX0_keep_23 (wo_lB ho) rfl (by decide) rfl lk_RX0_44 ?_
    refine jj_getR (pc := 26) (ci := 5) (k := 5) dX0_keep_26 rfl rfl (by decide) rfl lk_RX0_73 ?_
    refine jj_iload (pc := 29) dX0_keep_29 5 rfl ?_
    refine jj_lald (pc := 31) dX0_keep_31 rfl h.1 ?_
    replace h := h.2
    refine jj_lconst (pc := 32) (v := 0) dX0_keep_32 (by decide) ?_
    refine jj_lcmp_ne (pc := 33) (tgt := 38) dX0_keep_33 dX0_keep_34 (by decide) (fun c3 => ?_) (fun c3 => ?_)
    · replace h := h.1 c3
      refine jj_aload_n (pc := 38) dX0_keep_38 0 rfl ?_
      refine jj_getR (pc := 39) (ci := 0) (k := 5) dX0_keep_39 (wo_lB ho) rfl (by decide) rfl lk_RX0_44 ?_
      refine jj_getR (pc := 42) (ci := 5) (k := 1) dX0_keep_42 rfl rfl (by decide) rfl lk_RX0_76 ?_
      refine jj_iload (pc := 45) dX0_keep_45 5 rfl ?_
      refine jj_iald (pc := 47) dX0_keep_47 rfl h.1 ?_
      replace h := h.2
      refine jj_nmi (fun x4 ex4 => ?_)
      replace h := h x4 ex4
      refine jj_istore (pc := 48) (l2 := [(7, .int x4), (0, .ref o), (1, .ref 1), (2, .int a2), (3, .int a3), (4, .long a4), (6, .int a6)]) dX0_keep_48 (by decide) rfl ?_
      refine jj_iload_n (pc := 50) dX0_keep_50 4 rfl ?_
      refine jj_iconst (pc := 51) (v := 1) dX0_keep_51 (by decide) ?_
      refine jj_iload (pc := 52) dX0_keep_52 0 rfl ?_
      refine jj_ishl (pc := 54) dX0_keep_54 ?_
      refine jj_ior (pc := 55) dX0_keep_55 ?_
      refine jj_nmi (fun x5 ex5 => ?_)
      replace h := h x5 ex5
      refine jj_istore_n (pc := 56) (l2 := [(3, .int x5), (7, .int x4), (0, .ref o), (1, .ref 1), (2, .int a2), (4, .long a4), (6, .int a6)]) dX0_keep_56 (by decide) rfl ?_
      refine jj_lload (pc := 57) dX0_keep_57 5 rfl ?_
      refine jj_aload_n (pc := 59) dX0_keep_59 3 rfl ?_
      refine jj_getR (pc := 60) (ci := 3) (k := 5) dX0_keep_60 rfl rfl (by decide) rfl lk_RX0_79 ?_
      refine jj_iload (pc := 63) dX0_keep_63 1 rfl ?_
      refine jj_iald (pc := 65) dX0_keep_65 rfl h.1 ?_
      replace h := h.2
      refine jj_i2l (pc := 66) dX0_keep_66 ?_
      refine jj_aload_n (pc := 67) dX0_keep_67 2 rfl ?_
      refine jj_getR (pc := 68) (ci := 0) (k := 5) dX0_keep_68 (wo_lB ho) rfl (by decide) rfl lk_RX0_44 ?_
      refine jj_getR (pc := 71) (ci := 5) (k := 5) dX0_keep_71 rfl rfl (by decide) rfl lk_RX0_73 ?_
      refine jj_iload (pc := 74) dX0_keep_74 6 rfl ?_
      refine jj_lald (pc := 76) dX0_keep_76 rfl h.1 ?_
      replace h := h.2
      refine jj_mabs (pc := 77) dX0_keep_77 lk_RX0_84 lk_Sabs lk_IMath lk_Cabs (by decide) (Nat.le_of_ble_eq_true rfl) ?_
      refine jj_lmul (pc := 80) dX0_keep_80 ?_
      refine jj_ladd (pc := 81) dX0_keep_81 ?_
      refine jj_nml (fun x6 ex6 => ?_)
      replace h := h x6 ex6
      refine jj_lstore (pc := 82) (l2 := [(4, .long x6), (3, .int x5), (7, .int x4), (0, .ref o), (1, .ref 1), (2, .int a2), (6, .int a6)]) dX0_keep_82 (by decide) rfl ?_
      refine jj_iinc (pc := 84) (v := a6 + 1) (l2 := [(6, .int (a6 + 1)), (4, .long x6), (3, .int x5), (7, .int x4), (0, .ref o), (1, .ref 1), (2, .int a2)]) dX0_keep_84 6 rfl rfl (by decide) rfl ?_
      refine jj_goto (pc := 87) (tgt := 16) dX0_keep_87 (by decide) ?_
      exact jj_sub [4, 5, 6, 2, 1, 0] rfl h
    · replace h := h.2 c3
      exact jj_vret (pc := 37) dX0_keep_37 rfl h
set_option maxRecDepth 100000 in
set_option maxHeartbeats 4000000 in
theorem vc_X0_leastWithin_0 {K : jj_K} (R : Int32 → wo_T → Prop) (o : Nat) (ho : o = 23 ∨ o = 29) (a1 : Int32) (w : wo_T)
    (h : (¬ a1 = (w.1 o 8) → jj_J K mX0_leastWithin (jj_Ri R) 17 [(0, .ref o), (1, .int a1), (2, .int (-1)), (3, .int 0)] [] w) ∧ (a1 = (w.1 o 8) → R (w.1 o 9) w)) :
    jj_J K mX0_leastWithin (jj_Ri R) 0 [(0, .ref o), (1, .int a1)] [] w := by
  refine jj_iload_n (pc := 0) dX0_leastWithin_0 1 rfl ?_
  refine jj_aload_n (pc := 1) dX0_leastWithin_1 0 rfl ?_
  refine jj_getI (pc := 2) (ci := 0) (k := 8) dX0_leastWithin_2 (wo_lB ho) rfl (by decide) rfl lk_RX0_34 ?_
  refine jj_icmp_ne (pc := 5) (tgt := 13) dX0_leastWithin_5 (by decide) (fun c1 => ?_) (fun c1 => ?_)
  · replace h := h.1 c1
    refine jj_iconst (pc := 13) (v := (-1)) dX0_leastWithin_13 (by decide) ?_
    refine jj_istore_n (pc := 14) (l2 := [(2, .int (-1)), (0, .ref o), (1, .int a1)]) dX0_leastWithin_14 (by decide) rfl ?_
    refine jj_iconst (pc := 15) (v := 0) dX0_leastWithin_15 (by decide) ?_
    refine jj_istore_n (pc := 16) (l2 := [(3, .int 0), (2, .int (-1)), (0, .ref o), (1, .int a1)]) dX0_leastWithin_16 (by decide) rfl ?_
    exact jj_sub [2, 3, 1, 0] rfl h
  · replace h := h.2 c1
    refine jj_aload_n (pc := 8) dX0_leastWithin_8 0 rfl ?_
    refine jj_getI (pc := 9) (ci := 0) (k := 9) dX0_leastWithin_9 (wo_lB ho) rfl (by decide) rfl lk_RX0_38 ?_
    exact jj_iret (pc := 12) dX0_leastWithin_12 rfl h
theorem en_X0_leastWithin {K : jj_K} (R : Int32 → wo_T → Prop) (o : Nat) (ho : o = 23 ∨ o = 29) (a1 : Int32) (w : wo_T)
    (h : (¬ a1 = (w.1 o 8) → jj_J K mX0_leastWithin (jj_Ri R) 17 [(0, .ref o), (1, .int a1), (2, .int (-1)), (3, .int 0)] [] w) ∧ (a1 = (w.1 o 8) → R (w.1 o 9) w)) : jj_Ci K mX0_leastWithin [.ref o, .int a1] w R :=
  jj_Ci_intro pn_RX0 (Nat.le_of_ble_eq_true rfl) (vc_X0_leastWithin_0 R o ho a1 w h)
set_option maxRecDepth 100000 in
set_option maxHeartbeats 4000000 in
theorem vc_X0_leastWithin_17 {K : jj_K} (R : Int32 → wo_T → Prop) (o : Nat) (ho : o = 23 ∨ o = 29) (a1 : Int32) (a2 : Int32) (a3 : Int32) (w : wo_T)
    (h : ((w.1 o 7) ≤ a3 → R a2 (wo_i (wo_i w o 8 a1) o 9 a2)) ∧ (¬ (w.1 o 7) ≤ a3 → vp_in a3 252 ∧ ((((w.1 (o + 1) a3.toNatClampNeg) &&& (a1 ^^^ (-1))) = 0 → (a2 < 0 → jj_J K mX0_leastWithin (jj_Ri R) 17 [(0, .ref o), (1, .int a1), (2, .int a3), (3, .int (a3 + 1))] [] w) ∧ (¬ a2 < 0 → jj_Ci K mX0_isDearer [.ref o, .int a2, .int a3] w (fun v4 w5 => (¬ v4 = 0 → jj_J K mX0_leastWithin (jj_Ri R) 17 [(0, .ref o), (1, .int a1), (2, .int a3), (3, .int (a3 + 1))] [] w5) ∧ (v4 = 0 → jj_Ci K mX0_isDearer [.ref o, .int a3, .int a2] w5 (fun v7 w8 => (¬ v7 = 0 → jj_J K mX0_leastWithin (jj_Ri R) 17 [(0, .ref o), (1, .int a1), (2, .int a2), (3, .int (a3 + 1))] [] w8) ∧ (v7 = 0 → vp_in a3 252 ∧ (vp_in a2 252 ∧ (((w8.1 (o + 1) a2.toNatClampNeg) ≤ (w8.1 (o + 1) a3.toNatClampNeg) → jj_J K mX0_leastWithin (jj_Ri R) 17 [(0, .ref o), (1, .int a1), (2, .int a2), (3, .int (a3 + 1))] [] w8) ∧ (¬ (w8.1 (o + 1) a2.toNatClampNeg) ≤ (w8.1 (o + 1) a3.toNatClampNeg) → jj_J K mX0_leastWithin (jj_Ri R) 17 [(0, .ref o), (1, .int a1), (2, .int a3), (3, .int (a3 + 1))] [] w8))))))))) ∧ (¬ ((w.1 (o + 1) a3.toNatClampNeg) &&& (a1 ^^^ (-1))) = 0 → jj_J K mX0_leastWithin (jj_Ri R) 17 [(0, .ref o), (1, .int a1), (2, .int a2), (3, .int (a3 + 1))] [] w)))) :
    jj_J K mX0_leastWithin (jj_Ri R) 17 [(0, .ref o), (1, .int a1), (2, .int a2), (3, .int a3)] [] w := by
  refine jj_iload_n (pc := 17) dX0_leastWithin_17 3 rfl ?_
  refine jj_aload_n (pc := 18) dX0_leastWithin_18 0 rfl ?_
  refine jj_getI (pc := 19) (ci := 0) (k := 7) dX0_leastWithin_19 (wo_lB ho) rfl (by decide) rfl lk_RX0_48 ?_
  refine jj_icmp_ge (pc := 22) (tgt := 86) dX0_leastWithin_22 (by decide) (fun c1 => ?_) (fun c1 => ?_)
  · replace h := h.1 c1
    refine jj_aload_n (pc := 86) dX0_leastWithin_86 0 rfl ?_
    refine jj_iload_n (pc := 87) dX0_leastWithin_87 1 rfl ?_
    refine jj_putI (pc := 88) (ci := 0) (k := 8) (ty := .int) dX0_leastWithin_88 (wo_lB ho) rfl (by decide) rfl lk_RX0_34 rfl (by decide) rfl rfl ?_
    refine jj_aload_n (pc := 91) dX0_leastWithin_91 0 rfl ?_
    refine jj_iload_n (pc := 92) dX0_leastWithin_92 2 rfl ?_
    refine jj_putI (pc := 93) (ci := 0) (k := 9) (ty := .int) dX0_leastWithin_93 (wo_lB ho) rfl (by decide) rfl lk_RX0_38 rfl (by decide) rfl rfl ?_
    refine jj_iload_n (pc := 96) dX0_leastWithin_96 2 rfl ?_
    exact jj_iret (pc := 97) dX0_leastWithin_97 rfl h
  · replace h := h.2 c1
    refine jj_aload_n (pc := 25) dX0_leastWithin_25 0 rfl ?_
    refine jj_getR (pc := 26) (ci := 0) (k := 0) dX0_leastWithin_26 (wo_lB ho) rfl (by decide) rfl lk_RX0_11 ?_
    refine jj_iload_n (pc := 29) dX0_leastWithin_29 3 rfl ?_
    refine jj_iald (pc := 30) dX0_leastWithin_30 (wo_lB1 ho) h.1 ?_
    replace h := h.2
    refine jj_iload_n (pc := 31) dX0_leastWithin_31 1 rfl ?_
    refine jj_iconst (pc := 32) (v := (-1)) dX0_leastWithin_32 (by decide) ?_
    refine jj_ixor (pc := 33) dX0_leastWithin_33 ?_
    refine jj_iand (pc := 34) dX0_leastWithin_34 ?_
    refine jj_if_eq (pc := 35) (tgt := 41) dX0_leastWithin_35 (by decide) (fun c2 => ?_) (fun c2 => ?_)
    · replace h := h.1 c2
      refine jj_iload_n (pc := 41) dX0_leastWithin_41 2 rfl ?_
      refine jj_if_lt (pc := 42) (tgt := 78) dX0_leastWithin_42 (by decide) (fun c3 => ?_) (fun c3 => ?_)
      · replace h := h.1 c3
        refine jj_iload_n (pc := 78) dX0_leastWithin_78 3 rfl ?_
        refine jj_istore_n (pc := 79) (l2 := [(2, .int a3), (0, .ref o), (1, .int a1), (3, .int a3)]) dX0_leastWithin_79 (by decide) rfl ?_
        refine jj_iinc (pc := 80) (v := a3 + 1) (l2 := [(3, .int (a3 + 1)), (2, .int a3), (0, .ref o), (1, .int a1)]) dX0_leastWithin_80 3 rfl rfl (by decide) rfl ?_
        refine jj_goto (pc := 83) (tgt := 17) dX0_leastWithin_83 (by decide) ?_
        exact jj_sub [2, 3, 1, 0] rfl h
      · replace h := h.2 c3
        refine jj_aload_n (pc := 45) dX0_leastWithin_45 0 rfl ?_
        refine jj_iload_n (pc := 46) dX0_leastWithin_46 2 rfl ?_
        refine jj_iload_n (pc := 47) dX0_leastWithin_47 3 rfl ?_
        refine jj_callVi (pc := 48) (N := mX0_isDearer) (as := [.int a2, .int a3]) (st := []) dX0_leastWithin_48 (wo_lB ho) rfl rfl lk_RX0_93 hv_X0_isDearer rfl rfl h (fun v4 w5 h => ?_)
        refine jj_if_ne (pc := 51) (tgt := 78) dX0_leastWithin_51 (by decide) (fun c6 => ?_) (fun c6 => ?_)
        · replace h := h.1 c6
          refine jj_iload_n (pc := 78) dX0_leastWithin_78 3 rfl ?_
          refine jj_istore_n (pc := 79) (l2 := [(2, .int a3), (0, .ref o), (1, .int a1), (3, .int a3)]) dX0_leastWithin_79 (by decide) rfl ?_
          refine jj_iinc (pc := 80) (v := a3 + 1) (l2 := [(3, .int (a3 + 1)), (2, .int a3), (0, .ref o), (1, .int a1)]) dX0_leastWithin_80 3 rfl rfl (by decide) rfl ?_
          refine jj_goto (pc := 83) (tgt := 17) dX0_leastWithin_83 (by decide) ?_
          exact jj_sub [2, 3, 1, 0] rfl h
        · replace h := h.2 c6
          refine jj_aload_n (pc := 54) dX0_leastWithin_54 0 rfl ?_
          refine jj_iload_n (pc := 55) dX0_leastWithin_55 3 rfl ?_
          refine jj_iload_n (pc := 56) dX0_leastWithin_56 2 rfl ?_
          refine jj_callVi (pc := 57) (N := mX0_isDearer) (as := [.int a3, .int a2]) (st := []) dX0_leastWithin_57 (wo_lB ho) rfl rfl lk_RX0_93 hv_X0_isDearer rfl rfl h (fun v7 w8 h => ?_)
          refine jj_if_ne (pc := 60) (tgt := 80) dX0_leastWithin_60 (by decide) (fun c9 => ?_) (fun c9 => ?_)
          · replace h := h.1 c9
            refine jj_iinc (pc := 80) (v := a3 + 1) (l2 := [(3, .int (a3 + 1)), (0, .ref o), (1, .int a1), (2, .int a2)]) dX0_leastWithin_80 3 rfl rfl (by decide) rfl ?_
            refine jj_goto (pc := 83) (tgt := 17) dX0_leastWithin_83 (by decide) ?_
            exact jj_sub [1, 2, 3, 0] rfl h
          · replace h := h.2 c9
            refine jj_aload_n (pc := 63) dX0_leastWithin_63 0 rfl ?_
            refine jj_getR (pc := 64) (ci := 0) (k := 0) dX0_leastWithin_64 (wo_lB ho) rfl (by decide) rfl lk_RX0_11 ?_
            refine jj_iload_n (pc := 67) dX0_leastWithin_67 3 rfl ?_
            refine jj_iald (pc := 68) dX0_leastWithin_68 (wo_lB1 ho) h.1 ?_
            replace h := h.2
            refine jj_aload_n (pc := 69) dX0_leastWithin_69 0 rfl ?_
            refine jj_getR (pc := 70) (ci := 0) (k := 0) dX0_leastWithin_70 (wo_lB ho) rfl (by decide) rfl lk_RX0_11 ?_
            refine jj_iload_n (pc := 73) dX0_leastWithin_73 2 rfl ?_
            refine jj_iald (pc := 74) dX0_leastWithin_74 (wo_lB1 ho) h.1 ?_
            replace h := h.2
            refine jj_icmp_ge (pc := 75) (tgt := 80) dX0_leastWithin_75 (by decide) (fun c10 => ?_) (fun c10 => ?_)
            · replace h := h.1 c10
              refine jj_iinc (pc := 80) (v := a3 + 1) (l2 := [(3, .int (a3 + 1)), (0, .ref o), (1, .int a1), (2, .int a2)]) dX0_leastWithin_80 3 rfl rfl (by decide) rfl ?_
              refine jj_goto (pc := 83) (tgt := 17) dX0_leastWithin_83 (by decide) ?_
              exact jj_sub [1, 2, 3, 0] rfl h
            · replace h := h.2 c10
              refine jj_iload_n (pc := 78) dX0_leastWithin_78 3 rfl ?_
              refine jj_istore_n (pc := 79) (l2 := [(2, .int a3), (0, .ref o), (1, .int a1), (3, .int a3)]) dX0_leastWithin_79 (by decide) rfl ?_
              refine jj_iinc (pc := 80) (v := a3 + 1) (l2 := [(3, .int (a3 + 1)), (2, .int a3), (0, .ref o), (1, .int a1)]) dX0_leastWithin_80 3 rfl rfl (by decide) rfl ?_
              refine jj_goto (pc := 83) (tgt := 17) dX0_leastWithin_83 (by decide) ?_
              exact jj_sub [2, 3, 1, 0] rfl h
    · replace h := h.2 c2
      refine jj_goto (pc := 38) (tgt := 80) dX0_leastWithin_38 (by decide) ?_
      refine jj_iinc (pc := 80) (v := a3 + 1) (l2 := [(3, .int (a3 + 1)), (0, .ref o), (1, .int a1), (2, .int a2)]) dX0_leastWithin_80 3 rfl rfl (by decide) rfl ?_
      refine jj_goto (pc := 83) (tgt := 17) dX0_leastWithin_83 (by decide) ?_
      exact jj_sub [1, 2, 3, 0] rfl h
set_option maxRecDepth 100000 in
set_option maxHeartbeats 4000000 in
theorem vc_X0_isDearer_0 {K : jj_K} (R : Int32 → wo_T → Prop) (o : Nat) (ho : o = 23 ∨ o = 29) (a1 : Int32) (a2 : Int32) (w : wo_T)
    (h : (a1 < 0 → (0 ≤ a1 → R 0 w) ∧ (¬ 0 ≤ a1 → (a2 < 0 → R 0 w) ∧ (¬ a2 < 0 → R 1 w))) ∧ (¬ a1 < 0 → (0 ≤ a2 → vp_in a1 252 ∧ (vp_in a2 252 ∧ (vp_in a2 252 ∧ (vp_in a1 252 ∧ ((((w.2 (o + 2) a1.toNatClampNeg) * (w.2 (o + 3) a2.toNatClampNeg)) ≤ ((w.2 (o + 2) a2.toNatClampNeg) * (w.2 (o + 3) a1.toNatClampNeg)) → R 0 w) ∧ (¬ ((w.2 (o + 2) a1.toNatClampNeg) * (w.2 (o + 3) a2.toNatClampNeg)) ≤ ((w.2 (o + 2) a2.toNatClampNeg) * (w.2 (o + 3) a1.toNatClampNeg)) → R 1 w)))))) ∧ (¬ 0 ≤ a2 → (0 ≤ a1 → R 0 w) ∧ (¬ 0 ≤ a1 → (a2 < 0 → R 0 w) ∧ (¬ a2 < 0 → R 1 w))))) :
    jj_J K mX0_isDearer (jj_Ri R) 0 [(0, .ref o), (1, .int a1), (2, .int a2)] [] w := by
  refine jj_iload_n (pc := 0) dX0_isDearer_0 1 rfl ?_
  refine jj_if_lt (pc := 1) (tgt := 8) dX0_isDearer_1 (by decide) (fun c1 => ?_) (fun c1 => ?_)
  · replace h := h.1 c1
    refine jj_iload_n (pc := 8) dX0_isDearer_8 1 rfl ?_
    refine jj_if_ge (pc := 9) (tgt := 20) dX0_isDearer_9 (by decide) (fun c2 => ?_) (fun c2 => ?_)
    · replace h := h.1 c2
      refine jj_iconst (pc := 20) (v := 0) dX0_isDearer_20 (by decide) ?_
      exact jj_zret (pc := 21) dX0_isDearer_21 rfl (Or.inl rfl) h
    · replace h := h.2 c2
      refine jj_iload_n (pc := 12) dX0_isDearer_12 2 rfl ?_
      refine jj_if_lt (pc := 13) (tgt := 20) dX0_isDearer_13 (by decide) (fun c3 => ?_) (fun c3 => ?_)
      · replace h := h.1 c3
        refine jj_iconst (pc := 20) (v := 0) dX0_isDearer_20 (by decide) ?_
        exact jj_zret (pc := 21) dX0_isDearer_21 rfl (Or.inl rfl) h
      · replace h := h.2 c3
        refine jj_iconst (pc := 16) (v := 1) dX0_isDearer_16 (by decide) ?_
        refine jj_goto (pc := 17) (tgt := 21) dX0_isDearer_17 (by decide) ?_
        exact jj_zret (pc := 21) dX0_isDearer_21 rfl (Or.inr rfl) h
  · replace h := h.2 c1
    refine jj_iload_n (pc := 4) dX0_isDearer_4 2 rfl ?_
    refine jj_if_ge (pc := 5) (tgt := 22) dX0_isDearer_5 (by decide) (fun c4 => ?_) (fun c4 => ?_)
    · replace h := h.1 c4
      refine jj_aload_n (pc := 22) dX0_isDearer_22 0 rfl ?_
      refine jj_getR (pc := 23) (ci := 0) (k := 1) dX0_isDearer_23 (wo_lB ho) rfl (by decide) rfl lk_RX0_15 ?_
      refine jj_iload_n (pc := 26) dX0_isDearer_26 1 rfl ?_
      refine jj_lald (pc := 27) dX0_isDearer_27 (wo_lB2 ho) h.1 ?_
      replace h := h.2
      refine jj_aload_n (pc := 28) dX0_isDearer_28 0 rfl ?_
      refine jj_getR (pc := 29) (ci := 0) (k := 2) dX0_isDearer_29 (wo_lB ho) rfl (by decide) rfl lk_RX0_19 ?_
      refine jj_iload_n (pc := 32) dX0_isDearer_32 2 rfl ?_
      refine jj_lald (pc := 33) dX0_isDearer_33 (wo_lB3 ho) h.1 ?_
      replace h := h.2
      refine jj_lmul (pc := 34) dX0_isDearer_34 ?_
      refine jj_aload_n (pc := 35) dX0_isDearer_35 0 rfl ?_
      refine jj_getR (pc := 36) (ci := 0) (k := 1) dX0_isDearer_36 (wo_lB ho) rfl (by decide) rfl lk_RX0_15 ?_
      refine jj_iload_n (pc := 39) dX0_isDearer_39 2 rfl ?_
      refine jj_lald (pc := 40) dX0_isDearer_40 (wo_lB2 ho) h.1 ?_
      replace h := h.2
      refine jj_aload_n (pc := 41) dX0_isDearer_41 0 rfl ?_
      refine jj_getR (pc := 42) (ci := 0) (k := 2) dX0_isDearer_42 (wo_lB ho) rfl (by decide) rfl lk_RX0_19 ?_
      refine jj_iload_n (pc := 45) dX0_isDearer_45 1 rfl ?_
      refine jj_lald (pc := 46) dX0_isDearer_46 (wo_lB3 ho) h.1 ?_
      replace h := h.2
      refine jj_lmul (pc := 47) dX0_isDearer_47 ?_
      refine jj_lcmp_le (pc := 48) (tgt := 56) dX0_isDearer_48 dX0_isDearer_49 (by decide) (fun c5 => ?_) (fun c5 => ?_)
      · replace h := h.1 c5
        refine jj_iconst (pc := 56) (v := 0) dX0_isDearer_56 (by decide) ?_
        exact jj_zret (pc := 57) dX0_isDearer_57 rfl (Or.inl rfl) h
      · replace h := h.2 c5
        refine jj_iconst (pc := 52) (v := 1) dX0_isDearer_52 (by decide) ?_
        refine jj_goto (pc := 53) (tgt := 57) dX0_isDearer_53 (by decide) ?_
        exact jj_zret (pc := 57) dX0_isDearer_57 rfl (Or.inr rfl) h
    · replace h := h.2 c4
      refine jj_iload_n (pc := 8) dX0_isDearer_8 1 rfl ?_
      refine jj_if_ge (pc := 9) (tgt := 20) dX0_isDearer_9 (by decide) (fun c6 => ?_) (fun c6 => ?_)
      · replace h := h.1 c6
        refine jj_iconst (pc := 20) (v := 0) dX0_isDearer_20 (by decide) ?_
        exact jj_zret (pc := 21) dX0_isDearer_21 rfl (Or.inl rfl) h
      · replace h := h.2 c6
        refine jj_iload_n (pc := 12) dX0_isDearer_12 2 rfl ?_
        refine jj_if_lt (pc := 13) (tgt := 20) dX0_isDearer_13 (by decide) (fun c7 => ?_) (fun c7 => ?_)
        · replace h := h.1 c7
          refine jj_iconst (pc := 20) (v := 0) dX0_isDearer_20 (by decide) ?_
          exact jj_zret (pc := 21) dX0_isDearer_21 rfl (Or.inl rfl) h
        · replace h := h.2 c7
          refine jj_iconst (pc := 16) (v := 1) dX0_isDearer_16 (by decide) ?_
          refine jj_goto (pc := 17) (tgt := 21) dX0_isDearer_17 (by decide) ?_
          exact jj_zret (pc := 21) dX0_isDearer_21 rfl (Or.inr rfl) h
theorem en_X0_isDearer {K : jj_K} (R : Int32 → wo_T → Prop) (o : Nat) (ho : o = 23 ∨ o = 29) (a1 : Int32) (a2 : Int32) (w : wo_T)
    (h : (a1 < 0 → (0 ≤ a1 → R 0 w) ∧ (¬ 0 ≤ a1 → (a2 < 0 → R 0 w) ∧ (¬ a2 < 0 → R 1 w))) ∧ (¬ a1 < 0 → (0 ≤ a2 → vp_in a1 252 ∧ (vp_in a2 252 ∧ (vp_in a2 252 ∧ (vp_in a1 252 ∧ ((((w.2 (o + 2) a1.toNatClampNeg) * (w.2 (o + 3) a2.toNatClampNeg)) ≤ ((w.2 (o + 2) a2.toNatClampNeg) * (w.2 (o + 3) a1.toNatClampNeg)) → R 0 w) ∧ (¬ ((w.2 (o + 2) a1.toNatClampNeg) * (w.2 (o + 3) a2.toNatClampNeg)) ≤ ((w.2 (o + 2) a2.toNatClampNeg) * (w.2 (o + 3) a1.toNatClampNeg)) → R 1 w)))))) ∧ (¬ 0 ≤ a2 → (0 ≤ a1 → R 0 w) ∧ (¬ 0 ≤ a1 → (a2 < 0 → R 0 w) ∧ (¬ a2 < 0 → R 1 w))))) : jj_Ci K mX0_isDearer [.ref o, .int a1, .int a2] w R :=
  jj_Ci_intro pn_RX0 (Nat.le_of_ble_eq_true rfl) (vc_X0_isDearer_0 R o ho a1 a2 w h)
set_option maxRecDepth 100000 in
set_option maxHeartbeats 4000000 in
theorem vc_X0_volume_0 {K : jj_K} (R : Int64 → wo_T → Prop) (o : Nat) (ho : o = 23 ∨ o = 29) (a1 : Int32) (a2 : Int32) (w : wo_T)
    (h : (0 ≤ a1 → vp_in a1 252 ∧ (vp_in a1 252 ∧ (jj_Cl K mX6_lowest [.long (w.2 (o + 2) a1.toNatClampNeg), .long (w.2 (o + 3) a1.toNatClampNeg), .int a2] w (fun v2 w3 => R v2 w3)))) ∧ (¬ 0 ≤ a1 → jj_Cl K mX6_asLong [.int (-3)] w (fun v4 w5 => R v4 w5))) :
    jj_J K mX0_volume (jj_Rl R) 0 [(0, .ref o), (1, .int a1), (2, .int a2)] [] w := by
  refine jj_iload_n (pc := 0) dX0_volume_0 1 rfl ?_
  refine jj_if_ge (pc := 1) (tgt := 12) dX0_volume_1 (by decide) (fun c1 => ?_) (fun c1 => ?_)
  · replace h := h.1 c1
    refine jj_aload_n (pc := 12) dX0_volume_12 0 rfl ?_
    refine jj_getR (pc := 13) (ci := 0) (k := 1) dX0_volume_13 (wo_lB ho) rfl (by decide) rfl lk_RX0_15 ?_
    refine jj_iload_n (pc := 16) dX0_volume_16 1 rfl ?_
    refine jj_lald (pc := 17) dX0_volume_17 (wo_lB2 ho) h.1 ?_
    replace h := h.2
    refine jj_aload_n (pc := 18) dX0_volume_18 0 rfl ?_
    refine jj_getR (pc := 19) (ci := 0) (k := 2) dX0_volume_19 (wo_lB ho) rfl (by decide) rfl lk_RX0_19 ?_
    refine jj_iload_n (pc := 22) dX0_volume_22 1 rfl ?_
    refine jj_lald (pc := 23) dX0_volume_23 (wo_lB3 ho) h.1 ?_
    replace h := h.2
    refine jj_iload_n (pc := 24) dX0_volume_24 2 rfl ?_
    refine jj_callSNl (pc := 25) (N := mX6_lowest) (as := [.long (w.2 (o + 2) a1.toNatClampNeg), .long (w.2 (o + 3) a1.toNatClampNeg), .int a2]) (st := []) (host := "LeastFrames") dX0_volume_25 (by decide +kernel) hv_X6_lowest rfl rfl h (fun v2 w3 h => ?_)
    exact jj_lret (pc := 28) dX0_volume_28 rfl h
  · replace h := h.2 c1
    refine jj_bipush (pc := 4) (v := (-3)) dX0_volume_4 (by decide) ?_
    refine jj_callSNl (pc := 6) (N := mX6_asLong) (as := [.int (-3)]) (st := []) (host := "LeastFrames") dX0_volume_6 (by decide +kernel) hv_X6_asLong rfl rfl h (fun v4 w5 h => ?_)
    refine jj_goto (pc := 9) (tgt := 28) dX0_volume_9 (by decide) ?_
    exact jj_lret (pc := 28) dX0_volume_28 rfl h
theorem en_X0_volume {K : jj_K} (R : Int64 → wo_T → Prop) (o : Nat) (ho : o = 23 ∨ o = 29) (a1 : Int32) (a2 : Int32) (w : wo_T)
    (h : (0 ≤ a1 → vp_in a1 252 ∧ (vp_in a1 252 ∧ (jj_Cl K mX6_lowest [.long (w.2 (o + 2) a1.toNatClampNeg), .long (w.2 (o + 3) a1.toNatClampNeg), .int a2] w (fun v2 w3 => R v2 w3)))) ∧ (¬ 0 ≤ a1 → jj_Cl K mX6_asLong [.int (-3)] w (fun v4 w5 => R v4 w5))) : jj_Cl K mX0_volume [.ref o, .int a1, .int a2] w R :=
  jj_Cl_intro pn_RX0 (Nat.le_of_ble_eq_true rfl) (vc_X0_volume_0 R o ho a1 a2 w h)
set_option maxRecDepth 100000 in
set_option maxHeartbeats 4000000 in
theorem vc_X0_difference_0 {K : jj_K} (R : Int64 → wo_T → Prop) (o : Nat) (ho : o = 23 ∨ o = 29) (a1 : Int32) (a2 : Int32) (a3 : Int32) (w : wo_T)
    (h : (a1 < 0 → jj_Cl K mX6_asLong [.int (-3)] w (fun v2 w3 => R v2 w3)) ∧ (¬ a1 < 0 → (0 ≤ a2 → vp_in a1 252 ∧ (vp_in a2 252 ∧ (vp_in a2 252 ∧ (vp_in a1 252 ∧ (∀ x5 : Int64, x5 = ((w.2 (o + 2) a1.toNatClampNeg) * (w.2 (o + 3) a2.toNatClampNeg)) - ((w.2 (o + 2) a2.toNatClampNeg) * (w.2 (o + 3) a1.toNatClampNeg)) → (vp_in a1 252 ∧ (vp_in a2 252 ∧ (jj_Cl K mX6_lowest [.long x5, .long ((w.2 (o + 3) a1.toNatClampNeg) * (w.2 (o + 3) a2.toNatClampNeg)), .int a3] w (fun v6 w7 => R v6 w7))))))))) ∧ (¬ 0 ≤ a2 → jj_Cl K mX6_asLong [.int (-3)] w (fun v8 w9 => R v8 w9)))) :
    jj_J K mX0_difference (jj_Rl R) 0 [(0, .ref o), (1, .int a1), (2, .int a2), (3, .int a3)] [] w := by
  refine jj_iload_n (pc := 0) dX0_difference_0 1 rfl ?_
  refine jj_if_lt (pc := 1) (tgt := 8) dX0_difference_1 (by decide) (fun c1 => ?_) (fun c1 => ?_)
  · replace h := h.1 c1
    refine jj_bipush (pc := 8) (v := (-3)) dX0_difference_8 (by decide) ?_
    refine jj_callSNl (pc := 10) (N := mX6_asLong) (as := [.int (-3)]) (st := []) (host := "LeastFrames") dX0_difference_10 (by decide +kernel) hv_X6_asLong rfl rfl h (fun v2 w3 h => ?_)
    exact jj_lret (pc := 13) dX0_difference_13 rfl h
  · replace h := h.2 c1
    refine jj_iload_n (pc := 4) dX0_difference_4 2 rfl ?_
    refine jj_if_ge (pc := 5) (tgt := 14) dX0_difference_5 (by decide) (fun c4 => ?_) (fun c4 => ?_)
    · replace h := h.1 c4
      refine jj_aload_n (pc := 14) dX0_difference_14 0 rfl ?_
      refine jj_getR (pc := 15) (ci := 0) (k := 1) dX0_difference_15 (wo_lB ho) rfl (by decide) rfl lk_RX0_15 ?_
      refine jj_iload_n (pc := 18) dX0_difference_18 1 rfl ?_
      refine jj_lald (pc := 19) dX0_difference_19 (wo_lB2 ho) h.1 ?_
      replace h := h.2
      refine jj_aload_n (pc := 20) dX0_difference_20 0 rfl ?_
      refine jj_getR (pc := 21) (ci := 0) (k := 2) dX0_difference_21 (wo_lB ho) rfl (by decide) rfl lk_RX0_19 ?_
      refine jj_iload_n (pc := 24) dX0_difference_24 2 rfl ?_
      refine jj_lald (pc := 25) dX0_difference_25 (wo_lB3 ho) h.1 ?_
      replace h := h.2
      refine jj_lmul (pc := 26) dX0_difference_26 ?_
      refine jj_aload_n (pc := 27) dX0_difference_27 0 rfl ?_
      refine jj_getR (pc := 28) (ci := 0) (k := 1) dX0_difference_28 (wo_lB ho) rfl (by decide) rfl lk_RX0_15 ?_
      refine jj_iload_n (pc := 31) dX0_difference_31 2 rfl ?_
      refine jj_lald (pc := 32) dX0_difference_32 (wo_lB2 ho) h.1 ?_
      replace h := h.2
      refine jj_aload_n (pc := 33) dX0_difference_33 0 rfl ?_
      refine jj_getR (pc := 34) (ci := 0) (k := 2) dX0_difference_34 (wo_lB ho) rfl (by decide) rfl lk_RX0_19 ?_
      refine jj_iload_n (pc := 37) dX0_difference_37 1 rfl ?_
      refine jj_lald (pc := 38) dX0_difference_38 (wo_lB3 ho) h.1 ?_
      replace h := h.2
      refine jj_lmul (pc := 39) dX0_difference_39 ?_
      refine jj_lsub (pc := 40) dX0_difference_40 ?_
      refine jj_nml (fun x5 ex5 => ?_)
      replace h := h x5 ex5
      refine jj_lstore (pc := 41) (l2 := [(4, .long x5), (0, .ref o), (1, .int a1), (2, .int a2), (3, .int a3)]) dX0_difference_41 (by decide) rfl ?_
      refine jj_lload (pc := 43) dX0_difference_43 0 rfl ?_
      refine jj_aload_n (pc := 45) dX0_difference_45 1 rfl ?_
      refine jj_getR (pc := 46) (ci := 0) (k := 2) dX0_difference_46 (wo_lB ho) rfl (by decide) rfl lk_RX0_19 ?_
      refine jj_iload_n (pc := 49) dX0_difference_49 2 rfl ?_
      refine jj_lald (pc := 50) dX0_difference_50 (wo_lB3 ho) h.1 ?_
      replace h := h.2
      refine jj_aload_n (pc := 51) dX0_difference_51 1 rfl ?_
      refine jj_getR (pc := 52) (ci := 0) (k := 2) dX0_difference_52 (wo_lB ho) rfl (by decide) rfl lk_RX0_19 ?_
      refine jj_iload_n (pc := 55) dX0_difference_55 3 rfl ?_
      refine jj_lald (pc := 56) dX0_difference_56 (wo_lB3 ho) h.1 ?_
      replace h := h.2
      refine jj_lmul (pc := 57) dX0_difference_57 ?_
      refine jj_iload_n (pc := 58) dX0_difference_58 4 rfl ?_
      refine jj_callSNl (pc := 59) (N := mX6_lowest) (as := [.long x5, .long ((w.2 (o + 3) a1.toNatClampNeg) * (w.2 (o + 3) a2.toNatClampNeg)), .int a3]) (st := []) (host := "LeastFrames") dX0_difference_59 (by decide +kernel) hv_X6_lowest rfl rfl h (fun v6 w7 h => ?_)
      exact jj_lret (pc := 62) dX0_difference_62 rfl h
    · replace h := h.2 c4
      refine jj_bipush (pc := 8) (v := (-3)) dX0_difference_8 (by decide) ?_
      refine jj_callSNl (pc := 10) (N := mX6_asLong) (as := [.int (-3)]) (st := []) (host := "LeastFrames") dX0_difference_10 (by decide +kernel) hv_X6_asLong rfl rfl h (fun v8 w9 h => ?_)
      exact jj_lret (pc := 13) dX0_difference_13 rfl h
theorem en_X0_difference {K : jj_K} (R : Int64 → wo_T → Prop) (o : Nat) (ho : o = 23 ∨ o = 29) (a1 : Int32) (a2 : Int32) (a3 : Int32) (w : wo_T)
    (h : (a1 < 0 → jj_Cl K mX6_asLong [.int (-3)] w (fun v2 w3 => R v2 w3)) ∧ (¬ a1 < 0 → (0 ≤ a2 → vp_in a1 252 ∧ (vp_in a2 252 ∧ (vp_in a2 252 ∧ (vp_in a1 252 ∧ (∀ x5 : Int64, x5 = ((w.2 (o + 2) a1.toNatClampNeg) * (w.2 (o + 3) a2.toNatClampNeg)) - ((w.2 (o + 2) a2.toNatClampNeg) * (w.2 (o + 3) a1.toNatClampNeg)) → (vp_in a1 252 ∧ (vp_in a2 252 ∧ (jj_Cl K mX6_lowest [.long x5, .long ((w.2 (o + 3) a1.toNatClampNeg) * (w.2 (o + 3) a2.toNatClampNeg)), .int a3] w (fun v6 w7 => R v6 w7))))))))) ∧ (¬ 0 ≤ a2 → jj_Cl K mX6_asLong [.int (-3)] w (fun v8 w9 => R v8 w9)))) : jj_Cl K mX0_difference [.ref o, .int a1, .int a2, .int a3] w R :=
  jj_Cl_intro pn_RX0 (Nat.le_of_ble_eq_true rfl) (vc_X0_difference_0 R o ho a1 a2 a3 w h)
set_option maxRecDepth 100000 in
set_option maxHeartbeats 4000000 in
theorem vc_X0_solve_0 {K : jj_K} (R : wo_T → Prop) (o : Nat) (ho : o = 23 ∨ o = 29) (a2 : Int32) (w : wo_T)
    (h : (¬ a2 = (w.1 o 10) → jj_Cv K mX5_lay [.ref 8, .ref 1, .int a2] w (fun w3 => jj_J K mX0_solve (jj_Rv R) 23 [(0, .ref o), (1, .ref 1), (2, .int a2), (3, .int 0), (4, .int 0)] [] w3)) ∧ (a2 = (w.1 o 10) → R w)) :
    jj_J K mX0_solve (jj_Rv R) 0 [(0, .ref o), (1, .ref 1), (2, .int a2)] [] w := by
  refine jj_iload_n (pc := 0) dX0_solve_0 2 rfl ?_
  refine jj_aload_n (pc := 1) dX0_solve_1 0 rfl ?_
  refine jj_getI (pc := 2) (ci := 0) (k := 10) dX0_solve_2 (wo_lB ho) rfl (by decide) rfl lk_RX0_41 ?_
  refine jj_icmp_ne (pc := 5) (tgt := 9) dX0_solve_5 (by decide) (fun c1 => ?_) (fun c1 => ?_)
  · replace h := h.1 c1
    refine jj_aload_n (pc := 9) dX0_solve_9 0 rfl ?_
    refine jj_getR (pc := 10) (ci := 0) (k := 5) dX0_solve_10 (wo_lB ho) rfl (by decide) rfl lk_RX0_44 ?_
    refine jj_aload_n (pc := 13) dX0_solve_13 1 rfl ?_
    refine jj_iload_n (pc := 14) dX0_solve_14 2 rfl ?_
    refine jj_callVv (pc := 15) (N := mX5_lay) (as := [.ref 1, .int a2]) (st := []) dX0_solve_15 rfl rfl rfl lk_RX0_51 hv_X5_lay rfl rfl h (fun w3 h => ?_)
    refine jj_iconst (pc := 18) (v := 0) dX0_solve_18 (by decide) ?_
    refine jj_istore_n (pc := 19) (l2 := [(3, .int 0), (0, .ref o), (1, .ref 1), (2, .int a2)]) dX0_solve_19 (by decide) rfl ?_
    refine jj_iconst (pc := 20) (v := 0) dX0_solve_20 (by decide) ?_
    refine jj_istore (pc := 21) (l2 := [(4, .int 0), (3, .int 0), (0, .ref o), (1, .ref 1), (2, .int a2)]) dX0_solve_21 (by decide) rfl ?_
    exact jj_sub [2, 3, 4, 1, 0] rfl h
  · replace h := h.2 c1
    exact jj_vret (pc := 8) dX0_solve_8 rfl h
theorem en_X0_solve {K : jj_K} (R : wo_T → Prop) (o : Nat) (ho : o = 23 ∨ o = 29) (a2 : Int32) (w : wo_T)
    (h : (¬ a2 = (w.1 o 10) → jj_Cv K mX5_lay [.ref 8, .ref 1, .int a2] w (fun w3 => jj_J K mX0_solve (jj_Rv R) 23 [(0, .ref o), (1, .ref 1), (2, .int a2), (3, .int 0), (4, .int 0)] [] w3)) ∧ (a2 = (w.1 o 10) → R w)) : jj_Cv K mX0_solve [.ref o, .ref 1, .int a2] w R :=
  jj_Cv_intro pn_RX0 (Nat.le_of_ble_eq_true rfl) (vc_X0_solve_0 R o ho a2 w h)
set_option maxRecDepth 100000 in
set_option maxHeartbeats 4000000 in
theorem vc_X0_solve_23 {K : jj_K} (R : wo_T → Prop) (o : Nat) (ho : o = 23 ∨ o = 29) (a2 : Int32) (a3 : Int32) (a4 : Int32) (w : wo_T)
    (h : (10 ≤ a4 → jj_Cv K mX5_solve [.ref 8, .int a3] w (fun w3 => jj_J K mX0_solve (jj_Rv R) 83 [(0, .ref o), (1, .ref 1), (2, .int a2), (3, .int a3), (4, .int 0)] [] w3)) ∧ (¬ 10 ≤ a4 → vp_in a4 10 ∧ ((((wo_l w (o + 4) a4.toNatClampNeg 0).1 8 7) ≤ a4 → jj_J K mX0_solve (jj_Rv R) 23 [(0, .ref o), (1, .ref 1), (2, .int a2), (3, .int a3), (4, .int (a4 + 1))] [] (wo_l w (o + 4) a4.toNatClampNeg 0)) ∧ (¬ ((wo_l w (o + 4) a4.toNatClampNeg 0).1 8 7) ≤ a4 → jj_Ci K mX5_enter [.ref 8, .int a3, .int a4] (wo_l w (o + 4) a4.toNatClampNeg 0) (fun v5 w6 => (v5 = 0 → jj_J K mX0_solve (jj_Rv R) 23 [(0, .ref o), (1, .ref 1), (2, .int a2), (3, .int a3), (4, .int (a4 + 1))] [] w6) ∧ (¬ v5 = 0 → jj_J K mX0_solve (jj_Rv R) 23 [(0, .ref o), (1, .ref 1), (2, .int a2), (3, .int (a3 + 1)), (4, .int (a4 + 1))] [] w6)))))) :
    jj_J K mX0_solve (jj_Rv R) 23 [(0, .ref o), (1, .ref 1), (2, .int a2), (3, .int a3), (4, .int a4)] [] w := by
  refine jj_iload (pc := 23) dX0_solve_23 4 rfl ?_
  refine jj_bipush (pc := 25) (v := 10) dX0_solve_25 (by decide) ?_
  refine jj_icmp_ge (pc := 27) (tgt := 72) dX0_solve_27 (by decide) (fun c1 => ?_) (fun c1 => ?_)
  · replace h := h.1 c1
    refine jj_aload_n (pc := 72) dX0_solve_72 0 rfl ?_
    refine jj_getR (pc := 73) (ci := 0) (k := 5) dX0_solve_73 (wo_lB ho) rfl (by decide) rfl lk_RX0_44 ?_
    refine jj_iload_n (pc := 76) dX0_solve_76 3 rfl ?_
    refine jj_callVv (pc := 77) (N := mX5_solve) (as := [.int a3]) (st := []) dX0_solve_77 rfl rfl rfl lk_RX0_69 hv_X5_solve rfl rfl h (fun w3 h => ?_)
    refine jj_iconst (pc := 80) (v := 0) dX0_solve_80 (by decide) ?_
    refine jj_istore (pc := 81) (l2 := [(4, .int 0), (0, .ref o), (1, .ref 1), (2, .int a2), (3, .int a3)]) dX0_solve_81 (by decide) rfl ?_
    exact jj_sub [1, 2, 3, 4, 0] rfl h
  · replace h := h.2 c1
    refine jj_aload_n (pc := 30) dX0_solve_30 0 rfl ?_
    refine jj_getR (pc := 31) (ci := 0) (k := 3) dX0_solve_31 (wo_lB ho) rfl (by decide) rfl lk_RX0_22 ?_
    refine jj_iload (pc := 34) dX0_solve_34 4 rfl ?_
    refine jj_lconst (pc := 36) (v := 0) dX0_solve_36 (by decide) ?_
    refine jj_last (pc := 37) dX0_solve_37 (wo_lB4 ho) h.1 ?_
    replace h := h.2
    refine jj_iload (pc := 38) dX0_solve_38 4 rfl ?_
    refine jj_aload_n (pc := 40) dX0_solve_40 0 rfl ?_
    refine jj_getR (pc := 41) (ci := 0) (k := 5) dX0_solve_41 (wo_lB ho) rfl (by decide) rfl lk_RX0_44 ?_
    refine jj_getI (pc := 44) (ci := 5) (k := 7) dX0_solve_44 rfl rfl (by decide) rfl lk_RX0_62 ?_
    refine jj_icmp_ge (pc := 47) (tgt := 66) dX0_solve_47 (by decide) (fun c4 => ?_) (fun c4 => ?_)
    · replace h := h.1 c4
      refine jj_iinc (pc := 66) (v := a4 + 1) (l2 := [(4, .int (a4 + 1)), (0, .ref o), (1, .ref 1), (2, .int a2), (3, .int a3)]) dX0_solve_66 4 rfl rfl (by decide) rfl ?_
      refine jj_goto (pc := 69) (tgt := 23) dX0_solve_69 (by decide) ?_
      exact jj_sub [1, 2, 3, 4, 0] rfl h
    · replace h := h.2 c4
      refine jj_aload_n (pc := 50) dX0_solve_50 0 rfl ?_
      refine jj_getR (pc := 51) (ci := 0) (k := 5) dX0_solve_51 (wo_lB ho) rfl (by decide) rfl lk_RX0_44 ?_
      refine jj_iload_n (pc := 54) dX0_solve_54 3 rfl ?_
      refine jj_iload (pc := 55) dX0_solve_55 4 rfl ?_
      refine jj_callVi (pc := 57) (N := mX5_enter) (as := [.int a3, .int a4]) (st := []) dX0_solve_57 rfl rfl rfl lk_RX0_65 hv_X5_enter rfl rfl h (fun v5 w6 h => ?_)
      refine jj_if_eq (pc := 60) (tgt := 66) dX0_solve_60 (by decide) (fun c7 => ?_) (fun c7 => ?_)
      · replace h := h.1 c7
        refine jj_iinc (pc := 66) (v := a4 + 1) (l2 := [(4, .int (a4 + 1)), (0, .ref o), (1, .ref 1), (2, .int a2), (3, .int a3)]) dX0_solve_66 4 rfl rfl (by decide) rfl ?_
        refine jj_goto (pc := 69) (tgt := 23) dX0_solve_69 (by decide) ?_
        exact jj_sub [1, 2, 3, 4, 0] rfl h
      · replace h := h.2 c7
        refine jj_iinc (pc := 63) (v := a3 + 1) (l2 := [(3, .int (a3 + 1)), (0, .ref o), (1, .ref 1), (2, .int a2), (4, .int a4)]) dX0_solve_63 3 rfl rfl (by decide) rfl ?_
        refine jj_iinc (pc := 66) (v := a4 + 1) (l2 := [(4, .int (a4 + 1)), (3, .int (a3 + 1)), (0, .ref o), (1, .ref 1), (2, .int a2)]) dX0_solve_66 4 rfl rfl (by decide) rfl ?_
        refine jj_goto (pc := 69) (tgt := 23) dX0_solve_69 (by decide) ?_
        exact jj_sub [2, 3, 4, 1, 0] rfl h
set_option maxRecDepth 100000 in
set_option maxHeartbeats 4000000 in
theorem vc_X0_solve_83 {K : jj_K} (R : wo_T → Prop) (o : Nat) (ho : o = 23 ∨ o = 29) (a2 : Int32) (a3 : Int32) (a4 : Int32) (w : wo_T)
    (h : (a3 ≤ a4 → vp_in a3 8 ∧ (R (wo_i (wo_l w o 4 (w.2 21 a3.toNatClampNeg)) o 10 a2))) ∧ (¬ a3 ≤ a4 → vp_in a4 8 ∧ (vp_in a4 8 ∧ (vp_in (w.1 18 a4.toNatClampNeg) 10 ∧ (jj_J K mX0_solve (jj_Rv R) 83 [(0, .ref o), (1, .ref 1), (2, .int a2), (3, .int a3), (4, .int (a4 + 1))] [] (wo_l w (o + 4) (w.1 18 a4.toNatClampNeg).toNatClampNeg (w.2 22 a4.toNatClampNeg))))))) :
    jj_J K mX0_solve (jj_Rv R) 83 [(0, .ref o), (1, .ref 1), (2, .int a2), (3, .int a3), (4, .int a4)] [] w := by
  refine jj_iload (pc := 83) dX0_solve_83 4 rfl ?_
  refine jj_iload_n (pc := 85) dX0_solve_85 3 rfl ?_
  refine jj_icmp_ge (pc := 86) (tgt := 120) dX0_solve_86 (by decide) (fun c1 => ?_) (fun c1 => ?_)
  · replace h := h.1 c1
    refine jj_aload_n (pc := 120) dX0_solve_120 0 rfl ?_
    refine jj_aload_n (pc := 121) dX0_solve_121 0 rfl ?_
    refine jj_getR (pc := 122) (ci := 0) (k := 5) dX0_solve_122 (wo_lB ho) rfl (by decide) rfl lk_RX0_44 ?_
    refine jj_getR (pc := 125) (ci := 5) (k := 4) dX0_solve_125 rfl rfl (by decide) rfl lk_RX0_90 ?_
    refine jj_iload_n (pc := 128) dX0_solve_128 3 rfl ?_
    refine jj_lald (pc := 129) dX0_solve_129 rfl h.1 ?_
    replace h := h.2
    refine jj_putL (pc := 130) (ci := 0) (k := 4) (ty := .long) dX0_solve_130 (wo_lB ho) rfl (by decide) rfl lk_RX0_25 rfl (by decide) rfl rfl ?_
    refine jj_aload_n (pc := 133) dX0_solve_133 0 rfl ?_
    refine jj_iload_n (pc := 134) dX0_solve_134 2 rfl ?_
    refine jj_putI (pc := 135) (ci := 0) (k := 10) (ty := .int) dX0_solve_135 (wo_lB ho) rfl (by decide) rfl lk_RX0_41 rfl (by decide) rfl rfl ?_
    exact jj_vret (pc := 138) dX0_solve_138 rfl h
  · replace h := h.2 c1
    refine jj_aload_n (pc := 89) dX0_solve_89 0 rfl ?_
    refine jj_getR (pc := 90) (ci := 0) (k := 3) dX0_solve_90 (wo_lB ho) rfl (by decide) rfl lk_RX0_22 ?_
    refine jj_aload_n (pc := 93) dX0_solve_93 0 rfl ?_
    refine jj_getR (pc := 94) (ci := 0) (k := 5) dX0_solve_94 (wo_lB ho) rfl (by decide) rfl lk_RX0_44 ?_
    refine jj_getR (pc := 97) (ci := 5) (k := 1) dX0_solve_97 rfl rfl (by decide) rfl lk_RX0_76 ?_
    refine jj_iload (pc := 100) dX0_solve_100 4 rfl ?_
    refine jj_iald (pc := 102) dX0_solve_102 rfl h.1 ?_
    replace h := h.2
    refine jj_aload_n (pc := 103) dX0_solve_103 0 rfl ?_
    refine jj_getR (pc := 104) (ci := 0) (k := 5) dX0_solve_104 (wo_lB ho) rfl (by decide) rfl lk_RX0_44 ?_
    refine jj_getR (pc := 107) (ci := 5) (k := 5) dX0_solve_107 rfl rfl (by decide) rfl lk_RX0_73 ?_
    refine jj_iload (pc := 110) dX0_solve_110 4 rfl ?_
    refine jj_lald (pc := 112) dX0_solve_112 rfl h.1 ?_
    replace h := h.2
    refine jj_last (pc := 113) dX0_solve_113 (wo_lB4 ho) h.1 ?_
    replace h := h.2
    refine jj_iinc (pc := 114) (v := a4 + 1) (l2 := [(4, .int (a4 + 1)), (0, .ref o), (1, .ref 1), (2, .int a2), (3, .int a3)]) dX0_solve_114 4 rfl rfl (by decide) rfl ?_
    refine jj_goto (pc := 117) (tgt := 83) dX0_solve_117 (by decide) ?_
    exact jj_sub [1, 2, 3, 4, 0] rfl h
