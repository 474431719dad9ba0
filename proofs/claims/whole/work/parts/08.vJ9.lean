set_option maxRecDepth 100000 in
set_option maxHeartbeats 4000000 in
theorem vc_J9_abs_067f4_0 {K : jj_K} (R : Int64 → wo_T → Prop)  (a0 : Int64) (w : wo_T)
    (h : (0 ≤ a0 → R a0 w) ∧ (¬ 0 ≤ a0 → R (-a0) w)) :
    jj_J K mJ9_abs_067f4 (jj_Rl R) 0 [(0, .long a0)] [] w := by
  refine jj_lload_n (pc := 0) dJ9_abs_067f4_0 0 rfl ?_
  refine jj_lconst (pc := 1) (v := 0) dJ9_abs_067f4_1 (by decide) ?_
  refine jj_lcmp_ge (pc := 2) (tgt := 11) dJ9_abs_067f4_2 dJ9_abs_067f4_3 (by decide) (fun c1 => ?_) (fun c1 => ?_)
  · replace h := h.1 c1
    refine jj_lload_n (pc := 11) dJ9_abs_067f4_11 0 rfl ?_
    exact jj_lret (pc := 12) dJ9_abs_067f4_12 rfl h
  · replace h := h.2 c1
    refine jj_lload_n (pc := 6) dJ9_abs_067f4_6 0 rfl ?_
    refine jj_lneg (pc := 7) dJ9_abs_067f4_7 ?_
    refine jj_goto (pc := 8) (tgt := 12) dJ9_abs_067f4_8 (by decide) ?_
    exact jj_lret (pc := 12) dJ9_abs_067f4_12 rfl h
set_option maxRecDepth 100000 in
set_option maxHeartbeats 4000000 in
theorem vc_J9_min_7cf53_0 {K : jj_K} (R : Int32 → wo_T → Prop)  (a0 : Int32) (a1 : Int32) (w : wo_T)
    (h : (a1 < a0 → R a1 w) ∧ (¬ a1 < a0 → R a0 w)) :
    jj_J K mJ9_min_7cf53 (jj_Ri R) 0 [(0, .int a0), (1, .int a1)] [] w := by
  refine jj_iload_n (pc := 0) dJ9_min_7cf53_0 0 rfl ?_
  refine jj_iload_n (pc := 1) dJ9_min_7cf53_1 1 rfl ?_
  refine jj_icmp_gt (pc := 2) (tgt := 9) dJ9_min_7cf53_2 (by decide) (fun c1 => ?_) (fun c1 => ?_)
  · replace h := h.1 c1
    refine jj_iload_n (pc := 9) dJ9_min_7cf53_9 1 rfl ?_
    exact jj_iret (pc := 10) dJ9_min_7cf53_10 rfl h
  · replace h := h.2 c1
    refine jj_iload_n (pc := 5) dJ9_min_7cf53_5 0 rfl ?_
    refine jj_goto (pc := 6) (tgt := 10) dJ9_min_7cf53_6 (by decide) ?_
    exact jj_iret (pc := 10) dJ9_min_7cf53_10 rfl h
