/-! ===== the law's loop ===== -/
section
variable {K : jj_K} {b L i : Nat} {xs : Nat → Int32} {w : wo_T}
theorem ll_head (hL : L ≤ 3072) (hi : i ≤ L) (k : i + 6 ≤ L → ll_J K b L xs 27 [(3, .int (nI i)), (0, .ref 200), (1, .ref 0), (2, .ref 58)] [] w) : ll_J K b L xs 18 [(3, .int (nI i)), (0, .ref 200), (1, .ref 0), (2, .ref 58)] [] w := by
  refine ll_iload (pc := 18) dL_law_18 0 rfl ?_
  refine ll_aload (pc := 19) dL_law_19 1 rfl ?_
  refine ll_slen (pc := 20) dL_law_20 ?_
  refine ll_bipush (pc := 21) (v := 6) dL_law_21 (by decide) ?_
  refine ll_isub (pc := 23) dL_law_23 ?_
  have e : nI L - 6 = nn_i ((L : Int) - 6) := by rw [nn_nI]; exact nn_i_sub _ 6
  rw [e]
  have hlt : nn_i ((L : Int) - 6) < nI i ↔ (L : Int) - 6 < i := by rw [nn_nI]; exact nn_i_lt ⟨by omega, by omega⟩ ⟨by omega, by omega⟩
  refine ll_icmpgt (pc := 24) (tgt := 1141) dL_law_24 (by decide) (fun _ => ?_) (fun q => ?_)
  · refine ll_iconst (pc := 1141) (v := 1) dL_law_1141 (by decide) ?_
    exact ll_ret (pc := 1142) dL_law_1142
  · rw [hlt] at q
    exact k (by omega)
set_option maxRecDepth 100000 in
theorem ll_body (hL : L ≤ 3072) (h : iv w) (hi : i + 6 ≤ L) (kn : ∀ w1, iv w1 → ll_J K b L xs 1135 [(3, .int (nI i)), (0, .ref 200), (1, .ref 0), (2, .ref 58)] [] w1) : ll_J K b L xs 27 [(3, .int (nI i)), (0, .ref 200), (1, .ref 0), (2, .ref 58)] [] w := by
  refine ll_aload (pc := 27) dL_law_27 1 rfl ?_
  refine ll_iload (pc := 28) dL_law_28 0 rfl ?_
  refine ll_sld (pc := 29) (by omega) hL dL_law_29 ?_
  refine ll_bipush (pc := 30) (v := 63) dL_law_30 (by decide) ?_
  refine ll_iand (pc := 32) dL_law_32 ?_
  obtain ⟨j, hj, ej⟩ := pk_andE (xs i) (m := 63) 6 (by decide)
  rw [ej]
  match j, hj with
  | 0, _ => exact ll_swIn (pc := 33) (off := 151) (tgt := 184) dL_law_33 (by decide +kernel) (by decide +kernel) (by decide +kernel) (by decide) (ll_c0 h hi hL kn)
  | 1, _ => exact ll_swIn (pc := 33) (off := 184) (tgt := 217) dL_law_33 (by decide +kernel) (by decide +kernel) (by decide +kernel) (by decide) (ll_c1 h hi hL kn)
  | 2, _ => exact ll_swIn (pc := 33) (off := 197) (tgt := 230) dL_law_33 (by decide +kernel) (by decide +kernel) (by decide +kernel) (by decide) (ll_c2 h hi hL kn)
  | 3, _ => exact ll_swIn (pc := 33) (off := 230) (tgt := 263) dL_law_33 (by decide +kernel) (by decide +kernel) (by decide +kernel) (by decide) (ll_c3 h hi hL kn)
  | 4, _ => exact ll_swIn (pc := 33) (off := 273) (tgt := 306) dL_law_33 (by decide +kernel) (by decide +kernel) (by decide +kernel) (by decide) (ll_c4 h hi hL kn)
  | 5, _ => exact ll_swIn (pc := 33) (off := 296) (tgt := 329) dL_law_33 (by decide +kernel) (by decide +kernel) (by decide +kernel) (by decide) (ll_c5 h hi hL kn)
  | 6, _ => exact ll_swIn (pc := 33) (off := 309) (tgt := 342) dL_law_33 (by decide +kernel) (by decide +kernel) (by decide +kernel) (by decide) (ll_c6 h hi hL kn)
  | 7, _ => exact ll_swIn (pc := 33) (off := 332) (tgt := 365) dL_law_33 (by decide +kernel) (by decide +kernel) (by decide +kernel) (by decide) (ll_c7 h hi hL kn)
  | 8, _ => exact ll_swIn (pc := 33) (off := 365) (tgt := 398) dL_law_33 (by decide +kernel) (by decide +kernel) (by decide +kernel) (by decide) (ll_c8 h hi hL kn)
  | 9, _ => exact ll_swIn (pc := 33) (off := 398) (tgt := 431) dL_law_33 (by decide +kernel) (by decide +kernel) (by decide +kernel) (by decide) (ll_c9 h hi hL kn)
  | 10, _ => exact ll_swIn (pc := 33) (off := 422) (tgt := 455) dL_law_33 (by decide +kernel) (by decide +kernel) (by decide +kernel) (by decide) (ll_c10 h hi hL kn)
  | 11, _ => exact ll_swIn (pc := 33) (off := 435) (tgt := 468) dL_law_33 (by decide +kernel) (by decide +kernel) (by decide +kernel) (by decide) (ll_c11 h hi hL kn)
  | 12, _ => exact ll_swIn (pc := 33) (off := 448) (tgt := 481) dL_law_33 (by decide +kernel) (by decide +kernel) (by decide +kernel) (by decide) (ll_c12 h hi hL kn)
  | 13, _ => exact ll_swIn (pc := 33) (off := 482) (tgt := 515) dL_law_33 (by decide +kernel) (by decide +kernel) (by decide +kernel) (by decide) (ll_c13 h hi hL kn)
  | 14, _ => exact ll_swIn (pc := 33) (off := 516) (tgt := 549) dL_law_33 (by decide +kernel) (by decide +kernel) (by decide +kernel) (by decide) (ll_c14 h hi hL kn)
  | 15, _ => exact ll_swIn (pc := 33) (off := 539) (tgt := 572) dL_law_33 (by decide +kernel) (by decide +kernel) (by decide +kernel) (by decide) (ll_c15 h hi hL kn)
  | 16, _ => exact ll_swIn (pc := 33) (off := 552) (tgt := 585) dL_law_33 (by decide +kernel) (by decide +kernel) (by decide +kernel) (by decide) (ll_c16 h hi hL kn)
  | 17, _ => exact ll_swIn (pc := 33) (off := 565) (tgt := 598) dL_law_33 (by decide +kernel) (by decide +kernel) (by decide +kernel) (by decide) (ll_c17 h hi hL kn)
  | 18, _ => exact ll_swIn (pc := 33) (off := 599) (tgt := 632) dL_law_33 (by decide +kernel) (by decide +kernel) (by decide +kernel) (by decide) (ll_c18 h hi hL kn)
  | 19, _ => exact ll_swIn (pc := 33) (off := 612) (tgt := 645) dL_law_33 (by decide +kernel) (by decide +kernel) (by decide +kernel) (by decide) (ll_c19 h hi hL kn)
  | 20, _ => exact ll_swIn (pc := 33) (off := 625) (tgt := 658) dL_law_33 (by decide +kernel) (by decide +kernel) (by decide +kernel) (by decide) (ll_c20 h hi hL kn)
  | 21, _ => exact ll_swIn (pc := 33) (off := 679) (tgt := 712) dL_law_33 (by decide +kernel) (by decide +kernel) (by decide +kernel) (by decide) (ll_c21 h hi hL kn)
  | 22, _ => exact ll_swIn (pc := 33) (off := 722) (tgt := 755) dL_law_33 (by decide +kernel) (by decide +kernel) (by decide +kernel) (by decide) (ll_c22 h hi hL kn)
  | 23, _ => exact ll_swIn (pc := 33) (off := 756) (tgt := 789) dL_law_33 (by decide +kernel) (by decide +kernel) (by decide +kernel) (by decide) (ll_c23 h hi hL kn)
  | 24, _ => exact ll_swIn (pc := 33) (off := 780) (tgt := 813) dL_law_33 (by decide +kernel) (by decide +kernel) (by decide +kernel) (by decide) (ll_c24 h hi hL kn)
  | 25, _ => exact ll_swIn (pc := 33) (off := 793) (tgt := 826) dL_law_33 (by decide +kernel) (by decide +kernel) (by decide +kernel) (by decide) (ll_c25 h hi hL kn)
  | 26, _ => exact ll_swIn (pc := 33) (off := 826) (tgt := 859) dL_law_33 (by decide +kernel) (by decide +kernel) (by decide +kernel) (by decide) (ll_c26 h hi hL kn)
  | 27, _ => exact ll_swIn (pc := 33) (off := 869) (tgt := 902) dL_law_33 (by decide +kernel) (by decide +kernel) (by decide +kernel) (by decide) (ll_c27 h hi hL kn)
  | 28, _ => exact ll_swIn (pc := 33) (off := 892) (tgt := 925) dL_law_33 (by decide +kernel) (by decide +kernel) (by decide +kernel) (by decide) (ll_c28 h hi hL kn)
  | 29, _ => exact ll_swIn (pc := 33) (off := 945) (tgt := 978) dL_law_33 (by decide +kernel) (by decide +kernel) (by decide +kernel) (by decide) (ll_c29 h hi hL kn)
  | 30, _ => exact ll_swIn (pc := 33) (off := 979) (tgt := 1012) dL_law_33 (by decide +kernel) (by decide +kernel) (by decide +kernel) (by decide) (ll_c30 h hi hL kn)
  | 31, _ => exact ll_swIn (pc := 33) (off := 1042) (tgt := 1075) dL_law_33 (by decide +kernel) (by decide +kernel) (by decide +kernel) (by decide) (ll_c31 h hi hL kn)
  | 32, _ => exact ll_swIn (pc := 33) (off := 1065) (tgt := 1098) dL_law_33 (by decide +kernel) (by decide +kernel) (by decide +kernel) (by decide) (ll_c32 h hi hL kn)
  | 33, _ => exact ll_swIn (pc := 33) (off := 1088) (tgt := 1121) dL_law_33 (by decide +kernel) (by decide +kernel) (by decide +kernel) (by decide) (ll_c33 h hi hL kn)
  | j + 34, hj =>
    refine ll_swOut (pc := 33) (tgt := 1135) dL_law_33 (Or.inr ?_) (by decide) (kn w h)
    rw [nn_nI_int (by omega)]
    omega
theorem ll_loop (hL : L ≤ 3072) : ∀ d i w, i ≤ L → L - i ≤ d → iv w → ll_J K b L xs 18 [(3, .int (nI i)), (0, .ref 200), (1, .ref 0), (2, .ref 58)] [] w := by
  intro d
  induction d with
  | zero =>
    intro i w hi hd h
    exact ll_head hL hi (fun q => by omega)
  | succ d ih =>
    intro i w hi hd h
    refine ll_head hL hi (fun q => ll_body hL h q (fun w1 h1 => ?_))
    refine ll_iinc (pc := 1135) (v := nI (i + 6)) (l2 := [(3, .int (nI (i + 6))), (0, .ref 200), (1, .ref 0), (2, .ref 58)]) dL_law_1135 0 rfl (nI_add i 6) (by decide) rfl ?_
    refine ll_goto (pc := 1138) (tgt := 18) dL_law_1138 (by decide) ?_
    exact ih (i + 6) w1 (by omega) (by omega) h1
end
