set_option maxRecDepth 100000 in
set_option maxHeartbeats 4000000 in
theorem vc_J6_bitCount_0f7a4_0 {K : jj_K} (R : Int32 → wo_T → Prop)  (a0 : Int32) (w : wo_T)
    (h : ∀ x1 : Int32, x1 = a0 - (((a0.toUInt32 >>> ((1 : Int32).toUInt32 &&& Int32.toUInt32 31)).toInt32) &&& 1431655765) → ∀ x2 : Int32, x2 = (x1 &&& 858993459) + (((x1.toUInt32 >>> ((2 : Int32).toUInt32 &&& Int32.toUInt32 31)).toInt32) &&& 858993459) → ∀ x3 : Int32, x3 = (x2 + ((x2.toUInt32 >>> ((4 : Int32).toUInt32 &&& Int32.toUInt32 31)).toInt32)) &&& 252645135 → ∀ x4 : Int32, x4 = x3 + ((x3.toUInt32 >>> ((8 : Int32).toUInt32 &&& Int32.toUInt32 31)).toInt32) → ∀ x5 : Int32, x5 = x4 + ((x4.toUInt32 >>> ((16 : Int32).toUInt32 &&& Int32.toUInt32 31)).toInt32) → (R (x5 &&& 63) w)) :
    jj_J K mJ6_bitCount_0f7a4 (jj_Ri R) 0 [(0, .int a0)] [] w := by
  refine jj_iload_n (pc := 0) dJ6_bitCount_0f7a4_0 0 rfl ?_
  refine jj_iload_n (pc := 1) dJ6_bitCount_0f7a4_1 0 rfl ?_
  refine jj_iconst (pc := 2) (v := 1) dJ6_bitCount_0f7a4_2 (by decide) ?_
  refine jj_iushr (pc := 3) dJ6_bitCount_0f7a4_3 ?_
  refine jj_ldcw (pc := 4) (v := 1431655765) dJ6_bitCount_0f7a4_4 lk_RJ6_265 ?_
  refine jj_iand (pc := 7) dJ6_bitCount_0f7a4_7 ?_
  refine jj_isub (pc := 8) dJ6_bitCount_0f7a4_8 ?_
  refine jj_nmi (fun x1 ex1 => ?_)
  replace h := h x1 ex1
  refine jj_istore_n (pc := 9) (l2 := [(0, .int x1)]) dJ6_bitCount_0f7a4_9 (by decide) rfl ?_
  refine jj_iload_n (pc := 10) dJ6_bitCount_0f7a4_10 0 rfl ?_
  refine jj_ldcw (pc := 11) (v := 858993459) dJ6_bitCount_0f7a4_11 lk_RJ6_266 ?_
  refine jj_iand (pc := 14) dJ6_bitCount_0f7a4_14 ?_
  refine jj_iload_n (pc := 15) dJ6_bitCount_0f7a4_15 0 rfl ?_
  refine jj_iconst (pc := 16) (v := 2) dJ6_bitCount_0f7a4_16 (by decide) ?_
  refine jj_iushr (pc := 17) dJ6_bitCount_0f7a4_17 ?_
  refine jj_ldcw (pc := 18) (v := 858993459) dJ6_bitCount_0f7a4_18 lk_RJ6_266 ?_
  refine jj_iand (pc := 21) dJ6_bitCount_0f7a4_21 ?_
  refine jj_iadd (pc := 22) dJ6_bitCount_0f7a4_22 ?_
  refine jj_nmi (fun x2 ex2 => ?_)
  replace h := h x2 ex2
  refine jj_istore_n (pc := 23) (l2 := [(0, .int x2)]) dJ6_bitCount_0f7a4_23 (by decide) rfl ?_
  refine jj_iload_n (pc := 24) dJ6_bitCount_0f7a4_24 0 rfl ?_
  refine jj_iload_n (pc := 25) dJ6_bitCount_0f7a4_25 0 rfl ?_
  refine jj_iconst (pc := 26) (v := 4) dJ6_bitCount_0f7a4_26 (by decide) ?_
  refine jj_iushr (pc := 27) dJ6_bitCount_0f7a4_27 ?_
  refine jj_iadd (pc := 28) dJ6_bitCount_0f7a4_28 ?_
  refine jj_ldcw (pc := 29) (v := 252645135) dJ6_bitCount_0f7a4_29 lk_RJ6_267 ?_
  refine jj_iand (pc := 32) dJ6_bitCount_0f7a4_32 ?_
  refine jj_nmi (fun x3 ex3 => ?_)
  replace h := h x3 ex3
  refine jj_istore_n (pc := 33) (l2 := [(0, .int x3)]) dJ6_bitCount_0f7a4_33 (by decide) rfl ?_
  refine jj_iload_n (pc := 34) dJ6_bitCount_0f7a4_34 0 rfl ?_
  refine jj_iload_n (pc := 35) dJ6_bitCount_0f7a4_35 0 rfl ?_
  refine jj_bipush (pc := 36) (v := 8) dJ6_bitCount_0f7a4_36 (by decide) ?_
  refine jj_iushr (pc := 38) dJ6_bitCount_0f7a4_38 ?_
  refine jj_iadd (pc := 39) dJ6_bitCount_0f7a4_39 ?_
  refine jj_nmi (fun x4 ex4 => ?_)
  replace h := h x4 ex4
  refine jj_istore_n (pc := 40) (l2 := [(0, .int x4)]) dJ6_bitCount_0f7a4_40 (by decide) rfl ?_
  refine jj_iload_n (pc := 41) dJ6_bitCount_0f7a4_41 0 rfl ?_
  refine jj_iload_n (pc := 42) dJ6_bitCount_0f7a4_42 0 rfl ?_
  refine jj_bipush (pc := 43) (v := 16) dJ6_bitCount_0f7a4_43 (by decide) ?_
  refine jj_iushr (pc := 45) dJ6_bitCount_0f7a4_45 ?_
  refine jj_iadd (pc := 46) dJ6_bitCount_0f7a4_46 ?_
  refine jj_nmi (fun x5 ex5 => ?_)
  replace h := h x5 ex5
  refine jj_istore_n (pc := 47) (l2 := [(0, .int x5)]) dJ6_bitCount_0f7a4_47 (by decide) rfl ?_
  refine jj_iload_n (pc := 48) dJ6_bitCount_0f7a4_48 0 rfl ?_
  refine jj_bipush (pc := 49) (v := 63) dJ6_bitCount_0f7a4_49 (by decide) ?_
  refine jj_iand (pc := 51) dJ6_bitCount_0f7a4_51 ?_
  exact jj_iret (pc := 52) dJ6_bitCount_0f7a4_52 rfl h
theorem en_J6_bitCount_0f7a4 {K : jj_K} (R : Int32 → wo_T → Prop)  (a0 : Int32) (w : wo_T)
    (h : ∀ x1 : Int32, x1 = a0 - (((a0.toUInt32 >>> ((1 : Int32).toUInt32 &&& Int32.toUInt32 31)).toInt32) &&& 1431655765) → ∀ x2 : Int32, x2 = (x1 &&& 858993459) + (((x1.toUInt32 >>> ((2 : Int32).toUInt32 &&& Int32.toUInt32 31)).toInt32) &&& 858993459) → ∀ x3 : Int32, x3 = (x2 + ((x2.toUInt32 >>> ((4 : Int32).toUInt32 &&& Int32.toUInt32 31)).toInt32)) &&& 252645135 → ∀ x4 : Int32, x4 = x3 + ((x3.toUInt32 >>> ((8 : Int32).toUInt32 &&& Int32.toUInt32 31)).toInt32) → ∀ x5 : Int32, x5 = x4 + ((x4.toUInt32 >>> ((16 : Int32).toUInt32 &&& Int32.toUInt32 31)).toInt32) → (R (x5 &&& 63) w)) : jj_Ci K mJ6_bitCount_0f7a4 [.int a0] w R :=
  jj_Ci_intro pn_RJ6 (Nat.le_of_ble_eq_true rfl) (vc_J6_bitCount_0f7a4_0 R a0 w h)
