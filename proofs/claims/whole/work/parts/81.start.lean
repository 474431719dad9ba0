/-! ===== the start ===== -/
theorem lm_after {Z : kn_Z} {Rp : va_W → Prop} {p : Program} {l : Launch} {e : Env} {R : Room} {s : State} {m : MethodId} {args : Array Value} {below : List Frame} {meth : Method} {c : Code} {H : Heap} {locs : List Loc} {cells slots mc ms pc : Nat} {ls : Array Slot} {st0 st : List Value} {a : Array Value} {Q : State → Prop} (hS : va_S (kn_A Z) s.heap H locs) (hr : va_Run p l e R s m args below meth c H locs cells slots mc ms (F0 m pc ls st0) st (kn_Q Z Rp a) (kn_A Z))
    (k : ∀ w1 H1 locs1, Rp w1 → va_P Z.1 vwCl w1 H1 → va_D (kn_A Z) w1 → va_S (kn_A Z) s.heap H1 locs1 → W p l e R s m args below meth c H1 locs1 (cells + mc) (slots + ms) Q (F0 m (pc + 3) ls st)) : W p l e R s m args below meth c H locs cells slots Q (F0 m pc ls st0) := by
  intro T hT Y
  obtain ⟨v, st₀, t, T', L, h0, X', hL, e1, e2, ⟨⟨w1, hv, hp, hb, hD⟩, hz, hk⟩, st'⟩ := hr T hT Y
  have hv' : v = none := by cases hv; rfl
  rw [h0] at hz hk
  obtain ⟨t2, a1, b1⟩ := k w1 T'.heap (locs ++ L) hp (by rw [e1]; exact hb) hD
    ⟨Nat.le_trans hS.1 (by rw [e1]; exact hz), fun q h1 h2 => by rw [e1, hk q (Nat.lt_of_lt_of_le h1 hS.1) h2]; exact hS.2.1 q h1 h2, fun q hq => by
      rcases List.mem_append.mp hq with h | h
      · exact hS.2.2 q h
      · exact hL q h⟩ T' rfl X'
  refine ⟨t2, st' t2 ?_, b1⟩
  rw [hv']
  exact a1
theorem ls_Z {p : Program} {s : State} {m : MethodId} {meth : Method} {c : Code} {b L : Nat} {xs : Nat → Int32} (l : Launch) (C0 : lw_At p s m meth c b L xs) : ∃ (D : va_G) (ca : Nat → ClassId), kn_S (D, ca, l, s.heap.size) s := by
  obtain ⟨hx, hb, hr, hml, hown, hts0, hX, hbl, hlocks, hgv⟩ := C0
  have hts : ∀ w ∈ jj_tb, w.before #[Value.ref b] s = true := fun w h => hts0 w (List.mem_filter.mp h).1
  obtain ⟨c0, i0, k0⟩ := u_known (C := RX0) (T := TX0) (N := 11) (n := 11) hts (jj_inOk 0 _ rfl) (hts _ lkt_0)
  obtain ⟨c1, i1, k1⟩ := u_known (C := RX1) (T := TX1) (N := 5) (n := 5) hts (jj_inOk 1 _ rfl) (hts _ lkt_1)
  obtain ⟨c2, i2, k2⟩ := u_known (C := RX2) (T := TX2) (N := 3) (n := 3) hts (jj_inOk 2 _ rfl) (hts _ lkt_2)
  obtain ⟨c3, i3, k3⟩ := u_known (C := RX3) (T := TX3) (N := 7) (n := 7) hts (jj_inOk 3 _ rfl) (hts _ lkt_3)
  obtain ⟨c4, i4, k4⟩ := u_known (C := RX4) (T := TX4) (N := 4) (n := 4) hts (jj_inOk 4 _ rfl) (hts _ lkt_4)
  obtain ⟨c5, i5, k5⟩ := u_known (C := RX5) (T := TX5) (N := 8) (n := 8) hts (jj_inOk 5 _ rfl) (hts _ lkt_5)
  obtain ⟨c6, i6, k6⟩ := u_known (C := RX6) (T := TX6) (N := 9) (n := 9) hts (jj_inOk 6 _ rfl) (hts _ lkt_6)
  obtain ⟨c7, i7, k7⟩ := u_known (C := RX7) (T := TX7) (N := 22) (n := 22) hts (jj_inOk 7 _ rfl) (hts _ lkt_7)
  obtain ⟨caI, kaI, coI, fI, gI, hI⟩ := Cond.arrayClass_spec (hts _ lk_arrI)
  obtain ⟨caJ, kaJ, coJ, fJ, gJ, hJ⟩ := Cond.arrayClass_spec (hts _ lk_arrJ)
  obtain ⟨caZ, kaZ, coZ, fZ, gZ, hZ⟩ := Cond.arrayClass_spec (hts _ lk_arrZ)
  have hS1 := hts0 (Cond.arrayOver (.object "LeastFrames$Sheet")) (List.mem_of_getElem? (i := 242) (by decide +kernel))
  have hA1 := hts0 (Cond.arrayOver (.array .long)) (List.mem_of_getElem? (i := 79) (by decide +kernel))
  obtain ⟨coS, caS, kaS, fS1, -, fS3, fS4, fS5⟩ := Cond.arrayOver_spec hS1
  obtain ⟨coA, caA, kaA, fA1, -, fA3, fA4, fA5⟩ := Jvm.Stand.arrayOver_specB hA1
  refine ⟨(fun k => match k with | 0 => c0 | 1 => c1 | 2 => c2 | 3 => c3 | 4 => c4 | 5 => c5 | 6 => c6 | _ => c7, fun k => match k with | 0 => i0 | 1 => i1 | 2 => i2 | 3 => i3 | 4 => i4 | 5 => i5 | 6 => i6 | _ => i7), fun k => match k with | 0 => caI | 1 => caJ | 2 => caZ | 3 => caS | _ => caA, ⟨fun k q hq => ?_, fun k q hq => ?_⟩, ⟨fun q hq => ?_, va_AO.of hS1, va_AOA.of hA1⟩, Nat.le_refl _⟩
  · match k, hq with
    | 0, hq => cases hq; exact k0
    | 1, hq => cases hq; exact k1
    | 2, hq => cases hq; exact k2
    | 3, hq => cases hq; exact k3
    | 4, hq => cases hq; exact k4
    | 5, hq => cases hq; exact k5
    | 6, hq => cases hq; exact k6
    | 7, hq => cases hq; exact k7
    | k + 8, hq => simp at hq
  · match k, hq with
    | 0, hq => cases hq; exact ⟨fun n z => ⟨fun k h => (by cases h), kaI, gI, coI, hI⟩, fI⟩
    | 1, hq => cases hq; exact ⟨fun n z => ⟨fun k h => (by cases h), kaJ, gJ, coJ, hJ⟩, fJ⟩
    | 2, hq => cases hq; exact ⟨fun n z => ⟨fun k h => (by cases h), kaZ, gZ, coZ, hZ⟩, fZ⟩
    | 3, hq => cases hq; exact ⟨fun n z => ⟨fun k h => (by cases h), kaS, fS3, coS, fS4⟩, kaS, coS, fS3, fS4, fS1, fS5⟩
    | 4, hq => cases hq; exact ⟨fun n z => ⟨fun k h => (by cases h), kaA, fA3, coA, fA4⟩, fA5⟩
    | k + 5, hq => simp [kn_tys] at hq
  · simp only [kn_nM, List.mem_cons, List.not_mem_nil, or_false] at hq
    rcases hq with rfl | rfl | rfl | rfl | rfl
    · exact va_Nw.of rfl (hts0 _ (List.mem_of_getElem? (i := 74) (by decide +kernel)))
    · exact va_Nw.of rfl (hts0 _ (List.mem_of_getElem? (i := 113) (by decide +kernel)))
    · exact va_Nw.of rfl (hts0 _ (List.mem_of_getElem? (i := 199) (by decide +kernel)))
    · exact va_Nw.of rfl (hts0 _ (List.mem_of_getElem? (i := 216) (by decide +kernel)))
    · exact va_Nw.of rfl (hts0 _ (List.mem_of_getElem? (i := 244) (by decide +kernel)))
theorem ls_nest {p : Program} {s : State} {m : MethodId} {meth : Method} {c : Code} {b L : Nat} {xs : Nat → Int32} (C0 : lw_At p s m meth c b L xs) : wo_nest s := by
  have hts0 := C0.2.2.2.2.2.1
  refine ⟨fun q hq => ?_, fun q hq => ?_⟩
  · simp only [wo_nF, List.mem_cons, List.not_mem_nil, or_false] at hq
    rcases hq with rfl | rfl | rfl
    · exact va_Nw.of rfl (hts0 _ (List.mem_of_getElem? (i := 316) (by decide +kernel)))
    · exact va_Nw.of rfl (hts0 _ (List.mem_of_getElem? (i := 318) (by decide +kernel)))
    · exact va_Nw.of rfl (hts0 _ (List.mem_of_getElem? (i := 586) (by decide +kernel)))
  · simp only [wo_nM, List.mem_cons, List.not_mem_nil, or_false] at hq
    rcases hq with rfl | rfl
    · exact va_Nw.of rfl (hts0 _ (List.mem_of_getElem? (i := 454) (by decide +kernel)))
    · exact va_Nw.of rfl (hts0 _ (List.mem_of_getElem? (i := 455) (by decide +kernel)))
theorem ls_LESSER {p : Program} {s : State} {m : MethodId} {meth : Method} {c : Code} {b L : Nat} {xs : Nat → Int32} (C0 : lw_At p s m meth c b L xs) : ∃ t : Nat, t < s.heap.size ∧ ∀ A : Nat → Prop, (∀ a : Nat, a < s.heap.size → ¬ A a) → va_Z "LeastFrames" "LESSER" "[I" (.ref t) A s s.heap ∧ va_T .int t 10 (fun j => .int (wo_les j)) A s s.heap := by
  have hts0 := C0.2.2.2.2.2.1
  have hs := flat_of_before _ C0.2.2.2.2.2.2.2.2.2
  have harr : (Cond.arrayOf (.static "LeastFrames" "LESSER" "[I") .int).before #[Value.ref b] s = true := hs _ (by decide +kernel)
  have hlen : (Term.length (.static "LeastFrames" "LESSER" "[I")).eval #[Value.ref b] s none [] s = some (.int (Int32.ofNat 10)) := va_eqt (hs _ (by decide +kernel))
  have hel : ∀ j : Nat, j < 10 → (Term.elem (.static "LeastFrames" "LESSER" "[I") (.int (Int32.ofNat j))).eval #[Value.ref b] s none [] s = some (.int (wo_les j)) := fun j hj => match j, hj with
    | 0, _ => va_eqt (hs _ (by decide +kernel))
    | 1, _ => va_eqt (hs _ (by decide +kernel))
    | 2, _ => va_eqt (hs _ (by decide +kernel))
    | 3, _ => va_eqt (hs _ (by decide +kernel))
    | 4, _ => va_eqt (hs _ (by decide +kernel))
    | 5, _ => va_eqt (hs _ (by decide +kernel))
    | 6, _ => va_eqt (hs _ (by decide +kernel))
    | 7, _ => va_eqt (hs _ (by decide +kernel))
    | 8, _ => va_eqt (hs _ (by decide +kernel))
    | 9, _ => va_eqt (hs _ (by decide +kernel))
    | j + 10, h => absurd h (by omega)
  obtain ⟨t, ht, hT0⟩ := va_Tof (A := fun a => s.heap.size ≤ a) (N := 10) (f := fun j => .int (wo_les j)) (by decide) harr hlen hel (fun a ha => Nat.not_le.mpr ha)
  refine ⟨t, Nat.not_le.mp (va_T.out hT0), fun A hA => ?_⟩
  obtain ⟨t2, ht2, hT⟩ := va_Tof (A := A) (N := 10) (f := fun j => .int (wo_les j)) (by decide) harr hlen hel hA
  have e : t2 = t := by
    have := ht2.symm.trans ht
    simpa using this
  subst e
  exact ⟨va_Zref (hts0 (Cond.laysStatic "LeastFrames" "LESSER" "[I") (List.mem_of_getElem? (i := 319) (by decide +kernel))) (hts0 (Cond.initialized "LeastFrames") (List.mem_of_getElem? (i := 53) (by decide +kernel))) ht hA, hT⟩
theorem ls_GREATER {p : Program} {s : State} {m : MethodId} {meth : Method} {c : Code} {b L : Nat} {xs : Nat → Int32} (C0 : lw_At p s m meth c b L xs) : ∃ t : Nat, t < s.heap.size ∧ ∀ A : Nat → Prop, (∀ a : Nat, a < s.heap.size → ¬ A a) → va_Z "LeastFrames" "GREATER" "[I" (.ref t) A s s.heap ∧ va_T .int t 10 (fun j => .int (wo_gre j)) A s s.heap := by
  have hts0 := C0.2.2.2.2.2.1
  have hs := flat_of_before _ C0.2.2.2.2.2.2.2.2.2
  have harr : (Cond.arrayOf (.static "LeastFrames" "GREATER" "[I") .int).before #[Value.ref b] s = true := hs _ (by decide +kernel)
  have hlen : (Term.length (.static "LeastFrames" "GREATER" "[I")).eval #[Value.ref b] s none [] s = some (.int (Int32.ofNat 10)) := va_eqt (hs _ (by decide +kernel))
  have hel : ∀ j : Nat, j < 10 → (Term.elem (.static "LeastFrames" "GREATER" "[I") (.int (Int32.ofNat j))).eval #[Value.ref b] s none [] s = some (.int (wo_gre j)) := fun j hj => match j, hj with
    | 0, _ => va_eqt (hs _ (by decide +kernel))
    | 1, _ => va_eqt (hs _ (by decide +kernel))
    | 2, _ => va_eqt (hs _ (by decide +kernel))
    | 3, _ => va_eqt (hs _ (by decide +kernel))
    | 4, _ => va_eqt (hs _ (by decide +kernel))
    | 5, _ => va_eqt (hs _ (by decide +kernel))
    | 6, _ => va_eqt (hs _ (by decide +kernel))
    | 7, _ => va_eqt (hs _ (by decide +kernel))
    | 8, _ => va_eqt (hs _ (by decide +kernel))
    | 9, _ => va_eqt (hs _ (by decide +kernel))
    | j + 10, h => absurd h (by omega)
  obtain ⟨t, ht, hT0⟩ := va_Tof (A := fun a => s.heap.size ≤ a) (N := 10) (f := fun j => .int (wo_gre j)) (by decide) harr hlen hel (fun a ha => Nat.not_le.mpr ha)
  refine ⟨t, Nat.not_le.mp (va_T.out hT0), fun A hA => ?_⟩
  obtain ⟨t2, ht2, hT⟩ := va_Tof (A := A) (N := 10) (f := fun j => .int (wo_gre j)) (by decide) harr hlen hel hA
  have e : t2 = t := by
    have := ht2.symm.trans ht
    simpa using this
  subst e
  exact ⟨va_Zref (hts0 (Cond.laysStatic "LeastFrames" "GREATER" "[I") (List.mem_of_getElem? (i := 317) (by decide +kernel))) (hts0 (Cond.initialized "LeastFrames") (List.mem_of_getElem? (i := 53) (by decide +kernel))) ht hA, hT⟩
set_option maxRecDepth 100000 in
set_option maxHeartbeats 8000000 in
theorem whole_start {p : Program} {e : Env} {s : State} {m : MethodId} {below : List Frame} {meth : Method} {c : Code} (l : Launch) (hflags : l.flags = flags0) {b L : Nat} {xs : Nat → Int32} (hL : L ≤ 3072) (C0 : lw_At p s m meth c b L xs) : W p l e room_1 s m #[Value.ref b] below meth c s.heap [] 0 0 (lw_Z below #[Value.ref b] s) (entryFrame m ([Value.ref b] : List Value).toArray 4) := by
  obtain ⟨D, ca, hSZ⟩ := ls_Z l C0
  have hnest := ls_nest C0
  obtain ⟨t1, ht1, st1⟩ := ls_LESSER C0
  obtain ⟨t2, ht2, st2⟩ := ls_GREATER C0
  obtain ⟨hx, hb, hr, hml, hown, hts0, hX, hbl, hlocks, hgv⟩ := C0
  have hown' : s.vm.findClass RL = some m.cls := hown
  have hts : ∀ w ∈ jj_tb, w.before #[Value.ref b] s = true := fun w h => hts0 w (List.mem_filter.mp h).1
  have hK := hSZ.1
  have hA : ∀ q : Nat, s.heap.size ≤ q → kn_A (D, ca, l, s.heap.size) q := fun _ h => h
  have hS : va_S (kn_A (D, ca, l, s.heap.size)) s.heap s.heap [] := va_S.rf
  have hP : va_P D vwCl [] s.heap := fun k q h => by simp at h
  have hD : va_D (kn_A (D, ca, l, s.heap.size)) [] := ⟨fun i j p q h => by simp at h, fun k q h => by simp at h⟩
  have hl := lv_entry ([.ref b]) (n := 4) (Nat.le_of_ble_eq_true rfl)
  rw [lg_entry_eq]
  generalize (lg_sl ([.ref b]) ++ List.replicate (4 - (lg_sl ([.ref b])).length) Slot.unset).toArray = ls at hl ⊢
  have hl : lv_has ls 4 [(0, .ref b)] := hl
  refine va_new (Ts := jj_tb) (ci := 6) (fs := [.null, .null, .null, .null, .null, .null, .int 0, .int 0, .int 0]) (C := RX6) (T := TX6) (N := 9) hx hb hts (jj_inOk 6 _ rfl) (jj_tyC 6) (jj_tyOk 6 _ rfl) hown' (hts _ lkc_L_7) (hts _ lkt_6) (hts _ lkn_6) hK hP hD hS hA rfl (fun j hj => match j, hj with | 0, _ => rfl | 1, _ => rfl | 2, _ => rfl | 3, _ => rfl | 4, _ => rfl | 5, _ => rfl | 6, _ => rfl | 7, _ => rfl | 8, _ => rfl | j + 9, h => absurd h (by omega)) (Nat.le_of_ble_eq_true rfl) (Nat.le_of_ble_eq_true rfl) dL_law_0 (fun h H hP hD hS => ?_)
  have hP : va_P D vwCl [(h, .inr (6, [.null, .null, .null, .null, .null, .null, .int 0, .int 0, .int 0]))] H := hP
  have hD : va_D (kn_A (D, ca, l, s.heap.size)) [(h, .inr (6, [.null, .null, .null, .null, .null, .null, .int 0, .int 0, .int 0]))] := hD
  refine lv_dup hx hb dL_law_3 rfl ?_
  refine lm_after (Z := (D, ca, l, s.heap.size)) (Rp := fun w1 => ∃ (q1 : Nat) (a2 : Nat → Nat) (r2 : Nat → Nat) (q3 : Nat) (a4 : Nat → Nat) (q5 : Nat) (a6 : Nat → Nat) (q7 : Nat) (a8 : Nat → Nat) (q9 : Nat) (a10 : Nat → Nat) (r10 : Nat → Nat) (q11 : Nat) (q13 : Nat) (q14 : Nat) (a15 : Nat → Nat) (q16 : Nat) (a17 : Nat → Nat) (q18 : Nat) (a19 : Nat → Nat) (q20 : Nat) (a21 : Nat → Nat), w1 = kw6 (D, ca, l, s.heap.size) h q1 a2 r2 q3 a4 q5 a6 q7 a8 q9 a10 r10 q11 q13 q14 a15 q16 a17 q18 a19 q20 a21) hS (va_runI (As := []) (rest := [.ref h]) (Ts := jj_tb) ⟨hx, hb, hml, hown', hts⟩ (k_X6 (Z := (D, ca, l, s.heap.size)) h (fun q1 a2 r2 q3 a4 q5 a6 q7 a8 q9 a10 r10 q11 q13 q14 a15 q16 a17 q18 a19 q20 a21 => ⟨q1, a2, r2, q3, a4, q5, a6, q7, a8, q9, a10, r10, q11, q13, q14, a15, q16, a17, q18, a19, q20, a21, rfl⟩)) (cwI 0 hts (kn_gin kX6 kI_6.2.2.1) rfl rfl rfl (hts _ lkn_6) (hts _ lkm_L_9) (hts _ kI_6.1) rfl kI_6.2.2.2.2 ⟨(Nat.le_of_ble_eq_true rfl), (Nat.le_of_ble_eq_true rfl)⟩) ⟨kn_blind _ _ _, fun U hU hW => ⟨rfl, by rw [hU]; exact hP, hD, hSZ.1.moved hW.alike, kn_nest_warm hW hSZ.2.1, by rw [hU]; exact hS.1⟩⟩ rfl rfl hl.1 rfl (lv_room (Nat.le_of_ble_eq_true rfl)) dL_law_4 ⟨(Nat.le_of_ble_eq_true rfl), (Nat.le_of_ble_eq_true rfl)⟩) (fun w1 H1 locs1 hw1 hP1 hD1 hS1 => ?_)
  obtain ⟨q1, a2, r2, q3, a4, q5, a6, q7, a8, q9, a10, r10, q11, q13, q14, a15, q16, a17, q18, a19, q20, a21, rfl⟩ := hw1
  refine lv_astore_n (lv' := [(1, .ref h), (0, .ref b)]) hx hb dL_law_7 rfl hl (by decide) rfl (fun ls hl => ?_)
  refine va_new (Ts := jj_tb) (ci := 7) (fs := [.null, .null, .null, .null, .null, .int 0, .int 0, .null, .null, .int 0, .null, .null, .null, .int 0, .int 0, .int 0, .int 0, .null, .null, .null, .null, .int 0]) (C := RX7) (T := TX7) (N := 22) hx hb hts (jj_inOk 7 _ rfl) (jj_tyC 7) (jj_tyOk 7 _ rfl) hown' (hts _ lkc_L_10) (hts _ lkt_7) (hts _ lkn_7) hK hP1 hD1 hS1 hA rfl (fun j hj => match j, hj with | 0, _ => rfl | 1, _ => rfl | 2, _ => rfl | 3, _ => rfl | 4, _ => rfl | 5, _ => rfl | 6, _ => rfl | 7, _ => rfl | 8, _ => rfl | 9, _ => rfl | 10, _ => rfl | 11, _ => rfl | 12, _ => rfl | 13, _ => rfl | 14, _ => rfl | 15, _ => rfl | 16, _ => rfl | 17, _ => rfl | 18, _ => rfl | 19, _ => rfl | 20, _ => rfl | 21, _ => rfl | j + 22, h => absurd h (by omega)) (Nat.le_of_ble_eq_true rfl) (Nat.le_of_ble_eq_true rfl) dL_law_8 (fun hm H2 hP2 hD2 hS2 => ?_)
  obtain ⟨hP2, hD2⟩ := kn_PD (List.perm_append_singleton _ _) hP2 hD2
  refine lv_dup hx hb dL_law_11 rfl ?_
  refine lm_after (Z := (D, ca, l, s.heap.size)) (Rp := fun w1 => ∃ am : Nat → Nat, w1 = kw7 (D, ca, l, s.heap.size) hm am (kw6 (D, ca, l, s.heap.size) h q1 a2 r2 q3 a4 q5 a6 q7 a8 q9 a10 r10 q11 q13 q14 a15 q16 a17 q18 a19 q20 a21)) hS2 (va_runI (As := []) (rest := [.ref hm]) (Ts := jj_tb) ⟨hx, hb, hml, hown', hts⟩ (k_X7 (Z := (D, ca, l, s.heap.size)) hm (kw6 (D, ca, l, s.heap.size) h q1 a2 r2 q3 a4 q5 a6 q7 a8 q9 a10 r10 q11 q13 q14 a15 q16 a17 q18 a19 q20 a21) (fun am => ⟨am, rfl⟩)) (cwI 0 hts (kn_gin kX7 kI_7.2.2.1) rfl rfl rfl (hts _ lkn_7) (hts _ lkm_L_12) (hts _ kI_7.1) rfl kI_7.2.2.2.2 ⟨(Nat.le_of_ble_eq_true rfl), (Nat.le_of_ble_eq_true rfl)⟩) ⟨kn_blind _ _ _, fun U hU hW => ⟨rfl, by rw [hU]; exact hP2, hD2, hSZ.1.moved hW.alike, kn_nest_warm hW hSZ.2.1, by rw [hU]; exact hS2.1⟩⟩ rfl rfl hl.1 rfl (lv_room (Nat.le_of_ble_eq_true rfl)) dL_law_12 ⟨(Nat.le_of_ble_eq_true rfl), (Nat.le_of_ble_eq_true rfl)⟩) (fun w1 H3 locs3 hw1 hP3 hD3 hS3 => ?_)
  obtain ⟨am, rfl⟩ := hw1
  refine lv_astore_n (lv' := [(2, .ref hm), (1, .ref h), (0, .ref b)]) hx hb dL_law_15 rfl hl (by decide) rfl (fun ls hl => ?_)
  refine lv_iconst (v := 0) hx hb dL_law_16 (by decide) ?_
  refine lv_istore_n (lv' := [(3, .int 0), (2, .ref hm), (1, .ref h), (0, .ref b)]) hx hb dL_law_17 rfl hl (by decide) rfl (fun ls hl => ?_)
  refine W.widen (k := 600000) (n := 7302250) (Nat.le_of_ble_eq_true rfl) (Nat.le_of_ble_eq_true rfl) ?_
  have hlen : (kw_all (D, ca, l, s.heap.size) h hm am q1 a2 r2 q3 a4 q5 a6 q7 a8 q9 a10 r10 q11 q13 q14 a15 q16 a17 q18 a19 q20 a21).length = 73 := rfl
  have hdis := kg_dis (b := b) (t1 := t1) (t2 := t2) hlen hD3
  have hge := kg_A (b := b) (t1 := t1) (t2 := t2) hlen hD3
  have hPz := kg_P (Z := (D, ca, l, s.heap.size)) b t1 t2 h hm am q1 a2 r2 q3 a4 q5 a6 q7 a8 q9 a10 r10 q11 q13 q14 a15 q16 a17 q18 a19 q20 a21 hP3
  have z0 : kg (kw_all (D, ca, l, s.heap.size) h hm am q1 a2 r2 q3 a4 q5 a6 q7 a8 q9 a10 r10 q11 q13 q14 a15 q16 a17 q18 a19 q20 a21) b t1 t2 0 = h := rfl
  have z58 : kg (kw_all (D, ca, l, s.heap.size) h hm am q1 a2 r2 q3 a4 q5 a6 q7 a8 q9 a10 r10 q11 q13 q14 a15 q16 a17 q18 a19 q20 a21) b t1 t2 58 = hm := rfl
  have z100 : kg (kw_all (D, ca, l, s.heap.size) h hm am q1 a2 r2 q3 a4 q5 a6 q7 a8 q9 a10 r10 q11 q13 q14 a15 q16 a17 q18 a19 q20 a21) b t1 t2 100 = t1 := rfl
  have z101 : kg (kw_all (D, ca, l, s.heap.size) h hm am q1 a2 r2 q3 a4 q5 a6 q7 a8 q9 a10 r10 q11 q13 q14 a15 q16 a17 q18 a19 q20 a21) b t1 t2 101 = t2 := rfl
  have z200 : kg (kw_all (D, ca, l, s.heap.size) h hm am q1 a2 r2 q3 a4 q5 a6 q7 a8 q9 a10 r10 q11 q13 q14 a15 q16 a17 q18 a19 q20 a21) b t1 t2 200 = b := rfl
  generalize kg (kw_all (D, ca, l, s.heap.size) h hm am q1 a2 r2 q3 a4 q5 a6 q7 a8 q9 a10 r10 q11 q13 q14 a15 q16 a17 q18 a19 q20 a21) b t1 t2 = ad at *
  have hnA : ∀ a : Nat, a < s.heap.size → ¬ wo_A (ad, D, ca) a := fun a ha hq => by
    obtain ⟨o, ho, e⟩ := hq
    have := hge o ho
    rw [e] at ha
    exact absurd this (Nat.not_le.mpr ha)
  obtain ⟨s11, s12⟩ := st1 _ hnA
  obtain ⟨s21, s22⟩ := st2 _ hnA
  rw [← z100] at s11 s12
  rw [← z101] at s21 s22
  have hst : wo_st (ad, D, ca) s s.heap := ⟨s11, s12, s21, s22⟩
  have hloop := ll_loop (K := ((ad, D, ca), l)) (b := b) (xs := xs) hL L 0 wo_0 (Nat.zero_le _) (by omega) iv_0
  refine hloop p e s m below meth c ⟨hx, hb, hml, hown', hts, hr, hlocks, ⟨hK, hdis, hst, hnest⟩, hge, z200, hX, hbl⟩ H3 locs3 ls hPz hS3 ?_
  have hl2 := lv_sub hl [0, 3, 2, 1] rfl
  show lv_has ls 4 [(3, .int 0), (0, .ref (ad 200)), (1, .ref (ad 0)), (2, .ref (ad 58))]
  rw [z200, z0, z58]
  exact hl2
