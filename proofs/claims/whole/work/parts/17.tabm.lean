/-! ===== pure facts on the tableau ===== -/
theorem xb_p1 (n r : Nat) (c : Nat → Int) : xb_p n [r] [c] = if r < n then c r else 0 := by
  show xa_0 (xa_i (xa_e r) (xa_w c (xa_1 n))) = _
  rw [xa_iw, xa_0_a, xa_0_s, xa_0_s, xa_0_w, xa_0_1, xa_d_e]
  split <;> simp
theorem xb_p00 (n : Nat) : xb_p n [] [] = 1 := xa_0_1
/-- a combination at the head -/
def xb_hs (n : Nat) (rs : List Nat) (ks : List (Nat → Int)) : List Int → List (Nat → Int) → Int
  | q :: qs, v :: vs => q * xb_p n rs (v :: ks) + xb_hs n rs ks qs vs
  | _, _ => 0
theorem xb_head_l (n : Nat) (rs : List Nat) (ks : List (Nat → Int)) : ∀ (qs : List Int) (vs : List (Nat → Int)), xb_p n rs (xb_l qs vs :: ks) = xb_hs n rs ks qs vs
  | [], vs => by
    have e : xb_p n rs (xb_l [] vs :: ks) = xb_p n rs ((fun i => 0 * (xb_l [] vs) i + 0 * (xb_l [] vs) i) :: ks) := xb_head_congr n rs ks (fun i _ => by simp [xb_l])
    rw [e, xb_head_lin]; simp [xb_hs]
  | q :: qs, [] => by
    have e : xb_p n rs (xb_l (q :: qs) [] :: ks) = xb_p n rs ((fun i => 0 * (xb_l (q :: qs) []) i + 0 * (xb_l (q :: qs) []) i) :: ks) := xb_head_congr n rs ks (fun i _ => by simp [xb_l])
    rw [e, xb_head_lin]; simp [xb_hs]
  | q :: qs, v :: vs => by
    have e : xb_p n rs (xb_l (q :: qs) (v :: vs) :: ks) = xb_p n rs ((fun i => q * v i + 1 * xb_l qs vs i) :: ks) := xb_head_congr n rs ks (fun i _ => by simp [xb_l])
    rw [e, xb_head_lin, xb_head_l n rs ks qs vs, Int.one_mul]; rfl
theorem xb_hs_app (n : Nat) (rs : List Nat) (ks : List (Nat → Int)) : ∀ (q1 : List Int) (v1 : List (Nat → Int)) (q2 : List Int) (v2 : List (Nat → Int)), q1.length = v1.length → xb_hs n rs ks (q1 ++ q2) (v1 ++ v2) = xb_hs n rs ks q1 v1 + xb_hs n rs ks q2 v2
  | [], [], q2, v2, _ => by simp [xb_hs]
  | q :: q1, v :: v1, q2, v2, h => by
    simp only [List.cons_append, xb_hs, xb_hs_app n rs ks q1 v1 q2 v2 (by simpa using h)]
    omega
  | [], v :: v1, _, _, h => by simp at h
  | q :: q1, [], _, _, h => by simp at h
theorem xb_hs_in (n : Nat) (rs : List Nat) (ks : List (Nat → Int)) : ∀ (qs : List Int) (vs : List (Nat → Int)), (∀ v, v ∈ vs → v ∈ ks) → xb_hs n rs ks qs vs = 0
  | [], _, _ => by simp [xb_hs]
  | q :: qs, [], _ => by simp [xb_hs]
  | q :: qs, v :: vs, h => by
    simp only [xb_hs]
    rw [xb_in n rs (h v List.mem_cons_self), xb_hs_in n rs ks qs vs (fun x hx => h x (List.mem_cons_of_mem _ hx))]
    simp
/-- one step of going back -/
theorem xb_back (n : Nat) (rs : List Nat) (p : Int) (b : Nat → Int) (as : List (Nat → Int)) (k : Nat → Int) (ks : List (Nat → Int)) (cs : List Int) (q : Int) (qs : List Int) (hl : cs.length = as.length) (h : ∀ v, v < n → p * b v = xb_l (cs ++ q :: qs) (as ++ k :: ks) v) :
    q * xb_p n rs (k :: ks) = p * xb_p n rs (b :: ks) - xb_hs n rs ks cs as := by
  have e1 : xb_p n rs ((fun i => p * b i + 0 * b i) :: ks) = xb_hs n rs ks (cs ++ q :: qs) (as ++ k :: ks) := by
    rw [← xb_head_l]
    exact xb_head_congr n rs ks (fun i hi => by rw [← h i hi]; simp)
  rw [xb_head_lin, xb_hs_app n rs ks cs as _ _ hl] at e1
  simp only [xb_hs] at e1
  rw [xb_hs_in n rs ks qs ks (fun v hv => hv)] at e1
  omega
theorem xb_O_move {n : Nat} : ∀ (as : List (Nat → Int)) (k : Nat → Int) (ks : List (Nat → Int)), ∃ s : Int, (s = 1 ∨ s = -1) ∧ (xb_O (as ++ k :: ks) : xa_E n) = xa_s s (xa_w k (xb_O (as ++ ks)))
  | [], k, ks => ⟨1, Or.inl rfl, by rw [xa_s_1]; rfl⟩
  | a :: as, k, ks => by
    obtain ⟨s, hs, e⟩ := xb_O_move (n := n) as k ks
    refine ⟨-s, by omega, ?_⟩
    show xa_w a (xb_O (as ++ k :: ks)) = xa_s (-s) (xa_w k (xa_w a (xb_O (as ++ ks))))
    rw [e, xa_w_s, xa_ww]
    apply xa_ext; intro m; simp only [xa_cs]; grind
/-- CRAMER: what a column takes is a minor, too -/
theorem xb_cramer (n : Nat) (rs : List Nat) (p : Int) (b : Nat → Int) (as : List (Nat → Int)) (k : Nat → Int) (ks : List (Nat → Int)) (cs : List Int) (q : Int) (qs : List Int) (hl : cs.length = as.length) (hp : xb_p n rs (as ++ k :: ks) = p) (h0 : p ≠ 0) (h : ∀ v, v < n → p * b v = xb_l (cs ++ q :: qs) (as ++ k :: ks) v) :
    q = xb_p n rs (b :: (as ++ ks)) ∨ q = - xb_p n rs (b :: (as ++ ks)) := by
  obtain ⟨s, hs, e⟩ := xb_O_move (n := n) as k ks
  have e1 : xb_p n rs ((fun i => p * b i + 0 * b i) :: (as ++ ks)) = xb_hs n rs (as ++ ks) (cs ++ q :: qs) (as ++ k :: ks) := by
    rw [← xb_head_l]
    exact xb_head_congr n rs _ (fun i hi => by rw [← h i hi]; simp)
  rw [xb_head_lin, xb_hs_app n rs _ cs as _ _ hl] at e1
  simp only [xb_hs] at e1
  rw [xb_hs_in n rs _ cs as (fun v hv => List.mem_append_left _ hv), xb_hs_in n rs _ qs ks (fun v hv => List.mem_append_right _ hv)] at e1
  have e2 : p = s * xb_p n rs (k :: (as ++ ks)) := by
    rw [← hp]
    show xb_f rs (xb_O (as ++ k :: ks) : xa_E n) = s * xb_f rs (xa_w k (xb_O (as ++ ks)) : xa_E n)
    rw [e, xb_f_s]
  generalize xb_p n rs (b :: (as ++ ks)) = B at *
  generalize xb_p n rs (k :: (as ++ ks)) = C at *
  have e3 : p * B = q * C := by omega
  rcases hs with rfl | rfl
  · refine Or.inl ?_
    have : p = C := by omega
    rw [this] at e3 h0
    exact (Int.eq_of_mul_eq_mul_left h0 (by rw [e3]; exact Int.mul_comm _ _)).symm
  · refine Or.inr ?_
    have : C = -p := by omega
    rw [this] at e3
    exact Int.eq_of_mul_eq_mul_left h0 (by grind)
/-! ===== free ways in their order ===== -/
def tb_fw (g : gd_T) (v : Nat) : List Nat := (List.range v).filter (gd_free g)
def tb_r (g : gd_T) : Nat := (tb_fw g 10).length
def tb_f (g : gd_T) (r : Nat) : Nat := (tb_fw g 10).getD r 0
theorem tb_fw_succ (g : gd_T) (v : Nat) : tb_fw g (v + 1) = tb_fw g v ++ if gd_free g v then [v] else [] := by
  unfold tb_fw
  rw [List.range_succ, List.filter_append]
  congr 1
  by_cases h : gd_free g v = true <;> simp [h]
theorem tb_fw_len (g : gd_T) (v : Nat) : (tb_fw g v).length ≤ v := by
  unfold tb_fw
  have := List.length_filter_le (gd_free g) (List.range v)
  simpa using this
theorem tb_r_le (g : gd_T) : tb_r g ≤ 10 := tb_fw_len g 10
theorem tb_fw_end {g : gd_T} (h : gd_ok g) : ∀ d v, v + d = 10 → 2 * g.1 ≤ v → tb_fw g v = tb_fw g 10
  | 0, v, e, _ => by rw [show v = 10 by omega]
  | d + 1, v, e, hv => by
    rw [← tb_fw_end h d (v + 1) (by omega) (by omega), tb_fw_succ]
    have : gd_free g v = false := by
      unfold gd_free
      have : ¬ v < 2 * g.1 := by omega
      simp [this]
    simp [this]
theorem tb_fw_2n {g : gd_T} (h : gd_ok g) : tb_fw g (2 * g.1) = tb_fw g 10 := tb_fw_end h (10 - 2 * g.1) _ (by have := h.1; omega) (Nat.le_refl _)
theorem tb_f_mem {g : gd_T} {r : Nat} (h : r < tb_r g) : tb_f g r ∈ tb_fw g 10 := by
  show ((tb_fw g 10)[r]?).getD 0 ∈ _
  rw [List.getElem?_eq_getElem h]
  exact List.getElem_mem h
theorem tb_f_free {g : gd_T} {r : Nat} (h : r < tb_r g) : gd_free g (tb_f g r) = true ∧ tb_f g r < 10 := by
  have := tb_f_mem h
  unfold tb_fw at this
  rw [List.mem_filter, List.mem_range] at this
  exact ⟨this.2, this.1⟩
theorem tb_f_sur {g : gd_T} {v : Nat} (hv : v < 10) (hf : gd_free g v = true) : ∃ r, r < tb_r g ∧ tb_f g r = v := by
  have : v ∈ tb_fw g 10 := by unfold tb_fw; rw [List.mem_filter, List.mem_range]; exact ⟨hv, hf⟩
  obtain ⟨r, hr, e⟩ := List.mem_iff_getElem.mp this
  exact ⟨r, hr, by show ((tb_fw g 10)[r]?).getD 0 = v; rw [List.getElem?_eq_getElem hr]; exact e⟩
theorem tb_v_held {g : gd_T} (A c : Nat) {v : Nat} (hf : gd_free g v = false) : tb_v g A c v = 0 := by
  unfold tb_v gd_rhs gd_col
  split
  · simp [hf]
  · split
    · simp [hf]
    · rfl
/-! ===== the tableau ===== -/
def tb_p (g : gd_T) (A : Nat) (ks rr : List Nat) : Int := xb_p 10 (rr.map (tb_f g)) (ks.map (tb_v g A))
def tb_c (g : gd_T) (A : Nat) (w : wo_T) (ks rr : List Nat) (lo : Nat) : Prop := ∀ r, r < tb_r g → r ∉ rr → ∀ c, lo ≤ c → c ≤ gd_m g → w.2 (10 + ks.length) (r * 11 + c) = nn_l (tb_p g A (c :: ks) (r :: rr))
def tb_u (rr : List Nat) : Nat := gd_bits (fun r => decide (r ∈ rr)) 10
def tb_L (g : gd_T) (A : Nat) (w : wo_T) : List Nat → List Nat → Prop
  | [], [] => w.1 20 0 = nI 0 ∧ w.2 21 0 = nn_l 1 ∧ tb_c g A w [] [] 0
  | k :: ks, r :: rr => tb_L g A w ks rr ∧ k < gd_m g ∧ (∀ j, j ∈ ks → j < k) ∧ r < tb_r g ∧ r ∉ rr ∧ ks.length < 7 ∧ w.1 18 ks.length = nI k ∧ w.1 19 ks.length = nI r ∧ w.1 20 (ks.length + 1) = nI (tb_u (r :: rr)) ∧ w.2 21 (ks.length + 1) = nn_l (tb_p g A (k :: ks) (r :: rr)) ∧ tb_p g A (k :: ks) (r :: rr) ≠ 0 ∧ tb_c g A w (k :: ks) (r :: rr) (k + 1)
  | _, _ => False
def tb_B (g : gd_T) (w : wo_T) : Prop := w.1 8 6 = nI (tb_r g) ∧ w.1 8 7 = nI (gd_m g)
theorem tb_u_tb (rr : List Nat) {r : Nat} (hr : r < 10) : (tb_u rr).testBit r = decide (r ∈ rr) := by
  unfold tb_u
  rw [gd_bits_tb]; simp [hr]
theorem tb_u_lt (rr : List Nat) : tb_u rr < 1024 := gd_bits_lt _ 10
theorem tb_u_cons (rr : List Nat) {r : Nat} (hr : r < 10) : tb_u rr ||| 2 ^ r = tb_u (r :: rr) := by
  apply Nat.eq_of_testBit_eq
  intro k
  rw [Nat.testBit_or, Nat.testBit_two_pow]
  rcases Nat.lt_or_ge k 10 with h | h
  · rw [tb_u_tb rr h, tb_u_tb _ h]
    by_cases e : r = k
    · subst e; simp
    · have e2 : ¬ k = r := fun q => e q.symm
      simp [e, e2]
  · rw [gd_big (m := 10) (tb_u_lt rr) h, gd_big (m := 10) (tb_u_lt (r :: rr)) h]
    have : ¬ r = k := by omega
    simp [this]
theorem tb_top {g : gd_T} {A : Nat} {w : wo_T} : ∀ {ks rr : List Nat}, tb_L g A w ks rr → rr.length = ks.length ∧ w.1 20 ks.length = nI (tb_u rr) ∧ w.2 21 ks.length = nn_l (tb_p g A ks rr) ∧ tb_p g A ks rr ≠ 0 ∧ (∀ c0, (∀ j, j ∈ ks → j < c0) → tb_c g A w ks rr c0) ∧ (∀ k, k ∈ ks → k < gd_m g) ∧ ks.length ≤ 7 ∧ (∀ r, r ∈ rr → r < tb_r g) ∧ ks.Nodup
  | [], [], h => by
    refine ⟨rfl, h.1, ?_, ?_, fun c0 _ r h1 h2 c _ hc => h.2.2 r h1 h2 c (Nat.zero_le _) hc, fun k hk => (by cases hk), by decide, fun r hr => (by cases hr), List.nodup_nil⟩
    · have : tb_p g A [] [] = 1 := xb_p00 10
      rw [this]; exact h.2.1
    · have : tb_p g A [] [] = 1 := xb_p00 10
      rw [this]; decide
  | k :: ks, r :: rr, h => by
    obtain ⟨h1, h2, h3, h4, h5, h6, h7, h8, h9, h10, h11, h12⟩ := h
    obtain ⟨a1, a2, a3, a4, a5, a6, a7, a8, a9⟩ := tb_top h1
    refine ⟨by simp [a1], h9, h10, h11, fun c0 hc0 q hq hq2 c hc hcm => h12 q hq hq2 c (Nat.le_trans (hc0 k List.mem_cons_self) hc) hcm, fun x hx => ?_, by simp; omega, fun x hx => ?_, List.nodup_cons.mpr ⟨fun q => absurd (h3 k q) (Nat.lt_irrefl _), a9⟩⟩
    · rcases List.mem_cons.mp hx with rfl | hx
      · exact h2
      · exact a6 x hx
    · rcases List.mem_cons.mp hx with rfl | hx
      · exact h4
      · exact a8 x hx
  | [], _ :: _, h => by cases h
  | _ :: _, [], h => by cases h
/-- worlds that agree where a level looks -/
theorem tb_L_fr {g : gd_T} {A : Nat} {w u : wo_T} : ∀ {ks rr : List Nat}, (∀ j, j < ks.length → u.1 18 j = w.1 18 j ∧ u.1 19 j = w.1 19 j) → (∀ j, j ≤ ks.length → u.1 20 j = w.1 20 j ∧ u.2 21 j = w.2 21 j ∧ u.2 (10 + j) = w.2 (10 + j)) → tb_L g A w ks rr → tb_L g A u ks rr
  | [], [], _, h2, h => by
    obtain ⟨e1, e2, e3⟩ := h2 0 (Nat.le_refl _)
    exact ⟨by rw [e1]; exact h.1, by rw [e2]; exact h.2.1, fun r a b c d e => by rw [show u.2 (10 + ([] : List Nat).length) = w.2 (10 + ([] : List Nat).length) from e3]; exact h.2.2 r a b c d e⟩
  | k :: ks, r :: rr, h1, h2, h => by
    obtain ⟨q1, q2, q3, q4, q5, q6, q7, q8, q9, q10, q11, q12⟩ := h
    obtain ⟨e1, e2, e3⟩ := h2 (ks.length + 1) (Nat.le_refl _)
    obtain ⟨f1, f2⟩ := h1 ks.length (Nat.lt_succ_self _)
    refine ⟨tb_L_fr (fun j hj => h1 j (Nat.lt_succ_of_lt hj)) (fun j hj => h2 j (Nat.le_succ_of_le hj)) q1, q2, q3, q4, q5, q6, by rw [f1]; exact q7, by rw [f2]; exact q8, by rw [e1]; exact q9, by rw [e2]; exact q10, q11, fun x a b c d e => ?_⟩
    rw [show u.2 (10 + (k :: ks).length) = w.2 (10 + (k :: ks).length) from e3]
    exact q12 x a b c d e
  | [], _ :: _, _, _, h => by cases h
  | _ :: _, [], _, _, h => by cases h
theorem tb_pbd {g : gd_T} (h : gd_ok g) (A : Nat) (c : Nat) (ks rs : List Nat) (hc : c ≤ gd_m g) (hk : ∀ k, k ∈ ks → k < gd_m g) (hl : ks.length ≤ 7) : -67108864 < tb_p g A (c :: ks) rs ∧ tb_p g A (c :: ks) rs < 67108864 := tb_bd h A _ c ks hc hk hl
/-- the step of the tableau -/
theorem tb_step {g : gd_T} (A c k r r1 : Nat) (ks rr : List Nat) (h1 : r1 < tb_r g) (h2 : r < tb_r g) (hp : tb_p g A ks rr ≠ 0) :
    tb_p g A ks rr * tb_p g A (c :: k :: ks) (r :: r1 :: rr) = tb_p g A (k :: ks) (r1 :: rr) * tb_p g A (c :: ks) (r :: rr) - tb_p g A (k :: ks) (r :: rr) * tb_p g A (c :: ks) (r1 :: rr) :=
  xb_step 10 (rr.map (tb_f g)) (ks.map (tb_v g A)) (tb_v g A k) (tb_v g A c) (tb_f g r1) (tb_f g r) (tb_f_free h1).2 (tb_f_free h2).2 hp
