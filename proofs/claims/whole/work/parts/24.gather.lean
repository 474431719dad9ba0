/-! ===== Bearers.gather ===== -/
def gt_N (g : gd_T) (w : wo_T) (o : Nat) : List Nat → Nat → Prop
  | [], nx => w.1 (o + 5) 0 = nI nx ∧ nx ≤ gd_m g
  | k :: ks, nx => w.1 (o + 5) (ks.length + 1) = nI nx ∧ nx ≤ gd_m g ∧ k < nx ∧ gt_N g w o ks (k + 1)
def gt_R : List Nat → Nat → Nat → Prop
  | [], nx, T => T % 2 ^ nx = tb_s [] ∧ T ≠ tb_s []
  | k :: ks, nx, T => (T % 2 ^ nx = tb_s (k :: ks) ∧ T ≠ tb_s (k :: ks)) ∨ gt_R ks (k + 1) T
def gt_W (m : Nat) : List Nat → Nat → Nat
  | [], nx => 2 ^ (m - nx + 1) - 1
  | k :: ks, nx => 2 ^ (m - nx + 1) - 1 + gt_W m ks (k + 1)
theorem gt_N_top {g : gd_T} {w : wo_T} {o : Nat} : ∀ {ks : List Nat} {nx : Nat}, gt_N g w o ks nx → w.1 (o + 5) ks.length = nI nx ∧ nx ≤ gd_m g
  | [], _, h => h
  | _ :: _, _, h => ⟨h.1, h.2.1⟩
theorem gt_N_fr {g : gd_T} {w u : wo_T} {o : Nat} : ∀ {ks : List Nat} {nx : Nat}, (∀ j, j ≤ ks.length → u.1 (o + 5) j = w.1 (o + 5) j) → gt_N g w o ks nx → gt_N g u o ks nx
  | [], _, h, hn => ⟨by rw [h 0 (Nat.le_refl _)]; exact hn.1, hn.2⟩
  | k :: ks, _, h, hn => ⟨by rw [h (ks.length + 1) (Nat.le_refl _)]; exact hn.1, hn.2.1, hn.2.2.1, gt_N_fr (fun j hj => h j (Nat.le_succ_of_le hj)) hn.2.2.2⟩
theorem gt_N_set {g : gd_T} {w u : wo_T} {o nx c : Nat} (hc : c ≤ gd_m g) (hle : nx ≤ c) : ∀ {ks : List Nat}, (∀ j, j < ks.length → u.1 (o + 5) j = w.1 (o + 5) j) → u.1 (o + 5) ks.length = nI c → gt_N g w o ks nx → gt_N g u o ks c
  | [], _, h1, _ => ⟨h1, hc⟩
  | k :: ks, h, h1, hn => ⟨h1, hc, Nat.lt_of_lt_of_le hn.2.2.1 hle, gt_N_fr (fun j hj => h j (Nat.lt_succ_of_le hj)) hn.2.2.2⟩
theorem gt_N_lt {g : gd_T} {w : wo_T} {o : Nat} {ks : List Nat} {nx : Nat} (h : gt_N g w o ks nx) (hs : ∀ k l, ks = k :: l → ∀ j, j ∈ l → j < k) : ∀ j, j ∈ ks → j < nx := by
  cases ks with
  | nil => intro j hj; cases hj
  | cons k l =>
    intro j hj
    rcases List.mem_cons.mp hj with rfl | hj
    · exact h.2.2.1
    · exact Nat.lt_trans (hs k l rfl j hj) h.2.2.1
theorem gt_R_hd : ∀ {ks : List Nat} {nx T : Nat}, T % 2 ^ nx = tb_s ks → T ≠ tb_s ks → gt_R ks nx T
  | [], _, _, h1, h2 => ⟨h1, h2⟩
  | _ :: _, _, _, h1, h2 => Or.inl ⟨h1, h2⟩
theorem gt_R_cs : ∀ {ks : List Nat} {nx T : Nat}, gt_R ks nx T → (T % 2 ^ nx = tb_s ks ∧ T ≠ tb_s ks) ∨ ∀ c, gt_R ks c T
  | [], _, _, h => Or.inl h
  | _ :: _, _, _, h => h.elim Or.inl (fun q => Or.inr (fun _ => Or.inr q))
theorem gt_split {ks : List Nat} {c T : Nat} (h : gt_R ks c T) : gt_R ks (c + 1) T ∨ (T.testBit c = true ∧ T % 2 ^ c = tb_s ks) := by
  rcases gt_R_cs h with ⟨h1, h2⟩ | h1
  · cases hb : T.testBit c with
    | true => exact Or.inr ⟨rfl, h1⟩
    | false =>
      refine Or.inl (gt_R_hd ?_ h2)
      rw [← h1]
      apply Nat.eq_of_testBit_eq
      intro j
      rw [Nat.testBit_mod_two_pow, Nat.testBit_mod_two_pow]
      by_cases e : j = c
      · subst e; simp [hb]
      · by_cases h3 : j < c
        · simp [h3, Nat.lt_succ_of_lt h3]
        · have : ¬ j < c + 1 := by omega
          simp [h3, this]
  · exact Or.inl (h1 (c + 1))
theorem gt_mono {ks : List Nat} {c T : Nat} (hlt : tb_s ks < 2 ^ c) (h : gt_R ks (c + 1) T) : gt_R ks c T := by
  rcases gt_R_cs h with ⟨h1, h2⟩ | h1
  · refine gt_R_hd ?_ h2
    have e : T % 2 ^ c = T % 2 ^ (c + 1) % 2 ^ c := by
      rw [Nat.mod_mod_of_dvd _ (Nat.pow_dvd_pow 2 (Nat.le_succ c))]
    rw [e, h1, Nat.mod_eq_of_lt hlt]
  · exact h1 c
theorem gt_tail : ∀ {ks : List Nat} {nx T : Nat}, (∀ k, k ∈ ks → k < 10) → (∀ a k b, ks = a ++ k :: b → ∀ j, j ∈ b → j < k) → gt_R ks nx T → (T % 2 ^ nx = tb_s ks ∧ T ≠ tb_s ks) ∨ ∃ k, k ∈ ks ∧ T.testBit k = false
  | [], _, _, _, _, h => Or.inl h
  | k :: ks, nx, T, h10, hs, h => by
    rcases h with h | h
    · exact Or.inl h
    · refine Or.inr ?_
      rcases gt_tail (fun j hj => h10 j (List.mem_cons_of_mem _ hj)) (fun a x b e => hs (k :: a) x b (by rw [e]; rfl)) h with ⟨h1, -⟩ | ⟨j, hj, hb⟩
      · refine ⟨k, List.mem_cons_self, ?_⟩
        have e : (T % 2 ^ (k + 1)).testBit k = T.testBit k := by rw [Nat.testBit_mod_two_pow]; simp
        rw [← e, h1, tb_s_tb ks (fun j hj => h10 j (List.mem_cons_of_mem _ hj))]
        have : k ∉ ks := fun q => absurd (hs [] k ks rfl k q) (Nat.lt_irrefl _)
        simpa using this
      · exact ⟨j, List.mem_cons_of_mem _ hj, hb⟩
theorem gt_sub {ks : List Nat} {c T : Nat} (hk : ∀ k, k ∈ ks → k < 10) (hc : c < 10) (hb : T.testBit c = true) (h : T % 2 ^ c = tb_s ks) : gd_sub (tb_s (c :: ks)) T := by
  intro j hj
  rw [tb_s_tb (c :: ks) (fun x hx => by
    rcases List.mem_cons.mp hx with rfl | hx
    · exact hc
    · exact hk x hx)] at hj
  have hj1 : j ∈ c :: ks := by simpa using hj
  rcases List.mem_cons.mp hj1 with rfl | hj1
  · exact hb
  · have h2 : (tb_s ks).testBit j = true := by rw [tb_s_tb ks hk]; simpa using hj1
    rw [← h, Nat.testBit_mod_two_pow] at h2
    simp only [Bool.and_eq_true] at h2
    exact h2.2
theorem gt_W_pos (m : Nat) : ∀ (ks : List Nat) (nx : Nat), 1 ≤ gt_W m ks nx
  | [], nx => by
    have : 2 ^ (m - nx + 1) ≥ 2 := by rw [Nat.pow_succ]; have := Nat.one_le_two_pow (n := m - nx); omega
    simp only [gt_W]; omega
  | k :: ks, nx => by
    have : 2 ^ (m - nx + 1) ≥ 2 := by rw [Nat.pow_succ]; have := Nat.one_le_two_pow (n := m - nx); omega
    simp only [gt_W]; omega
theorem gt_W_try {m c : Nat} (hc : c < m) : ∀ ks, gt_W m ks (c + 1) + (2 ^ (m - (c + 1) + 1) - 1) + 1 ≤ gt_W m ks c := by
  have e : 2 ^ (m - c + 1) = 2 * 2 ^ (m - (c + 1) + 1) := by
    rw [show m - c + 1 = (m - (c + 1) + 1) + 1 by omega, Nat.pow_succ]; omega
  have p := Nat.one_le_two_pow (n := m - (c + 1) + 1)
  intro ks
  cases ks <;> simp only [gt_W] <;> omega
theorem tb_sorted {g : gd_T} {A : Nat} {w : wo_T} : ∀ {ks rr : List Nat}, tb_L g A w ks rr → ∀ a k b, ks = a ++ k :: b → ∀ j, j ∈ b → j < k
  | [], [], _, a, k, b, e => by have := congrArg List.length e; simp at this
  | x :: ks, r :: rr, h, a, k, b, e => by
    cases a with
    | nil =>
      simp only [List.nil_append, List.cons.injEq] at e
      obtain ⟨rfl, rfl⟩ := e
      exact h.2.2.1
    | cons y a =>
      simp only [List.cons_append, List.cons.injEq] at e
      exact tb_sorted h.1 a k b e.2
  | [], _ :: _, h, _, _, _, _ => by cases h
  | _ :: _, [], h, _, _, _, _ => by cases h
abbrev gt_is (o : Nat) : List Nat := [o, o + 1, o + 5, 8, 18, 19, 20]
abbrev gt_ls (o : Nat) : List Nat := [o + 2, o + 3, 10, 11, 12, 13, 14, 15, 16, 17, 21, 22]
def gt_I (A : Nat) (w0 : wo_T) (o : Nat) (ks rr : List Nat) (nx : Nat) (L : List Nat) (u : wo_T) : Prop :=
  wo_fr (gt_is o) (gt_ls o) w0 u ∧ (u.1 o 8 = -1 ∧ u.1 o 10 = -1 ∧ u.1 o 9 = w0.1 o 9) ∧ tb_B (gc_g w0) u ∧ tb_L (gc_g w0) A u ks rr ∧ gt_N (gc_g w0) u o ks nx ∧ bk_L (gc_g w0) A u o L ∧ (∀ T, T < 2 ^ gd_m (gc_g w0) → gd_sub T A → gd_val (gc_g w0) T → T ∈ L ∨ gt_R ks nx T) ∧ ∀ T, T ∈ L → ¬ gt_R ks nx T
def gt_F (A : Nat) (w0 : wo_T) (o : Nat) (L : List Nat) (u : wo_T) : Prop :=
  wo_fr (gt_is o) (gt_ls o) w0 u ∧ (u.1 o 8 = -1 ∧ u.1 o 10 = -1 ∧ u.1 o 9 = w0.1 o 9) ∧ bk_L (gc_g w0) A u o L ∧ ∀ T, T < 2 ^ gd_m (gc_g w0) → gd_sub T A → gd_val (gc_g w0) T → T ∈ L
theorem bk_L_fr {g : gd_T} {A o : Nat} {w u : wo_T} {L : List Nat} (h7 : u.1 o 7 = w.1 o 7) (h1 : u.1 (o + 1) = w.1 (o + 1)) (h2 : u.2 (o + 2) = w.2 (o + 2)) (h3 : u.2 (o + 3) = w.2 (o + 3)) (h : bk_L g A w o L) : bk_L g A u o L := by
  refine ⟨h7.trans h.1, fun i S hi => ?_, h.2.2⟩
  obtain ⟨a, b, e1, e2, e3, e4⟩ := h.2.1 i S hi
  exact ⟨a, b, by rw [h1]; exact e1, by rw [h2]; exact e2, by rw [h3]; exact e3, e4⟩
section
variable {K : jj_K} {w : wo_T} {A : Nat}
theorem gt_loop {P : wo_T → Prop} {o : Nat} (ho : o = 23 ∨ o = 29) (hgc : gc_ok w) (hA : A < 1024) (k : ∀ u L, gt_F A w o L u → P u) (a2 : Int32) :
    ∀ d t ks rr nx L u, gt_W (gd_m (gc_g w)) ks nx ≤ d → t + d ≤ 2048 → gt_I A w o ks rr nx L u → jj_J K mX0_gather (jj_Rv P) 54 [(0, .ref o), (1, .ref 1), (2, .int a2), (3, .int (nI ks.length)), (4, .int (nI t))] [] u := by
  have hok := hgc.1
  have hm := gd_m_le hok
  intro d
  induction d with
  | zero =>
    intro t ks rr nx L u hW _ _
    have := gt_W_pos (gd_m (gc_g w)) ks nx
    omega
  | succ d ih =>
    intro t ks rr nx L u hW ht hI
    obtain ⟨hfr, hfld, hB, hL, hN, hbk, hcom, hdis⟩ := hI
    obtain ⟨a1, a2', a3, a4, a5, a6, a7, a8, a9⟩ := tb_top hL
    obtain ⟨n1, n2⟩ := gt_N_top hN
    have hk10 : ∀ k, k ∈ ks → k < 10 := fun k h => Nat.lt_of_lt_of_le (a6 k h) hm
    have hsort := tb_sorted hL
    have hlt : ∀ j, j ∈ ks → j < nx := gt_N_lt hN (fun k l e => hsort [] k l e)
    have hsm : tb_s ks < 2 ^ nx := tb_s_ltm ks (by omega) hlt
    have hgu : gc_g u = gc_g w := gc_g_eq (fun b hb => hfr.1 b (by simp; omega))
    have hgcu : gc_ok u := gc_ok_eq (fun b hb => hfr.1 b (by simp; omega)) hgc
    apply vc_X0_gather_54 P o ho
    rw [nI_clamp (n := ks.length) (by omega), n1, hB.2]
    refine ⟨fun q => absurd q (nI_ge (b := 2048) (by omega) (by decide)), fun _ => ⟨fun q => absurd q (nI_pos (by omega)), fun _ => ⟨nn_inn (by omega) (by decide), fun x3 e3 => ?_⟩⟩⟩
    subst e3
    rw [nI_ltI (by omega) (by omega)]
    refine ⟨fun hc => ⟨nn_inn (by omega) (by decide), ?_⟩, fun hc => ?_⟩
    · -- a column is tried
      have hc10 : nx < 10 := by omega
      simp only [nn_ad1]
      have hWt := gt_W_try hc ks
      generalize hu1 : wo_i u (o + 5) ks.length (nI (nx + 1)) = u1
      have f1 : wo_fr (gt_is o) (gt_ls o) w u1 := by rw [← hu1]; exact wo_fr_i hfr (by simp) _ _
      have fne : ∀ b, b ≠ o + 5 → u1.1 b = u.1 b := fun b hb => by rw [← hu1]; exact wo_i_ne b hb
      have f2 : u1.2 = u.2 := by rw [← hu1]; rfl
      have hB1 : tb_B (gc_g w) u1 := ⟨by rw [fne 8 (by omega)]; exact hB.1, by rw [fne 8 (by omega)]; exact hB.2⟩
      have hL1 : tb_L (gc_g w) A u1 ks rr := tb_L_fr (fun j _ => ⟨by rw [fne 18 (by omega)], by rw [fne 19 (by omega)]⟩) (fun j _ => ⟨by rw [fne 20 (by omega)], by rw [f2], by rw [f2]⟩) hL
      have hN1 : gt_N (gc_g w) u1 o ks (nx + 1) := gt_N_set (by omega) (Nat.le_succ nx) (fun j hj => by rw [← hu1]; exact wo_i_nk (by omega)) (by rw [← hu1]; exact wo_i_eq) hN
      have hbk1 : bk_L (gc_g w) A u1 o L := bk_L_fr (by rw [fne o (by omega)]) (fne _ (by omega)) (by rw [f2]) (by rw [f2]) hbk
      have hfld1 : u1.1 o 8 = -1 ∧ u1.1 o 10 = -1 ∧ u1.1 o 9 = w.1 o 9 := by rw [fne o (by omega)]; exact hfld
      have hcs : tb_s (nx :: ks) = tb_s ks + 2 ^ nx := tb_s_cons hk10 hc10 hlt
      have hk10' : ∀ k, k ∈ nx :: ks → k < 10 := fun k h => by
        rcases List.mem_cons.mp h with rfl | h
        · exact hc10
        · exact hk10 k h
      have hgu1 : gc_g u1 = gc_g w := gc_g_eq (fun b hb => f1.1 b (by simp; omega))
      -- a set that is still to come, and has this column
      have hwith : ∀ T, T < 2 ^ gd_m (gc_g w) → gd_sub T A → gd_val (gc_g w) T → (T ∈ L ∨ gt_R ks (nx + 1) T) ∨ (T.testBit nx = true ∧ T % 2 ^ nx = tb_s ks) := by
        intro T h1 h2 h3
        rcases hcom T h1 h2 h3 with h | h
        · exact Or.inl (Or.inl h)
        · rcases gt_split h with h | h
          · exact Or.inl (Or.inr h)
          · exact Or.inr h
      refine c_enter hok hB1 hL1 nx hlt hc (fun r u2 hf2 hL2 => ?_) (fun hz => ?_)
      · refine ⟨fun _ => ?_, fun q => absurd q (by decide)⟩
        have h7 : ks.length < 7 := hL2.2.2.2.2.2.1
        have f3 : wo_fr (gt_is o) (gt_ls o) w u2 := wo_fr_tr f1 (wo_fr_up hf2 (fun b hb => by simp at hb ⊢; omega) (fun b hb => by simp at hb ⊢; omega))
        have hB2 : tb_B (gc_g w) u2 := ⟨by rw [hf2.1 8 (by simp)]; exact hB1.1, by rw [hf2.1 8 (by simp)]; exact hB1.2⟩
        have hgu2 : gc_g u2 = gc_g w := gc_g_eq (fun b hb => f3.1 b (by simp; omega))
        have hgcu2 : gc_ok u2 := gc_ok_eq (fun b hb => f3.1 b (by simp; omega)) hgc
        have hbk2 : bk_L (gc_g w) A u2 o L := bk_L_fr (by rw [hf2.1 o (by simp; omega)]) (hf2.1 _ (by simp; omega)) (hf2.2 _ (by simp; omega)) (hf2.2 _ (by simp; omega)) hbk1
        have hfld2 : u2.1 o 8 = -1 ∧ u2.1 o 10 = -1 ∧ u2.1 o 9 = w.1 o 9 := by rw [hf2.1 o (by simp; omega)]; exact hfld1
        have hN2 : gt_N (gc_g w) u2 o ks (nx + 1) := gt_N_fr (fun j _ => by rw [hf2.1 (o + 5) (by simp; omega)]) hN1
        have hL2' : tb_L (gc_g w) A u2 ks rr := hL2.1
        obtain ⟨b1, b2, b3, b4, b5, b6, b7, b8, b9⟩ := tb_top hL2
        refine c_bears (ks := nx :: ks) (rr := r :: rr) hok hB2 hL2 (fun hbear => ?_) (fun r' hr' hn' hnz => ?_)
        · -- it bears
          refine ⟨fun q => absurd q (by decide), fun _ => ?_⟩
          have hnotL : tb_s (nx :: ks) ∉ L := fun hin => hdis _ hin (gt_R_hd (by rw [hcs, Nat.add_mod_right, Nat.mod_eq_of_lt hsm]) (by rw [hcs]; have := Nat.two_pow_pos nx; omega))
          have hkeep : jj_Cv K mX0_keep [.ref o, .ref 1, .int (nI (nx :: ks).length)] u2 (fun w12 => jj_J K mX0_gather (jj_Rv P) 54 [(0, .ref o), (1, .ref 1), (2, .int a2), (3, .int (nI ks.length)), (4, .int (nI (t + 1)))] [] w12) := by
            refine c_keep (A := A) (L := L) ho hgcu2 (by rw [hgu2]; exact hB2) (by rw [hgu2]; exact hL2) (by rw [hgu2]; exact hbear) (by rw [hgu2]; exact hbk2) hnotL (fun u3 L' hf3 hfo hbk3 hcase => ?_)
            rw [hgu2] at hbk3 hcase
            have f4 : wo_fr (gt_is o) (gt_ls o) w u3 := wo_fr_tr f3 (wo_fr_up hf3 (fun b hb => by simp at hb ⊢; omega) (fun b hb => by simp at hb ⊢; omega))
            have hN3 : gt_N (gc_g w) u3 o ks (nx + 1) := gt_N_fr (fun j _ => by rw [hf3.1 (o + 5) (by simp)]) hN2
            have hL3 : tb_L (gc_g w) A u3 ks rr := tb_L_fr (fun j _ => ⟨by rw [hf3.1 18 (by simp; omega)], by rw [hf3.1 19 (by simp; omega)]⟩) (fun j hj => ⟨by rw [hf3.1 20 (by simp; omega)], by rw [hf3.2 21 (by simp; omega)], by rw [hf3.2 (10 + j) (by simp; omega)]⟩) hL2'
            refine ih (t + 1) ks rr (nx + 1) L' u3 (by omega) (by omega) ⟨f4, ⟨by rw [hfo 8 (by decide)]; exact hfld2.1, by rw [hfo 10 (by decide)]; exact hfld2.2.1, by rw [hfo 9 (by decide)]; exact hfld2.2.2⟩, ⟨by rw [hf3.1 8 (by simp; omega)]; exact hB2.1, by rw [hf3.1 8 (by simp; omega)]; exact hB2.2⟩, hL3, hN3, hbk3, fun T h1 h2 h3 => ?_, fun T hT hR => ?_⟩
            · rcases hwith T h1 h2 h3 with (h | h) | ⟨hb, hmod⟩
              · refine Or.inl ?_
                rcases hcase with e | ⟨e, -⟩
                · rw [e]; exact List.mem_append_left _ h
                · rw [e]; exact h
              · exact Or.inr h
              · have hsub := gt_sub hk10 hc10 hb hmod
                -- T is the set itself
                obtain ⟨qs, hql, hs0⟩ := tb_zero b8 hbear
                have hs : ∀ v, v < 10 → tb_p (gc_g w) A (nx :: ks) (r :: rr) * gd_rhs (gc_g w) v = xb_l qs ((nx :: ks).map (tb_v (gc_g w) A)) v := fun v hv => by
                  have := hs0 v hv
                  simpa [tb_v] using this
                have hsol := tb_sol hok b9 b6 b4 hql hs
                have hTeq : T = tb_s (nx :: ks) := by
                  apply Nat.eq_of_testBit_eq
                  intro j
                  cases hj : (tb_s (nx :: ks)).testBit j with
                  | true => exact hsub j hj
                  | false =>
                    cases hj2 : T.testBit j with
                    | false => rfl
                    | true =>
                      exfalso
                      obtain ⟨hi, p', q', hp', hs', hn'⟩ := h3
                      have e := gd_same hi (⟨fun x hx => hsub x (hsol.1 x hx), hsol.2⟩ : gd_sol (gc_g w) T _ _) hs' j
                      have hq0 : tb_q (nx :: ks) qs j = 0 := by
                        rcases Classical.em (tb_q (nx :: ks) qs j = 0) with h | h
                        · exact h
                        · have := hsol.1 j h
                          rw [hj] at this; cases this
                      rw [hq0, Int.mul_zero] at e
                      rcases Int.mul_eq_zero.mp e.symm with h | h
                      · exact b4 h
                      · exact hn' j hj2 h
                refine Or.inl ?_
                rcases hcase with e | ⟨e, hnv⟩
                · rw [e, hTeq]; exact List.mem_append_right _ (by simp)
                · exact absurd (hTeq ▸ h3) hnv
            · have hTL : T ∈ L ∨ T = tb_s (nx :: ks) := by
                rcases hcase with e | ⟨e, -⟩
                · rw [e] at hT
                  rcases List.mem_append.mp hT with h | h
                  · exact Or.inl h
                  · exact Or.inr (by simpa using h)
                · rw [e] at hT; exact Or.inl hT
              rcases hTL with h | h
              · exact hdis T h (gt_mono hsm hR)
              · subst h
                rcases gt_tail hk10 hsort hR with ⟨h1, -⟩ | ⟨j, hj, hb⟩
                · have : tb_s (nx :: ks) % 2 ^ (nx + 1) = tb_s (nx :: ks) := Nat.mod_eq_of_lt (by rw [hcs, Nat.pow_succ]; omega)
                  rw [this, hcs] at h1
                  have := Nat.two_pow_pos nx
                  omega
                · rw [tb_s_tb _ hk10'] at hb
                  simp [hj] at hb
          exact hkeep
        · -- it doesn't bear: one deeper
          refine ⟨fun _ => ⟨nn_inn (by omega) (by decide), ?_⟩, fun q => absurd rfl q⟩
          rw [nI_clamp (n := ks.length + 1) (by omega)]
          have f4 : wo_fr (gt_is o) (gt_ls o) w (wo_i u2 (o + 5) (ks.length + 1) (nI (nx + 1))) := wo_fr_i f3 (by simp) _ _
          have fn2 : ∀ b, b ≠ o + 5 → (wo_i u2 (o + 5) (ks.length + 1) (nI (nx + 1))).1 b = u2.1 b := fun b hb => wo_i_ne b hb
          refine ih (t + 1) (nx :: ks) (r :: rr) (nx + 1) L _ ?_ (by omega) ⟨f4, ?_, ⟨by rw [fn2 8 (by omega)]; exact hB2.1, by rw [fn2 8 (by omega)]; exact hB2.2⟩, tb_L_fr (w := u2) (fun j _ => ⟨by rw [fn2 18 (by omega)], by rw [fn2 19 (by omega)]⟩) (fun j _ => ⟨by rw [fn2 20 (by omega)], rfl, rfl⟩) hL2, ⟨wo_i_eq, by omega, Nat.lt_succ_self _, gt_N_fr (w := u2) (fun j hj => wo_i_nk (by omega)) hN2⟩, bk_L_fr (w := u2) (by rw [fn2 o (by omega)]) (fn2 _ (by omega)) rfl rfl hbk2, fun T h1 h2 h3 => ?_, fun T hT hR => ?_⟩
          · have e : gt_W (gd_m (gc_g w)) (nx :: ks) (nx + 1) = 2 ^ (gd_m (gc_g w) - (nx + 1) + 1) - 1 + gt_W (gd_m (gc_g w)) ks (nx + 1) := rfl
            omega
          · rw [fn2 o (by omega)]; exact hfld2
          · rcases hwith T h1 h2 h3 with (h | h) | ⟨hb, hmod⟩
            · exact Or.inl h
            · exact Or.inr (Or.inr h)
            · refine Or.inr (Or.inl ⟨?_, fun e => ?_⟩)
              · rw [hcs, ← hmod]
                apply Nat.eq_of_testBit_eq
                intro j
                rw [gd_tb_add (Nat.mod_lt _ (Nat.two_pow_pos nx)), Nat.testBit_mod_two_pow, Nat.testBit_mod_two_pow]
                by_cases e : j = nx
                · subst e; simp [hb]
                · by_cases h4 : j < nx
                  · simp [h4, Nat.lt_succ_of_lt h4, e]
                  · have : ¬ j < nx + 1 := by omega
                    simp [h4, this, e]
              · obtain ⟨-, p', q', hp', hs', -⟩ := h3
                rw [e] at hs'
                exact hp' (tb_notsol hok b9 b6 b4 hr' hnz hs')
          · refine hdis T hT ?_
            rcases hR with ⟨h1, h2⟩ | h1
            · refine gt_R_hd ?_ (fun e => ?_)
              · have e : T % 2 ^ nx = T % 2 ^ (nx + 1) % 2 ^ nx := by
                  rw [Nat.mod_mod_of_dvd _ (Nat.pow_dvd_pow 2 (Nat.le_succ nx))]
                rw [e, h1, hcs, Nat.add_mod_right, Nat.mod_eq_of_lt hsm]
              · have : T % 2 ^ (nx + 1) = T := Nat.mod_eq_of_lt (by rw [e, Nat.pow_succ]; omega)
                rw [this] at h1
                exact h2 h1
            · exact gt_mono hsm h1
      · -- it depends
        refine ⟨fun q => absurd rfl q, fun _ => ih (t + 1) ks rr (nx + 1) L u1 (by omega) (by omega) ⟨f1, hfld1, hB1, hL1, hN1, hbk1, fun T h1 h2 h3 => ?_, fun T hT hR => hdis T hT (gt_mono hsm hR)⟩⟩
        rcases hwith T h1 h2 h3 with h | ⟨hb, hmod⟩
        · exact h
        · exfalso
          exact tb_dep hok a9 a6 a4 a8 hc (h2 nx hb) (fun q => absurd (hlt nx q) (Nat.lt_irrefl _)) hz (gt_sub hk10 hc10 hb hmod) h3.1
    · -- this level is done
      have hnx : nx = gd_m (gc_g w) := by omega
      have hnot : ∀ T, T < 2 ^ gd_m (gc_g w) → ¬ (T % 2 ^ nx = tb_s ks ∧ T ≠ tb_s ks) := fun T hT h => by
        rw [hnx, Nat.mod_eq_of_lt hT] at h
        exact h.2 h.1
      rw [nn_ad1]
      cases ks with
      | nil =>
        have hend : jj_J K mX0_gather (jj_Rv P) 54 [(0, .ref o), (1, .ref 1), (2, .int a2), (3, .int (-1)), (4, .int (nI (t + 1)))] [] u := by
          have hP : P u := k u L ⟨hfr, hfld, hbk, fun T h1 h2 h3 => (hcom T h1 h2 h3).elim id (fun h => absurd h (hnot T h1))⟩
          apply vc_X0_gather_54 P o ho
          exact ⟨fun _ => hP, fun _ => ⟨fun _ => hP, fun q => absurd (by decide) q⟩⟩
        exact hend
      | cons c ks =>
        cases rr with
        | nil => cases hL
        | cons r rr =>
          rw [show (c :: ks).length = ks.length + 1 from rfl, pk_m1]
          have e : gt_W (gd_m (gc_g w)) (c :: ks) nx = 2 ^ (gd_m (gc_g w) - nx + 1) - 1 + gt_W (gd_m (gc_g w)) ks (c + 1) := rfl
          have p := Nat.one_le_two_pow (n := gd_m (gc_g w) - nx)
          have p2 : 2 ^ (gd_m (gc_g w) - nx + 1) = 2 * 2 ^ (gd_m (gc_g w) - nx) := by rw [Nat.pow_succ]; omega
          refine ih (t + 1) ks rr (c + 1) L u (by omega) (by omega) ⟨hfr, hfld, hB, hL.1, hN.2.2.2, hbk, fun T h1 h2 h3 => ?_, fun T hT hR => hdis T hT (Or.inr hR)⟩
          rcases hcom T h1 h2 h3 with h | h
          · exact Or.inl h
          · rcases h with h | h
            · exact absurd h (hnot T h1)
            · exact Or.inr h
theorem c_gather {P : wo_T → Prop} {o : Nat} (ho : o = 23 ∨ o = 29) (hgc : gc_ok w) (hA : A < 1024) (k : ∀ u L, gt_F A w o L u → P u) : jj_Cv K mX0_gather [.ref o, .ref 1, .int (nI A)] w P := by
  have hok := hgc.1
  have hm := gd_m_le hok
  apply en_X0_gather P o ho
  generalize hu0 : wo_i (wo_i (wo_i w o 7 0) o 8 (-1)) o 10 (-1) = u0
  have f0 : wo_fr (gt_is o) (gt_ls o) w u0 := by rw [← hu0]; exact wo_fr_i (wo_fr_i (wo_fr_i (wo_fr_rf _ _ w) (by simp) _ _) (by simp) _ _) (by simp) _ _
  have h07 : u0.1 o 7 = nI 0 := by rw [← hu0, wo_i_nk (by omega), wo_i_nk (by omega), wo_i_eq]; rfl
  have hfl0 : u0.1 o 8 = -1 ∧ u0.1 o 10 = -1 ∧ u0.1 o 9 = w.1 o 9 := by
    rw [← hu0]
    refine ⟨by rw [wo_i_nk (by omega), wo_i_eq], by rw [wo_i_eq], by rw [wo_i_nk (by omega), wo_i_nk (by omega), wo_i_nk (by omega)]⟩
  have hg0 : gc_g u0 = gc_g w := gc_g_eq (fun b hb => f0.1 b (by simp; omega))
  have hgc0 : gc_ok u0 := gc_ok_eq (fun b hb => f0.1 b (by simp; omega)) hgc
  refine c_tlay hgc0 A hA (fun u1 hf1 hB1 hL1 => ?_)
  rw [hg0] at hB1 hL1
  have f1 : wo_fr (gt_is o) (gt_ls o) w u1 := wo_fr_tr f0 (wo_fr_up hf1 (fun b hb => by simp at hb ⊢; omega) (fun b hb => by simp at hb ⊢; omega))
  have hfl1 : u1.1 o 8 = -1 ∧ u1.1 o 10 = -1 ∧ u1.1 o 9 = w.1 o 9 := by rw [hf1.1 o (by simp; omega)]; exact hfl0
  have hg1 : gc_g u1 = gc_g w := gc_g_eq (fun b hb => f1.1 b (by simp; omega))
  have hgc1 : gc_ok u1 := gc_ok_eq (fun b hb => f1.1 b (by simp; omega)) hgc
  have hbk1 : bk_L (gc_g w) A u1 o [] := ⟨by rw [hf1.1 o (by simp; omega)]; exact h07, fun i S hi => (by simp at hi), fun S hS => (by cases hS), List.nodup_nil⟩
  obtain ⟨b1, b2, b3, b4, b5, b6, b7, b8, b9⟩ := tb_top hL1
  have hs0 : tb_s [] = 0 := by decide
  have hbc := c_bears (K := K) (P := fun v3 w4 => (v3 = 0 → vp_in 0 8 ∧ (jj_J K mX0_gather (jj_Rv P) 54 [(0, .ref o), (1, .ref 1), (2, .int (nI A)), (3, .int 0), (4, .int 0)] [] (wo_i w4 (o + 5) 0 0))) ∧ (¬ v3 = 0 → jj_Cv K mX0_keep [.ref o, .ref 1, .int 0] w4 (fun w7 => P w7))) hok hB1 hL1 (fun hbear => ?_) (fun r hr hn hnz => ?_)
  · exact hbc
  · refine ⟨fun q => absurd q (by decide), fun _ => ?_⟩
    have hk := c_keep (K := K) (P := P) (A := A) (ks := []) (rr := []) (L := []) ho hgc1 (by rw [hg1]; exact hB1) (by rw [hg1]; exact hL1) (by rw [hg1]; exact hbear) (by rw [hg1]; exact hbk1) (by simp) (fun u3 L' hf3 hfo hbk3 hcase => ?_)
    · exact hk
    · rw [hg1] at hbk3 hcase
      have hval : gd_val (gc_g w) 0 := by
        obtain ⟨qs, hql, hs⟩ := tb_zero b8 hbear
        refine ⟨hs0 ▸ tb_indep hok b9 b6 b4, 1, fun _ => 0, by decide, ⟨fun k hk => absurd rfl hk, fun v hv => ?_⟩, fun k hk => by simp at hk⟩
        have h1 := hs v hv
        have h2 : tb_p (gc_g w) A [] [] = 1 := xb_p00 10
        rw [h2] at h1
        have h3 : tb_v (gc_g w) A (gd_m (gc_g w)) v = gd_rhs (gc_g w) v := by simp [tb_v]
        rw [h3] at h1
        rw [h1]
        have h4 : xb_l qs (([] : List Nat).map (tb_v (gc_g w) A)) v = 0 := by cases qs <;> simp [xb_l]
        rw [h4]
        exact gd_s_z 10 (fun k _ => by simp)
      have hL0 : L' = [0] := by
        rcases hcase with e | ⟨-, hn⟩
        · rw [e, hs0]; rfl
        · exact absurd (hs0 ▸ hval) hn
      refine k u3 L' ⟨wo_fr_tr f1 (wo_fr_up hf3 (fun b hb => by simp at hb ⊢; omega) (fun b hb => by simp at hb ⊢; omega)), ⟨by rw [hfo 8 (by decide)]; exact hfl1.1, by rw [hfo 10 (by decide)]; exact hfl1.2.1, by rw [hfo 9 (by decide)]; exact hfl1.2.2⟩, hbk3, fun T h1 h2 h3 => ?_⟩
      rw [hL0]
      have := gd_anti hval h3 (fun k hk => by simp at hk)
      simp [← this]
  · refine ⟨fun _ => ⟨nn_inn (i := 0) (by decide) (by decide), ?_⟩, fun q => absurd rfl q⟩
    have f2 : wo_fr (gt_is o) (gt_ls o) w (wo_i u1 (o + 5) 0 0) := wo_fr_i f1 (by simp) _ _
    have fn2 : ∀ b, b ≠ o + 5 → (wo_i u1 (o + 5) 0 0).1 b = u1.1 b := fun b hb => wo_i_ne b hb
    refine gt_loop ho hgc hA k (nI A) 2047 0 [] [] 0 [] _ ?_ (by omega) ⟨f2, ?_, ⟨by rw [fn2 8 (by omega)]; exact hB1.1, by rw [fn2 8 (by omega)]; exact hB1.2⟩, tb_L_fr (w := u1) (fun j _ => ⟨by rw [fn2 18 (by omega)], by rw [fn2 19 (by omega)]⟩) (fun j _ => ⟨by rw [fn2 20 (by omega)], rfl, rfl⟩) hL1, ⟨wo_i_eq, Nat.zero_le _⟩, bk_L_fr (w := u1) (by rw [fn2 o (by omega)]) (fn2 _ (by omega)) rfl rfl hbk1, fun T h1 h2 h3 => Or.inr ⟨?_, fun e => ?_⟩, fun T hT => by cases hT⟩
    · have : ∀ m : Nat, m ≤ 10 → gt_W m [] 0 ≤ 2047 := by decide
      exact this _ hm
    · rw [fn2 o (by omega)]; exact hfl1
    · rw [hs0, Nat.pow_zero, Nat.mod_one]
    · obtain ⟨-, p', q', hp', hs', -⟩ := h3
      rw [e] at hs'
      exact hp' (tb_notsol hok b9 b6 b4 hr hnz hs')
end
