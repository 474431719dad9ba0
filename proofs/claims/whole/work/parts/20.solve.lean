/-! ===== Tableau.solve ===== -/
def tb_S2 (u : wo_T) (n : Nat) : List Int → Prop
  | [] => True
  | q :: qs => u.2 22 (n + qs.length) = nn_l q ∧ tb_S2 u n qs
theorem tb_S2_snoc {u : wo_T} {n : Nat} {q : Int} : ∀ {cs : List Int}, tb_S2 u (n + 1) cs → u.2 22 n = nn_l q → tb_S2 u n (cs ++ [q])
  | [], _, h => ⟨h, trivial⟩
  | c :: cs, h1, h2 => ⟨by
      have e : n + (cs ++ [q]).length = n + 1 + cs.length := by simp; omega
      show u.2 22 (n + (cs ++ [q]).length) = _
      rw [e]
      exact h1.1, tb_S2_snoc h1.2 h2⟩
theorem tb_S2_mid {u : wo_T} {n : Nat} {y : Int} {c2 : List Int} : ∀ {c1 : List Int}, tb_S2 u n (c1 ++ y :: c2) → u.2 22 (n + c2.length) = nn_l y
  | [], h => h.1
  | _ :: c1, h => tb_S2_mid (c1 := c1) h.2
theorem tb_S2_fr {u v : wo_T} {n : Nat} : ∀ {cs : List Int}, (∀ j, n ≤ j → v.2 22 j = u.2 22 j) → tb_S2 u n cs → tb_S2 v n cs
  | [], _, _ => trivial
  | _ :: cs, h, h1 => ⟨by rw [h _ (by omega)]; exact h1.1, tb_S2_fr h h1.2⟩
theorem tb_suf {g : gd_T} {A : Nat} {w : wo_T} {ks rr : List Nat} : ∀ {as bs : List Nat}, as.length = bs.length → tb_L g A w (as ++ ks) (bs ++ rr) → tb_L g A w ks rr ∧ ∀ a, a ∈ as → ∀ k, k ∈ ks → k < a
  | [], [], _, h => ⟨h, fun a ha => by cases ha⟩
  | a :: as, b :: bs, hl, h => by
    obtain ⟨h1, h2, h3, -⟩ := h
    obtain ⟨i1, i2⟩ := tb_suf (by simpa using hl) h1
    refine ⟨i1, fun x hx k hk => ?_⟩
    rcases List.mem_cons.mp hx with rfl | hx
    · exact h3 k (List.mem_append_right _ hk)
    · exact i2 x hx k hk
  | [], _ :: _, hl, _ => by simp at hl
  | _ :: _, [], hl, _ => by simp at hl
section
variable {K : jj_K} {w : wo_T} {g : gd_T} {A : Nat} {ks rr : List Nat}
theorem tb_hd {k r : Nat} (h : tb_L g A w (k :: ks) (r :: rr)) : w.1 18 ks.length = nI k ∧ w.1 19 ks.length = nI r ∧ k < gd_m g ∧ r < tb_r g ∧ r ∉ rr ∧ tb_p g A (k :: ks) (r :: rr) ≠ 0 := by
  obtain ⟨-, h2, -, h4, h5, -, h7, h8, -, -, h11, -⟩ := h
  exact ⟨h7, h8, h2, h4, h5, h11⟩
theorem ts_in {P : wo_T → Prop} (hok : gd_ok g) (hB : tb_B g w) (ℓ : Nat) (hℓ : ℓ ≤ 7) (p : Int) {k r : Nat} {ks rr as bs : List Nat} {cs : List Int} (hl : as.length = bs.length) (hlc : cs.length = as.length) (hL : tb_L g A w (as ++ k :: ks) (bs ++ r :: rr)) (hlen : (as ++ k :: ks).length = ℓ)
    (u : wo_T) (hfr : wo_fr [] [22] w u) (hS : tb_S2 u (ks.length + 1) cs)
    (kk : jj_J K mX5_solve (jj_Rv P) 49 [(0, .ref 8), (1, .int (nI ℓ)), (2, .int (nI ks.length)), (3, .ref (10 + 1 * ks.length)), (4, .int (nI (r * 11))), (5, .long (nn_l (p * tb_p g A (gd_m g :: ks) (r :: rr) - xb_hs 10 ((r :: rr).map (tb_f g)) (ks.map (tb_v g A)) cs (as.map (tb_v g A))))), (7, .int (nI ℓ))] [] u) :
    ∀ (n : Nat) (a1 a2 : List Nat) (c1 c2 : List Int), a1.length = n → c1.length = n → as = a1 ++ a2 → cs = c1 ++ c2 →
      jj_J K mX5_solve (jj_Rv P) 49 [(0, .ref 8), (1, .int (nI ℓ)), (2, .int (nI ks.length)), (3, .ref (10 + 1 * ks.length)), (4, .int (nI (r * 11))), (5, .long (nn_l (p * tb_p g A (gd_m g :: ks) (r :: rr) - xb_hs 10 ((r :: rr).map (tb_f g)) (ks.map (tb_v g A)) c2 (a2.map (tb_v g A))))), (7, .int (nI (ks.length + 1 + a2.length)))] [] u := by
  have hm := gd_m_le hok
  have hr10 := tb_r_le g
  obtain ⟨s1, s2⟩ := tb_suf hl hL
  obtain ⟨t1, t2, t3, t4, t5, t6⟩ := tb_hd s1
  have hLk : tb_L g A w ks rr := s1.1
  have hlen2 : as.length + (ks.length + 1) = ℓ := by simpa using hlen
  intro n
  induction n with
  | zero =>
    intro a1 a2 c1 c2 h1 h2 h3 h4
    have e1 : a1 = [] := List.length_eq_zero_iff.mp h1
    have e2 : c1 = [] := List.length_eq_zero_iff.mp h2
    subst e1; subst e2
    simp only [List.nil_append] at h3 h4
    subst h3; subst h4
    rw [show ks.length + 1 + as.length = ℓ by omega]
    exact kk
  | succ n ih =>
    intro a1 a2 c1 c2 h1 h2 h3 h4
    rcases List.eq_nil_or_concat a1 with e1 | ⟨b1, x, e1⟩
    · rw [e1] at h1; simp at h1
    · rcases List.eq_nil_or_concat c1 with e2 | ⟨d1, y, e2⟩
      · rw [e2] at h2; simp at h2
      · rw [List.concat_eq_append] at e1 e2
        subst e1; subst e2
        have hjl : ks.length + 1 + a2.length < ℓ := by
          rw [h3] at hlen2; simp at hlen2; omega
        have ha2 : a2.length = c2.length := by
          have q1 := congrArg List.length h3
          have q2 := congrArg List.length h4
          simp at q1 q2 h1 h2; omega
        -- the column at this place
        have hx : w.1 18 (ks.length + 1 + a2.length) = nI x ∧ x < gd_m g ∧ ∀ j, j ∈ ks → j < x := by
          have hL2 : tb_L g A w (b1 ++ x :: (a2 ++ k :: ks)) (bs ++ r :: rr) := by
            rw [h3] at hL; simpa using hL
          have hbl : b1.length + (1 + a2.length) = bs.length := by
            rw [h3] at hl; simp at hl; omega
          have hsp : bs ++ r :: rr = bs.take b1.length ++ (bs.drop b1.length ++ r :: rr) := by
            rw [← List.append_assoc, List.take_append_drop]
          rw [hsp] at hL2
          obtain ⟨z1, z2⟩ := tb_suf (by rw [List.length_take]; omega) hL2
          cases hd : bs.drop b1.length with
          | nil => have := congrArg List.length hd; simp at this; omega
          | cons b0 bt =>
            rw [hd] at z1
            have z3 := tb_hd z1
            refine ⟨?_, z3.2.2.1, fun j hj => ?_⟩
            · have := z3.1
              simp only [List.length_append, List.length_cons] at this
              rw [show a2.length + (ks.length + 1) = ks.length + 1 + a2.length by omega] at this
              exact this
            · exact s2 x (by rw [h3]; simp) j (List.mem_cons_of_mem _ hj)
        have hy : u.2 22 (ks.length + 1 + a2.length) = nn_l y := by
          rw [ha2]
          rw [h4] at hS
          simp only [List.append_assoc, List.singleton_append] at hS
          exact tb_S2_mid hS
        apply vc_X5_solve_49 P _ _ _ (wo_l10 _ (by omega))
        simp only [hfr.1 18 (by simp)]
        rw [nI_clamp (n := ks.length + 1 + a2.length) (by omega), hx.1, nI_add, nI_clamp (n := r * 11 + x) (by omega), hy, hfr.2 (10 + 1 * ks.length) (by simp; omega), (tb_cell hok hLk hx.2.2 (Nat.le_of_lt hx.2.1) t4 t5).1]
        refine ⟨fun q => absurd q (nI_ge hjl (by omega)), fun _ => ⟨nn_inn (by omega) (by decide), nn_inn (by omega) (by decide), nn_inn (by omega) (by decide), fun x4 e4 => ?_⟩⟩
        rw [nn_l_mul, nn_l_sub] at e4
        subst e4
        have hnext := ih b1 (x :: a2) d1 (y :: c2) (by simpa using h1) (by simpa using h2) (by rw [h3]; simp) (by rw [h4]; simp)
        have ev : p * tb_p g A (gd_m g :: ks) (r :: rr) - xb_hs 10 ((r :: rr).map (tb_f g)) (ks.map (tb_v g A)) c2 (a2.map (tb_v g A)) - tb_p g A (x :: ks) (r :: rr) * y = p * tb_p g A (gd_m g :: ks) (r :: rr) - xb_hs 10 ((r :: rr).map (tb_f g)) (ks.map (tb_v g A)) (y :: c2) ((x :: a2).map (tb_v g A)) := by
          have e5 : xb_hs 10 ((r :: rr).map (tb_f g)) (ks.map (tb_v g A)) (y :: c2) ((x :: a2).map (tb_v g A)) = y * tb_p g A (x :: ks) (r :: rr) + xb_hs 10 ((r :: rr).map (tb_f g)) (ks.map (tb_v g A)) c2 (a2.map (tb_v g A)) := rfl
          rw [e5, Int.mul_comm y]; omega
        rw [ev, nn_ad1]
        rw [show ks.length + 1 + (x :: a2).length = ks.length + 1 + a2.length + 1 by simp; omega] at hnext
        exact hnext
/-- what is solved: of each column how often it is taken -/
theorem c_tsolve {P : wo_T → Prop} (hok : gd_ok g) (hB : tb_B g w) (hL : tb_L g A w ks rr) (qs : List Int) (hq : qs.length = ks.length) (hs : ∀ v, v < 10 → tb_p g A ks rr * gd_rhs g v = xb_l qs (ks.map (tb_v g A)) v)
    (k : ∀ u, wo_fr [] [22] w u → tb_S2 u 0 qs → P u) : jj_Cv K mX5_solve [.ref 8, .int (nI ks.length)] w P := by
  obtain ⟨a1, a2, a3, a4, a5, a6, a7, a8, a9⟩ := tb_top hL
  have hm := gd_m_le hok
  have hr10 := tb_r_le g
  generalize hp : tb_p g A ks rr = p at *
  generalize hℓ : ks.length = ℓ at *
  have outer : ∀ (k2 r2 : List Nat) (q2 : List Int) (as bs : List Nat) (cs : List Int) (u : wo_T), ks = as ++ k2 → rr = bs ++ r2 → qs = cs ++ q2 → as.length = bs.length → cs.length = as.length → k2.length = r2.length → q2.length = k2.length → wo_fr [] [22] w u → tb_S2 u k2.length cs →
      jj_J K mX5_solve (jj_Rv P) 4 [(0, .ref 8), (1, .int (nI ℓ)), (2, .int (nI k2.length - 1))] [] u := by
    intro k2
    induction k2 with
    | nil =>
      intro r2 q2 as bs cs u e1 e2 e3 l1 l2 l3 l4 hfr hS
      apply vc_X5_solve_4
      refine ⟨fun _ => k u hfr ?_, fun q => absurd (by decide) q⟩
      have : q2 = [] := List.length_eq_zero_iff.mp (by simpa using l4)
      rw [e3, this, List.append_nil]
      exact hS
    | cons k k2 ih =>
      intro r2 q2 as bs cs u e1 e2 e3 l1 l2 l3 l4 hfr hS
      cases r2 with
      | nil => simp at l3
      | cons r r2 =>
        cases q2 with
        | nil => simp at l4
        | cons q q2 =>
          have hL' : tb_L g A w (as ++ k :: k2) (bs ++ r :: r2) := by rw [← e1, ← e2]; exact hL
          obtain ⟨s1, s2⟩ := tb_suf l1 hL'
          obtain ⟨t1, t2, t3, t4, t5, t6⟩ := tb_hd s1
          have hLk : tb_L g A w k2 r2 := s1.1
          have hkl : as.length + (k2.length + 1) = ℓ := by rw [← hℓ, e1]; simp
          have hk2m : ∀ j, j ∈ k2 → j < gd_m g := fun j hj => a6 j (by rw [e1]; simp [hj])
          rw [show (k :: k2).length = k2.length + 1 from rfl, nI_pred]
          apply vc_X5_solve_4
          rw [nI_clamp (n := k2.length) (by omega), hfr.1 19 (by simp), t2, nn_el, hfr.1 8 (by simp), hB.2]
          refine ⟨fun q => absurd q (nI_pos (by omega)), fun _ => ⟨nn_inn (by omega) (by decide), nn_inn (by omega) (by decide), fun x3 e3' => ⟨nn_inn (by omega) (by decide), ?_⟩⟩⟩
          subst e3'
          rw [nI_add, nI_clamp (n := ℓ) (by omega), hfr.2 21 (by simp), a3, nI_clamp (n := r * 11 + gd_m g) (by omega), hfr.2 (10 + 1 * k2.length) (by simp; omega), (tb_cell hok hLk hk2m (Nat.le_refl _) t4 t5).1, nn_l_mul, nn_ad1]
          refine ⟨nn_inn (by omega) (by decide), fun x4 e4 x5 e5 => ?_⟩
          subst e4; subst e5
          -- the step back
          have hback := xb_back 10 ((r :: r2).map (tb_f g)) p (gd_rhs g) (as.map (tb_v g A)) (tb_v g A k) (k2.map (tb_v g A)) cs q q2 (by simpa using l2) (fun v hv => by
            have := hs v hv
            rw [e1, e3, List.map_append, List.map_cons] at this
            exact this)
          have hmv : tb_v g A (gd_m g) = gd_rhs g := by simp [tb_v]
          have hcr := xb_cramer 10 (rr.map (tb_f g)) p (gd_rhs g) (as.map (tb_v g A)) (tb_v g A k) (k2.map (tb_v g A)) cs q q2 (by simpa using l2) (by rw [← hp, e1]; simp [tb_p]) a4 (fun v hv => by
            have := hs v hv
            rw [e1, e3, List.map_append, List.map_cons] at this
            exact this)
          have hqb : -67108864 < q ∧ q < 67108864 := by
            have hb := tb_pbd hok A (gd_m g) (as ++ k2) rr (Nat.le_refl _) (fun j hj => a6 j (by
              rw [e1]
              rcases List.mem_append.mp hj with h | h
              · exact List.mem_append_left _ h
              · exact List.mem_append_right _ (List.mem_cons_of_mem _ h))) (by simp; omega)
            have e6 : tb_p g A (gd_m g :: (as ++ k2)) rr = xb_p 10 (rr.map (tb_f g)) (gd_rhs g :: (as.map (tb_v g A) ++ k2.map (tb_v g A))) := by
              simp [tb_p, hmv]
            rw [e6] at hb
            rcases hcr with h | h <;> omega
          have hpiv := tb_pbd hok A k k2 (r :: r2) (Nat.le_of_lt t3) hk2m (by omega)
          have hmul := xs_mul hqb.1 hqb.2 hpiv.1 hpiv.2
          have e0 : p * tb_p g A (gd_m g :: k2) (r :: r2) = p * tb_p g A (gd_m g :: k2) (r :: r2) - xb_hs 10 ((r :: r2).map (tb_f g)) (k2.map (tb_v g A)) [] (([] : List Nat).map (tb_v g A)) := by simp [xb_hs]
          rw [e0]
          refine ts_in hok hB ℓ (by omega) p l1 l2 hL' (by simp; omega) u hfr hS ?_ as.length as [] cs [] rfl l2 (by simp) (by simp)
          -- the end of the inner loop
          apply vc_X5_solve_49 P _ _ _ (wo_l10 _ (by omega))
          simp only [hfr.1 18 (by simp)]
          rw [nI_clamp (n := k2.length) (by omega), t1, nI_add, nI_clamp (n := r * 11 + k) (by omega), hfr.2 (10 + 1 * k2.length) (by simp; omega), (tb_cell hok hLk (fun j hj => s1.2.2.1 j hj) (Nat.le_of_lt t3) t4 t5).1]
          refine ⟨fun _ => ⟨nn_inn (by omega) (by decide), nn_inn (by omega) (by decide), fun x2 e2' => ?_⟩, fun q => absurd (nI_le (Nat.le_refl _) (by omega)) q⟩
          subst e2'
          have hpL : nn_L (tb_p g A (k :: k2) (r :: r2)) := nn_L_of 67108864 (by decide) hpiv.1 hpiv.2
          rw [nn_l_eq0 hpL]
          refine ⟨fun _ => ⟨t6, nn_inn (by omega) (by decide), ?_⟩, fun q => absurd q t6⟩
          have edv : p * tb_p g A (gd_m g :: k2) (r :: r2) - xb_hs 10 ((r :: r2).map (tb_f g)) (k2.map (tb_v g A)) cs (as.map (tb_v g A)) = tb_p g A (k :: k2) (r :: r2) * q := by
            have e7 : tb_p g A (gd_m g :: k2) (r :: r2) = xb_p 10 ((r :: r2).map (tb_f g)) (gd_rhs g :: k2.map (tb_v g A)) := by simp [tb_p, hmv]
            have e8 : tb_p g A (k :: k2) (r :: r2) = xb_p 10 ((r :: r2).map (tb_f g)) (tb_v g A k :: k2.map (tb_v g A)) := rfl
            rw [e7, e8, ← hback]
            exact Int.mul_comm _ _
          rw [nn_l_exact (c := q) (by rw [Int.mul_comm]; exact nn_L_of _ (by decide) hmul.1 hmul.2) hpL t6 edv]
          have ei : nI k2.length + (-1) = nI k2.length - 1 := by
            rw [Int32.sub_eq_add_neg]
          rw [ei]
          refine ih r2 q2 (as ++ [k]) (bs ++ [r]) (cs ++ [q]) _ (by rw [e1]; simp) (by rw [e2]; simp) (by rw [e3]; simp) (by simpa using l1) (by simpa using l2) (by simpa using l3) (by simpa using l4) (wo_fr_l hfr (by simp) _ _) (tb_S2_snoc (tb_S2_fr (fun j hj => ?_) hS) wo_l_eq)
          rw [wo_l_nk (by omega)]
  apply en_X5_solve
  intro x1 e1
  subst e1
  have h0 := outer ks rr qs [] [] [] w rfl rfl rfl rfl rfl (by omega) (by omega) (wo_fr_rf _ _ _) trivial
  rw [hℓ] at h0
  exact h0
end
