/-! ===== lists of columns and sets of pairs ===== -/
def tb_s (ks : List Nat) : Nat := gd_bits (fun k => decide (k ∈ ks)) 10
theorem tb_s_tb (ks : List Nat) (hk : ∀ k, k ∈ ks → k < 10) (k : Nat) : (tb_s ks).testBit k = decide (k ∈ ks) := by
  unfold tb_s
  rw [gd_bits_tb]
  by_cases h : k < 10
  · simp [h]
  · have : k ∉ ks := fun q => h (hk k q)
    simp [h, this]
theorem tb_s_lt (ks : List Nat) : tb_s ks < 1024 := gd_bits_lt _ 10
theorem tb_s_ltm (ks : List Nat) {m : Nat} (hm : m ≤ 10) (hk : ∀ k, k ∈ ks → k < m) : tb_s ks < 2 ^ m := by
  have hk10 : ∀ k, k ∈ ks → k < 10 := fun k h => Nat.lt_of_lt_of_le (hk k h) hm
  rcases Nat.lt_or_ge (tb_s ks) (2 ^ m) with h | h
  · exact h
  · exfalso
    obtain ⟨i, hi, hb⟩ := Nat.exists_ge_and_testBit_of_ge_two_pow h
    rw [tb_s_tb ks hk10] at hb
    have := hk i (by simpa using hb)
    omega
theorem gd_s_pick {f : Nat → Int} {k : Nat} : ∀ n, k < n → gd_s f n = f k + gd_s (fun j => if j = k then 0 else f j) n
  | 0, h => absurd h (Nat.not_lt_zero _)
  | n + 1, h => by
    simp only [gd_s]
    by_cases e : n = k
    · subst e
      have : gd_s (fun j => if j = n then 0 else f j) n = gd_s f n := gd_s_congr n (fun j hj => if_neg (by omega))
      rw [this]; simp; omega
    · rw [gd_s_pick (k := k) n (by omega)]
      simp [e]; omega
theorem tb_lsum (v : Nat → Nat → Int) (r : Nat) : ∀ (ks : List Nat) (q : Nat → Int) (n : Nat), ks.Nodup → (∀ k, k ∈ ks → k < n) → (∀ k, k ∉ ks → q k = 0) → gd_s (fun k => q k * v k r) n = xb_l (ks.map q) (ks.map v) r
  | [], q, n, _, _, hz => by
    show _ = 0
    exact gd_s_z n (fun k _ => by rw [hz k List.not_mem_nil]; simp)
  | k :: ks, q, n, hd, hl, hz => by
    obtain ⟨h1, h2⟩ := List.nodup_cons.mp hd
    rw [gd_s_pick n (hl k List.mem_cons_self)]
    have ih := tb_lsum v r ks (fun j => if j = k then 0 else q j) n h2 (fun j hj => hl j (List.mem_cons_of_mem _ hj)) (fun j hj => by
      by_cases e : j = k
      · simp [e]
      · simp only [e, if_false]
        exact hz j (fun z => (List.mem_cons.mp z).elim e hj))
    have e1 : ks.map (fun j => if j = k then 0 else q j) = ks.map q := List.map_congr_left (fun j hj => if_neg (fun (e : j = k) => h1 (e ▸ hj)))
    rw [e1] at ih
    show _ = q k * v k r + xb_l (ks.map q) (ks.map v) r
    rw [← ih]
    congr 1
    exact gd_s_congr n (fun j _ => by by_cases e : j = k <;> simp [e])
section
variable {g : gd_T} {A : Nat} {ks rr : List Nat}
/-- chosen columns are allowed -/
theorem tb_allowed (hk : ∀ k, k ∈ ks → k < gd_m g) (hp : tb_p g A ks rr ≠ 0) : ∀ k, k ∈ ks → A.testBit k = true := by
  intro k hk1
  cases hb : A.testBit k with
  | true => rfl
  | false =>
    exfalso
    apply hp
    apply xc_p0
    have hz : ∀ l : List Nat, k ∈ l → (xb_O (l.map (tb_v g A)) : xa_E 10) = xa_z 10 := by
      intro l
      induction l with
      | nil => intro h; cases h
      | cons a l ih =>
        intro h
        show xa_w (tb_v g A a) (xb_O (l.map (tb_v g A))) = _
        rcases List.mem_cons.mp h with rfl | h
        · have e0 : tb_v g A k = fun i => 0 * gd_rhs g i + 0 * gd_rhs g i := by
            funext i; simp [tb_v, Nat.ne_of_lt (hk k hk1), hb]
          rw [e0, xa_w_lin]; simp only [xa_s_0, xa_a_z]
        · rw [ih h, xa_w_z]
    exact hz ks hk1
theorem tb_vcol {k : Nat} (hk : k < gd_m g) (hA : A.testBit k = true) : tb_v g A k = gd_col g k := by
  unfold tb_v
  rw [if_neg (Nat.ne_of_lt hk), if_pos hA]
theorem tb_app (hok : gd_ok g) (hd : ks.Nodup) (hk : ∀ k, k ∈ ks → k < gd_m g) (hA : ∀ k, k ∈ ks → A.testBit k = true) (q : Nat → Int) (hq : gd_in q (tb_s ks)) (r : Nat) : gd_app g q r = xb_l (ks.map q) (ks.map (tb_v g A)) r := by
  have hm := gd_m_le hok
  have hk10 : ∀ k, k ∈ ks → k < 10 := fun k h => Nat.lt_of_lt_of_le (hk k h) hm
  unfold gd_app
  have e : ks.map (tb_v g A) = ks.map (gd_col g) := List.map_congr_left (fun k h => tb_vcol (hk k h) (hA k h))
  rw [e]
  exact tb_lsum (gd_col g) r ks q 10 hd hk10 (fun k hn => by
    rcases Classical.em (q k = 0) with h | h
    · exact h
    · have := hq k h
      rw [tb_s_tb ks hk10] at this
      exact absurd (by simpa using this) hn)
/-- a pivot that isn't 0: independent -/
theorem tb_indep (hok : gd_ok g) (hd : ks.Nodup) (hk : ∀ k, k ∈ ks → k < gd_m g) (hp : tb_p g A ks rr ≠ 0) : gd_ind g (tb_s ks) := by
  intro q hq h0 k
  have hm := gd_m_le hok
  have hk10 : ∀ k, k ∈ ks → k < 10 := fun k h => Nat.lt_of_lt_of_le (hk k h) hm
  have hA := tb_allowed hk hp
  rcases Classical.em (k ∈ ks) with hks | hks
  · have := xb_indep (n := 10) (ks.map (tb_v g A)) (ks.map q) (xb_ne hp) (by simp) (fun r hr => by
      rw [← tb_app hok hd hk hA q hq r]
      exact h0 r hr)
    exact this (q k) (List.mem_map_of_mem hks)
  · rcases Classical.em (q k = 0) with h | h
    · exact h
    · have := hq k h
      rw [tb_s_tb ks hk10] at this
      exact absurd (by simpa using this) hks
/-- rows all 0: what is left of a column is nothing -/
theorem tb_zero (hr : ∀ r, r ∈ rr → r < tb_r g) {c : Nat} (hz : ∀ r, r < tb_r g → r ∉ rr → tb_p g A (c :: ks) (r :: rr) = 0) : ∃ qs : List Int, qs.length = ks.length ∧ ∀ v, v < 10 → tb_p g A ks rr * tb_v g A c v = xb_l qs (ks.map (tb_v g A)) v := by
  obtain ⟨qs, hl, h⟩ := xb_key 10 (rr.map (tb_f g)) (ks.map (tb_v g A)) (tb_v g A c)
  refine ⟨qs, by simpa using hl, fun v hv => ?_⟩
  have h1 := h v hv
  have h2 : xb_p 10 (v :: rr.map (tb_f g)) (tb_v g A c :: ks.map (tb_v g A)) = 0 := by
    cases hf : gd_free g v with
    | true =>
      obtain ⟨r, hr1, e⟩ := tb_f_sur hv hf
      rcases Classical.em (r ∈ rr) with hm | hm
      · exact xb_used 10 (by rw [← e]; exact List.mem_map_of_mem hm) _
      · have := hz r hr1 hm
        unfold tb_p at this
        rw [List.map_cons, List.map_cons, e] at this
        exact this
    | false =>
      rw [h1, tb_v_held A c hf]
      have hl0 : ∀ (qs : List Int) (l : List Nat), xb_l qs (l.map (tb_v g A)) v = 0 := by
        intro qs
        induction qs with
        | nil => intro l; simp [xb_l]
        | cons q qs ih =>
          intro l
          cases l with
          | nil => simp [xb_l]
          | cons k l => simp only [List.map_cons, xb_l, tb_v_held A k hf, ih l]; simp
      rw [hl0]; simp
  have h3 : xb_p 10 (rr.map (tb_f g)) (ks.map (tb_v g A)) * tb_v g A c v - xb_l qs (ks.map (tb_v g A)) v = 0 := by rw [← h1]; exact h2
  show xb_p 10 (rr.map (tb_f g)) (ks.map (tb_v g A)) * tb_v g A c v = _
  omega
/-- how often each pair is taken, by a list -/
def tb_q : List Nat → List Int → Nat → Int
  | k :: ks, q :: qs, j => if j = k then q else tb_q ks qs j
  | _, _, _ => 0
theorem tb_q_map : ∀ (ks : List Nat) (qs : List Int), ks.Nodup → qs.length = ks.length → ks.map (tb_q ks qs) = qs
  | [], [], _, _ => rfl
  | k :: ks, q :: qs, hd, hl => by
    obtain ⟨h1, h2⟩ := List.nodup_cons.mp hd
    rw [List.map_cons]
    congr 1
    · simp [tb_q]
    · rw [← tb_q_map ks qs h2 (by simpa using hl)]
      rw [tb_q_map ks qs h2 (by simpa using hl)]
      have e : ks.map (tb_q (k :: ks) (q :: qs)) = ks.map (tb_q ks qs) := List.map_congr_left (fun j hj => by
        simp only [tb_q]
        rw [if_neg (fun (e : j = k) => h1 (e ▸ hj))])
      rw [e]
      exact tb_q_map ks qs h2 (by simpa using hl)
  | [], _ :: _, _, hl => by simp at hl
  | _ :: _, [], _, hl => by simp at hl
theorem tb_q_out : ∀ (ks : List Nat) (qs : List Int) (j : Nat), j ∉ ks → tb_q ks qs j = 0
  | [], _, _, _ => by simp [tb_q]
  | k :: ks, [], _, _ => by simp [tb_q]
  | k :: ks, q :: qs, j, h => by
    simp only [tb_q]
    rw [if_neg (fun e => h (by rw [e]; exact List.mem_cons_self))]
    exact tb_q_out ks qs j (fun z => h (List.mem_cons_of_mem _ z))
theorem tb_q_in (hk : ∀ k, k ∈ ks → k < 10) (qs : List Int) : gd_in (tb_q ks qs) (tb_s ks) := by
  intro k h
  rw [tb_s_tb ks hk]
  rcases Classical.em (k ∈ ks) with h1 | h1
  · simpa using h1
  · exact absurd (tb_q_out ks qs k h1) h
theorem tb_sol (hok : gd_ok g) (hd : ks.Nodup) (hk : ∀ k, k ∈ ks → k < gd_m g) (hp : tb_p g A ks rr ≠ 0) {qs : List Int} (hl : qs.length = ks.length) (hs : ∀ v, v < 10 → tb_p g A ks rr * gd_rhs g v = xb_l qs (ks.map (tb_v g A)) v) : gd_sol g (tb_s ks) (tb_p g A ks rr) (tb_q ks qs) := by
  have hm := gd_m_le hok
  have hk10 : ∀ k, k ∈ ks → k < 10 := fun k h => Nat.lt_of_lt_of_le (hk k h) hm
  refine ⟨tb_q_in hk10 qs, fun v hv => ?_⟩
  rw [tb_app hok hd hk (tb_allowed hk hp) _ (tb_q_in hk10 qs) v, tb_q_map ks qs hd hl]
  exact (hs v hv).symm
/-- no other one enters: what holds it depends -/
theorem tb_dep (hok : gd_ok g) (hd : (ks).Nodup) (hk : ∀ k, k ∈ ks → k < gd_m g) (hp : tb_p g A ks rr ≠ 0) (hr : ∀ r, r ∈ rr → r < tb_r g) {c : Nat} (hc : c < gd_m g) (hcA : A.testBit c = true) (hck : c ∉ ks) (hz : ∀ r, r < tb_r g → r ∉ rr → tb_p g A (c :: ks) (r :: rr) = 0) {T : Nat} (hT : gd_sub (tb_s (c :: ks)) T) : ¬ gd_ind g T := by
  intro hi
  have hm := gd_m_le hok
  obtain ⟨qs, hl, h⟩ := tb_zero hr hz
  have hk' : ∀ k, k ∈ c :: ks → k < gd_m g := fun k h1 => by
    rcases List.mem_cons.mp h1 with rfl | h1
    · exact hc
    · exact hk k h1
  have hk10 : ∀ k, k ∈ c :: ks → k < 10 := fun k h => Nat.lt_of_lt_of_le (hk' k h) hm
  have hA := tb_allowed hk hp
  have hnd : (c :: ks).Nodup := List.nodup_cons.mpr ⟨hck, hd⟩
  have hA' : ∀ k, k ∈ c :: ks → A.testBit k = true := fun k h1 => by
    rcases List.mem_cons.mp h1 with rfl | h1
    · exact hcA
    · exact hA k h1
  have hin := tb_q_in (ks := c :: ks) hk10 (tb_p g A ks rr :: qs.map (fun q => -q))
  have h0 := hi (tb_q (c :: ks) (tb_p g A ks rr :: qs.map (fun q => -q))) (fun k hk1 => hT k (hin k hk1)) (fun v hv => by
    rw [tb_app hok hnd hk' hA' _ hin v, tb_q_map _ _ hnd (by simp [hl])]
    show tb_p g A ks rr * tb_v g A c v + xb_l (qs.map (fun q => -q)) (ks.map (tb_v g A)) v = 0
    have hneg : ∀ (qs : List Int) (l : List (Nat → Int)), xb_l (qs.map (fun q => -q)) l v = - xb_l qs l v := by
      intro qs
      induction qs with
      | nil => intro l; simp [xb_l]
      | cons q qs ih =>
        intro l
        cases l with
        | nil => simp [xb_l]
        | cons k l => simp only [List.map_cons, xb_l, ih l]; grind
    rw [hneg, h v hv]; omega) c
  simp [tb_q] at h0
  exact hp h0
/-- the loads aren't borne by these columns alone -/
theorem tb_notsol (hok : gd_ok g) (hd : ks.Nodup) (hk : ∀ k, k ∈ ks → k < gd_m g) (hp : tb_p g A ks rr ≠ 0) {r : Nat} (hr : r < tb_r g) (hnz : tb_p g A (gd_m g :: ks) (r :: rr) ≠ 0) {p : Int} {q : Nat → Int} (hs : gd_sol g (tb_s ks) p q) : p = 0 := by
  have hA := tb_allowed hk hp
  have e1 : xb_p 10 ((r :: rr).map (tb_f g)) ((fun i => p * gd_rhs g i + 0 * gd_rhs g i) :: ks.map (tb_v g A)) = xb_hs 10 ((r :: rr).map (tb_f g)) (ks.map (tb_v g A)) (ks.map q) (ks.map (tb_v g A)) := by
    rw [← xb_head_l]
    exact xb_head_congr 10 _ _ (fun i hi => by rw [← tb_app hok hd hk hA q hs.1 i, hs.2 i hi]; simp)
  rw [xb_head_lin, xb_hs_in 10 _ _ _ _ (fun v hv => hv)] at e1
  have e2 : tb_p g A (gd_m g :: ks) (r :: rr) = xb_p 10 ((r :: rr).map (tb_f g)) (gd_rhs g :: ks.map (tb_v g A)) := by simp [tb_p, tb_v]
  rw [← e2] at e1
  have e3 : p * tb_p g A (gd_m g :: ks) (r :: rr) = 0 := by omega
  rcases Int.mul_eq_zero.mp e3 with h | h
  · exact h
  · exact absurd h hnz
theorem tb_s_cons (hk : ∀ k, k ∈ ks → k < 10) {c : Nat} (hc : c < 10) (hlt : ∀ j, j ∈ ks → j < c) : tb_s (c :: ks) = tb_s ks + 2 ^ c := by
  have hlt2 : tb_s ks < 2 ^ c := tb_s_ltm ks (by omega) hlt
  apply Nat.eq_of_testBit_eq
  intro k
  rw [gd_tb_add hlt2, tb_s_tb ks hk, tb_s_tb (c :: ks) (fun x hx => by
    rcases List.mem_cons.mp hx with rfl | hx
    · exact hc
    · exact hk x hx)]
  by_cases e : k = c <;> simp [e]
end
