/-! ===== class and model in one world ===== -/
def lk_s (w : wo_T) (s : Nat) : Prop := ((w.1 (50 + 2 * s) 1 = 0 ∧ w.1 69 s = w.1 (50 + 2 * s) 2 ∧ (w.1 69 s = 0 ∨ w.1 69 s = 1)) ∨ (w.1 (50 + 2 * s) 1 = 1 ∧ w.1 69 s = -1)) ∧ w.1 (50 + 2 * s) 3 = w.1 70 s ∧ (∃ n : Nat, n ≤ 40 ∧ w.1 70 s = nI n) ∧ ∀ i, i < 40 → w.2 (51 + 2 * s) i = w.2 71 (40 * s + i)
def lk (w : wo_T) : Prop := w.1 1 6 = w.1 58 5 ∧ (∀ p, w.1 2 (2 * p) = w.1 59 p) ∧ (∀ p, w.1 2 (2 * p + 1) = w.1 60 p) ∧ w.1 3 = w.1 61 ∧ w.1 4 = w.1 62 ∧ w.1 5 = w.1 63 ∧ w.1 0 6 = w.1 58 6 ∧ w.1 0 7 = w.1 58 21 ∧ ∀ s, s < 4 → lk_s w s
def iv (w : wo_T) : Prop := ci w ∧ mi w ∧ h_ok (hc w) ∧ lk w
theorem iv_g {w : wo_T} (h : iv w) : gm_g w = gc_g w := by
  obtain ⟨-, -, -, l1, l2, l3, l4, l5, l6, -⟩ := h
  unfold gm_g gc_g
  simp only [l1, l2, l3, l4, l5]
theorem iv_b {w : wo_T} (h : iv w) : mb w = cb w := by
  unfold mb cb
  rw [h.2.2.2.2.2.2.2.2.2.1]
theorem iv_h {w : wo_T} (h : iv w) : hm w = hc w := by
  unfold hm hc
  rw [h.2.2.2.2.2.2.2.2.1]
theorem iv_hm {w : wo_T} (h : iv w) : h_ok (hm w) := by rw [iv_h h]; exact h.2.2.1
/-- the model's part of a world -/
theorem mi_fr {w u : wo_T} (h1 : ∀ b, 58 ≤ b → u.1 b = w.1 b) (h2 : ∀ b, 58 ≤ b → u.2 b = w.2 b) (h : mi w) : mi u := by
  have hs : gm_s w u := ⟨by rw [h1 58 (by decide)], h1 59 (by decide), h1 60 (by decide), h1 61 (by decide), h1 62 (by decide)⟩
  have hb : mb u = mb w := by unfold mb; rw [h1 58 (by decide)]
  unfold mi
  rw [gm_g_eq hs, hb, h1 58 (by decide)]
  refine ⟨gm_ok_eq hs h.1, h.2.1, ?_⟩
  unfold mt_k
  rw [h1 58 (by decide)]
  rcases h.2.2 with q | ⟨q, hT⟩
  · exact Or.inl q
  · exact Or.inr ⟨q, fun S hS => mt_e_eq (w := w) (by rw [h1 66 (by decide)]) (by rw [h2 67 (by decide)]) (by rw [h2 68 (by decide)]) (hT S hS)⟩
theorem ci_fr {w u : wo_T} (h1 : ∀ b, b < 58 → u.1 b = w.1 b) (h2 : ∀ b, b < 58 → u.2 b = w.2 b) (h : ci w) : ci u := by
  have hg : gc_g u = gc_g w := gc_g_eq (fun b hb => h1 b (by omega))
  have hb : cb u = cb w := by unfold cb; rw [h1 0 (by decide)]
  unfold ci
  rw [hg, hb, h1 0 (by decide)]
  refine ⟨gc_ok_eq (fun b hb => h1 b (by omega)) h.1, h.2.1, fun q => ?_⟩
  obtain ⟨L, s1, s2, s3, s4⟩ := h.2.2 q
  refine ⟨L, bk_L_fr (w := w) (by rw [h1 23 (by decide)]) (h1 24 (by decide)) (h2 25 (by decide)) (h2 26 (by decide)) s1, s2, ?_, fun T hT e => ?_⟩
  · unfold bn_c
    rw [h1 23 (by decide)]
    exact s3
  · rw [h1 23 (by decide)] at e
    obtain ⟨p, q, a1, a2, a3, a4, a5⟩ := s4 T hT e
    exact ⟨p, q, a1, a2, a3, by rw [h2 23 (by decide)]; exact a4, fun k hk => by rw [h2 27 (by decide)]; exact a5 k hk⟩
theorem cq_i_lt : ∀ b, b ∈ cq_i → b < 49 := by decide
theorem cq_l_lt : ∀ b, b ∈ cq_l → b < 49 := by decide
theorem lk_s_eq {w u : wo_T} {s : Nat} (hs : s < 4) (h1 : ∀ b, 49 ≤ b → b < 58 → u.1 b = w.1 b) (h2 : ∀ b, 49 ≤ b → b < 58 → u.2 b = w.2 b) (h69 : u.1 69 = w.1 69) (h70 : u.1 70 = w.1 70) (h71 : u.2 71 = w.2 71) (h : lk_s w s) : lk_s u s := by
  unfold lk_s
  rw [h1 (50 + 2 * s) (by omega) (by omega), h2 (51 + 2 * s) (by omega) (by omega), h69, h70, h71]
  exact h
theorem iv_c {w u : wo_T} (h : iv w) (hq : cq w u) (hu : ci u) : iv u := by
  have n1 : ∀ b, 49 ≤ b → u.1 b = w.1 b := fun b hb => hq.1.1 b (fun q => by have := cq_i_lt b q; omega)
  have n2 : ∀ b, 49 ≤ b → u.2 b = w.2 b := fun b hb => hq.1.2 b (fun q => by have := cq_l_lt b q; omega)
  obtain ⟨a, b, c, l1, l2, l3, l4, l5, l6, l7, l8, l9⟩ := h
  refine ⟨hu, mi_fr (fun b hb => n1 b (by omega)) (fun b hb => n2 b (by omega)) b, by rw [cq_h hq]; exact c, ?_, ?_, ?_, ?_, ?_, ?_, ?_, ?_, fun s hs => lk_s_eq hs (fun b x _ => n1 b x) (fun b x _ => n2 b x) (n1 69 (by decide)) (n1 70 (by decide)) (n2 71 (by decide)) (l9 s hs)⟩
  · rw [hq.1.1 1 (by decide), n1 58 (by decide)]; exact l1
  · intro p; rw [hq.1.1 2 (by decide), n1 59 (by decide)]; exact l2 p
  · intro p; rw [hq.1.1 2 (by decide), n1 60 (by decide)]; exact l3 p
  · rw [hq.1.1 3 (by decide), n1 61 (by decide)]; exact l4
  · rw [hq.1.1 4 (by decide), n1 62 (by decide)]; exact l5
  · rw [hq.1.1 5 (by decide), n1 63 (by decide)]; exact l6
  · rw [hq.2 6 (by decide), n1 58 (by decide)]; exact l7
  · rw [hq.2 7 (by decide), n1 58 (by decide)]; exact l8
theorem iv_m {w u : wo_T} (h : iv w) (hq : mq w u) (hu : mi u) : iv u := by
  have n1 : ∀ b, b < 58 → u.1 b = w.1 b := fun b hb => hq.1.1 b (by simp; omega)
  have n2 : ∀ b, b < 58 → u.2 b = w.2 b := fun b hb => hq.1.2 b (by simp; omega)
  obtain ⟨a, b, c, l1, l2, l3, l4, l5, l6, l7, l8, l9⟩ := h
  have hcc : hc u = hc w := by unfold hc; rw [n1 5 (by decide)]
  refine ⟨ci_fr n1 n2 a, hu, by rw [hcc]; exact c, ?_, ?_, ?_, ?_, ?_, ?_, ?_, ?_, fun s hs => lk_s_eq hs (fun b _ x => n1 b x) (fun b _ x => n2 b x) (hq.1.1 69 (by simp)) (hq.1.1 70 (by simp)) (hq.1.2 71 (by simp)) (l9 s hs)⟩
  · rw [n1 1 (by decide), hq.2 5 (by decide) (by decide) (by decide) (by decide) (by decide)]; exact l1
  · intro p; rw [n1 2 (by decide), hq.1.1 59 (by simp)]; exact l2 p
  · intro p; rw [n1 2 (by decide), hq.1.1 60 (by simp)]; exact l3 p
  · rw [n1 3 (by decide), hq.1.1 61 (by simp)]; exact l4
  · rw [n1 4 (by decide), hq.1.1 62 (by simp)]; exact l5
  · rw [n1 5 (by decide), hq.1.1 63 (by simp)]; exact l6
  · rw [n1 0 (by decide), hq.2 6 (by decide) (by decide) (by decide) (by decide) (by decide)]; exact l7
  · rw [n1 0 (by decide), hq.2 21 (by decide) (by decide) (by decide) (by decide) (by decide)]; exact l8
section
variable {K : jj_K} {w : wo_T}
/-- both sides asked, one after the other -/
abbrev e_i (K : jj_K) (N M : jj_M) (as bs : List Value) (w : wo_T) : Prop := jj_Ci K N as w (fun v u => jj_Ci K M bs u (fun v' u' => v' = v ∧ iv u'))
end
