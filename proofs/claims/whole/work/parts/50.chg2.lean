/-! ===== the same answers: hold, load, shift ===== -/
theorem isIn_nat {a : Int32} {n : Nat} (hn : n < 1000) (h : isIn a 0 (nI n - 1) = true) : ∃ j : Nat, j < n ∧ a = nI j := by
  unfold isIn at h
  simp only [Bool.and_eq_true, decide_eq_true_eq] at h
  rcases pk_ix a (n := n) (by omega) with q | q | hj
  · exact absurd q h.1
  · exfalso
    apply h.2
    rw [nn_pred, nn_i_lta ⟨by omega, by omega⟩]
    have := Int32.le_iff_toInt_le.mp q
    rw [nn_nI_int (by omega)] at this
    omega
  · exact hj
def isLd (x : Int64) : Bool := decide (¬ x < -9) && decide (¬ 9 < x)
theorem isLd_in (a : Int32) : isLd a.toInt64 = isIn a (-9) 9 := by
  unfold isLd isIn
  have h1 : a.toInt64 < -9 ↔ a < -9 := by
    rw [Int64.lt_iff_toInt_lt, Int32.lt_iff_toInt_lt, Int32.toInt_toInt64]
    have e1 : (-9 : Int64).toInt = -9 := rfl
    have e2 : (-9 : Int32).toInt = -9 := rfl
    rw [e1, e2]
  have h2 : (9 : Int64) < a.toInt64 ↔ 9 < a := by
    rw [Int64.lt_iff_toInt_lt, Int32.lt_iff_toInt_lt, Int32.toInt_toInt64]
    have e1 : (9 : Int64).toInt = 9 := rfl
    have e2 : (9 : Int32).toInt = 9 := rfl
    rw [e1, e2]
  rw [decide_eq_decide.mpr (not_congr h1), decide_eq_decide.mpr (not_congr h2)]
/-- cells of the class that count between calls, displacements and sheets aside -/
theorem ci_fr5 {w u : wo_T} (h1 : ∀ b, b < 49 → b ≠ 5 → u.1 b = w.1 b) (h2 : ∀ b, b < 49 → u.2 b = w.2 b) (h : ci w) : ci u := by
  have hg : gc_g u = gc_g w := by
    unfold gc_g
    rw [h1 1 (by decide) (by decide), h1 2 (by decide) (by decide), h1 3 (by decide) (by decide), h1 4 (by decide) (by decide)]
  have hb : cb u = cb w := by unfold cb; rw [h1 0 (by decide) (by decide)]
  have hok : gc_ok u := by
    unfold gc_ok
    rw [hg, h1 1 (by decide) (by decide), h1 3 (by decide) (by decide), h1 6 (by decide) (by decide), h1 7 (by decide) (by decide)]
    exact h.1
  unfold ci
  rw [hg, hb, h1 0 (by decide) (by decide)]
  refine ⟨hok, h.2.1, fun q => ?_⟩
  obtain ⟨L, s1, s2, s3, s4⟩ := h.2.2 q
  refine ⟨L, bk_L_fr (w := w) (by rw [h1 23 (by decide) (by decide)]) (h1 24 (by decide) (by decide)) (h2 25 (by decide)) (h2 26 (by decide)) s1, s2, ?_, fun T hT e => ?_⟩
  · unfold bn_c
    rw [h1 23 (by decide) (by decide)]
    exact s3
  · rw [h1 23 (by decide) (by decide)] at e
    obtain ⟨p, q, a1, a2, a3, a4, a5⟩ := s4 T hT e
    exact ⟨p, q, a1, a2, a3, by rw [h2 23 (by decide)]; exact a4, fun k hk => by rw [h2 27 (by decide)]; exact a5 k hk⟩
theorem mi_fr5 {w u : wo_T} (h1 : ∀ b, 58 ≤ b → b < 69 → b ≠ 63 → u.1 b = w.1 b) (h2 : ∀ b, 58 ≤ b → b < 69 → u.2 b = w.2 b) (h : mi w) : mi u := by
  have hs : gm_s w u := ⟨by rw [h1 58 (by decide) (by decide) (by decide)], h1 59 (by decide) (by decide) (by decide), h1 60 (by decide) (by decide) (by decide), h1 61 (by decide) (by decide) (by decide), h1 62 (by decide) (by decide) (by decide)⟩
  have hb : mb u = mb w := by unfold mb; rw [h1 58 (by decide) (by decide) (by decide)]
  unfold mi
  rw [gm_g_eq hs, hb, h1 58 (by decide) (by decide) (by decide)]
  refine ⟨gm_ok_eq hs h.1, h.2.1, ?_⟩
  unfold mt_k
  rw [h1 58 (by decide) (by decide) (by decide)]
  rcases h.2.2 with q | ⟨q, hT⟩
  · exact Or.inl q
  · exact Or.inr ⟨q, fun S hS => mt_e_eq (w := w) (by rw [h1 66 (by decide) (by decide) (by decide)]) (by rw [h2 67 (by decide) (by decide)]) (by rw [h2 68 (by decide) (by decide)]) (hT S hS)⟩
section
variable {K : jj_K} {w : wo_T}
theorem c_isLoad {P : Int32 → wo_T → Prop} (x : Int64) (k : P (if isLd x then 1 else 0) w) : jj_Ci K mX6_isLoad [.long x] w P := by
  apply en_X6_isLoad
  unfold isLd at k
  exact ⟨fun h => by simpa [h] using k, fun h => ⟨fun h2 => by simpa [h2] using k, fun h2 => by simpa [h, h2] using k⟩⟩
theorem s_shift (h : iv w) (a b c : Int32) : e_i K mX6_shift mX7_shift [.ref 0, .int a, .int b, .int c] [.ref 58, .int a, .int b, .int c] w := by
  have hg := iv_g h
  have hn := gc_n h.1.1
  apply en_X6_shift
  refine c_hasPoint h.1.1 a (fun p hp e => ⟨fun q => absurd q (by decide), fun _ => c_isWithin b 0 1 ?_⟩) (fun hno => ⟨fun _ => ?_, fun q => absurd rfl q⟩)
  · cases hb : isIn b 0 1 with
    | false =>
      refine ⟨fun _ => ?_, fun q => absurd rfl q⟩
      apply en_X7_shift
      refine m_isPoint h.2.1.1 a (fun p' hp' e' => ⟨fun q => absurd q (by decide), fun _ => m_isIn b 0 1 ?_⟩) (fun _ => ⟨fun _ => ⟨rfl, h⟩, fun q => absurd rfl q⟩)
      rw [hb]
      exact ⟨fun _ => ⟨rfl, h⟩, fun q => absurd rfl q⟩
    | true =>
      refine ⟨fun q => absurd q (by decide), fun _ => c_isWithin c (-999) 999 ?_⟩
      cases hc' : isIn c (-999) 999 with
      | false =>
        refine ⟨fun q => absurd rfl q, fun _ => ?_⟩
        apply en_X7_shift
        refine m_isPoint h.2.1.1 a (fun p' hp' e' => ⟨fun q => absurd q (by decide), fun _ => m_isIn b 0 1 ?_⟩) (fun _ => ⟨fun _ => ⟨rfl, h⟩, fun q => absurd rfl q⟩)
        rw [hb]
        refine ⟨fun q => absurd q (by decide), fun _ => m_isIn c (-999) 999 ?_⟩
        rw [hc']
        exact ⟨fun q => absurd rfl q, fun _ => ⟨rfl, h⟩⟩
      | true =>
        obtain ⟨ax, hax, eb⟩ := isIn_ax hb
        subst eb; subst e
        have hcb := isIn_b (x := -999) (y := 999) (by constructor <;> decide) (by constructor <;> decide) hc'
        rw [nn_two, nI_add, nI_clamp (by omega)]
        refine ⟨fun _ => ⟨nn_inn (by omega) (by decide), fun x ex => ⟨nn_inn (by omega) (by decide), ?_⟩⟩, fun q => absurd q (by decide)⟩
        subst ex
        have hmi : mi (wo_i w 5 (2 * p + ax) c) := mi_fr (fun b hb => wo_i_ne b (by omega)) (fun b hb => rfl) h.2.1
        have hgu : gm_g (wo_i w 5 (2 * p + ax) c) = gm_g w := gm_g_eq ⟨by rw [wo_i_ne 58 (by decide)], wo_i_ne _ (by decide), wo_i_ne _ (by decide), wo_i_ne _ (by decide), wo_i_ne _ (by decide)⟩
        apply en_X7_shift
        refine m_isPoint hmi.1 (nI p) (fun p' hp' e' => ⟨fun q => absurd q (by decide), fun _ => m_isIn (nI ax) 0 1 ?_⟩) (fun hno => absurd rfl (hno p (by rw [hgu, hg]; exact hp)))
        rw [hb]
        refine ⟨fun q => absurd q (by decide), fun _ => m_isIn c (-999) 999 ?_⟩
        rw [hc', nn_two, nI_add, nI_clamp (by omega)]
        refine ⟨fun _ => ⟨nn_inn (by omega) (by decide), fun x2 ex2 => ⟨nn_inn (by omega) (by decide), ?_, ?_⟩⟩, fun q => absurd q (by decide)⟩
        · rw [ex2, wo_i_ne 63 (by decide), ← h.2.2.2.2.2.2.2.2.1]
        · obtain ⟨a1, a2, a3, l1, l2, l3, l4, l5, l6, l7, l8, l9⟩ := h
          have f1 : ∀ b, b ≠ 5 → b ≠ 63 → (wo_i (wo_i w 5 (2 * p + ax) c) 63 (2 * p + ax) c).1 b = w.1 b := fun b x y => by rw [wo_i_ne b y, wo_i_ne b x]
          have f5 : ∀ j, (wo_i (wo_i w 5 (2 * p + ax) c) 63 (2 * p + ax) c).1 5 j = if j = 2 * p + ax then c else w.1 5 j := fun j => by
            rw [wo_i_ne 5 (by decide)]
            by_cases e : j = 2 * p + ax
            · rw [if_pos e, e, wo_i_eq]
            · rw [if_neg e, wo_i_nk (by omega)]
          have f63 : ∀ j, (wo_i (wo_i w 5 (2 * p + ax) c) 63 (2 * p + ax) c).1 63 j = if j = 2 * p + ax then c else w.1 63 j := fun j => by
            by_cases e : j = 2 * p + ax
            · rw [if_pos e, e, wo_i_eq]
            · rw [if_neg e, wo_i_nk (by omega), wo_i_ne 63 (by decide)]
          refine ⟨ci_fr5 (w := w) (fun b x y => f1 b y (by omega)) (fun b x => rfl) a1, mi_fr5 (w := w) (fun b x y z => f1 b (by omega) z) (fun b x y => rfl) a2, fun v => ?_, ?_, ?_, ?_, ?_, ?_, ?_, ?_, ?_, fun s hs => lk_s_eq (w := w) hs (fun b x y => f1 b (by omega) (by omega)) (fun b x y => rfl) (f1 69 (by decide) (by decide)) (f1 70 (by decide) (by decide)) rfl (l9 s hs)⟩
          · show -999 ≤ ((wo_i (wo_i w 5 (2 * p + ax) c) 63 (2 * p + ax) c).1 5 v).toInt ∧ _
            rw [show hc (wo_i (wo_i w 5 (2 * p + ax) c) 63 (2 * p + ax) c) v = ((wo_i (wo_i w 5 (2 * p + ax) c) 63 (2 * p + ax) c).1 5 v).toInt from rfl, f5 v]
            split
            · exact hcb
            · exact a3 v
          · rw [f1 1 (by decide) (by decide), f1 58 (by decide) (by decide)]; exact l1
          · intro p; rw [f1 2 (by decide) (by decide), f1 59 (by decide) (by decide)]; exact l2 p
          · intro p; rw [f1 2 (by decide) (by decide), f1 60 (by decide) (by decide)]; exact l3 p
          · rw [f1 3 (by decide) (by decide), f1 61 (by decide) (by decide)]; exact l4
          · rw [f1 4 (by decide) (by decide), f1 62 (by decide) (by decide)]; exact l5
          · funext j; rw [f5, f63, l6]
          · rw [f1 0 (by decide) (by decide), f1 58 (by decide) (by decide)]; exact l7
          · rw [f1 0 (by decide) (by decide), f1 58 (by decide) (by decide)]; exact l8
  · apply en_X7_shift
    exact m_isPoint h.2.1.1 a (fun p' hp' e' => absurd e' (hno p' (by rw [← hg]; exact hp'))) (fun _ => ⟨fun _ => ⟨rfl, h⟩, fun q => absurd rfl q⟩)
end
