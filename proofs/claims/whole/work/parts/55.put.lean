/-! ===== the same answers: put ===== -/
/-- an item set on both sides -/
theorem iv_item {w : wo_T} (h : iv w) {s i : Nat} (hs : s < 4) (hi : i < 40) (x : Int64) : iv (wo_l (wo_l w (50 + 2 * s + 1) i x) 71 (40 * s + i) x) := by
  have l9 := h.2.2.2.2.2.2.2.2.2.2.2
  refine iv_sh h (fun b _ _ => rfl) (fun b hb => by rw [wo_l_ne b (by omega), wo_l_ne b (by omega)]) (fun b _ _ => rfl) (fun b hb hb2 => by rw [wo_l_ne b (by omega), wo_l_ne b (by omega)]) (fun j _ => rfl) (fun j _ => rfl) h.2.2.2.2.2.2.2.2.2.2.1 (fun t ht => ?_)
  obtain ⟨o1, o2, o3, o4⟩ := l9 t ht
  refine ⟨o1, o2, o3, fun j hj => ?_⟩
  have e51 : 51 + 2 * t = 50 + 2 * t + 1 := by omega
  rw [e51]
  have o := o4 j hj
  rw [e51] at o
  rw [wo_l_ne (50 + 2 * t + 1) (by omega)]
  by_cases e : t = s
  · subst e
    by_cases e2 : j = i
    · subst e2
      rw [wo_l_eq, wo_l_eq]
    · rw [wo_l_nk (by omega), wo_l_nk (by omega), wo_l_ne 71 (by omega)]
      exact o
  · rw [wo_l_ne _ (by omega), wo_l_nk (by omega), wo_l_ne 71 (by omega)]
    exact o
def p_ov (b d : Int32) : Bool := decide (b = 1) && !isIn d (-2097152) 2097151
def p_v (b d : Int32) : Int64 := if b = 1 then (d.toInt64 * d.toInt64) * d.toInt64 else d.toInt64
section
variable {K : jj_K} {w : wo_T}
theorem m_put_fin {P : Int32 → wo_T → Prop} {s : Nat} (hs : s < 4) (b c d a5 s0 : Int32) (k1 : ¬ s0 ≤ 0 → P ((-10) - s0) (wo_i w 58 21 s0)) (k0 : s0 ≤ 0 → ∃ i : Nat, i < 40 ∧ c = nI i ∧ P 1 (wo_l w 71 (40 * s + i) (p_v b d))) : jj_J K mX7_put (jj_Ri P) 102 [(0, .ref 58), (1, .int (nI s)), (2, .int b), (3, .int c), (4, .int d), (5, .int a5)] [.int s0] w := by
  apply vc_X7_put_102
  refine ⟨fun h => ?_, fun h => m_meets s0 (k1 h)⟩
  obtain ⟨i, hi, e, hP⟩ := k0 h
  subst e
  rw [nn_40, nI_clamp (by omega)]
  unfold p_v at hP
  have v : vp_in (nI (40 * s + i)) 160 := nn_inn (by omega) (by decide)
  refine ⟨fun q => ⟨v, ?_⟩, fun q => ⟨v, ?_⟩⟩
  · rw [if_neg q] at hP; exact hP
  · rw [if_pos q] at hP; exact hP
theorem m_put {P : Int32 → wo_T → Prop} {s : Nat} (hs : s < 4) {b : Int32} (hb : isIn b 0 1 = true) (c d : Int32)
    (k1 : w.1 69 s = -1 → P ((-10) - 1) (wo_i w 58 21 1)) (k3 : ¬ w.1 69 s = -1 → ¬ w.1 69 s = b → P ((-10) - 3) (wo_i w 58 21 3)) (k2 : ¬ w.1 69 s = -1 → w.1 69 s = b → isIn c 0 (w.1 70 s - 1) = false → P ((-10) - 2) (wo_i w 58 21 2))
    (k6 : ¬ w.1 69 s = -1 → w.1 69 s = b → isIn c 0 (w.1 70 s - 1) = true → p_ov b d = true → P ((-10) - 6) (wo_i w 58 21 6)) (k0 : ¬ w.1 69 s = -1 → w.1 69 s = b → isIn c 0 (w.1 70 s - 1) = true → p_ov b d = false → ∃ i : Nat, i < 40 ∧ c = nI i ∧ P 1 (wo_l w 71 (40 * s + i) (p_v b d))) : jj_Ci K mX7_put [.ref 58, .int (nI s), .int b, .int c, .int d] w P := by
  have v4 : vp_in (nI s) 4 := nn_inn hs (by decide)
  have mid : ∀ s0 : Int32, (s0 = 0 ∧ p_ov b d = false) ∨ (s0 = 1 ∧ p_ov b d = true) → jj_J K mX7_put (jj_Ri P) 41 [(0, .ref 58), (1, .int (nI s)), (2, .int b), (3, .int c), (4, .int d)] [.int s0] w := by
    intro s0 hs0
    apply vc_X7_put_41
    rw [nI_clamp (by omega)]
    refine ⟨v4, fun h1 => ⟨v4, fun h2 => ⟨v4, m_isIn c 0 _ ?_⟩, fun h2 => ?_⟩, fun h1 => ?_⟩
    · cases h3 : isIn c 0 (w.1 70 s - 1) with
      | false => exact ⟨fun q => absurd rfl q, fun _ => m_put_fin hs b c d _ _ (fun _ => k2 h1 h2 h3) (fun q => absurd q (by decide))⟩
      | true =>
        refine ⟨fun _ => ⟨fun q => ?_, fun q => ?_⟩, fun q => absurd q (by decide)⟩
        · rcases hs0 with ⟨-, ho⟩ | ⟨e, -⟩
          · exact m_put_fin hs b c d _ _ (fun q => absurd (by decide) q) (fun _ => k0 h1 h2 h3 ho)
          · rw [e] at q; exact absurd q (by decide)
        · rcases hs0 with ⟨e, -⟩ | ⟨-, ho⟩
          · exact absurd e q
          · exact m_put_fin hs b c d _ _ (fun _ => k6 h1 h2 h3 ho) (fun q => absurd q (by decide))
    · exact m_put_fin hs b c d _ _ (fun _ => k3 h1 h2) (fun q => absurd q (by decide))
    · exact m_put_fin hs b c d _ _ (fun _ => k1 h1) (fun q => absurd q (by decide))
  apply en_X7_put
  refine m_isSheet (nI s) (fun s' hs' e' => ⟨fun q => absurd q (by decide), fun _ => m_isIn b 0 1 ?_⟩) (fun hno => absurd rfl (hno s hs))
  rw [hb]
  refine ⟨fun _ => ⟨fun q => mid 0 (Or.inl ⟨rfl, by unfold p_ov; simp [q]⟩), fun q => m_isIn d _ _ ?_⟩, fun q => absurd q (by decide)⟩
  cases hd : isIn d (-2097152) 2097151 with
  | true => exact ⟨fun _ => mid 0 (Or.inl ⟨rfl, by unfold p_ov; simp [hd]⟩), fun q => absurd q (by decide)⟩
  | false => exact ⟨fun q => absurd rfl q, fun _ => mid 1 (Or.inr ⟨rfl, by unfold p_ov; simp [hd, q]⟩)⟩
end
