/-! ===== the first world ===== -/
def wo_0 : wo_T := (fun o k => if o = 0 ∧ k = 8 then 1 else if (o = 23 ∨ o = 29) ∧ (k = 8 ∨ k = 9 ∨ k = 10) then -1 else if (o = 50 ∨ o = 52 ∨ o = 54 ∨ o = 56) ∧ k = 1 then 1 else if o = 69 ∧ k < 4 then -1 else 0, fun o k => if (o = 23 ∨ o = 29) ∧ k = 4 then 1 else 0)
theorem wz1 {o k : Nat} (h0 : ¬ (o = 0 ∧ k = 8)) (h1 : ¬ ((o = 23 ∨ o = 29) ∧ (k = 8 ∨ k = 9 ∨ k = 10))) (h2 : ¬ ((o = 50 ∨ o = 52 ∨ o = 54 ∨ o = 56) ∧ k = 1)) (h3 : ¬ (o = 69 ∧ k < 4)) : wo_0.1 o k = 0 := by
  show (if _ then _ else _) = _
  rw [if_neg h0, if_neg h1, if_neg h2, if_neg h3]
theorem wz2 {o k : Nat} (h : ¬ ((o = 23 ∨ o = 29) ∧ k = 4)) : wo_0.2 o k = 0 := by
  show (if _ then _ else _) = _
  rw [if_neg h]
theorem wz_f {o : Nat} (h : 1 ≤ o ∧ o ≤ 7 ∨ 58 ≤ o ∧ o ≤ 68 ∨ o = 70) (k : Nat) : wo_0.1 o k = 0 := wz1 (by omega) (by omega) (by omega) (by omega)
theorem iv_0 : iv wo_0 := by
  have n0 : (gc_g wo_0).1 = 0 := by
    show (wo_0.1 1 6).toInt.toNat = 0
    rw [wz_f (by omega)]; rfl
  have m0 : gd_m (gc_g wo_0) = 0 := by unfold gd_m; rw [n0]
  have n1 : (gm_g wo_0).1 = 0 := by
    show (wo_0.1 58 5).toInt.toNat = 0
    rw [wz_f (by omega)]; rfl
  have m1 : gd_m (gm_g wo_0) = 0 := by unfold gd_m; rw [n1]
  have b0 : cb wo_0 = 0 := by
    show (wo_0.1 0 6).toInt.toNat = 0
    rw [wz1 (by omega) (by omega) (by omega) (by omega)]; rfl
  have b1 : mb wo_0 = 0 := by
    show (wo_0.1 58 6).toInt.toNat = 0
    rw [wz_f (by omega)]; rfl
  have oc : gc_ok wo_0 := by
    refine ⟨⟨by rw [n0]; decide, fun p hp => by rw [n0] at hp; omega, fun p q hp => by rw [n0] at hp; omega, fun v hv => by rw [n0] at hv; omega⟩, by rw [n0, wz_f (by omega)]; rfl, fun p hp => ?_, fun k hk => by rw [m0] at hk; omega⟩
    have : (gc_g wo_0).2.2.2.1 p = 0 := by
      show (wo_0.1 3 p).toInt.toNat = 0
      rw [wz_f (by omega)]; rfl
    rw [this, wz_f (by omega)]
    exact ⟨rfl, by decide⟩
  have om : gm_ok wo_0 := by
    refine ⟨⟨by rw [n1]; decide, fun p hp => by rw [n1] at hp; omega, fun p q hp => by rw [n1] at hp; omega, fun v hv => by rw [n1] at hv; omega⟩, by rw [n1, wz_f (by omega)]; rfl, fun p hp => ?_⟩
    have : (gm_g wo_0).2.2.2.1 p = 0 := by
      show (wo_0.1 61 p).toInt.toNat = 0
      rw [wz_f (by omega)]; rfl
    rw [this, wz_f (by omega)]
    exact ⟨rfl, by decide⟩
  refine ⟨⟨oc, ⟨by rw [b0, wz1 (by omega) (by omega) (by omega) (by omega)]; rfl, by rw [b0, m0]; decide⟩, fun q => absurd q (by decide)⟩, ⟨om, ⟨by rw [b1, wz_f (by omega)]; rfl, by rw [b1, m1]; decide⟩, Or.inl (wz_f (by omega) _)⟩, fun v => ?_, ?_, fun p => ?_, fun p => ?_, ?_, ?_, ?_, ?_, ?_, fun s hs => ⟨Or.inr ⟨?_, ?_⟩, ?_, ⟨0, by decide, ?_⟩, fun i hi => ?_⟩⟩
  · show -999 ≤ (wo_0.1 5 v).toInt ∧ (wo_0.1 5 v).toInt ≤ 999
    rw [wz_f (by omega)]; decide
  · rw [wz_f (by omega), wz_f (by omega)]
  · rw [wz_f (by omega), wz_f (by omega)]
  · rw [wz_f (by omega), wz_f (by omega)]
  · funext k; rw [wz_f (by omega), wz_f (by omega)]
  · funext k; rw [wz_f (by omega), wz_f (by omega)]
  · funext k; rw [wz_f (by omega), wz_f (by omega)]
  · rw [wz1 (by omega) (by omega) (by omega) (by omega), wz_f (by omega)]
  · rw [wz1 (by omega) (by omega) (by omega) (by omega), wz_f (by omega)]
  · rcases (show s = 0 ∨ s = 1 ∨ s = 2 ∨ s = 3 by omega) with e | e | e | e <;> subst e <;> rfl
  · rcases (show s = 0 ∨ s = 1 ∨ s = 2 ∨ s = 3 by omega) with e | e | e | e <;> subst e <;> rfl
  · rw [wz1 (by omega) (by omega) (by omega) (by omega), wz_f (by omega)]
  · rw [wz_f (by omega)]; rfl
  · rw [wz2 (by omega), wz2 (by omega)]
