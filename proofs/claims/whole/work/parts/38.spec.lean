/-! ===== what both sides answer, as functions of ground and bars ===== -/
noncomputable def sb (g : gd_T) (B : Nat) : Option Nat := @dite (Option Nat) (∃ S, gd_best g B S) (Classical.propDecidable _) (fun h => some (Classical.choose h)) (fun _ => none)
theorem sb_some {g : gd_T} {B S : Nat} (h : gd_best g B S) : sb g B = some S := by
  have hex : ∃ S, gd_best g B S := ⟨S, h⟩
  unfold sb
  rw [dif_pos hex]
  exact congrArg some (gd_best_uniq (Classical.choose_spec hex) h)
theorem sb_none {g : gd_T} {B : Nat} (h : gd_none g B) : sb g B = none := by
  unfold sb
  rw [dif_neg (fun ⟨S, hS⟩ => gd_best_none hS h)]
theorem sb_get {g : gd_T} {B S : Nat} (h : sb g B = some S) : gd_best g B S := by
  unfold sb at h
  split at h
  · rename_i hex
    cases h
    exact Classical.choose_spec hex
  · cases h
theorem sb_dich (g : gd_T) (B : Nat) : gd_none g B ∨ ∃ S, gd_best g B S := by
  have step : ∀ X, (∀ T, T < X → gd_sub T B → ¬ gd_brs g T) ∨ ∃ S, S < X ∧ gd_sub S B ∧ gd_brs g S ∧ ∀ T, T < X → gd_sub T B → gd_brs g T → gd_le g S T := by
    intro X
    induction X with
    | zero => exact Or.inl (fun T hT => absurd hT (Nat.not_lt_zero _))
    | succ X ih =>
      rcases Classical.em (gd_sub X B ∧ gd_brs g X) with ⟨hs, hb⟩ | hno
      · rcases ih with hn | ⟨S, h1, h2, h3, h4⟩
        · refine Or.inr ⟨X, by omega, hs, hb, fun T hT a b => ?_⟩
          rcases Nat.lt_or_ge T X with q | q
          · exact absurd b (hn T q a)
          · have e : T = X := by omega
            rw [e]; exact gd_le_rf hb
        · rcases Classical.em (gd_lt g X S) with hl | hl
          · refine Or.inr ⟨X, by omega, hs, hb, fun T hT a b => ?_⟩
            rcases Nat.lt_or_ge T X with q | q
            · exact gd_le_tr h3 hb b (Or.inl hl) (h4 T q a b)
            · have e : T = X := by omega
              rw [e]; exact gd_le_rf hb
          · refine Or.inr ⟨S, by omega, h2, h3, fun T hT a b => ?_⟩
            rcases Nat.lt_or_ge T X with q | q
            · exact h4 T q a b
            · have e : T = X := by omega
              rw [e]; exact Or.inr ⟨hl, by omega⟩
      · rcases ih with hn | ⟨S, h1, h2, h3, h4⟩
        · refine Or.inl (fun T hT a b => ?_)
          rcases Nat.lt_or_ge T X with q | q
          · exact hn T q a b
          · have e : T = X := by omega
            rw [e] at a b
            exact hno ⟨a, b⟩
        · refine Or.inr ⟨S, by omega, h2, h3, fun T hT a b => ?_⟩
          rcases Nat.lt_or_ge T X with q | q
          · exact h4 T q a b
          · have e : T = X := by omega
            rw [e] at a b
            exact absurd ⟨a, b⟩ hno
  rcases step (2 ^ gd_m g) with hn | ⟨S, h1, h2, h3, h4⟩
  · exact Or.inl hn
  · refine Or.inr ⟨S, h2, h1, h3, fun T q1 q2 q3 a b a' b' hv hv' => ?_⟩
    have h5 := h4 T q1 q2 q3
    unfold gd_le at h5
    rw [gd_lt_iff h3.1 q3.1 hv hv', gd_lt_iff q3.1 h3.1 hv' hv] at h5
    omega
theorem sb_no {g : gd_T} {B : Nat} (h : sb g B = none) : gd_none g B := by
  rcases sb_dich g B with q | ⟨S, q⟩
  · exact q
  · rw [sb_some q] at h; cases h
theorem sb_mono {g : gd_T} {B B' : Nat} (hs : gd_sub B' B) (h : sb g B = none) : sb g B' = none := sb_none (fun T h1 h2 => sb_no h T h1 (gd_sub_trans h2 hs))
theorem sb_brs {g : gd_T} {B S : Nat} (h : sb g B = some S) : gd_brs g S ∧ S < 2 ^ gd_m g ∧ gd_sub S B := ⟨(sb_get h).2.2.1, (sb_get h).2.1, (sb_get h).1⟩
def eb (o : Option Nat) : Int32 := match o with
  | none => -1
  | some S => nI S
theorem eb_b {g : gd_T} {B : Nat} {v : Int32} (h : mt_b g B v) : v = eb (sb g B) := by
  rcases h with ⟨e, h⟩ | ⟨S, e, h⟩
  · rw [sb_none h]; exact e
  · rw [sb_some h]; exact e
noncomputable def sv (g : gd_T) (S : Nat) : Int × Int := @dite (Int × Int) (∃ x : Int × Int, gd_vol g S x.1 x.2) (Classical.propDecidable _) (fun h => (fr_n (Classical.choose h).1 (Classical.choose h).2, fr_d (Classical.choose h).1 (Classical.choose h).2)) (fun _ => (0, 1))
theorem sv_eq {g : gd_T} {S : Nat} {a b : Int} (hi : gd_ind g S) (h : gd_vol g S a b) : fr_n a b = (sv g S).1 ∧ fr_d a b = (sv g S).2 := by
  have hex : ∃ x : Int × Int, gd_vol g S x.1 x.2 := ⟨(a, b), h⟩
  have hc := Classical.choose_spec hex
  unfold sv
  rw [dif_pos hex]
  have h1 := h.1
  have h2 := hc.1
  exact fr_eq (by omega) (by omega) (gd_vol_same hi h hc)
theorem sv_spec {g : gd_T} {S : Nat} {a b : Int} (hi : gd_ind g S) (h : gd_vol g S a b) : 0 < (sv g S).2 ∧ Int.gcd (sv g S).1 (sv g S).2 = 1 ∧ a * (sv g S).2 = (sv g S).1 * b := by
  have h1 := h.1
  obtain ⟨s1, s2, s3, -⟩ := fr_spec (a := a) (b := b) (by omega)
  obtain ⟨e1, e2⟩ := sv_eq hi h
  rw [e1, e2] at s2 s3
  rw [e2] at s1
  exact ⟨s1, s2, s3⟩
theorem sv_low {g : gd_T} {S : Nat} {a b : Int} (hi : gd_ind g S) (h : gd_vol g S a b) (hg : Int.gcd a b = 1) : a = (sv g S).1 ∧ b = (sv g S).2 := by
  obtain ⟨s1, s2, s3⟩ := sv_spec hi h
  exact fr_uniq h.1 s1 hg s2 (by rw [s3])
/-- what a gain is -/
noncomputable def sg (g : gd_T) (S T : Nat) : Int × Int := (fr_n ((sv g S).1 * (sv g T).2 - (sv g T).1 * (sv g S).2) ((sv g S).2 * (sv g T).2), fr_d ((sv g S).1 * (sv g T).2 - (sv g T).1 * (sv g S).2) ((sv g S).2 * (sv g T).2))
theorem sg_eq {g : gd_T} {S T : Nat} {a b a' b' : Int} (hi : gd_ind g S) (hi' : gd_ind g T) (h : gd_vol g S a b) (h' : gd_vol g T a' b') : fr_n (a * b' - a' * b) (b * b') = (sg g S T).1 ∧ fr_d (a * b' - a' * b) (b * b') = (sg g S T).2 := by
  obtain ⟨s1, -, s3⟩ := sv_spec hi h
  obtain ⟨t1, -, t3⟩ := sv_spec hi' h'
  have h1 := h.1
  have h2 := h'.1
  unfold sg
  generalize (sv g S).1 = n at *
  generalize (sv g S).2 = d at *
  generalize (sv g T).1 = n' at *
  generalize (sv g T).2 = d' at *
  refine fr_eq (Int.mul_ne_zero (by omega) (by omega)) (Int.mul_ne_zero (by omega) (by omega)) ?_
  have z1 : (a * b' - a' * b) * (d * d') = (a * d) * b' * d' - (a' * d') * b * d := by grind
  have z2 : (n * d' - n' * d) * (b * b') = (n * b) * b' * d' - (n' * b') * b * d := by grind
  rw [z1, z2, s3, t3]
noncomputable def sq (g : gd_T) (S k : Nat) : Int × Int := @dite (Int × Int) (∃ x : Int × (Nat → Int), x.1 ≠ 0 ∧ gd_sol g S x.1 x.2) (Classical.propDecidable _) (fun h => (fr_n ((Classical.choose h).2 k) (Classical.choose h).1, fr_d ((Classical.choose h).2 k) (Classical.choose h).1)) (fun _ => (0, 1))
theorem sq_eq {g : gd_T} {S : Nat} {p : Int} {q : Nat → Int} (hi : gd_ind g S) (hp : p ≠ 0) (h : gd_sol g S p q) (k : Nat) : fr_n (q k) p = (sq g S k).1 ∧ fr_d (q k) p = (sq g S k).2 := by
  have hex : ∃ x : Int × (Nat → Int), x.1 ≠ 0 ∧ gd_sol g S x.1 x.2 := ⟨(p, q), hp, h⟩
  have hc := Classical.choose_spec hex
  unfold sq
  rw [dif_pos hex]
  refine fr_eq hp hc.1 ?_
  have := gd_same hi h hc.2 k
  grind
noncomputable def sf (g : gd_T) (B : Nat) : Int := @dite Int (∃ f, gd_flt g B f) (Classical.propDecidable _) (fun h => Classical.choose h) (fun _ => 0)
theorem sf_eq {g : gd_T} {B : Nat} {f : Int} (h : gd_flt g B f) : sf g B = f := by
  have hex : ∃ f, gd_flt g B f := ⟨f, h⟩
  unfold sf
  rw [dif_pos hex]
  exact gd_flt_uniq (Classical.choose_spec hex) h
def fp (x : Int × Int) (c : Int32) : Int64 := nn_l (if c = 0 then x.1 else x.2)
def noL (a : Int32) : Int64 := -9223372036854775808 - a.toInt64
noncomputable def sl (g : gd_T) (B : Nat) (c : Int32) : Int64 := match sb g B with
  | none => noL (-3)
  | some S => fp (sv g S) c
/-! ===== the class between calls ===== -/
def ev (g : gd_T) : Nat := 2 ^ gd_m g - 1
theorem ev_tb (g : gd_T) (k : Nat) : (ev g).testBit k = decide (k < gd_m g) := by
  unfold ev
  exact Nat.testBit_two_pow_sub_one _ _
theorem ev_sub {g : gd_T} {B : Nat} (h : B < 2 ^ gd_m g) : gd_sub B (ev g) := fun k hk => by
  rw [ev_tb]
  rcases Nat.lt_or_ge k (gd_m g) with q | q
  · simpa using q
  · rw [gd_big h q] at hk; cases hk
theorem ev_lt {g : gd_T} (hm : gd_m g ≤ 10) : ev g < 1024 ∧ 2 ^ gd_m g ≤ 1024 := by
  unfold ev
  have h1 : (2 : Nat) ^ gd_m g ≤ 2 ^ 10 := Nat.pow_le_pow_right (by decide) hm
  have h2 : 0 < 2 ^ gd_m g := Nat.pow_pos (by decide)
  omega
/-- sets are gathered for this ground -/
def cs_ok (g : gd_T) (L : List Nat) (u : wo_T) : Prop := bk_L g (ev g) u 23 L ∧ bn_F g (ev g) L ∧ bn_c g u 23 L ∧ ∀ T, T < 1024 → u.1 23 10 = nI T → pl_ok g u 23 T
def ci_v (g : gd_T) (L : List Nat) (B : Nat) (v : Int32) : Prop := (v = -1 ∧ sb g B = none) ∨ ∃ i S, v = nI i ∧ L[i]? = some S ∧ sb g B = some S
theorem ci_v_of {g : gd_T} (hok : gd_ok g) {L : List Nat} (hF : bn_F g (ev g) L) {B : Nat} (hB : B < 2 ^ gd_m g) {v : Int32} (h : bn_a g L B v) : ci_v g L B v := by
  rcases h with ⟨e, h⟩ | ⟨i, S, e, hi, hsub, h⟩
  · exact Or.inl ⟨e, sb_none (bn_none hok hF (ev_sub hB) h)⟩
  · exact Or.inr ⟨i, S, e, hi, sb_some (bn_best hok hF (ev_sub hB) (List.mem_of_getElem? hi) hsub h)⟩
/-- the bars of the class -/
def cb (w : wo_T) : Nat := (w.1 0 6).toInt.toNat
def ci (w : wo_T) : Prop := gc_ok w ∧ (w.1 0 6 = nI (cb w) ∧ cb w < 2 ^ gd_m (gc_g w)) ∧ (w.1 0 8 = 0 → ∃ L, cs_ok (gc_g w) L w)
/-- what questions to the class may change -/
abbrev cq_i : List Nat := [0, 23, 24, 28, 8, 18, 19, 20, 29, 30, 34, 35, 47, 48]
abbrev cq_l : List Nat := [25, 26, 10, 11, 12, 13, 14, 15, 16, 17, 21, 22, 23, 27, 31, 32, 29, 33, 37, 38, 39, 40, 41, 42, 43, 44, 45, 46, 48]
def cq (w u : wo_T) : Prop := wo_fr cq_i cq_l w u ∧ ∀ j, j ≠ 8 → u.1 0 j = w.1 0 j
theorem cq_rf (w : wo_T) : cq w w := ⟨wo_fr_rf _ _ _, fun _ _ => rfl⟩
theorem cq_tr {w u v : wo_T} (h : cq w u) (h2 : cq u v) : cq w v := ⟨wo_fr_tr h.1 h2.1, fun j hj => (h2.2 j hj).trans (h.2 j hj)⟩
theorem cq_g {w u : wo_T} (h : cq w u) : gc_g u = gc_g w := by
  unfold gc_g
  rw [h.1.1 1 (by decide), h.1.1 2 (by decide), h.1.1 3 (by decide), h.1.1 4 (by decide)]
theorem cq_ok {w u : wo_T} (h : cq w u) (hw : gc_ok w) : gc_ok u := by
  unfold gc_ok
  rw [cq_g h, h.1.1 1 (by decide), h.1.1 3 (by decide), h.1.1 6 (by decide), h.1.1 7 (by decide)]
  exact hw
theorem cq_b {w u : wo_T} (h : cq w u) : cb u = cb w := by
  unfold cb
  rw [h.2 6 (by decide)]
/-- fresh, behind a question -/
def cf (w : wo_T) (L : List Nat) (u : wo_T) : Prop := cq w u ∧ u.1 0 8 = 0 ∧ cs_ok (gc_g w) L u
theorem cf_ci {w u : wo_T} {L : List Nat} (hw : ci w) (h : cf w L u) : ci u := by
  unfold ci
  rw [cq_g h.1, cq_b h.1, h.1.2 6 (by decide)]
  exact ⟨cq_ok h.1 hw.1, hw.2.1, fun _ => ⟨L, h.2.2⟩⟩
theorem cq_ci {w u : wo_T} (hw : ci w) (h : cq w u) (h8 : u.1 0 8 = w.1 0 8) (hs : ∀ L, cs_ok (gc_g w) L w → cs_ok (gc_g w) L u) : ci u := by
  unfold ci
  rw [cq_g h, cq_b h, h.2 6 (by decide), h8]
  exact ⟨cq_ok h hw.1, hw.2.1, fun q => by
    obtain ⟨L, hL⟩ := hw.2.2 q
    exact ⟨L, hs L hL⟩⟩
section
variable {K : jj_K} {w : wo_T}
/-- the least within some bars, of sets that are gathered -/
theorem c_lw {P : Int32 → wo_T → Prop} {g : gd_T} {L : List Nat} {w0 : wo_T} (hok : gd_ok g) (hg : gc_g w0 = g) (hf : cf w0 L w) {B : Nat} (hB : B < 2 ^ gd_m g) (k : ∀ u v, cf w0 L u → ci_v g L B v → P v u) : jj_Ci K mX0_leastWithin [.ref 23, .int (nI B)] w P := by
  have hm := gd_m_le hok
  obtain ⟨e1, e2⟩ := ev_lt hm
  obtain ⟨hq, h8, hs⟩ := hf
  rw [hg] at hs
  obtain ⟨s1, s2, s3, s4⟩ := hs
  refine c_leastWithin (Or.inl rfl) hok s1 s3 (by omega) (fun u v hfr hj hc ha => k u v ⟨cq_tr hq ⟨wo_fr_up hfr (fun b hb => by simp at hb; simp [hb]) (fun b hb => by cases hb), fun j _ => by rw [hfr.1 0 (by simp)]⟩, by rw [hfr.1 0 (by simp)]; exact h8, ?_⟩ (ci_v_of hok s2 hB ha))
  rw [hg]
  refine ⟨bk_L_fr (w := w) (hj 7 (by decide) (by decide)) (hfr.1 24 (by simp)) (hfr.2 25 (by simp)) (hfr.2 26 (by simp)) s1, s2, hc, fun T hT e => ?_⟩
  rw [hj 10 (by decide) (by decide)] at e
  obtain ⟨p, q, a1, a2, a3, a4, a5⟩ := s4 T hT e
  exact ⟨p, q, a1, a2, a3, by rw [hfr.2 23 (by simp)]; exact a4, fun k hk => by rw [hfr.2 27 (by simp)]; exact a5 k hk⟩
theorem c_bestNow {P : Int32 → wo_T → Prop} (h : ci w) (k : ∀ u v L, cf w L u → ci_v (gc_g w) L (cb w) v → P v u) : jj_Ci K mX6_bestNow [.ref 0] w P := by
  obtain ⟨hok, ⟨hb1, hb2⟩, hst⟩ := h
  have hm := gc_m hok
  obtain ⟨e1, e2⟩ := ev_lt hm
  apply en_X6_bestNow
  refine ⟨fun h0 => ?_, fun h0 => c_everyPair hok ?_⟩
  · obtain ⟨L, hL⟩ := hst h0
    rw [hb1]
    exact c_lw hok.1 rfl ⟨cq_rf w, h0, hL⟩ hb2 (fun u v hf hv => k u v L hf hv)
  · refine c_gather (o := 23) (Or.inl rfl) hok (A := ev (gc_g w)) e1 (fun u L hF => ?_)
    obtain ⟨hfr, ⟨h8, h10, h9⟩, hbk, hall⟩ := hF
    have h06 : (wo_i u 0 8 0).1 0 6 = nI (cb w) := by
      rw [wo_i_nk (by decide), hfr.1 0 (by simp)]; exact hb1
    rw [h06]
    refine c_lw (w0 := w) hok.1 rfl ⟨⟨wo_fr_i (wo_fr_up hfr (fun b hb => ?_) (fun b hb => ?_)) (by simp) _ _, fun j hj => ?_⟩, wo_i_eq, ?_⟩ hb2 (fun u2 v hf hv => k u2 v L hf hv)
    · simp at hb; rcases hb with rfl | rfl | rfl | rfl | rfl | rfl | rfl <;> decide
    · simp at hb; rcases hb with rfl | rfl | rfl | rfl | rfl | rfl | rfl | rfl | rfl | rfl | rfl | rfl <;> decide
    · rw [wo_i_nk (by omega), hfr.1 0 (by simp)]
    · refine ⟨bk_L_fr (w := u) rfl rfl rfl rfl hbk, ⟨hbk.2.2.1, hall⟩, Or.inl h8, fun T hT e => ?_⟩
      have e' : u.1 23 10 = nI T := e
      rw [h10] at e'
      have := congrArg Int32.toInt e'
      rw [nn_nI_int (by omega)] at this
      have h1 : (-1 : Int32).toInt = -1 := rfl
      rw [h1] at this
      omega
end
