/-! ===== worlds that differ in some cells only ===== -/
def wo_fr (is ls : List Nat) (w u : wo_T) : Prop := (∀ b, b ∉ is → u.1 b = w.1 b) ∧ ∀ b, b ∉ ls → u.2 b = w.2 b
theorem wo_fr_rf (is ls : List Nat) (w : wo_T) : wo_fr is ls w w := ⟨fun _ _ => rfl, fun _ _ => rfl⟩
theorem wo_fr_tr {is ls : List Nat} {w u v : wo_T} (h : wo_fr is ls w u) (h2 : wo_fr is ls u v) : wo_fr is ls w v := ⟨fun b hb => (h2.1 b hb).trans (h.1 b hb), fun b hb => (h2.2 b hb).trans (h.2 b hb)⟩
theorem wo_fr_up {is ls is2 ls2 : List Nat} {w u : wo_T} (h : wo_fr is ls w u) (h1 : ∀ b, b ∈ is → b ∈ is2) (h2 : ∀ b, b ∈ ls → b ∈ ls2) : wo_fr is2 ls2 w u := ⟨fun b hb => h.1 b (fun q => hb (h1 b q)), fun b hb => h.2 b (fun q => hb (h2 b q))⟩
theorem wo_fr_i {is ls : List Nat} {w u : wo_T} (h : wo_fr is ls w u) {a : Nat} (ha : a ∈ is) (k : Nat) (v : Int32) : wo_fr is ls w (wo_i u a k v) := ⟨fun b hb => (wo_i_ne b (fun e => hb (e ▸ ha))).trans (h.1 b hb), h.2⟩
theorem wo_fr_l {is ls : List Nat} {w u : wo_T} (h : wo_fr is ls w u) {a : Nat} (ha : a ∈ ls) (k : Nat) (v : Int64) : wo_fr is ls w (wo_l u a k v) := ⟨h.1, fun b hb => (wo_l_ne b (fun e => hb (e ▸ ha))).trans (h.2 b hb)⟩
theorem wo_i_eq {w : wo_T} {a k : Nat} {v : Int32} : (wo_i w a k v).1 a k = v := by simp [wo_i]
theorem wo_i_nk {w : wo_T} {a k b j : Nat} {v : Int32} (h : ¬ (b = a ∧ j = k)) : (wo_i w a k v).1 b j = w.1 b j := by simp only [wo_i]; rw [if_neg h]
theorem wo_l_eq {w : wo_T} {a k : Nat} {v : Int64} : (wo_l w a k v).2 a k = v := by simp [wo_l]
theorem wo_l_nk {w : wo_T} {a k b j : Nat} {v : Int64} (h : ¬ (b = a ∧ j = k)) : (wo_l w a k v).2 b j = w.2 b j := by simp only [wo_l]; rw [if_neg h]
theorem wo_i_2 {w : wo_T} {a k : Nat} {v : Int32} : (wo_i w a k v).2 = w.2 := rfl
theorem wo_l_1 {w : wo_T} {a k : Nat} {v : Int64} : (wo_l w a k v).1 = w.1 := rfl
/-! small numbers -/
theorem nn_two (a : Nat) : 2 * nI a = nI (2 * a) := pk_mul 2 a
theorem nn_half {a : Nat} (h : a < 2 ^ 31) : nI a / 2 = nI (a / 2) := pk_div (d := 2) h (by decide) (by decide)
theorem nn_par {a : Nat} (h : a < 2 ^ 31) : nI a - nI a / 2 * 2 = nI (a % 2) := pk_rem (d := 2) h (by decide) (by decide)
theorem nn_ad1 (a : Nat) : nI a + 1 = nI (a + 1) := nI_1 a
theorem nn_el (a : Nat) : nI a * 11 = nI (a * 11) := pk_mul a 11
theorem nn_inn {i n : Nat} (h : i < n) (hn : n < 2 ^ 31) : vp_in (nI i) n := vp_in_nI h hn
/-! ===== the ground of the class ===== -/
def gc_g (w : wo_T) : gd_T := ((w.1 1 6).toInt.toNat, fun p => (w.1 2 (2 * p)).toInt, fun p => (w.1 2 (2 * p + 1)).toInt, fun p => (w.1 3 p).toInt.toNat, fun v => (w.1 4 v).toInt)
def gc_ok (w : wo_T) : Prop := gd_ok (gc_g w) ∧ w.1 1 6 = nI (gc_g w).1 ∧ (∀ p, p < 5 → w.1 3 p = nI ((gc_g w).2.2.2.1 p) ∧ (gc_g w).2.2.2.1 p < 4) ∧ ∀ k, k < gd_m (gc_g w) → w.1 6 (2 * k) = nn_i (gd_run (gc_g w) k 0) ∧ w.1 6 (2 * k + 1) = nn_i (gd_run (gc_g w) k 1) ∧ w.1 7 k = nn_i (gd_quad (gc_g w) k)
theorem gc_g_eq {w u : wo_T} (h : ∀ b, b < 8 → u.1 b = w.1 b) : gc_g u = gc_g w := by
  unfold gc_g
  rw [h 1 (by decide), h 2 (by decide), h 3 (by decide), h 4 (by decide)]
theorem gc_ok_eq {w u : wo_T} (h : ∀ b, b < 8 → u.1 b = w.1 b) (hw : gc_ok w) : gc_ok u := by
  unfold gc_ok
  rw [gc_g_eq h, h 1 (by decide), h 3 (by decide), h 6 (by decide), h 7 (by decide)]
  exact hw
theorem wo_les_n : ∀ k, k < 10 → wo_les k = nI (gd_les k) := by decide +kernel
theorem wo_gre_n : ∀ k, k < 10 → wo_gre k = nI (gd_gre k) := by decide +kernel
section
variable {K : jj_K} {w : wo_T}
theorem gc_n {w : wo_T} (h : gc_ok w) : (gc_g w).1 ≤ 5 := h.1.1
theorem gc_m {w : wo_T} (h : gc_ok w) : gd_m (gc_g w) ≤ 10 := gd_m_le h.1
theorem c_pairs {P : Int32 → wo_T → Prop} (h : gc_ok w) (k : P (nI (gd_m (gc_g w))) w) : jj_Ci K mX3_pairs [.ref 1] w P := by
  apply en_X3_pairs
  have hn := gc_n h
  rw [h.2.1]
  have e : nI (gc_g w).1 * (nI (gc_g w).1 - 1) / 2 = nI (gd_m (gc_g w)) := by
    unfold gd_m
    generalize (gc_g w).1 = n at hn
    have : ∀ n : Nat, n ≤ 5 → nI n * (nI n - 1) / 2 = nI (n * (n - 1) / 2) := by decide +kernel
    exact this n hn
  rw [e]
  exact k
theorem c_everyPair {P : Int32 → wo_T → Prop} (h : gc_ok w) (k : P (nI (2 ^ gd_m (gc_g w) - 1)) w) : jj_Ci K mX3_everyPair [.ref 1] w P := by
  apply en_X3_everyPair
  refine c_pairs h ?_
  have hm := gc_m h
  rw [nn_one (by omega)]
  have : ∀ m : Nat, m ≤ 10 → nI (2 ^ m) - 1 = nI (2 ^ m - 1) := by decide +kernel
  rw [this _ hm]
  exact k
theorem c_hasPair {P : Int32 → wo_T → Prop} (h : gc_ok w) (a : Int32) (k1 : ∀ j : Nat, j < gd_m (gc_g w) → a = nI j → P 1 w) (k0 : (∀ j : Nat, j < gd_m (gc_g w) → ¬ a = nI j) → P 0 w) : jj_Ci K mX3_hasPair [.ref 1, .int a] w P := by
  apply en_X3_hasPair
  have hm := gc_m h
  refine ⟨fun hn => k0 (fun j hj e => ?_), fun hn => c_pairs h ⟨fun hle => k0 (fun j hj e => ?_), fun hlt => ?_⟩⟩
  · rw [e] at hn
    exact nI_pos (by omega) hn
  · rw [e] at hle
    exact nI_ge hj (by omega) hle
  · rcases pk_ix a (n := gd_m (gc_g w)) (by omega) with h1 | h1 | ⟨j, hj, e⟩
    · exact absurd h1 hn
    · exact absurd h1 hlt
    · exact k1 j hj e
theorem c_hasPoint {P : Int32 → wo_T → Prop} (h : gc_ok w) (a : Int32) (k1 : ∀ j : Nat, j < (gc_g w).1 → a = nI j → P 1 w) (k0 : (∀ j : Nat, j < (gc_g w).1 → ¬ a = nI j) → P 0 w) : jj_Ci K mX3_hasPoint [.ref 1, .int a] w P := by
  apply en_X3_hasPoint
  have hm := gc_n h
  rw [h.2.1]
  refine ⟨fun hn => k0 (fun j hj e => ?_), fun hn => ⟨fun hle => k0 (fun j hj e => ?_), fun hlt => ?_⟩⟩
  · rw [e] at hn
    exact nI_pos (by omega) hn
  · rw [e] at hle
    exact nI_ge hj (by omega) hle
  · rcases pk_ix a (n := (gc_g w).1) (by omega) with h1 | h1 | ⟨j, hj, e⟩
    · exact absurd h1 hn
    · exact absurd h1 hlt
    · exact k1 j hj e
theorem c_isFree {P : Int32 → wo_T → Prop} (h : gc_ok w) (v : Nat) (hv : v < 2 * (gc_g w).1) (k : P (if gd_free (gc_g w) v then 1 else 0) w) : jj_Ci K mX3_isFree [.ref 1, .int (nI v)] w P := by
  apply en_X3_isFree
  have hn := gc_n h
  have h5 : v / 2 < 5 := by omega
  rw [nn_par (by omega), nn_half (by omega), nI_clamp (by omega)]
  refine ⟨nn_inn h5 (by decide), ?_⟩
  obtain ⟨e, h4⟩ := h.2.2.1 (v / 2) h5
  rw [e, nn_bit0 (by omega) (by omega)]
  have hf : gd_free (gc_g w) v = !((gc_g w).2.2.2.1 (v / 2)).testBit (v % 2) := by
    unfold gd_free
    simp [hv]
  rw [hf] at k
  cases hb : ((gc_g w).2.2.2.1 (v / 2)).testBit (v % 2) with
  | true => rw [hb] at k; exact ⟨fun _ => k, fun e => by cases e⟩
  | false => rw [hb] at k; exact ⟨fun e => absurd rfl e, fun _ => k⟩
theorem gc_run {w : wo_T} (h : gc_ok w) {k : Nat} (hk : k < gd_m (gc_g w)) {ax : Nat} (hax : ax < 2) : w.1 6 (2 * k + ax) = nn_i (gd_run (gc_g w) k ax) := by
  rcases (show ax = 0 ∨ ax = 1 by omega) with rfl | rfl
  · exact (h.2.2.2 k hk).1
  · exact (h.2.2.2 k hk).2.1
theorem c_brought {P : Int32 → wo_T → Prop} (h : gc_ok w) (j v : Nat) (hj : j < gd_m (gc_g w)) (hv : v < 10) (k : P (nn_i (gd_br (gc_g w) j v)) w) : jj_Ci K mX3_brought [.ref 1, .int (nI j), .int (nI v)] w P := by
  apply en_X3_brought
  have hm := gc_m h
  rw [nn_par (by omega), nn_half (by omega), nn_two, nI_add, nI_clamp (by omega), nI_clamp (by omega), wo_les_n j (by omega), wo_gre_n j (by omega), gc_run h hj (by omega)]
  refine ⟨nn_inn (by omega) (by decide), fun x ex => ⟨nn_inn (by omega) (by decide), fun hl => ⟨nn_inn (by omega) (by decide), fun hg => ?_, fun hg => ?_⟩, fun hl => ?_⟩⟩
  · have h1 := gd_les_gre j (by omega)
    rw [nI_eq (by omega) (by omega)] at hl hg
    unfold gd_br at k
    rw [if_neg hl, if_neg hg] at k
    exact k
  · have h1 := gd_les_gre j (by omega)
    rw [nI_eq (by omega) (by omega)] at hl hg
    unfold gd_br at k
    rw [if_neg hl, if_pos hg] at k
    rw [ex, nn_i_neg]
    exact k
  · have h1 := gd_les_gre j (by omega)
    rw [nI_eq (by omega) (by omega)] at hl
    unfold gd_br at k
    rw [if_pos hl] at k
    rw [ex]
    exact k
end
