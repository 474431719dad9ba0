/-! ===== degrees; masks; columns that three motions do not stretch ===== -/
def xc_D : {n : Nat} → Nat → xa_E n → Prop
  | 0, k, x => k = 0 ∨ (show Int from x) = 0
  | n + 1, 0, x => xc_D 0 x.1 ∧ x.2 = xa_z n
  | _ + 1, k + 1, x => xc_D (k + 1) x.1 ∧ xc_D k x.2
theorem xc_z : ∀ {n : Nat} (k : Nat), xc_D k (xa_z n)
  | 0, _ => Or.inr rfl
  | n + 1, 0 => ⟨xc_z 0, rfl⟩
  | n + 1, k + 1 => ⟨xc_z (k + 1), xc_z k⟩
theorem xc_s : ∀ {n : Nat} (k : Nat) (q : Int) (x : xa_E n), xc_D k x → xc_D k (xa_s q x)
  | 0, k, q, x, h => h.elim Or.inl (fun e => Or.inr (by
      show q * (show Int from x) = 0
      rw [e]; simp))
  | n + 1, 0, q, x, h => ⟨xc_s 0 q x.1 h.1, by show xa_s q x.2 = _; rw [h.2, xa_s_z]⟩
  | n + 1, k + 1, q, x, h => ⟨xc_s (k + 1) q x.1 h.1, xc_s k q x.2 h.2⟩
theorem xc_a : ∀ {n : Nat} (k : Nat) (x y : xa_E n), xc_D k x → xc_D k y → xc_D k (xa_a x y)
  | 0, k, x, y, h, g => h.elim Or.inl (fun e => g.elim Or.inl (fun f => Or.inr (by
      show (show Int from x) + (show Int from y) = 0
      rw [e, f]; rfl)))
  | n + 1, 0, x, y, h, g => ⟨xc_a 0 x.1 y.1 h.1 g.1, by show xa_a x.2 y.2 = _; rw [h.2, g.2, xa_a_z]⟩
  | n + 1, k + 1, x, y, h, g => ⟨xc_a (k + 1) x.1 y.1 h.1 g.1, xc_a k x.2 y.2 h.2 g.2⟩
theorem xc_w : ∀ {n : Nat} (k : Nat) (c : Nat → Int) (x : xa_E n), xc_D k x → xc_D (k + 1) (xa_w c x)
  | 0, _, _, _, _ => Or.inr rfl
  | n + 1, 0, c, x, h => ⟨xc_w 0 c x.1 h.1, by
      show xc_D 0 (xa_a (xa_s (c n) x.1) (xa_s (-1) (xa_w c x.2)))
      rw [h.2, xa_w_z, xa_s_z, xa_a_z]
      exact xc_s 0 _ _ h.1⟩
  | n + 1, k + 1, c, x, h => ⟨xc_w (k + 1) c x.1 h.1, xc_a (k + 1) _ _ (xc_s (k + 1) _ _ h.1) (xc_s (k + 1) _ _ (xc_w k c x.2 h.2))⟩
theorem xc_big : ∀ {n : Nat} (k : Nat) (x : xa_E n), n < k → xc_D k x → x = xa_z n
  | 0, k, x, hk, h => h.elim (fun e => absurd e (by omega)) (fun e => e)
  | n + 1, 0, x, hk, _ => absurd hk (by omega)
  | n + 1, k + 1, x, hk, h => Prod.ext (xc_big (k + 1) x.1 (by omega) h.1) (xc_big k x.2 (by omega) h.2)
theorem xc_1 : ∀ {n : Nat}, xc_D 0 (xa_1 n)
  | 0 => Or.inl rfl
  | n + 1 => ⟨xc_1, rfl⟩
theorem xc_O {n : Nat} : ∀ ks : List (Nat → Int), xc_D ks.length (xb_O ks : xa_E n)
  | [] => xc_1
  | k :: ks => xc_w ks.length k _ (xc_O ks)
theorem xc_drop {n : Nat} {x : xa_E n} {u d : Nat → Int} (hd : xa_i d x = xa_z n) (hs : xa_d n u d ≠ 0) (hw : xa_w u x = xa_z n) : x = xa_z n := by
  have h := xa_iw d u x
  rw [hd, hw, xa_i_z, xa_w_z, xa_s_z, xa_a_z] at h
  rcases Classical.em (x = xa_z n) with e | e
  · exact e
  · exact absurd (xb_O_tor h.symm e) hs
theorem xc_ann {n : Nat} (d : Nat → Int) : ∀ ks : List (Nat → Int), (∀ k, k ∈ ks → xa_d n k d = 0) → xa_i d (xb_O ks : xa_E n) = xa_z n
  | [], _ => xa_i_1 d
  | k :: ks, h => by
    show xa_i d (xa_w k (xb_O ks)) = _
    rw [xa_iw, h k List.mem_cons_self, xc_ann d ks (fun k hk => h k (List.mem_cons_of_mem _ hk)), xa_w_z, xa_s_z, xa_a_z, xa_s_0]
/-- columns that three motions leave alone are dependent, if they are more than n less 3 -/
theorem xc_rank {n : Nat} (ks : List (Nat → Int)) (d1 d2 d3 u1 u2 u3 : Nat → Int) (hl : n < ks.length + 3) (h1 : ∀ k, k ∈ ks → xa_d n k d1 = 0) (h2 : ∀ k, k ∈ ks → xa_d n k d2 = 0) (h3 : ∀ k, k ∈ ks → xa_d n k d3 = 0)
    (e21 : xa_d n u2 d1 = 0) (e13 : xa_d n u1 d3 = 0) (e23 : xa_d n u2 d3 = 0) (n1 : xa_d n u1 d1 ≠ 0) (n2 : xa_d n u2 d2 ≠ 0) (n3 : xa_d n u3 d3 ≠ 0) : (xb_O ks : xa_E n) = xa_z n := by
  have i1 := xc_ann (n := n) d1 ks h1
  have i2 := xc_ann (n := n) d2 ks h2
  have i3 := xc_ann (n := n) d3 ks h3
  have hbig : xa_w u3 (xa_w u1 (xa_w u2 (xb_O ks : xa_E n))) = xa_z n := xc_big (ks.length + 3) _ hl (xc_w (ks.length + 2) _ _ (xc_w (ks.length + 1) _ _ (xc_w ks.length _ _ (xc_O ks))))
  have w12 : xa_w u1 (xa_w u2 (xb_O ks : xa_E n)) = xa_z n := by
    refine xc_drop (d := d3) (u := u3) ?_ n3 hbig
    rw [xa_iw, e13, xa_iw, e23, i3]
    simp only [xa_w_z, xa_s_z, xa_a_z, xa_s_0]
  have w2 : xa_w u2 (xb_O ks : xa_E n) = xa_z n := by
    refine xc_drop (d := d1) (u := u1) ?_ n1 w12
    rw [xa_iw, e21, i1]
    simp only [xa_w_z, xa_s_z, xa_a_z, xa_s_0]
  exact xc_drop i2 n2 w2
/-- only some coordinates are looked at -/
def xc_m (f : Nat → Bool) : {n : Nat} → xa_E n → xa_E n
  | 0, x => x
  | n + 1, x => (xc_m f x.1, if f n then xc_m f x.2 else xa_z n)
def xc_v (f : Nat → Bool) (c : Nat → Int) : Nat → Int := fun i => if f i then c i else 0
theorem xc_m_a (f : Nat → Bool) : ∀ {n : Nat} (x y : xa_E n), xc_m f (xa_a x y) = xa_a (xc_m f x) (xc_m f y)
  | 0, _, _ => rfl
  | n + 1, x, y => by
    simp only [xc_m, xa_a, xc_m_a f]
    by_cases h : f n = true
    · simp [h]; rfl
    · simp [h, xa_a_z]; rfl
theorem xc_m_s (f : Nat → Bool) : ∀ {n : Nat} (k : Int) (x : xa_E n), xc_m f (xa_s k x) = xa_s k (xc_m f x)
  | 0, _, _ => rfl
  | n + 1, k, x => by
    simp only [xc_m, xa_s, xc_m_s f]
    by_cases h : f n = true
    · simp [h]; rfl
    · simp [h, xa_s_z]; rfl
theorem xc_m_z (f : Nat → Bool) : ∀ {n : Nat}, xc_m f (xa_z n) = xa_z n
  | 0 => rfl
  | n + 1 => by simp [xc_m, xa_z, xc_m_z f]; rfl
theorem xc_m_1 (f : Nat → Bool) : ∀ {n : Nat}, xc_m f (xa_1 n) = xa_1 n
  | 0 => rfl
  | n + 1 => by simp [xc_m, xa_1, xc_m_1 f, xc_m_z f]; rfl
theorem xc_m_w (f : Nat → Bool) (c : Nat → Int) : ∀ {n : Nat} (x : xa_E n), xc_m f (xa_w c x) = xa_w (xc_v f c) (xc_m f x)
  | 0, _ => rfl
  | n + 1, x => by
    simp only [xc_m, xa_w, xc_m_w f c, xc_m_a, xc_m_s]
    by_cases h : f n = true
    · simp [h, xc_v]; rfl
    · simp [h, xc_v, xa_w_z, xa_s_z, xa_a_z, xa_s_0]; rfl
theorem xc_m_O (f : Nat → Bool) {n : Nat} : ∀ ks : List (Nat → Int), xc_m f (xb_O ks : xa_E n) = xb_O (ks.map (xc_v f))
  | [] => xc_m_1 f
  | k :: ks => by
    show xc_m f (xa_w k (xb_O ks)) = xa_w (xc_v f k) (xb_O (ks.map (xc_v f)))
    rw [xc_m_w, xc_m_O f ks]
theorem xc_mz (f : Nat → Bool) {n : Nat} (ks : List (Nat → Int)) (h : (xb_O ks : xa_E n) = xa_z n) : (xb_O (ks.map (xc_v f)) : xa_E n) = xa_z n := by
  rw [← xc_m_O, h, xc_m_z]
theorem xc_p0 {n : Nat} {rs : List Nat} {ks : List (Nat → Int)} (h : (xb_O ks : xa_E n) = xa_z n) : xb_p n rs ks = 0 := by
  show xa_0 (xb_I rs (xb_O ks : xa_E n)) = 0
  rw [h, xb_I_z, xa_0_z]
