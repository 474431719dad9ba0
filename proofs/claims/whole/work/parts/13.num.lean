/-! ===== numbers: ints and longs by the integers that they stand for ===== -/
def nn_i (z : Int) : Int32 := Int32.ofInt z
def nn_l (z : Int) : Int64 := Int64.ofInt z
def nn_I (a : Int) : Prop := -2147483648 < a ∧ a < 2147483648
def nn_L (a : Int) : Prop := -9223372036854775808 < a ∧ a < 9223372036854775808
theorem nn_i_int {a : Int} (h : nn_I a) : (nn_i a).toInt = a := Int32.toInt_ofInt_of_le (Int.le_of_lt h.1) h.2
theorem nn_l_int {a : Int} (h : nn_L a) : (nn_l a).toInt = a := Int64.toInt_ofInt_of_le (Int.le_of_lt h.1) h.2
theorem nn_i_of (x : Int32) : x = nn_i x.toInt := (Int32.ofInt_toInt x).symm
theorem nn_l_of (x : Int64) : x = nn_l x.toInt := (Int64.ofInt_toInt x).symm
theorem nn_i_add (a b : Int) : nn_i a + nn_i b = nn_i (a + b) := Int32.toInt_inj.1 (by simp [nn_i, Int32.toInt_ofInt])
theorem nn_i_sub (a b : Int) : nn_i a - nn_i b = nn_i (a - b) := Int32.toInt_inj.1 (by simp [nn_i, Int32.toInt_ofInt])
theorem nn_i_mul (a b : Int) : nn_i a * nn_i b = nn_i (a * b) := Int32.toInt_inj.1 (by simp [nn_i, Int32.toInt_ofInt])
theorem nn_i_neg (a : Int) : -nn_i a = nn_i (-a) := (Int32.ofInt_neg a).symm
theorem nn_l_add (a b : Int) : nn_l a + nn_l b = nn_l (a + b) := Int64.toInt_inj.1 (by simp [nn_l, Int64.toInt_ofInt])
theorem nn_l_sub (a b : Int) : nn_l a - nn_l b = nn_l (a - b) := Int64.toInt_inj.1 (by simp [nn_l, Int64.toInt_ofInt])
theorem nn_l_mul (a b : Int) : nn_l a * nn_l b = nn_l (a * b) := Int64.toInt_inj.1 (by simp [nn_l, Int64.toInt_ofInt])
theorem nn_l_neg (a : Int) : -nn_l a = nn_l (-a) := (Int64.ofInt_neg a).symm
theorem nn_i_0 : nn_i 0 = 0 := rfl
theorem nn_l_0 : nn_l 0 = 0 := rfl
theorem nn_l_1 : nn_l 1 = 1 := rfl
theorem nn_tdiv {a b : Int} {B : Int} (h1 : -B < a) (h2 : a < B) : -B < a.tdiv b ∧ a.tdiv b < B := by
  have h : (a.tdiv b).natAbs ≤ a.natAbs := by
    rw [Int.natAbs_tdiv]
    exact Nat.div_le_self _ _
  omega
theorem nn_l_div {a b : Int} (ha : nn_L a) (hb : nn_L b) : nn_l a / nn_l b = nn_l (a.tdiv b) := by
  apply Int64.toInt_inj.1
  have hne : nn_l a ≠ Int64.minValue := by
    intro e
    have := congrArg Int64.toInt e
    rw [nn_l_int ha] at this
    have h0 : Int64.minValue.toInt = -9223372036854775808 := rfl
    have h1 := ha.1
    omega
  rw [Int64.toInt_div_of_ne_left _ _ hne, nn_l_int ha, nn_l_int hb, nn_l_int (nn_tdiv ha.1 ha.2)]
theorem nn_i_div {a b : Int} (ha : nn_I a) (hb : nn_I b) : nn_i a / nn_i b = nn_i (a.tdiv b) := by
  apply Int32.toInt_inj.1
  have hne : nn_i a ≠ Int32.minValue := by
    intro e
    have := congrArg Int32.toInt e
    rw [nn_i_int ha] at this
    have h0 : Int32.minValue.toInt = -2147483648 := rfl
    have h1 := ha.1
    omega
  rw [Int32.toInt_div_of_ne_left _ _ hne, nn_i_int ha, nn_i_int hb, nn_i_int (nn_tdiv ha.1 ha.2)]
theorem nn_l_exact {a b c : Int} (ha : nn_L (b * c)) (hb : nn_L b) (h0 : b ≠ 0) (e : a = b * c) : nn_l a / nn_l b = nn_l c := by
  rw [e, nn_l_div ha hb, Int.mul_tdiv_cancel_left _ h0]
theorem nn_l_rem {a b : Int} (ha : nn_L a) (hb : nn_L b) : nn_l a - nn_l a / nn_l b * nn_l b = nn_l (a.tmod b) := by
  rw [nn_l_div ha hb, nn_l_mul, nn_l_sub, Int.tmod_def, Int.mul_comm b]
theorem nn_i_rem {a b : Int} (ha : nn_I a) (hb : nn_I b) : nn_i a - nn_i a / nn_i b * nn_i b = nn_i (a.tmod b) := by
  rw [nn_i_div ha hb, nn_i_mul, nn_i_sub, Int.tmod_def, Int.mul_comm b]
theorem nn_l_lt {a b : Int} (ha : nn_L a) (hb : nn_L b) : nn_l a < nn_l b ↔ a < b := by rw [Int64.lt_iff_toInt_lt, nn_l_int ha, nn_l_int hb]
theorem nn_l_le {a b : Int} (ha : nn_L a) (hb : nn_L b) : nn_l a ≤ nn_l b ↔ a ≤ b := by rw [Int64.le_iff_toInt_le, nn_l_int ha, nn_l_int hb]
theorem nn_l_eq {a b : Int} (ha : nn_L a) (hb : nn_L b) : nn_l a = nn_l b ↔ a = b := by rw [← Int64.toInt_inj, nn_l_int ha, nn_l_int hb]
theorem nn_i_lt {a b : Int} (ha : nn_I a) (hb : nn_I b) : nn_i a < nn_i b ↔ a < b := by rw [Int32.lt_iff_toInt_lt, nn_i_int ha, nn_i_int hb]
theorem nn_i_le {a b : Int} (ha : nn_I a) (hb : nn_I b) : nn_i a ≤ nn_i b ↔ a ≤ b := by rw [Int32.le_iff_toInt_le, nn_i_int ha, nn_i_int hb]
theorem nn_i_eq {a b : Int} (ha : nn_I a) (hb : nn_I b) : nn_i a = nn_i b ↔ a = b := by rw [← Int32.toInt_inj, nn_i_int ha, nn_i_int hb]
theorem nn_l_eq0 {a : Int} (ha : nn_L a) : nn_l a = 0 ↔ a = 0 := nn_l_eq (b := 0) ha (by constructor <;> decide)
theorem nn_i_l {a : Int} (h : nn_I a) : (nn_i a).toInt64 = nn_l a := by
  apply Int64.toInt_inj.1
  rw [Int32.toInt_toInt64, nn_i_int h, nn_l_int ⟨by have := h.1; omega, by have := h.2; omega⟩]
theorem nn_l_i (a : Int) : (nn_l a).toInt32 = nn_i a := by simp [nn_l, nn_i]
theorem nn_nI (n : Nat) : nI n = nn_i n := by
  show Int32.ofNat n = Int32.ofInt n
  exact Int32.ofInt_eq_ofNat.symm
theorem nn_clamp {a : Int} (h0 : 0 ≤ a) (h : a < 2147483648) : (nn_i a).toNatClampNeg = a.toNat := by
  show (nn_i a).toInt.toNat = a.toNat
  rw [nn_i_int ⟨by omega, h⟩]
theorem nn_in {a : Int} {n : Nat} (h0 : 0 ≤ a) (h : a < n) (hn : n < 2147483648) : vp_in (nn_i a) n := by
  rw [vp_in_iff, nn_i_int ⟨by omega, by omega⟩]
  exact ⟨h0, h⟩
/-! bits -/
theorem nn_shamt : ∀ k, k < 32 → ((nI k &&& 31).toBitVec.smod 32).toNat = k := by decide +kernel
theorem nn_shr {s k : Nat} (hs : s < 2147483648) (hk : k < 32) : nI s >>> (nI k &&& 31) = nI (s / 2 ^ k) := pk_shrN hs _ k (nn_shamt k hk)
theorem nn_and1 {s : Nat} (hs : s < 4294967296) : nI s &&& 1 = nI (s % 2) := pk_andN (k := 1) hs (m := 1) (by decide)
theorem nn_bit {s k : Nat} (hs : s < 2147483648) (hk : k < 32) : ((nI s >>> (nI k &&& 31)) &&& 1) = if s.testBit k then 1 else 0 := by
  have hlt : s / 2 ^ k < 4294967296 := Nat.lt_of_le_of_lt (Nat.div_le_self _ _) (by omega)
  rw [nn_shr hs hk, nn_and1 hlt]
  have h2 : s / 2 ^ k % 2 = if s.testBit k then 1 else 0 := by
    rw [Nat.testBit_eq_decide_div_mod_eq]
    have := Nat.mod_two_eq_zero_or_one (s / 2 ^ k)
    rcases this with h | h <;> simp [h]
  rw [h2]
  split <;> rfl
theorem nn_bit0 {s k : Nat} (hs : s < 2147483648) (hk : k < 32) : ((nI s >>> (nI k &&& 31)) &&& 1) = 0 ↔ s.testBit k = false := by
  rw [nn_bit hs hk]
  cases s.testBit k <;> decide
theorem nn_bit1 {s k : Nat} (hs : s < 2147483648) (hk : k < 32) : ((nI s >>> (nI k &&& 31)) &&& 1) = 1 ↔ s.testBit k = true := by
  rw [nn_bit hs hk]
  cases s.testBit k <;> decide
theorem nn_one {k : Nat} (hk : k < 31) : (1 : Int32) <<< (nI k &&& 31) = nI (2 ^ k) := by
  have h := pk_shlN (n := 1) (nI k &&& 31) k (nn_shamt k (by omega)) (by
    rw [Nat.one_mul]
    exact Nat.lt_trans (Nat.pow_lt_pow_right (by decide) hk) (by decide))
  rw [Nat.one_mul] at h
  exact h
theorem nn_tb (n : Nat) : (nI n).toBitVec = BitVec.ofNat 32 n := rfl
theorem nn_ib {x y : Int32} (h : x.toBitVec = y.toBitVec) : x = y := Int32.toBitVec.inj h
theorem nn_or (a b : Nat) : nI a ||| nI b = nI (a ||| b) := by
  apply nn_ib
  rw [Int32.toBitVec_or, nn_tb, nn_tb, nn_tb, BitVec.ofNat_or]
theorem nn_and (a b : Nat) : nI a &&& nI b = nI (a &&& b) := by
  apply nn_ib
  rw [Int32.toBitVec_and, nn_tb, nn_tb, nn_tb, BitVec.ofNat_and]
theorem nn_xor (a b : Nat) : nI a ^^^ nI b = nI (a ^^^ b) := by
  apply nn_ib
  rw [Int32.toBitVec_xor, nn_tb, nn_tb, nn_tb, BitVec.ofNat_xor]
theorem nn_m1 : (-1 : Int32) = nI 4294967295 := by decide
theorem nn_diff {a b : Nat} : nI a &&& (nI b ^^^ (-1)) = nI (a &&& (b ^^^ 4294967295)) := by
  rw [nn_m1, nn_xor, nn_and]
theorem nn_sub0 {a b : Nat} (ha : a < 4294967296) : nI a &&& (nI b ^^^ (-1)) = 0 ↔ ∀ k, a.testBit k = true → b.testBit k = true := by
  rw [nn_diff]
  have hlt : a &&& (b ^^^ 4294967295) < 4294967296 := Nat.lt_of_le_of_lt Nat.and_le_left ha
  have h0 : nI (a &&& (b ^^^ 4294967295)) = 0 ↔ a &&& (b ^^^ 4294967295) = 0 := by
    constructor
    · intro h
      have := congrArg (fun x => x.toBitVec.toNat) h
      simp only [pk_tn hlt] at this
      exact this
    · intro h; rw [h]; rfl
  rw [h0]
  have hm : ∀ k, k < 32 → (4294967295 : Nat).testBit k = true := by decide +kernel
  have hbig : ∀ k, 32 ≤ k → a.testBit k = false := fun k hk => Nat.testBit_lt_two_pow (Nat.lt_of_lt_of_le ha (by
    have : (2 : Nat) ^ 32 ≤ 2 ^ k := Nat.pow_le_pow_right (by decide) hk
    omega))
  constructor
  · intro h k hk
    have h1 : (a &&& (b ^^^ 4294967295)).testBit k = false := by rw [h]; exact Nat.zero_testBit k
    rw [Nat.testBit_and, Nat.testBit_xor, hk] at h1
    rcases Nat.lt_or_ge k 32 with h2 | h2
    · rw [hm k h2] at h1; simpa using h1
    · rw [hbig k h2] at hk; cases hk
  · intro h
    apply Nat.eq_of_testBit_eq
    intro k
    rw [Nat.testBit_and, Nat.testBit_xor, Nat.zero_testBit]
    cases hk : a.testBit k with
    | false => rfl
    | true =>
      rcases Nat.lt_or_ge k 32 with h2 | h2
      · rw [h k hk, hm k h2]; rfl
      · rw [hbig k h2] at hk; cases hk
theorem nn_eqI {a b : Nat} (ha : a < 2147483648) (hb : b < 2147483648) : nI a = nI b ↔ a = b := nI_eq ha hb
