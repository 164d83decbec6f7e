/-! whole numbers as ints and longs, with their sign -/
def zI (x : Int) : Int32 := Int32.ofInt x
def zL (x : Int) : Int64 := Int64.ofInt x
theorem zI_t {x : Int} (h1 : -2147483648 ≤ x) (h2 : x < 2147483648) : (zI x).toInt = x := Int32.toInt_ofInt_of_le (by omega) (by omega)
theorem zL_t {x : Int} (h1 : -9223372036854775808 ≤ x) (h2 : x < 9223372036854775808) : (zL x).toInt = x := Int64.toInt_ofInt_of_le (by omega) (by omega)
theorem zI_of (x : Int32) : x = zI x.toInt := (Int32.ofInt_toInt x).symm
theorem zL_of (x : Int64) : x = zL x.toInt := (Int64.ofInt_toInt x).symm
theorem zI_n (n : Nat) : nI n = zI n := Int32.ofInt_eq_ofNat.symm
theorem zL_n (n : Nat) : lN n = zL n := Int64.ofInt_eq_ofNat.symm
theorem zI_add (a b : Int) : zI a + zI b = zI (a + b) := (Int32.ofInt_add a b).symm
theorem zL_add (a b : Int) : zL a + zL b = zL (a + b) := (Int64.ofInt_add a b).symm
theorem zI_sub (a b : Int) : zI a - zI b = zI (a - b) := (Int32.ofInt_sub a b).symm
theorem zL_sub (a b : Int) : zL a - zL b = zL (a - b) := (Int64.ofInt_sub a b).symm
theorem zI_mul (a b : Int) : zI a * zI b = zI (a * b) := (Int32.ofInt_mul a b).symm
theorem zL_mul (a b : Int) : zL a * zL b = zL (a * b) := (Int64.ofInt_mul a b).symm
theorem zI_neg (a : Int) : -zI a = zI (-a) := (Int32.ofInt_neg a).symm
theorem zL_neg (a : Int) : -zL a = zL (-a) := (Int64.ofInt_neg a).symm
theorem zI_0 : (0 : Int32) = zI 0 := rfl
theorem zI_1 : (1 : Int32) = zI 1 := rfl
theorem zI_m1 : (-1 : Int32) = zI (-1) := rfl
theorem zI_2 : (2 : Int32) = zI 2 := rfl
theorem zI_3 : (3 : Int32) = zI 3 := rfl
theorem zL_0 : (0 : Int64) = zL 0 := rfl
theorem zL_1 : (1 : Int64) = zL 1 := rfl
theorem zL_2 : (2 : Int64) = zL 2 := rfl
theorem zI_i {a b : Int} (h1 : -2147483648 ≤ a) (h2 : a < 2147483648) (h3 : -2147483648 ≤ b) (h4 : b < 2147483648) : zI a = zI b ↔ a = b := by
  rw [← Int32.toInt_inj, zI_t h1 h2, zI_t h3 h4]
theorem zI_lt {a b : Int} (h1 : -2147483648 ≤ a) (h2 : a < 2147483648) (h3 : -2147483648 ≤ b) (h4 : b < 2147483648) : zI a < zI b ↔ a < b := by
  rw [Int32.lt_iff_toInt_lt, zI_t h1 h2, zI_t h3 h4]
theorem zI_le {a b : Int} (h1 : -2147483648 ≤ a) (h2 : a < 2147483648) (h3 : -2147483648 ≤ b) (h4 : b < 2147483648) : zI a ≤ zI b ↔ a ≤ b := by
  rw [Int32.le_iff_toInt_le, zI_t h1 h2, zI_t h3 h4]
theorem zL_i {a b : Int} (h1 : -9223372036854775808 ≤ a) (h2 : a < 9223372036854775808) (h3 : -9223372036854775808 ≤ b) (h4 : b < 9223372036854775808) : zL a = zL b ↔ a = b := by
  rw [← Int64.toInt_inj, zL_t h1 h2, zL_t h3 h4]
theorem zL_lt {a b : Int} (h1 : -9223372036854775808 ≤ a) (h2 : a < 9223372036854775808) (h3 : -9223372036854775808 ≤ b) (h4 : b < 9223372036854775808) : zL a < zL b ↔ a < b := by
  rw [Int64.lt_iff_toInt_lt, zL_t h1 h2, zL_t h3 h4]
theorem zL_le {a b : Int} (h1 : -9223372036854775808 ≤ a) (h2 : a < 9223372036854775808) (h3 : -9223372036854775808 ≤ b) (h4 : b < 9223372036854775808) : zL a ≤ zL b ↔ a ≤ b := by
  rw [Int64.le_iff_toInt_le, zL_t h1 h2, zL_t h3 h4]
theorem zI_l {a : Int} (h1 : -2147483648 ≤ a) (h2 : a < 2147483648) : (zI a).toInt64 = zL a := by
  rw [← Int64.toInt_inj, Int32.toInt_toInt64, zI_t h1 h2, zL_t (by omega) (by omega)]
theorem zL_toI (a : Int) : (zL a).toInt32 = zI a := Int64.toInt32_ofInt
/-- an int's two low bits -/
theorem zI_a3 (a : Int) : zI a &&& 3 = nI (a % 4).toNat := by
  have h := fa_mask (zI a).toBitVec.toNat 2
  have e1 : nI (zI a).toBitVec.toNat = zI a := by
    apply Int32.toBitVec_inj.mp
    show BitVec.ofNat 32 _ = _
    rw [BitVec.ofNat_toNat, BitVec.setWidth_eq]
  rw [e1] at h
  have e2 : nI (2 ^ 2 - 1) = 3 := rfl
  rw [e2] at h
  rw [h]
  congr 1
  have e3 : (zI a).toBitVec.toNat = (a % 4294967296).toNat := by
    show (BitVec.ofInt 32 a).toNat = _
    rw [BitVec.toNat_ofInt]
    rfl
  rw [e3]
  omega
theorem pk_lMod {a b : Nat} (ha : a < 2 ^ 63) (hb : b < 2 ^ 63) : lN a % lN b = lN (a % b) := (Int64.ofNat_mod ha hb).symm
theorem pk_lDv {a b : Nat} (ha : a < 2 ^ 63) (hb : b < 2 ^ 63) : lN a / lN b = lN (a / b) := (Int64.ofNat_div ha hb).symm
theorem pk_iMod {a b : Nat} (ha : a < 2 ^ 31) (hb : b < 2 ^ 31) : nI a % nI b = nI (a % b) := (Int32.ofNat_mod ha hb).symm
theorem pk_iDv {a b : Nat} (ha : a < 2 ^ 31) (hb : b < 2 ^ 31) : nI a / nI b = nI (a / b) := (Int32.ofNat_div ha hb).symm
theorem lN_nI {n : Nat} (h : n < 2 ^ 31) : (nI n).toInt64 = lN n := nI_l h
/-! shifts of a long by a level -/
theorem sh_c {k : Nat} (hk : k < 64) : (((nI k).toInt64 &&& 63).toBitVec.smod 64).toNat = k := by
  rw [wb_c k hk, wb_tb, wb_sm k hk, BitVec.toNat_ofNat]
  omega
theorem sh_r {a k : Nat} (ha : a < 2 ^ 62) (hk : k < 64) : lN a >>> ((nI k).toInt64 &&& 63) = lN (a / 2 ^ k) := pf_shr (sh_c hk) ha
theorem sh_l (a : Nat) {k : Nat} (hk : k < 64) : lN a <<< ((nI k).toInt64 &&& 63) = lN (a * 2 ^ k) := wb_shl a hk
theorem sh_l1 {k : Nat} (hk : k < 64) : (1 : Int64) <<< ((nI k).toInt64 &&& 63) = lN (2 ^ k) := by
  have h := sh_l 1 hk
  rw [Nat.one_mul] at h
  exact h
/-- one bit of a long, whatever its sign -/
theorem bit_r (x : Int64) {k : Nat} (hk : k < 64) : (x >>> ((nI k).toInt64 &&& 63)) &&& 1 = if x.toBitVec.getLsbD k = true then 1 else 0 := by
  apply Int64.toBitVec_inj.mp
  have e : (x >>> ((nI k).toInt64 &&& 63)).toBitVec = x.toBitVec.sshiftRight k := by
    have := sh_c hk
    rw [Int64.toBitVec_shiftRight]
    show x.toBitVec.sshiftRight' _ = _
    rw [BitVec.sshiftRight_eq', this]
  rw [Int64.toBitVec_and, e]
  show x.toBitVec.sshiftRight k &&& 1#64 = _
  apply BitVec.eq_of_getLsbD_eq
  intro i hi
  have h0 : k + 0 < 64 := by omega
  rw [BitVec.getLsbD_and, BitVec.getLsbD_sshiftRight, BitVec.getLsbD_one]
  by_cases hi0 : i = 0
  · subst hi0
    cases hb : x.toBitVec.getLsbD k
    · simp [hk, hb]
    · simp [hk, hb]
  · cases hb : x.toBitVec.getLsbD k
    · simp [hi0]
    · simp [hi0]
/-- the lowest bit that is 1 -/
theorem low_b (k q : Nat) (h : 2 ^ k * (2 * q + 1) < 2 ^ 63) (hk : k < 63) : lN (2 ^ k * (2 * q + 1)) &&& -lN (2 ^ k * (2 * q + 1)) = lN (2 ^ k) := by
  apply Int64.toBitVec_inj.mp
  rw [Int64.toBitVec_and, Int64.toBitVec_neg, wb_tb, wb_tb]
  apply BitVec.eq_of_getLsbD_eq
  intro i hi
  have hp : 0 < 2 ^ k := Nat.two_pow_pos k
  obtain ⟨m, hm⟩ : ∃ m, 2 ^ k * (2 * q + 1) = m + 1 := ⟨2 ^ k * (2 * q + 1) - 1, by have := Nat.mul_pos hp (show 0 < 2 * q + 1 by omega); omega⟩
  have e1 : (-BitVec.ofNat 64 (2 ^ k * (2 * q + 1))).getLsbD i = (decide (i < 64) && !m.testBit i) := by
    rw [hm, BitVec.getLsbD, BitVec.toNat_neg, BitVec.toNat_ofNat, Nat.mod_eq_of_lt (show m + 1 < 2 ^ 64 by omega), Nat.mod_eq_of_lt (by omega), Nat.testBit_two_pow_sub_succ (by omega)]
  rw [BitVec.getLsbD_and, e1, BitVec.getLsbD_ofNat, BitVec.getLsbD_ofNat]
  have e2 : 2 ^ k * (2 * q + 1) = 2 ^ (k + 1) * q + 2 ^ k := by rw [Nat.pow_succ, Nat.mul_add, Nat.mul_assoc, Nat.mul_one]
  have e3 : m = 2 ^ (k + 1) * q + (2 ^ k - 1) := by omega
  have hl : 2 ^ k < 2 ^ (k + 1) := Nat.pow_lt_pow_right (by omega) (by omega)
  rw [e2, e3, Nat.testBit_two_pow_mul_add q hl, Nat.testBit_two_pow_mul_add q (show 2 ^ k - 1 < 2 ^ (k + 1) by omega), Nat.testBit_two_pow, Nat.testBit_two_pow_sub_one]
  by_cases h1 : i < k + 1
  · simp only [h1, if_true]
    by_cases h2 : k = i
    · subst h2; simp [hi]
    · have : i < k := by omega
      simp [h2, this]
  · simp only [h1, if_false]
    have h9 : ¬ k = i := by omega
    cases q.testBit (i - (k + 1)) <;> simp [h9]
/-! one step of a branching predicate by a fact -/
theorem br_n {c A B : Prop} (h : c) (b : B) : (¬ c → A) ∧ (c → B) := ⟨fun k => absurd h k, fun _ => b⟩
theorem br_m {c A B : Prop} (h : ¬ c) (a : A) : (¬ c → A) ∧ (c → B) := ⟨fun _ => a, fun k => absurd k h⟩
theorem bz_t {b : Bool} {A B : Prop} (a : b = true → A) (f : b = false → B) : (b = true → A) ∧ (b = false → B) := ⟨a, f⟩
