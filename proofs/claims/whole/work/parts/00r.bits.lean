/-! how many bits are 1: the JDK's way, byte by byte -/
def fh_va : List Nat → Nat
  | [] => 0
  | b :: l => b + 256 * fh_va l
def fh_mk (c : Nat) : Nat → Nat
  | 0 => 0
  | m + 1 => c + 256 * fh_mk c m
theorem and_lane (a b x y : Nat) (ha : a < 256) (hb : b < 256) : (a + 256 * x) &&& (b + 256 * y) = (a &&& b) + 256 * (x &&& y) := by
  apply Nat.eq_of_testBit_eq
  intro i
  have e : ∀ u v : Nat, u + 256 * v = 2 ^ 8 * v + u := fun u v => by omega
  have hab : a &&& b < 2 ^ 8 := Nat.lt_of_le_of_lt Nat.and_le_left ha
  rw [Nat.testBit_and, e, e, e, Nat.testBit_two_pow_mul_add _ (show a < 2 ^ 8 from ha), Nat.testBit_two_pow_mul_add _ (show b < 2 ^ 8 from hb), Nat.testBit_two_pow_mul_add _ hab]
  split
  · rw [Nat.testBit_and]
  · rw [Nat.testBit_and]
def fh_p1 (b : Nat) : Nat := b - (b / 2 &&& 85)
def fh_p2 (b : Nat) : Nat := (b &&& 51) + (b / 4 &&& 51)
def fh_p3 (b : Nat) : Nat := (b + b / 16) &&& 15
def fh_p8 (b : Nat) : Nat := fh_p3 (fh_p2 (fh_p1 b))
theorem p1_d : ∀ b : Nat, b < 128 → ((b + 128) &&& 85) = (b &&& 85) := by decide +kernel
theorem p1_b : ∀ b : Nat, b < 256 → fh_p1 b < 256 ∧ (b / 2 &&& 85) ≤ b := by decide +kernel
theorem p2_d : ∀ b : Nat, b < 64 → ∀ u : Nat, u < 4 → ((b + 64 * u) &&& 51) = (b &&& 51) := by decide +kernel
theorem p2_b : ∀ b : Nat, b < 256 → fh_p2 (fh_p1 b) ≤ 68 ∧ fh_p2 (fh_p1 b) % 16 ≤ 4 := by decide +kernel
theorem p3_d : ∀ b : Nat, b ≤ 72 → ∀ u : Nat, u ≤ 4 → ((b + 16 * u) &&& 15) = (b &&& 15) := by decide +kernel
theorem p8_s : ∀ b : Nat, b < 256 → fh_p8 b = b % 2 + b / 2 % 2 + b / 4 % 2 + b / 8 % 2 + b / 16 % 2 + b / 32 % 2 + b / 64 % 2 + b / 128 % 2 := by decide +kernel
theorem va_1 : ∀ l : List Nat, (∀ b ∈ l, b < 256) → fh_va l - (fh_va l / 2 &&& fh_mk 85 l.length) = fh_va (l.map fh_p1)
  | [], _ => rfl
  | b :: l, h => by
    have hb := h b List.mem_cons_self
    have ih := va_1 l (fun x hx => h x (List.mem_cons_of_mem _ hx))
    show (b + 256 * fh_va l) - ((b + 256 * fh_va l) / 2 &&& (85 + 256 * fh_mk 85 l.length)) = fh_p1 b + 256 * fh_va (l.map fh_p1)
    rw [← ih]
    generalize fh_va l = y
    generalize fh_mk 85 l.length = M
    have e : (b + 256 * y) / 2 = (b / 2 + 128 * (y % 2)) + 256 * (y / 2) := by omega
    have e2 : ((b / 2 + 128 * (y % 2)) &&& 85) = (b / 2 &&& 85) := by
      rcases Nat.mod_two_eq_zero_or_one y with z | z <;> rw [z]
      · rfl
      · exact p1_d (b / 2) (by omega)
    have e3 : y / 2 &&& M ≤ y := Nat.le_trans Nat.and_le_left (Nat.div_le_self _ _)
    rw [e, and_lane _ _ _ _ (by omega) (by omega), e2]
    have := (p1_b b hb).2
    unfold fh_p1
    omega
theorem va_2 : ∀ l : List Nat, (∀ b ∈ l, b < 256) → (fh_va l &&& fh_mk 51 l.length) + (fh_va l / 4 &&& fh_mk 51 l.length) = fh_va (l.map fh_p2)
  | [], _ => rfl
  | b :: l, h => by
    have hb := h b List.mem_cons_self
    have ih := va_2 l (fun x hx => h x (List.mem_cons_of_mem _ hx))
    show ((b + 256 * fh_va l) &&& (51 + 256 * fh_mk 51 l.length)) + ((b + 256 * fh_va l) / 4 &&& (51 + 256 * fh_mk 51 l.length)) = fh_p2 b + 256 * fh_va (l.map fh_p2)
    rw [← ih]
    generalize fh_va l = y
    generalize fh_mk 51 l.length = M
    have e : (b + 256 * y) / 4 = (b / 4 + 64 * (y % 4)) + 256 * (y / 4) := by omega
    have e2 := p2_d (b / 4) (by omega) (y % 4) (by omega)
    rw [e, and_lane _ _ _ _ (by omega) (by omega), and_lane _ _ _ _ (by omega) (by omega), e2]
    unfold fh_p2
    omega
theorem va_3 : ∀ l : List Nat, (∀ b ∈ l, b ≤ 68 ∧ b % 16 ≤ 4) → ((fh_va l + fh_va l / 16) &&& fh_mk 15 l.length) = fh_va (l.map fh_p3)
  | [], _ => rfl
  | b :: l, h => by
    have hb := h b List.mem_cons_self
    have ih := va_3 l (fun x hx => h x (List.mem_cons_of_mem _ hx))
    show ((b + 256 * fh_va l + (b + 256 * fh_va l) / 16) &&& (15 + 256 * fh_mk 15 l.length)) = fh_p3 b + 256 * fh_va (l.map fh_p3)
    rw [← ih]
    have hy : fh_va l % 16 ≤ 4 := by
      cases l with
      | nil => exact Nat.zero_le _
      | cons c l' =>
        have := (h c (List.mem_cons_of_mem _ List.mem_cons_self)).2
        show (c + 256 * fh_va l') % 16 ≤ 4
        omega
    generalize fh_va l = y at *
    generalize fh_mk 15 l.length = M
    have e : b + 256 * y + (b + 256 * y) / 16 = (b + b / 16 + 16 * (y % 16)) + 256 * (y + y / 16) := by omega
    have e2 := p3_d (b + b / 16) (by omega) (y % 16) hy
    rw [e, and_lane _ _ _ _ (by omega) (by omega), e2]
    rfl
theorem va_123 {l : List Nat} (h : ∀ b ∈ l, b < 256) : (∀ c ∈ l.map fh_p1, c < 256) ∧ (∀ c ∈ (l.map fh_p1).map fh_p2, c ≤ 68 ∧ c % 16 ≤ 4) := by
  constructor
  · intro c hc
    obtain ⟨b, hb, rfl⟩ := List.mem_map.mp hc
    exact (p1_b b (h b hb)).1
  · intro c hc
    obtain ⟨d, hd, rfl⟩ := List.mem_map.mp hc
    obtain ⟨b, hb, rfl⟩ := List.mem_map.mp hd
    exact p2_b b (h b hb)
/-- how many of the first f bits are 1 -/
def fh_on (w : Nat) : Nat → Nat
  | 0 => 0
  | f + 1 => fh_on w f + w / 2 ^ f % 2
theorem on_8 (w : Nat) (i : Nat) : fh_on w (i + 8) = fh_on w i + fh_p8 (w / 2 ^ i % 256) := by
  have e : ∀ j : Nat, w / 2 ^ (i + j) = w / 2 ^ i / 2 ^ j := fun j => by rw [Nat.pow_add, Nat.div_div_eq_div_mul]
  rw [p8_s _ (Nat.mod_lt _ (by omega))]
  show fh_on w i + w / 2 ^ i % 2 + w / 2 ^ (i + 1) % 2 + w / 2 ^ (i + 2) % 2 + w / 2 ^ (i + 3) % 2 + w / 2 ^ (i + 4) % 2 + w / 2 ^ (i + 5) % 2 + w / 2 ^ (i + 6) % 2 + w / 2 ^ (i + 7) % 2 = _
  rw [e 1, e 2, e 3, e 4, e 5, e 6, e 7]
  generalize w / 2 ^ i = v
  omega
theorem on_ext {w f : Nat} (h : w < 2 ^ f) : ∀ k : Nat, fh_on w (f + k) = fh_on w f
  | 0 => rfl
  | k + 1 => by
    rw [← Nat.add_assoc, fh_on, on_ext h k]
    have h2 : w < 2 ^ (f + k) := Nat.lt_of_lt_of_le h (Nat.pow_le_pow_right (by omega) (by omega))
    rw [Nat.div_eq_of_lt h2, Nat.zero_mod, Nat.add_zero]
theorem on_le (w : Nat) : ∀ f : Nat, fh_on w f ≤ f
  | 0 => Nat.le_refl 0
  | f + 1 => by
    have := on_le w f
    rw [fh_on]
    omega
theorem p8_le : ∀ b : Nat, b < 256 → fh_p8 b ≤ 8 := by decide +kernel
theorem on_64 (w : Nat) (hw : w < 2 ^ 64) : ∃ l : List Nat, l.length = 8 ∧ (∀ b ∈ l, b < 256) ∧ w = fh_va l ∧ ∃ a0 a1 a2 a3 a4 a5 a6 a7 : Nat, l.map fh_p8 = [a0, a1, a2, a3, a4, a5, a6, a7] ∧ fh_on w 64 = a0 + a1 + a2 + a3 + a4 + a5 + a6 + a7 ∧ a0 ≤ 8 ∧ a1 ≤ 8 ∧ a2 ≤ 8 ∧ a3 ≤ 8 ∧ a4 ≤ 8 ∧ a5 ≤ 8 ∧ a6 ≤ 8 ∧ a7 ≤ 8 := by
  have m : ∀ i : Nat, w / 2 ^ i % 256 < 256 := fun i => Nat.mod_lt _ (by omega)
  refine ⟨[w / 2 ^ 0 % 256, w / 2 ^ 8 % 256, w / 2 ^ 16 % 256, w / 2 ^ 24 % 256, w / 2 ^ 32 % 256, w / 2 ^ 40 % 256, w / 2 ^ 48 % 256, w / 2 ^ 56 % 256], rfl, ?_, ?_, _, _, _, _, _, _, _, _, rfl, ?_, p8_le _ (m _), p8_le _ (m _), p8_le _ (m _), p8_le _ (m _), p8_le _ (m _), p8_le _ (m _), p8_le _ (m _), p8_le _ (m _)⟩
  · intro b hb
    simp only [List.mem_cons, List.not_mem_nil, or_false] at hb
    rcases hb with h | h | h | h | h | h | h | h <;> rw [h] <;> exact m _
  · simp only [fh_va]
    omega
  · rw [show (64 : Nat) = 0 + 8 + 8 + 8 + 8 + 8 + 8 + 8 + 8 from rfl, on_8, on_8, on_8, on_8, on_8, on_8, on_8, on_8]
    show 0 + _ + _ + _ + _ + _ + _ + _ + _ = _
    rw [Nat.zero_add]
theorem on_32 (w : Nat) (hw : w < 2 ^ 32) : ∃ l : List Nat, l.length = 4 ∧ (∀ b ∈ l, b < 256) ∧ w = fh_va l ∧ ∃ a0 a1 a2 a3 : Nat, l.map fh_p8 = [a0, a1, a2, a3] ∧ fh_on w 32 = a0 + a1 + a2 + a3 ∧ a0 ≤ 8 ∧ a1 ≤ 8 ∧ a2 ≤ 8 ∧ a3 ≤ 8 := by
  have m : ∀ i : Nat, w / 2 ^ i % 256 < 256 := fun i => Nat.mod_lt _ (by omega)
  refine ⟨[w / 2 ^ 0 % 256, w / 2 ^ 8 % 256, w / 2 ^ 16 % 256, w / 2 ^ 24 % 256], rfl, ?_, ?_, _, _, _, _, rfl, ?_, p8_le _ (m _), p8_le _ (m _), p8_le _ (m _), p8_le _ (m _)⟩
  · intro b hb
    simp only [List.mem_cons, List.not_mem_nil, or_false] at hb
    rcases hb with h | h | h | h <;> rw [h] <;> exact m _
  · simp only [fh_va]
    omega
  · rw [show (32 : Nat) = 0 + 8 + 8 + 8 + 8 from rfl, on_8, on_8, on_8, on_8]
    show 0 + _ + _ + _ + _ = _
    rw [Nat.zero_add]
theorem va_lt : ∀ l : List Nat, (∀ b ∈ l, b < 256) → fh_va l < 256 ^ l.length
  | [], _ => by decide
  | b :: l, h => by
    have hb := h b List.mem_cons_self
    have ih := va_lt l (fun x hx => h x (List.mem_cons_of_mem _ hx))
    show b + 256 * fh_va l < 256 ^ (l.length + 1)
    rw [Nat.pow_succ]
    omega
theorem map3 (l : List Nat) : ((l.map fh_p1).map fh_p2).map fh_p3 = l.map fh_p8 := by
  rw [List.map_map, List.map_map]
  rfl
