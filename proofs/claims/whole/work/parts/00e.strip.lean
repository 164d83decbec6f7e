/-! a strip as four numbers: kind, a, folds, word -/
abbrev gP : Type := Nat × Nat × Nat × Nat
def tk (t : gP) : Nat := t.1
def ta (t : gP) : Nat := t.2.1
def tf (t : gP) : Nat := t.2.2.1
def tw (t : gP) : Nat := t.2.2.2
def stok (t : gP) : Prop := tk t ≤ 6 ∧ ta t ≤ 999999 ∧ 1 ≤ tf t ∧ tf t ≤ 40 ∧ (tk t = 2 → tf t ≤ 25) ∧ tw t < 2 ^ tf t
def fh_ct (t : gP) (l : Nat) : Nat := if tk t = 1 then ta t % 2 else tw t / 2 ^ l % 2
def fh_bs (t : gP) : Nat := if tk t = 2 then 3 else 2
def fh_pw (t : gP) : Nat := fh_bs t ^ tf t
def fh_wh (t : gP) : Nat := fh_pw t - 1
def fh_cu (t : gP) : Nat := if tk t = 3 ∨ tk t = 4 then ta t % fh_wh t else 0
def fh_cs (t : gP) : Nat := fh_wh t - fh_cu t
def fh_pc (t : gP) (n : Nat) : Nat := fh_pl (fh_bs t) (tf t) (fh_ct t) n
def fh_cr (t : gP) (n : Nat) : Nat := if tk t = 3 then fh_pc t (n + fh_cu t) else if tk t = 4 then 1 - fh_pc t (fh_pw t - n) else if tk t = 5 then 1 - fh_pc t n else if tk t = 6 then (if n % 4 = 0 then 1 else 1 - fh_pc t n) else fh_pc t n
theorem ct_le (t : gP) (l : Nat) : fh_ct t l ≤ 1 := by unfold fh_ct; split <;> omega
theorem pc_le (t : gP) (n : Nat) : fh_pc t n ≤ 1 := pl_le _ _ _ _ (ct_le t)
theorem cr_le (t : gP) (n : Nat) : fh_cr t n ≤ 1 := by
  have h := pc_le t
  unfold fh_cr
  repeat' split
  all_goals first | exact h _ | omega
theorem pw_2 {f : Nat} (h : f ≤ 40) : 2 ^ f ≤ 1099511627776 := by
  have := Nat.pow_le_pow_right (show 0 < 2 by omega) h
  exact Nat.le_trans this (Nat.le_of_ble_eq_true rfl)
theorem pw_3 {f : Nat} (h : f ≤ 25) : 3 ^ f ≤ 1099511627776 := by
  have := Nat.pow_le_pow_right (show 0 < 3 by omega) h
  exact Nat.le_trans this (Nat.le_of_ble_eq_true rfl)
theorem pw_le {t : gP} (h : stok t) : fh_pw t ≤ 1099511627776 := by
  unfold fh_pw fh_bs
  split
  · exact pw_3 (h.2.2.2.2.1 (by assumption))
  · exact pw_2 h.2.2.2.1
theorem pw_ge {t : gP} (h : stok t) : 2 ≤ fh_pw t := by
  unfold fh_pw fh_bs
  have h1 := h.2.2.1
  split
  · have := Nat.pow_le_pow_right (show 0 < 3 by omega) h1
    omega
  · have := Nat.pow_le_pow_right (show 0 < 2 by omega) h1
    omega
theorem wh_ge {t : gP} (h : stok t) : 1 ≤ fh_wh t ∧ fh_wh t < 1099511627776 ∧ fh_wh t + 1 = fh_pw t := by
  have h1 := pw_ge h
  have h2 := pw_le h
  unfold fh_wh
  omega
theorem cu_lt {t : gP} (h : stok t) : fh_cu t < fh_wh t := by
  have h1 := (wh_ge h).1
  unfold fh_cu
  split
  · exact Nat.mod_lt _ h1
  · exact h1
theorem cu_0 {t : gP} (h : ¬ (tk t = 3 ∨ tk t = 4)) : fh_cu t = 0 := if_neg h
theorem cs_ge {t : gP} (h : stok t) : 1 ≤ fh_cs t ∧ fh_cs t + fh_cu t = fh_wh t ∧ fh_cs t + 1 + fh_cu t = fh_pw t ∧ fh_cs t < 1099511627776 := by
  have h1 := cu_lt h
  have h2 := wh_ge h
  unfold fh_cs
  omega
/-! the turns, level by level -/
def fh_tm (b : Nat) (c : Nat → Nat) (n k : Nat) : Int := if b = 3 then (if n / 3 ^ k % 3 = 1 then fh_sg (c k) else 0) else (if n / 2 ^ k % 4 = 1 ∨ n / 2 ^ k % 4 = 2 then fh_sg (c k) else 0)
theorem tm2 (c : Nat → Nat) (n k : Nat) : fh_tm 2 c n k = (if n / 2 ^ k % 4 = 1 ∨ n / 2 ^ k % 4 = 2 then fh_sg (c k) else 0) := if_neg (by decide)
theorem tm3 (c : Nat → Nat) (n k : Nat) : fh_tm 3 c n k = (if n / 3 ^ k % 3 = 1 then fh_sg (c k) else 0) := if_pos rfl
theorem tm_s2 (c : Nat → Nat) (n k : Nat) : fh_tm 2 c n (k + 1) = fh_tm 2 (fun j => c (j + 1)) (n / 2) k := by
  rw [tm2, tm2, Nat.pow_succ', Nat.div_div_eq_div_mul]
theorem tm_s3 (c : Nat → Nat) (n k : Nat) : fh_tm 3 c n (k + 1) = fh_tm 3 (fun j => c (j + 1)) (n / 3) k := by
  rw [tm3, tm3, Nat.pow_succ', Nat.div_div_eq_div_mul]
theorem si_head (g : Nat → Int) (n : Nat) : fb_si g (n + 1) = g 0 + fb_si (fun k => g (k + 1)) n := by
  have h := fb_si_split g 1 n
  rw [Nat.add_comm 1 n] at h
  rw [h]
  have e : (fun k => g (1 + k)) = (fun k => g (k + 1)) := by funext k; rw [Nat.add_comm]
  rw [e]
  show (0 + g 0) + _ = _
  rw [Int.zero_add]
theorem dr_sum2 : ∀ (f : Nat) (c : Nat → Nat) (n : Nat), (∀ k, c k ≤ 1) → n < 2 ^ f → fh_dr (fh_pl 2 f c) n = fb_si (fh_tm 2 c n) f
  | 0, c, n, _, h => by
    obtain rfl : n = 0 := by simpa using h
    rfl
  | f + 1, c, n, hc, h => by
    rw [dr_2 f c (hc 0), dr_sum2 f _ (n / 2) (fun k => hc (k + 1)) (by rw [Nat.pow_succ] at h; omega), si_head]
    have e : (fun k => fh_tm 2 c n (k + 1)) = fh_tm 2 (fun j => c (j + 1)) (n / 2) := by funext k; exact tm_s2 c n k
    rw [e, Int.add_comm]
    congr 1
    rw [tm2, Nat.pow_zero, Nat.div_one]
theorem dr_sum3 : ∀ (f : Nat) (c : Nat → Nat) (n : Nat), (∀ k, c k ≤ 1) → n < 3 ^ f → fh_dr (fh_pl 3 f c) n = fb_si (fh_tm 3 c n) f
  | 0, c, n, _, h => by
    obtain rfl : n = 0 := by simpa using h
    rfl
  | f + 1, c, n, hc, h => by
    rw [dr_3 f c (hc 0), dr_sum3 f _ (n / 3) (fun k => hc (k + 1)) (by rw [Nat.pow_succ] at h; omega), si_head]
    have e : (fun k => fh_tm 3 c n (k + 1)) = fh_tm 3 (fun j => c (j + 1)) (n / 3) := by funext k; exact tm_s3 c n k
    rw [e, Int.add_comm]
    congr 1
    rw [tm3, Nat.pow_zero, Nat.div_one]
theorem dr_pc {t : gP} {n : Nat} (h : n < fh_pw t) : fh_dr (fh_pc t) n = fb_si (fh_tm (fh_bs t) (fh_ct t) n) (tf t) := by
  have e : fh_pc t = fh_pl (fh_bs t) (tf t) (fh_ct t) := rfl
  unfold fh_pw at h
  rw [e]
  unfold fh_bs at h ⊢
  split
  · rename_i h2; rw [if_pos h2] at h; exact dr_sum3 _ _ _ (ct_le t) h
  · rename_i h2; rw [if_neg h2] at h; exact dr_sum2 _ _ _ (ct_le t) h
theorem si_tail {g : Nat → Int} {k : Nat} : ∀ j : Nat, (∀ i, k ≤ i → g i = 0) → fb_si g (k + j) = fb_si g k
  | 0, _ => rfl
  | j + 1, h => by rw [← Nat.add_assoc, fb_si_succ, si_tail j h, h (k + j) (by omega), Int.add_zero]
theorem tm_0 {b : Nat} {c : Nat → Nat} {n k : Nat} (hb : b = 2 ∨ b = 3) (h : n / b ^ k = 0) {i : Nat} (hi : k ≤ i) : fh_tm b c n i = 0 := by
  have e : n / b ^ i = 0 := by
    obtain ⟨j, rfl⟩ : ∃ j, i = k + j := ⟨i - k, by omega⟩
    rw [Nat.pow_add, ← Nat.div_div_eq_div_mul, h, Nat.zero_div]
  rcases hb with rfl | rfl
  · rw [tm2, e, if_neg (by omega)]
  · rw [tm3, e, if_neg (by omega)]
/-- a crease by its level -/
theorem pl_val : ∀ (k f : Nat) (c : Nat → Nat) (q : Nat), k < f → fh_pl 2 f c (2 ^ k * (2 * q + 1)) = if q % 2 = 0 then c k else 1 - c k
  | 0, 0, _, _, h => absurd h (by omega)
  | 0, f + 1, c, q, _ => by
    rw [Nat.pow_zero, Nat.one_mul, pl_odd f c (by omega)]
    by_cases h : q % 2 = 0
    · rw [if_pos h, if_pos (by omega)]
    · rw [if_neg h, if_neg (by omega)]
  | k + 1, 0, _, _, h => absurd h (by omega)
  | k + 1, f + 1, c, q, h => by
    rw [Nat.pow_succ', Nat.mul_assoc, pl_even, pl_val k f (fun k => c (k + 1)) q (by omega)]
/-- every number above 0 is a power of two times an odd one -/
theorem od_val : ∀ (f n : Nat), 0 < n → n < 2 ^ f → ∃ k q, k < f ∧ n = 2 ^ k * (2 * q + 1)
  | 0, n, h0, h => by simp at h; omega
  | f + 1, n, h0, h => by
    rcases Nat.mod_two_eq_zero_or_one n with h1 | h1
    · obtain ⟨k, q, hk, e⟩ := od_val f (n / 2) (by omega) (by rw [Nat.pow_succ] at h; omega)
      refine ⟨k + 1, q, by omega, ?_⟩
      rw [Nat.pow_succ', Nat.mul_assoc, ← e]
      omega
    · exact ⟨0, n / 2, by omega, by rw [Nat.pow_zero, Nat.one_mul]; omega⟩
/-! left -/
theorem lf_pc {t : gP} (h : tk t = 6) (hok : stok t) {n : Nat} (hn : n < fh_pw t) (h4 : n % 4 ≠ 0) : fh_pc t n = if n % 2 = 1 then (if n % 4 = 1 then fh_ct t 0 else 1 - fh_ct t 0) else (if n % 8 = 2 then fh_ct t 1 else 1 - fh_ct t 1) := by
  have hb : fh_bs t = 2 := if_neg (by omega)
  unfold fh_pc
  unfold fh_pw at hn
  rw [hb] at hn ⊢
  obtain ⟨f, hf⟩ : ∃ f, tf t = f + 1 := ⟨tf t - 1, by have := hok.2.2.1; omega⟩
  rw [hf] at hn ⊢
  by_cases h2 : n % 2 = 1
  · rw [if_pos h2, pl_odd f _ h2]
  · rw [if_neg h2]
    obtain ⟨m, rfl⟩ : ∃ m, n = 2 * m := ⟨n / 2, by omega⟩
    rw [pl_even]
    obtain ⟨g, rfl⟩ : ∃ g, f = g + 1 := ⟨f - 1, by
      rcases Nat.eq_zero_or_pos f with e | e
      · subst e; simp at hn; omega
      · omega⟩
    rw [pl_odd g _ (by omega)]
    by_cases h8 : m % 4 = 1
    · rw [if_pos h8, if_pos (by omega)]
    · rw [if_neg h8, if_neg (by omega)]
/-- the creases of a left strip, for all numbers -/
def fh_lf (a b : Nat) (n : Nat) : Nat := if n % 4 = 0 then 1 else if n % 2 = 1 then (if n % 4 = 1 then a else 1 - a) else (if n % 8 = 2 then b else 1 - b)
theorem lf_cr {t : gP} (h : tk t = 6) (hok : stok t) {n : Nat} (hn : n < fh_pw t) : fh_cr t n = fh_lf (1 - fh_ct t 0) (1 - fh_ct t 1) n := by
  unfold fh_cr fh_lf
  rw [if_neg (by omega), if_neg (by omega), if_neg (by omega), if_pos h]
  split
  · rfl
  · rename_i h4
    rw [lf_pc h hok hn h4]
    have h0 := ct_le t 0
    have h1 := ct_le t 1
    repeat' split
    all_goals omega
theorem lf_dr (a b : Nat) (ha : a ≤ 1) (hb : b ≤ 1) : ∀ n : Nat, fh_dr (fh_lf a b) n = (if n % 4 = 1 ∨ n % 4 = 2 then fh_sg a else 0) + (if n % 8 = 2 ∨ n % 8 = 3 ∨ n % 8 = 4 ∨ n % 8 = 5 then fh_sg b else 0) + (n / 4 : Nat)
  | 0 => rfl
  | n + 1 => by
    rw [fh_dr, lf_dr a b ha hb n]
    have e1 := sg_neg ha
    have e2 := sg_neg hb
    have e3 : fh_sg 1 = 1 := rfl
    unfold fh_lf
    obtain ⟨q, r, hr, rfl⟩ : ∃ q r, r < 8 ∧ n = 8 * q + r := ⟨n / 8, n % 8, by omega, by omega⟩
    rcases (show r = 0 ∨ r = 1 ∨ r = 2 ∨ r = 3 ∨ r = 4 ∨ r = 5 ∨ r = 6 ∨ r = 7 by omega) with rfl | rfl | rfl | rfl | rfl | rfl | rfl | rfl
    all_goals
      repeat' split
      all_goals omega
theorem lf_8 (a b : Nat) (ha : a ≤ 1) (hb : b ≤ 1) (n : Nat) : fh_dr (fh_lf a b) (n + 8) = fh_dr (fh_lf a b) n + 2 := by
  rw [lf_dr a b ha hb, lf_dr a b ha hb, show (n + 8) % 4 = n % 4 by omega, show (n + 8) % 8 = n % 8 by omega]
  omega
theorem lf_p8 (a b : Nat) (ha : a ≤ 1) (hb : b ≤ 1) : ∀ n : Nat, fh_px (fh_lf a b) 0 (n + 8) = fh_px (fh_lf a b) 0 8 - fh_px (fh_lf a b) 0 n ∧ fh_py (fh_lf a b) 0 (n + 8) = fh_py (fh_lf a b) 0 8 - fh_py (fh_lf a b) 0 n
  | 0 => by
    rw [Nat.zero_add]
    constructor
    · show _ = _ - (0 : Int)
      rw [Int.sub_zero]
    · show _ = _ - (0 : Int)
      rw [Int.sub_zero]
  | n + 1 => by
    obtain ⟨i1, i2⟩ := lf_p8 a b ha hb n
    rw [show n + 1 + 8 = n + 8 + 1 by omega, px_0 _ (n + 8), py_0 _ (n + 8), i1, i2, lf_8 a b ha hb, ux_2, uy_2, px_0 _ n, py_0 _ n]
    omega
theorem lf_p16 (a b : Nat) (ha : a ≤ 1) (hb : b ≤ 1) (n : Nat) : fh_px (fh_lf a b) 0 (n + 16) = fh_px (fh_lf a b) 0 n ∧ fh_py (fh_lf a b) 0 (n + 16) = fh_py (fh_lf a b) 0 n := by
  obtain ⟨i1, i2⟩ := lf_p8 a b ha hb n
  obtain ⟨j1, j2⟩ := lf_p8 a b ha hb (n + 8)
  rw [show n + 16 = n + 8 + 8 by omega, j1, j2, i1, i2]
  omega
theorem lf_pm (a b : Nat) (ha : a ≤ 1) (hb : b ≤ 1) : ∀ q r : Nat, fh_px (fh_lf a b) 0 (16 * q + r) = fh_px (fh_lf a b) 0 r ∧ fh_py (fh_lf a b) 0 (16 * q + r) = fh_py (fh_lf a b) 0 r
  | 0, r => by rw [Nat.mul_zero, Nat.zero_add]; exact ⟨rfl, rfl⟩
  | q + 1, r => by
    obtain ⟨i1, i2⟩ := lf_pm a b ha hb q r
    obtain ⟨j1, j2⟩ := lf_p16 a b ha hb (16 * q + r)
    rw [show 16 * (q + 1) + r = 16 * q + r + 16 by omega, j1, j2]
    exact ⟨i1, i2⟩
