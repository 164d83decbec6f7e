/-! strips: creases, ways and places by their letters -/
def fh_e (b : Nat) : Nat := if b = 3 then 3 else 4
/-- crease n of a plain strip of letters c -/
def fh_pl (b : Nat) : Nat → (Nat → Nat) → Nat → Nat
  | 0, _, _ => 0
  | f + 1, c, n => if n % b = 0 then fh_pl b f (fun k => c (k + 1)) (n / b) else if n % fh_e b = 1 then c 0 else 1 - c 0
def fh_sg (v : Nat) : Int := if v = 1 then 1 else -1
/-- how far round the first n creases turn -/
def fh_dr (cr : Nat → Nat) : Nat → Int
  | 0 => 0
  | n + 1 => fh_dr cr n + fh_sg (cr (n + 1))
def fh_ux (d : Int) : Int := if d % 4 = 0 then 1 else if d % 4 = 2 then -1 else 0
def fh_uy (d : Int) : Int := if d % 4 = 1 then 1 else if d % 4 = 3 then -1 else 0
/-- where it is behind n sides, its first side going way w -/
def fh_px (cr : Nat → Nat) (w : Int) : Nat → Int
  | 0 => 0
  | n + 1 => fh_px cr w n + fh_ux (w + fh_dr cr n)
def fh_py (cr : Nat → Nat) (w : Int) : Nat → Int
  | 0 => 0
  | n + 1 => fh_py cr w n + fh_uy (w + fh_dr cr n)
theorem sg_neg {v : Nat} (h : v ≤ 1) : fh_sg (1 - v) = -fh_sg v := by
  rcases Nat.le_one_iff_eq_zero_or_eq_one.mp h with rfl | rfl <;> rfl
theorem sg_or (v : Nat) : fh_sg v = 1 ∨ fh_sg v = -1 := by
  unfold fh_sg
  split <;> simp
theorem ux_1 (d : Int) : fh_ux (d + 1) = -fh_uy d := by
  unfold fh_ux fh_uy
  repeat' split
  all_goals omega
theorem uy_1 (d : Int) : fh_uy (d + 1) = fh_ux d := by
  unfold fh_ux fh_uy
  repeat' split
  all_goals omega
theorem ux_m1 (d : Int) : fh_ux (d + -1) = fh_uy d := by
  unfold fh_ux fh_uy
  repeat' split
  all_goals omega
theorem uy_m1 (d : Int) : fh_uy (d + -1) = -fh_ux d := by
  unfold fh_ux fh_uy
  repeat' split
  all_goals omega
theorem ux_sg (d : Int) (v : Nat) : fh_ux (d + fh_sg v) = -(fh_sg v * fh_uy d) := by
  rcases sg_or v with h | h <;> rw [h]
  · rw [ux_1]; omega
  · rw [ux_m1]; omega
theorem uy_sg (d : Int) (v : Nat) : fh_uy (d + fh_sg v) = fh_sg v * fh_ux d := by
  rcases sg_or v with h | h <;> rw [h]
  · rw [uy_1]; omega
  · rw [uy_m1]; omega
theorem ux_2 (d : Int) : fh_ux (d + 2) = -fh_ux d := by
  unfold fh_ux
  repeat' split
  all_goals omega
theorem uy_2 (d : Int) : fh_uy (d + 2) = -fh_uy d := by
  unfold fh_uy
  repeat' split
  all_goals omega
theorem ux_neg (d : Int) : fh_ux (-d) = fh_ux d := by
  unfold fh_ux
  repeat' split
  all_goals omega
theorem uy_neg (d : Int) : fh_uy (-d) = -fh_uy d := by
  unfold fh_uy
  repeat' split
  all_goals omega
theorem ux_mod {d e : Int} (h : d % 4 = e % 4) : fh_ux d = fh_ux e := by unfold fh_ux; rw [h]
theorem uy_mod {d e : Int} (h : d % 4 = e % 4) : fh_uy d = fh_uy e := by unfold fh_uy; rw [h]
theorem u_cases (d : Int) : (d % 4 = 0 ∧ fh_ux d = 1 ∧ fh_uy d = 0) ∨ (d % 4 = 1 ∧ fh_ux d = 0 ∧ fh_uy d = 1) ∨ (d % 4 = 2 ∧ fh_ux d = -1 ∧ fh_uy d = 0) ∨ (d % 4 = 3 ∧ fh_ux d = 0 ∧ fh_uy d = -1) := by
  unfold fh_ux fh_uy
  repeat' split
  all_goals omega
theorem ux_add (d e : Int) : fh_ux (d + e) = fh_ux d * fh_ux e - fh_uy d * fh_uy e := by
  rcases u_cases e with ⟨h, h1, h2⟩ | ⟨h, h1, h2⟩ | ⟨h, h1, h2⟩ | ⟨h, h1, h2⟩ <;> rw [h1, h2]
  · rw [ux_mod (show (d + e) % 4 = d % 4 by omega)]; omega
  · rw [ux_mod (show (d + e) % 4 = (d + 1) % 4 by omega), ux_1]; omega
  · rw [ux_mod (show (d + e) % 4 = (d + 2) % 4 by omega), ux_2]; omega
  · rw [ux_mod (show (d + e) % 4 = (d + -1) % 4 by omega), ux_m1]; omega
theorem uy_add (d e : Int) : fh_uy (d + e) = fh_uy d * fh_ux e + fh_ux d * fh_uy e := by
  rcases u_cases e with ⟨h, h1, h2⟩ | ⟨h, h1, h2⟩ | ⟨h, h1, h2⟩ | ⟨h, h1, h2⟩ <;> rw [h1, h2]
  · rw [uy_mod (show (d + e) % 4 = d % 4 by omega)]; omega
  · rw [uy_mod (show (d + e) % 4 = (d + 1) % 4 by omega), uy_1]; omega
  · rw [uy_mod (show (d + e) % 4 = (d + 2) % 4 by omega), uy_2]; omega
  · rw [uy_mod (show (d + e) % 4 = (d + -1) % 4 by omega), uy_m1]; omega
/-! creases -/
theorem pl_even (f : Nat) (c : Nat → Nat) (m : Nat) : fh_pl 2 (f + 1) c (2 * m) = fh_pl 2 f (fun k => c (k + 1)) m := by
  rw [fh_pl, if_pos (by omega)]
  congr 1
  omega
theorem pl_odd (f : Nat) (c : Nat → Nat) {n : Nat} (h : n % 2 = 1) : fh_pl 2 (f + 1) c n = if n % 4 = 1 then c 0 else 1 - c 0 := by
  rw [fh_pl, if_neg (by omega)]
  rfl
theorem pl_3 (f : Nat) (c : Nat → Nat) (m : Nat) : fh_pl 3 (f + 1) c (3 * m) = fh_pl 3 f (fun k => c (k + 1)) m := by
  rw [fh_pl, if_pos (by omega)]
  congr 1
  omega
theorem pl_3n (f : Nat) (c : Nat → Nat) {n : Nat} (h : n % 3 ≠ 0) : fh_pl 3 (f + 1) c n = if n % 3 = 1 then c 0 else 1 - c 0 := by
  rw [fh_pl, if_neg h]
  rfl
theorem pl_le (b : Nat) : ∀ (f : Nat) (c : Nat → Nat) (n : Nat), (∀ k, c k ≤ 1) → fh_pl b f c n ≤ 1
  | 0, _, _, _ => Nat.zero_le _
  | f + 1, c, n, h => by
    rw [fh_pl]
    split
    · exact pl_le b f _ _ (fun k => h (k + 1))
    · split
      · exact h 0
      · have := h 0; omega
/-- the other letters, the other creases -/
theorem pl_not (b : Nat) : ∀ (f : Nat) (c : Nat → Nat) (n : Nat), (∀ k, c k ≤ 1) → (n ≠ 0) → n < b ^ f → fh_pl b f (fun k => 1 - c k) n = 1 - fh_pl b f c n
  | 0, _, n, _, h0, h => by simp at h; omega
  | f + 1, c, n, hc, h0, h => by
    rw [fh_pl, fh_pl]
    split
    · rename_i h1
      have hb : b ≠ 0 := by
        intro e; subst e; simp at h
      refine pl_not b f (fun k => c (k + 1)) (n / b) (fun k => hc (k + 1)) ?_ ?_
      · have := Nat.div_add_mod n b
        intro e
        rw [e, h1] at this
        simp at this
        omega
      · rw [Nat.pow_succ, Nat.mul_comm] at h
        exact Nat.div_lt_of_lt_mul h
    · split
      · rfl
      · rfl
/-! ways -/
theorem dr_cong {cr cr' : Nat → Nat} : ∀ {n : Nat}, (∀ i, 1 ≤ i → i ≤ n → cr i = cr' i) → fh_dr cr n = fh_dr cr' n
  | 0, _ => rfl
  | n + 1, h => by rw [fh_dr, fh_dr, dr_cong (fun i h1 h2 => h i h1 (by omega)), h (n + 1) (by omega) (Nat.le_refl _)]
theorem px_cong {cr cr' : Nat → Nat} {w : Int} : ∀ {n : Nat}, (∀ i, 1 ≤ i → i < n → cr i = cr' i) → fh_px cr w n = fh_px cr' w n ∧ fh_py cr w n = fh_py cr' w n
  | 0, _ => ⟨rfl, rfl⟩
  | n + 1, h => by
    have ih := px_cong (w := w) (n := n) (fun i h1 h2 => h i h1 (by omega))
    have e : fh_dr cr n = fh_dr cr' n := dr_cong (fun i h1 h2 => h i h1 (by omega))
    rw [fh_px, fh_px, fh_py, fh_py, ih.1, ih.2, e]
    exact ⟨rfl, rfl⟩
theorem dr_2e (f : Nat) (c : Nat → Nat) (hc : c 0 ≤ 1) : ∀ q : Nat, fh_dr (fh_pl 2 (f + 1) c) (2 * q) = fh_dr (fh_pl 2 f (fun k => c (k + 1))) q + (if q % 2 = 1 then fh_sg (c 0) else 0)
  | 0 => rfl
  | q + 1 => by
    rw [show 2 * (q + 1) = 2 * q + 1 + 1 by omega, fh_dr, fh_dr, dr_2e f c hc q, pl_odd f c (by omega), show 2 * q + 1 + 1 = 2 * (q + 1) by omega, pl_even, fh_dr]
    by_cases h : q % 2 = 1
    · rw [if_pos h, if_neg (by omega), if_neg (by omega), sg_neg hc]; omega
    · rw [if_neg h, if_pos (by omega), if_pos (by omega)]; omega
theorem dr_2o (f : Nat) (c : Nat → Nat) (hc : c 0 ≤ 1) (q : Nat) : fh_dr (fh_pl 2 (f + 1) c) (2 * q + 1) = fh_dr (fh_pl 2 f (fun k => c (k + 1))) q + (if q % 2 = 0 then fh_sg (c 0) else 0) := by
  rw [fh_dr, dr_2e f c hc q, pl_odd f c (by omega)]
  by_cases h : q % 2 = 1
  · rw [if_pos h, if_neg (by omega), if_neg (by omega), sg_neg hc]; omega
  · rw [if_neg h, if_pos (by omega), if_pos (by omega)]; omega
theorem dr_2 (f : Nat) (c : Nat → Nat) (hc : c 0 ≤ 1) (n : Nat) : fh_dr (fh_pl 2 (f + 1) c) n = fh_dr (fh_pl 2 f (fun k => c (k + 1))) (n / 2) + (if n % 4 = 1 ∨ n % 4 = 2 then fh_sg (c 0) else 0) := by
  rcases Nat.mod_two_eq_zero_or_one n with h | h
  · obtain ⟨q, rfl⟩ : ∃ q, n = 2 * q := ⟨n / 2, by omega⟩
    rw [dr_2e f c hc, show 2 * q / 2 = q by omega]
    congr 1
    by_cases h1 : q % 2 = 1
    · rw [if_pos h1, if_pos (by omega)]
    · rw [if_neg h1, if_neg (by omega)]
  · obtain ⟨q, rfl⟩ : ∃ q, n = 2 * q + 1 := ⟨n / 2, by omega⟩
    rw [dr_2o f c hc, show (2 * q + 1) / 2 = q by omega]
    congr 1
    by_cases h1 : q % 2 = 0
    · rw [if_pos h1, if_pos (by omega)]
    · rw [if_neg h1, if_neg (by omega)]
theorem dr_3e (f : Nat) (c : Nat → Nat) (hc : c 0 ≤ 1) : ∀ q : Nat, fh_dr (fh_pl 3 (f + 1) c) (3 * q) = fh_dr (fh_pl 3 f (fun k => c (k + 1))) q
  | 0 => rfl
  | q + 1 => by
    rw [show 3 * (q + 1) = 3 * q + 1 + 1 + 1 by omega, fh_dr, fh_dr, fh_dr, dr_3e f c hc q, pl_3n f c (by omega), pl_3n f c (by omega), show 3 * q + 1 + 1 + 1 = 3 * (q + 1) by omega, pl_3, fh_dr, if_pos (by omega), if_neg (by omega), sg_neg hc]
    omega
theorem dr_3 (f : Nat) (c : Nat → Nat) (hc : c 0 ≤ 1) (n : Nat) : fh_dr (fh_pl 3 (f + 1) c) n = fh_dr (fh_pl 3 f (fun k => c (k + 1))) (n / 3) + (if n % 3 = 1 then fh_sg (c 0) else 0) := by
  obtain ⟨q, r, hr, rfl⟩ : ∃ q r, r < 3 ∧ n = 3 * q + r := ⟨n / 3, n % 3, by omega, by omega⟩
  rw [show (3 * q + r) / 3 = q by omega]
  have h3 := dr_3e f c hc q
  have e1 : fh_dr (fh_pl 3 (f + 1) c) (3 * q + 1) = fh_dr (fh_pl 3 f (fun k => c (k + 1))) q + fh_sg (c 0) := by
    rw [fh_dr, h3, pl_3n f c (by omega), if_pos (by omega)]
  rcases (show r = 0 ∨ r = 1 ∨ r = 2 by omega) with rfl | rfl | rfl
  · rw [if_neg (by omega), Int.add_zero]; exact h3
  · rw [if_pos (by omega), e1]
  · rw [if_neg (by omega), show 3 * q + 2 = 3 * q + 1 + 1 by omega, fh_dr, e1, pl_3n f c (by omega), if_neg (by omega), sg_neg hc]; omega
/-! places -/
theorem px_1 (cr : Nat → Nat) (w : Int) (m : Nat) : fh_px cr w (m + 1) = fh_px cr w m + fh_ux (w + fh_dr cr m) := rfl
theorem py_1 (cr : Nat → Nat) (w : Int) (m : Nat) : fh_py cr w (m + 1) = fh_py cr w m + fh_uy (w + fh_dr cr m) := rfl
theorem px_2 (cr : Nat → Nat) (w : Int) (m : Nat) : fh_px cr w (m + 1 + 1) = fh_px cr w m + fh_ux (w + fh_dr cr m) + fh_ux (w + fh_dr cr (m + 1)) := rfl
theorem py_2 (cr : Nat → Nat) (w : Int) (m : Nat) : fh_py cr w (m + 1 + 1) = fh_py cr w m + fh_uy (w + fh_dr cr m) + fh_uy (w + fh_dr cr (m + 1)) := rfl
theorem px_3 (cr : Nat → Nat) (w : Int) (m : Nat) : fh_px cr w (m + 1 + 1 + 1) = fh_px cr w m + fh_ux (w + fh_dr cr m) + fh_ux (w + fh_dr cr (m + 1)) + fh_ux (w + fh_dr cr (m + 1 + 1)) := rfl
theorem py_3 (cr : Nat → Nat) (w : Int) (m : Nat) : fh_py cr w (m + 1 + 1 + 1) = fh_py cr w m + fh_uy (w + fh_dr cr m) + fh_uy (w + fh_dr cr (m + 1)) + fh_uy (w + fh_dr cr (m + 1 + 1)) := rfl
theorem px_0 (cr : Nat → Nat) (m : Nat) : fh_px cr 0 (m + 1) = fh_px cr 0 m + fh_ux (fh_dr cr m) := by rw [fh_px, Int.zero_add]
theorem py_0 (cr : Nat → Nat) (m : Nat) : fh_py cr 0 (m + 1) = fh_py cr 0 m + fh_uy (fh_dr cr m) := by rw [fh_py, Int.zero_add]
theorem p_2e (f : Nat) (c : Nat → Nat) (hc : c 0 ≤ 1) (w : Int) : ∀ q : Nat, fh_px (fh_pl 2 (f + 1) c) w (2 * q) = fh_px (fh_pl 2 f (fun k => c (k + 1))) w q - fh_sg (c 0) * fh_py (fh_pl 2 f (fun k => c (k + 1))) w q ∧ fh_py (fh_pl 2 (f + 1) c) w (2 * q) = fh_py (fh_pl 2 f (fun k => c (k + 1))) w q + fh_sg (c 0) * fh_px (fh_pl 2 f (fun k => c (k + 1))) w q
  | 0 => by simp [fh_px, fh_py]
  | q + 1 => by
    obtain ⟨i1, i2⟩ := p_2e f c hc w q
    rw [show 2 * (q + 1) = 2 * q + 1 + 1 by omega, px_2 _ _ (2 * q), py_2 _ _ (2 * q), i1, i2, dr_2e f c hc q, dr_2o f c hc q, px_1 _ _ q, py_1 _ _ q, Int.mul_add, Int.mul_add]
    have a1 := ux_sg (w + fh_dr (fh_pl 2 f (fun k => c (k + 1))) q) (c 0)
    have a2 := uy_sg (w + fh_dr (fh_pl 2 f (fun k => c (k + 1))) q) (c 0)
    by_cases h : q % 2 = 1
    · rw [if_pos h, if_neg (by omega), Int.add_zero, ← Int.add_assoc, a1, a2]
      omega
    · rw [if_neg h, if_pos (by omega), Int.add_zero, ← Int.add_assoc, a1, a2]
      omega
theorem p_3e (f : Nat) (c : Nat → Nat) (hc : c 0 ≤ 1) (w : Int) : ∀ q : Nat, fh_px (fh_pl 3 (f + 1) c) w (3 * q) = 2 * fh_px (fh_pl 3 f (fun k => c (k + 1))) w q - fh_sg (c 0) * fh_py (fh_pl 3 f (fun k => c (k + 1))) w q ∧ fh_py (fh_pl 3 (f + 1) c) w (3 * q) = 2 * fh_py (fh_pl 3 f (fun k => c (k + 1))) w q + fh_sg (c 0) * fh_px (fh_pl 3 f (fun k => c (k + 1))) w q
  | 0 => by simp [fh_px, fh_py]
  | q + 1 => by
    obtain ⟨i1, i2⟩ := p_3e f c hc w q
    have d1 : fh_dr (fh_pl 3 (f + 1) c) (3 * q + 1) = fh_dr (fh_pl 3 f (fun k => c (k + 1))) q + fh_sg (c 0) := by
      rw [dr_3 f c hc, if_pos (by omega), show (3 * q + 1) / 3 = q by omega]
    have d2 : fh_dr (fh_pl 3 (f + 1) c) (3 * q + 1 + 1) = fh_dr (fh_pl 3 f (fun k => c (k + 1))) q := by
      rw [dr_3 f c hc, if_neg (by omega), show (3 * q + 1 + 1) / 3 = q by omega, Int.add_zero]
    rw [show 3 * (q + 1) = 3 * q + 1 + 1 + 1 by omega, px_3 _ _ (3 * q), py_3 _ _ (3 * q), i1, i2, d2, d1, dr_3e f c hc q, px_1 _ _ q, py_1 _ _ q, Int.mul_add, Int.mul_add, Int.mul_add, Int.mul_add]
    have a1 := ux_sg (w + fh_dr (fh_pl 3 f (fun k => c (k + 1))) q) (c 0)
    have a2 := uy_sg (w + fh_dr (fh_pl 3 f (fun k => c (k + 1))) q) (c 0)
    rw [← Int.add_assoc, a1, a2]
    omega
/-- how far it can be -/
theorem p_far (cr : Nat → Nat) (w : Int) : ∀ n : Nat, -(n : Int) ≤ fh_px cr w n ∧ fh_px cr w n ≤ n ∧ -(n : Int) ≤ fh_py cr w n ∧ fh_py cr w n ≤ n
  | 0 => ⟨Int.le_refl _, Int.le_refl _, Int.le_refl _, Int.le_refl _⟩
  | n + 1 => by
    have ih := p_far cr w n
    rw [fh_px, fh_py]
    rcases u_cases (w + fh_dr cr n) with h | h | h | h <;> omega
theorem dr_far (cr : Nat → Nat) : ∀ n : Nat, -(n : Int) ≤ fh_dr cr n ∧ fh_dr cr n ≤ n
  | 0 => ⟨Int.le_refl _, Int.le_refl _⟩
  | n + 1 => by
    have ih := dr_far cr n
    rw [fh_dr]
    rcases sg_or (cr (n + 1)) with h | h <;> omega
/-- a first way turns all -/
theorem p_way (cr : Nat → Nat) (w : Int) : ∀ n : Nat, fh_px cr w n = fh_ux w * fh_px cr 0 n - fh_uy w * fh_py cr 0 n ∧ fh_py cr w n = fh_uy w * fh_px cr 0 n + fh_ux w * fh_py cr 0 n
  | 0 => by simp [fh_px, fh_py]
  | n + 1 => by
    obtain ⟨i1, i2⟩ := p_way cr w n
    rw [px_1 _ w n, py_1 _ w n, px_0, py_0, i1, i2, ux_add, uy_add, Int.mul_add, Int.mul_add, Int.mul_add, Int.mul_add]
    omega
/-- from crease b on -/
theorem dr_cut (cr : Nat → Nat) (b : Nat) : ∀ n : Nat, fh_dr (fun i => cr (i + b)) n = fh_dr cr (n + b) - fh_dr cr b
  | 0 => by rw [Nat.zero_add]; simp [fh_dr]
  | n + 1 => by
    rw [fh_dr, dr_cut cr b n, show n + 1 + b = n + b + 1 by omega, fh_dr]
    omega
theorem p_cut (cr : Nat → Nat) (b : Nat) : ∀ n : Nat, fh_px (fun i => cr (i + b)) 0 n = fh_ux (-fh_dr cr b) * (fh_px cr 0 (n + b) - fh_px cr 0 b) - fh_uy (-fh_dr cr b) * (fh_py cr 0 (n + b) - fh_py cr 0 b) ∧ fh_py (fun i => cr (i + b)) 0 n = fh_uy (-fh_dr cr b) * (fh_px cr 0 (n + b) - fh_px cr 0 b) + fh_ux (-fh_dr cr b) * (fh_py cr 0 (n + b) - fh_py cr 0 b)
  | 0 => by rw [Nat.zero_add]; simp [fh_px, fh_py]
  | n + 1 => by
    obtain ⟨i1, i2⟩ := p_cut cr b n
    rw [px_0 _ n, py_0 _ n, i1, i2, show n + 1 + b = n + b + 1 by omega, px_0, py_0, dr_cut, show fh_dr cr (n + b) - fh_dr cr b = fh_dr cr (n + b) + -fh_dr cr b by omega, ux_add, uy_add]
    generalize fh_ux (fh_dr cr (n + b)) = A
    generalize fh_uy (fh_dr cr (n + b)) = B
    generalize fh_ux (-fh_dr cr b) = C
    generalize fh_uy (-fh_dr cr b) = D
    rw [show fh_px cr 0 (n + b) + A - fh_px cr 0 b = (fh_px cr 0 (n + b) - fh_px cr 0 b) + A by omega, show fh_py cr 0 (n + b) + B - fh_py cr 0 b = (fh_py cr 0 (n + b) - fh_py cr 0 b) + B by omega, Int.mul_add, Int.mul_add, Int.mul_add, Int.mul_add, Int.mul_comm A C, Int.mul_comm B D, Int.mul_comm B C, Int.mul_comm A D]
    omega
/-- from the other end: crease i is the other one than crease M - i -/
theorem dr_back (cr : Nat → Nat) (hc : ∀ k, cr k ≤ 1) (M : Nat) : ∀ n : Nat, n < M → fh_dr (fun i => 1 - cr (M - i)) n = fh_dr cr (M - 1 - n) - fh_dr cr (M - 1)
  | 0, _ => by simp [fh_dr]
  | n + 1, h => by
    rw [fh_dr, dr_back cr hc M n (by omega), sg_neg (hc _)]
    obtain ⟨m, hm⟩ : ∃ m, M - 1 - n = m + 1 := ⟨M - 1 - n - 1, by omega⟩
    rw [hm, fh_dr, show M - (n + 1) = m + 1 by omega, show M - 1 - (n + 1) = m by omega]
    omega
theorem p_back (cr : Nat → Nat) (hc : ∀ k, cr k ≤ 1) (M : Nat) : ∀ n : Nat, n ≤ M → fh_px (fun i => 1 - cr (M - i)) 0 n = fh_ux (-fh_dr cr (M - 1)) * (fh_px cr 0 M - fh_px cr 0 (M - n)) - fh_uy (-fh_dr cr (M - 1)) * (fh_py cr 0 M - fh_py cr 0 (M - n)) ∧ fh_py (fun i => 1 - cr (M - i)) 0 n = fh_uy (-fh_dr cr (M - 1)) * (fh_px cr 0 M - fh_px cr 0 (M - n)) + fh_ux (-fh_dr cr (M - 1)) * (fh_py cr 0 M - fh_py cr 0 (M - n))
  | 0, _ => by simp [fh_px, fh_py]
  | n + 1, h => by
    obtain ⟨i1, i2⟩ := p_back cr hc M n (by omega)
    obtain ⟨m, hm⟩ : ∃ m, M - n = m + 1 := ⟨M - n - 1, by omega⟩
    rw [px_0 _ n, py_0 _ n, i1, i2, dr_back cr hc M n (by omega), hm, px_0, py_0, show M - (n + 1) = m by omega, show M - 1 - n = m by omega, show fh_dr cr m - fh_dr cr (M - 1) = fh_dr cr m + -fh_dr cr (M - 1) by omega, ux_add, uy_add]
    generalize fh_ux (fh_dr cr m) = A
    generalize fh_uy (fh_dr cr m) = B
    generalize fh_ux (-fh_dr cr (M - 1)) = C
    generalize fh_uy (-fh_dr cr (M - 1)) = D
    rw [show fh_px cr 0 M - fh_px cr 0 m = (fh_px cr 0 M - (fh_px cr 0 m + A)) + A by omega, show fh_py cr 0 M - fh_py cr 0 m = (fh_py cr 0 M - (fh_py cr 0 m + B)) + B by omega, Int.mul_add, Int.mul_add, Int.mul_add, Int.mul_add, Int.mul_comm A C, Int.mul_comm B D, Int.mul_comm B C, Int.mul_comm A D]
    omega
/-- in a glass -/
theorem dr_glass (cr : Nat → Nat) : ∀ n : Nat, (∀ i, 1 ≤ i → i ≤ n → cr i ≤ 1) → fh_dr (fun i => 1 - cr i) n = -fh_dr cr n
  | 0, _ => rfl
  | n + 1, h => by
    rw [fh_dr, fh_dr, dr_glass cr n (fun i h1 h2 => h i h1 (by omega)), sg_neg (h (n + 1) (by omega) (Nat.le_refl _))]
    omega
theorem p_glass (cr : Nat → Nat) : ∀ n : Nat, (∀ i, cr i ≤ 1) → fh_px (fun i => 1 - cr i) 0 n = fh_px cr 0 n ∧ fh_py (fun i => 1 - cr i) 0 n = -fh_py cr 0 n
  | 0, _ => by simp [fh_px, fh_py]
  | n + 1, h => by
    obtain ⟨i1, i2⟩ := p_glass cr n h
    rw [px_0, py_0, px_0, py_0, i1, i2, dr_glass cr n (fun i _ _ => h i), ux_neg, uy_neg]
    omega
