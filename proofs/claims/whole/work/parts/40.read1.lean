/-! read: what a told set of strips does -/
def fh_wn (g : Nat → Int32) (z a : Nat) : Nat → Nat
  | 0 => 0
  | n + 1 => fh_wn g z a n + (if fh_hr g z (a + n) = 108 then 2 ^ n else 0)
theorem wn_lt (g : Nat → Int32) (z a : Nat) : ∀ n : Nat, fh_wn g z a n < 2 ^ n
  | 0 => Nat.zero_lt_one
  | n + 1 => by
    have := wn_lt g z a n
    rw [fh_wn, Nat.pow_succ]
    split <;> omega
theorem ww_wn (g : Nat → Int32) (z a : Nat) : ∀ n : Nat, n ≤ 62 → fh_ww g z a n = lN (fh_wn g z a n)
  | 0, _ => rfl
  | n + 1, h => by
    rw [fh_ww, fh_wn, ww_wn g z a n (by omega)]
    have h1 := wn_lt g z a n
    have hp : 2 ^ n < 2 ^ 63 := Nat.pow_lt_pow_right (by omega) (by omega)
    by_cases c : fh_hr g z (a + n) = 108
    · rw [if_pos c, if_pos c, sh_l1 (by omega)]
      have h2 := g_or' (k := n) (p := 2 ^ n) (a := fh_wn g z a n) (b := 1) rfl h1 (by omega)
      rw [Nat.one_mul] at h2
      exact h2
    · rw [if_neg c, if_neg c, Nat.add_zero]
theorem nu_nn (g : Nat → Int32) (z : Nat) : ∀ d a m : Nat, ∃ m' : Nat, (fh_nu g z d a (nI m)).2 = nI m' ∧ m' + 1 ≤ (m + 1) * 10 ^ d
  | 0, _, m => ⟨m, rfl, by rw [Nat.pow_zero, Nat.mul_one]; exact Nat.le_refl _⟩
  | d + 1, a, m => by
    rw [fh_nu]
    have hp : (m + 1) * 10 ^ (d + 1) = 10 * (m + 1) * 10 ^ d := by
      rw [Nat.pow_succ, Nat.mul_comm 10 (m + 1), Nat.mul_assoc, Nat.mul_comm 10 (10 ^ d)]
    by_cases c : fh_dg (fh_hr g z a) = true
    · rw [if_pos c]
      have c2 : ¬ fh_hr g z a < 48 ∧ ¬ 57 < fh_hr g z a := of_decide_eq_true c
      have h0 : ¬ fh_hr g z a < 0 := fun h => c2.1 (neg_lt (c := 48) (by omega) h)
      obtain ⟨j, hj, e⟩ := nI_of2 (M := 57) (n := 57) rfl h0 (fa_of_nlt c2.2)
      have hj2 : 48 ≤ j := by
        have h1 := c2.1
        rw [e] at h1
        rcases Nat.lt_or_ge j 48 with h2 | h2
        · exact absurd (nI_lt (a := j) (b := 48) h2 (by omega)) h1
        · exact h2
      have ev : ((10 : Int32) * nI m) + fh_hr g z a - 48 = nI (10 * m + j - 48) := by
        rw [e]
        show nI 10 * nI m + nI j - nI 48 = _
        rw [pk_mul, nI_add, pk_sub (by omega)]
      rw [ev]
      obtain ⟨m', e', h'⟩ := nu_nn g z d (a + 1) (10 * m + j - 48)
      refine ⟨m', e', Nat.le_trans h' ?_⟩
      rw [hp]
      exact Nat.mul_le_mul_right _ (by omega)
    · rw [if_neg c]
      refine ⟨m, rfl, ?_⟩
      have : 0 < 10 ^ (d + 1) := Nat.pow_pos (by omega)
      exact Nat.le_mul_of_pos_right _ this
theorem nu_v (g : Nat → Int32) (z a : Nat) : ∃ m : Nat, m ≤ 999999 ∧ (fh_nu g z 6 a 0).2 = nI m := by
  obtain ⟨m, e, h⟩ := nu_nn g z 6 a 0
  exact ⟨m, by have e2 : (0 + 1) * 10 ^ 6 = 1000000 := by decide
               omega, e⟩
theorem nk_gt {g : Nat → Int32} {z a : Nat} {most : Int32} (ha : a ≤ z) (h : fh_nk g z a most = true) : a < (fh_nu g z 6 a 0).1 := by
  have h1 := of_decide_eq_true h
  have := nu_ge g z 6 a 0 ha
  have := h1.1
  omega
theorem nk_lt {g : Nat → Int32} {z a n : Nat} (hn : n ≤ 100) (h : fh_nk g z a (nI n - 1) = true) : ∃ m : Nat, m < n ∧ (fh_nu g z 6 a 0).2 = nI m := by
  have h1 := (of_decide_eq_true h).2
  obtain ⟨m, hm, e⟩ := nu_v g z a
  rw [e] at h1
  refine ⟨m, ?_, e⟩
  rcases Nat.eq_zero_or_pos n with c | c
  · subst c
    exfalso
    have e1 : nI 0 - 1 = (-1 : Int32) := rfl
    rw [e1] at h1
    rw [fa_le] at h1
    have e2 : (-1 : Int32).toInt = -1 := rfl
    have e3 := nI_pos' (n := m) (by omega)
    rw [fa_le] at e3
    have e4 : (0 : Int32).toInt = 0 := rfl
    omega
  · have e1 : nI n - 1 = nI (n - 1) := pk_sub (b := 1) c
    rw [e1, nI_leI (by omega) (by omega)] at h1
    omega
theorem nk_le {g : Nat → Int32} {z a n : Nat} (hn : n ≤ 999999) (h : fh_nk g z a (nI n) = true) : ∃ m : Nat, m ≤ n ∧ (fh_nu g z 6 a 0).2 = nI m := by
  have h1 := (of_decide_eq_true h).2
  obtain ⟨m, hm, e⟩ := nu_v g z a
  rw [e, nI_leI (by omega) (by omega)] at h1
  exact ⟨m, h1, e⟩
/-- an item's end: a fault, or the strips and where it ends -/
abbrev gO : Type := Nat ⊕ (Nat × (Nat → gP) × Nat)
def fh_s4 (g : Nat → Int32) (z n : Nat) (T : Nat → gP) (k v c : Nat) : gO :=
  if fh_hr g z c = 32 then
    (if fh_lw g z (if k = 2 then 25 else 40) (c + 1) = 0 then .inl (c + 1)
    else .inr (n + 1, (fun i => if i = n then (k, v, fh_lw g z (if k = 2 then 25 else 40) (c + 1), fh_wn g z (c + 1) (fh_lw g z (if k = 2 then 25 else 40) (c + 1))) else T i), c + 1 + fh_lw g z (if k = 2 then 25 else 40) (c + 1)))
  else .inl c
def fh_s3 (g : Nat → Int32) (z n : Nat) (T : Nat → gP) (k b : Nat) : gO :=
  if fh_hr g z b = 32 then (if fh_nk g z (b + 1) 999999 = true then fh_s4 g z n T k (fh_nu g z 6 (b + 1) 0).2.toNatClampNeg (fh_nu g z 6 (b + 1) 0).1 else .inl (b + 1)) else .inl b
def fh_s2 (g : Nat → Int32) (z n : Nat) (T : Nat → gP) (b : Nat) : gO :=
  if fh_hr g z b = 32 then (if fh_nk g z (b + 1) 6 = true then fh_s3 g z n T (fh_nu g z 6 (b + 1) 0).2.toNatClampNeg (fh_nu g z 6 (b + 1) 0).1 else .inl (b + 1)) else .inl b
def fh_s1 (g : Nat → Int32) (z n : Nat) (T : Nat → gP) (a : Nat) : gO :=
  if fh_lts g z 0 5 0 a = 5 then (if n = 8 then .inl a else fh_s2 g z n T (a + 5)) else .inl (a + fh_lts g z 0 5 0 a)
def fh_t3 (g : Nat → Int32) (z n : Nat) (T : Nat → gP) (t b : Nat) : gO :=
  if fh_hr g z b = 32 then (if fh_nk g z (b + 1) (nI (tf (T t)) - 1) = true then .inr (n, (fun i => if i = t then (tk (T t), ta (T t), tf (T t), tw (T t) ^^^ 2 ^ (fh_nu g z 6 (b + 1) 0).2.toNatClampNeg) else T i), (fh_nu g z 6 (b + 1) 0).1) else .inl (b + 1)) else .inl b
def fh_t1 (g : Nat → Int32) (z n : Nat) (T : Nat → gP) (a : Nat) : gO :=
  if fh_lts g z 2 5 0 a = 5 then (if fh_nk g z (a + 5) (nI n - 1) = true then fh_t3 g z n T (fh_nu g z 6 (a + 5) 0).2.toNatClampNeg (fh_nu g z 6 (a + 5) 0).1 else .inl (a + 5)) else .inl (a + fh_lts g z 2 5 0 a)
def fh_l3 (g : Nat → Int32) (z n : Nat) (T : Nat → gP) (t a e : Nat) : gO :=
  if 2 ≤ tf (T t) then .inr (n, (fun i => if i = t then (tk (T t), ta (T t), tf (T t) - 1, tw (T t) % 2 ^ (tf (T t) - 1)) else T i), e) else .inl a
def fh_l1 (g : Nat → Int32) (z n : Nat) (T : Nat → gP) (a : Nat) : gO :=
  if fh_lts g z 3 5 0 a = 5 then (if fh_nk g z (a + 5) (nI n - 1) = true then fh_l3 g z n T (fh_nu g z 6 (a + 5) 0).2.toNatClampNeg (a + 5) (fh_nu g z 6 (a + 5) 0).1 else .inl (a + 5)) else .inl (a + fh_lts g z 3 5 0 a)
def fh_it (g : Nat → Int32) (z n : Nat) (T : Nat → gP) (a : Nat) : gO :=
  if fh_hr g z a = 115 then fh_s1 g z n T a else if fh_hr g z a = 116 then fh_t1 g z n T a else if fh_hr g z a = 108 then fh_l1 g z n T a else .inl a
theorem hr_z {g : Nat → Int32} {z a : Nat} {v : Int32} (hv : v ≠ -1) (h : fh_hr g z a = v) : a < z := hr_in (g := g) (by rw [h]; exact hv)
theorem s4_gt {g : Nat → Int32} {z n : Nat} {T : Nat → gP} {k v c : Nat} {q : Nat × (Nat → gP) × Nat} (h : fh_s4 g z n T k v c = .inr q) : c < q.2.2 := by
  unfold fh_s4 at h
  generalize (if k = 2 then 25 else 40) = t at h
  split at h
  · split at h
    · cases h
    · cases h
      show c < c + 1 + _
      omega
  · cases h
theorem s3_gt {g : Nat → Int32} {z n : Nat} {T : Nat → gP} {k b : Nat} {q : Nat × (Nat → gP) × Nat} (h : fh_s3 g z n T k b = .inr q) : b < q.2.2 := by
  unfold fh_s3 at h
  split at h
  · rename_i e
    have := hr_z (by decide) e
    split at h
    · have := s4_gt h
      have := nu_ge g z 6 (b + 1) 0 (by omega)
      omega
    · cases h
  · cases h
theorem s2_gt {g : Nat → Int32} {z n : Nat} {T : Nat → gP} {b : Nat} {q : Nat × (Nat → gP) × Nat} (h : fh_s2 g z n T b = .inr q) : b < q.2.2 := by
  unfold fh_s2 at h
  split at h
  · rename_i e
    have := hr_z (by decide) e
    split at h
    · have := s3_gt h
      have := nu_ge g z 6 (b + 1) 0 (by omega)
      omega
    · cases h
  · cases h
theorem t3_gt {g : Nat → Int32} {z n : Nat} {T : Nat → gP} {t b : Nat} {q : Nat × (Nat → gP) × Nat} (h : fh_t3 g z n T t b = .inr q) : b < q.2.2 := by
  unfold fh_t3 at h
  split at h
  · rename_i e
    have := hr_z (by decide) e
    split at h
    · cases h
      have := nu_ge g z 6 (b + 1) 0 (by omega)
      show b < (fh_nu g z 6 (b + 1) 0).1
      omega
    · cases h
  · cases h
theorem lts_z (g : Nat → Int32) (z w : Nat) (hw : w < 5) : ∀ d i a : Nat, d + i ≤ tx_len.getD w 0 → a ≤ z → a + fh_lts g z w d i a ≤ z
  | 0, _, _, _, h => h
  | d + 1, i, a, hd, h => by
    rw [fh_lts]
    split
    · rename_i e
      have hin := hr_z (tx_p w hw i (by omega)) e
      have := lts_z g z w hw d (i + 1) (a + 1) (by omega) (by omega)
      omega
    · exact h
theorem it_gt {g : Nat → Int32} {z n : Nat} {T : Nat → gP} {a : Nat} {q : Nat × (Nat → gP) × Nat} (ha : a ≤ z) (h : fh_it g z n T a = .inr q) : a < q.2.2 := by
  unfold fh_it at h
  split at h
  · unfold fh_s1 at h
    split at h
    · split at h
      · cases h
      · have := s2_gt h
        omega
    · cases h
  · split at h
    · unfold fh_t1 at h
      have := lts_z g z 2 (by omega) 5 0 a (by decide) ha
      split at h
      · split at h
        · have := t3_gt h
          have := nu_ge g z 6 (a + 5) 0 (by omega)
          omega
        · cases h
      · cases h
    · split at h
      · unfold fh_l1 at h
        have := lts_z g z 3 (by omega) 5 0 a (by decide) ha
        split at h
        · split at h
          · unfold fh_l3 at h
            split at h
            · cases h
              have := nu_ge g z 6 (a + 5) 0 (by omega)
              show a < (fh_nu g z 6 (a + 5) 0).1
              omega
            · cases h
          · cases h
        · cases h
      · cases h
/-- a whole text, from an item on -/
def fh_rd (g : Nat → Int32) (z : Nat) : Nat → Nat → (Nat → gP) → Nat → Nat → gO
  | 0, _, _, _, _ => .inl 0
  | d + 1, n, T, a, i => Sum.elim Sum.inl (fun q => if z ≤ q.2.2 then .inr (q.1, q.2.1, i + 1) else if fh_hr g z q.2.2 = 59 then fh_rd g z d q.1 q.2.1 (q.2.2 + 1) (i + 1) else .inl q.2.2) (fh_it g z n T a)
theorem lts_1 (g : Nat → Int32) (z a : Nat) : fh_lts g z 1 1 0 a = if fh_hr g z a = 32 then 1 else 0 := by
  rw [fh_lts, show fh_tx 1 0 = 32 by decide +kernel]
  rfl
theorem lts_4 (g : Nat → Int32) (z a : Nat) : fh_lts g z 4 1 0 a = if fh_hr g z a = 59 then 1 else 0 := by
  rw [fh_lts, show fh_tx 4 0 = 59 by decide +kernel]
  rfl
theorem lw_le (g : Nat → Int32) (z : Nat) : ∀ d a : Nat, fh_lw g z d a ≤ d
  | 0, _ => Nat.le_refl 0
  | d + 1, a => by
    have := lw_le g z d (a + 1)
    rw [fh_lw]
    split <;> omega
