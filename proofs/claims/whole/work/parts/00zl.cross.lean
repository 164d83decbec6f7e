/-! orders of leaves: laid one after another, or looked at whole -/
theorem ix_le (l : Nat) : ∀ p : List Nat, fh_ix p l ≤ p.length
  | [] => Nat.le_refl 0
  | a :: p => by
    have := ix_le l p
    rw [fh_ix, List.length_cons]
    split <;> omega
theorem ix_get (l : Nat) : ∀ p : List Nat, fh_ix p l < p.length → p.getD (fh_ix p l) 0 = l
  | [], h => absurd h (Nat.lt_irrefl 0)
  | a :: p, h => by
    rw [fh_ix, List.length_cons] at h
    rw [fh_ix]
    by_cases e : a = l
    · rw [if_pos e]
      exact e
    · rw [if_neg e] at h ⊢
      rw [List.getD_cons_succ]
      exact ix_get l p (by omega)
theorem ix_mem (l : Nat) : ∀ p : List Nat, l ∈ p ↔ fh_ix p l < p.length
  | [] => by simp [fh_ix]
  | a :: p => by
    rw [fh_ix, List.length_cons, List.mem_cons, ix_mem l p]
    by_cases e : a = l
    · rw [if_pos e]
      exact ⟨fun _ => by omega, fun _ => Or.inl e.symm⟩
    · rw [if_neg e]
      exact ⟨fun h => by rcases h with h | h; exact absurd h.symm e; omega, fun h => Or.inr (by omega)⟩
theorem ix_of : ∀ (p : List Nat) (i : Nat), p.Nodup → i < p.length → fh_ix p (p.getD i 0) = i
  | [], i, _, h => absurd h (by simp)
  | a :: p, 0, _, _ => by rw [fh_ix, List.getD_cons_zero, if_pos rfl]
  | a :: p, i + 1, hn, h => by
    rw [List.nodup_cons] at hn
    rw [List.length_cons] at h
    rw [fh_ix, List.getD_cons_succ, if_neg, ix_of p i hn.2 (by omega)]
    intro e
    apply hn.1
    rw [e, ix_mem, ix_of p i hn.2 (by omega)]
    omega
theorem ix_app (l x : Nat) : ∀ p : List Nat, fh_ix (p ++ [l]) x = if fh_ix p x < p.length then fh_ix p x else if x = l then p.length else p.length + 1
  | [] => by
    show (if l = x then 0 else 0 + 1) = if (0 : Nat) < 0 then 0 else if x = l then 0 else 0 + 1
    by_cases e : l = x
    · rw [if_pos e, if_neg (Nat.lt_irrefl 0), if_pos e.symm]
    · rw [if_neg e, if_neg (Nat.lt_irrefl 0), if_neg (fun h => e h.symm)]
  | a :: p => by
    have := ix_app l x p
    rw [List.cons_append, fh_ix, fh_ix, List.length_cons]
    by_cases e : a = x
    · rw [if_pos e, if_pos e, if_pos (by omega)]
    · rw [if_neg e, if_neg e, this]
      by_cases c : fh_ix p x < p.length
      · rw [if_pos c, if_pos (by omega)]
      · rw [if_neg c, if_neg (show ¬ fh_ix p x + 1 < p.length + 1 by omega)]
        by_cases e2 : x = l
        · rw [if_pos e2, if_pos e2]
        · rw [if_neg e2, if_neg e2]
theorem ix_take (l : Nat) : ∀ (p : List Nat) (q : Nat), q ≤ p.length → fh_ix (p.take q) l = if fh_ix p l < q then fh_ix p l else q
  | p, 0, _ => by
    rw [List.take_zero, if_neg (by omega)]
    rfl
  | [], q + 1, h => absurd h (by simp)
  | a :: p, q + 1, h => by
    rw [List.length_cons] at h
    rw [List.take_succ_cons, fh_ix, fh_ix, ix_take l p q (by omega)]
    by_cases e : a = l
    · rw [if_pos e, if_pos e, if_pos (by omega)]
    · rw [if_neg e, if_neg e]
      by_cases c : fh_ix p l < q
      · rw [if_pos c, if_pos (by omega)]
      · rw [if_neg c, if_neg (by omega)]
def fh_chn (n : Nat) : List Nat → List Nat → Bool
  | _, [] => true
  | p, l :: r => fh_ok n p l && fh_chn n (p ++ [l]) r
theorem chn_iff (n : Nat) : ∀ (t p : List Nat), fh_chn n p t = true ↔ ∀ q, q < t.length → fh_ok n (p ++ t.take q) (t.getD q 0) = true
  | [], p => ⟨fun _ q h => absurd h (by simp), fun _ => rfl⟩
  | l :: r, p => by
    rw [fh_chn, Bool.and_eq_true, chn_iff n r (p ++ [l])]
    constructor
    · intro ⟨h1, h2⟩ q hq
      cases q with
      | zero => rw [List.take_zero, List.append_nil]; exact h1
      | succ q =>
        rw [List.length_cons] at hq
        have := h2 q (by omega)
        rw [List.append_assoc] at this
        exact this
    · intro h
      refine ⟨?_, fun q hq => ?_⟩
      · have := h 0 (by rw [List.length_cons]; omega)
        rw [List.take_zero, List.append_nil] at this
        exact this
      · have := h (q + 1) (by rw [List.length_cons]; omega)
        rw [List.append_assoc]
        exact this
def fh_bw (x y z : Nat) : Bool := decide ((x < z ∧ z < y) ∨ (y < z ∧ z < x))
/-- no two folds of one side cross -/
def fh_nx (n : Nat) (at' : Nat → Nat) : Bool := decide (∀ i, i < n → ∀ j, j < n → (i + 1 < n ∧ j + 1 < n ∧ i + 2 ≤ j ∧ (j - i) % 2 = 0) → fh_bw (at' i) (at' (i + 1)) (at' j) = fh_bw (at' i) (at' (i + 1)) (at' (j + 1)))
theorem mt_cases (n s l : Nat) (hl : l < n) : fh_mt n s l = n ∨ ∃ i, i + 1 < n ∧ (i + s) % 2 = 0 ∧ ((l = i ∧ fh_mt n s l = i + 1) ∨ (l = i + 1 ∧ fh_mt n s l = i)) := by
  unfold fh_mt
  by_cases h : (l + s) % 2 = 0
  · rw [if_pos h]
    by_cases h2 : l + 1 < n
    · rw [if_pos h2]
      exact Or.inr ⟨l, h2, h, Or.inl ⟨rfl, rfl⟩⟩
    · rw [if_neg h2]
      exact Or.inl rfl
  · rw [if_neg h]
    by_cases h2 : l = 0
    · rw [if_pos h2]
      exact Or.inl rfl
    · rw [if_neg h2]
      exact Or.inr ⟨l - 1, by omega, by omega, Or.inr ⟨by omega, rfl⟩⟩
theorem mt_lo {n s i : Nat} (h : i + 1 < n) (e : (i + s) % 2 = 0) : fh_mt n s i = i + 1 ∧ fh_mt n s (i + 1) = i := by
  unfold fh_mt
  rw [if_pos e, if_pos h, if_neg (by omega), if_neg (by omega)]
  exact ⟨rfl, by omega⟩
/-- a row of all leaves below n, each once -/
def fh_pm (n : Nat) (p : List Nat) : Prop := p.length = n ∧ p.Nodup ∧ ∀ l, l < n → fh_ix p l < n
theorem pm_lt {n : Nat} {p : List Nat} (h : fh_pm n p) {i : Nat} (hi : i < n) (hl : ∀ x, x ∈ p → x < n) : p.getD i 0 < n := by
  apply hl
  rw [ix_mem, ix_of p i h.2.1 (by rw [h.1]; exact hi), h.1]
  exact hi
theorem ce_iff {n s q : Nat} {p : List Nat} (h : fh_pm n p) (hq : q < n) (l : Nat) : fh_ce n s (p.take q) l = true ↔ (fh_mt n s l = n ∨ ¬ fh_ix p (fh_mt n s l) < q ∨ ∀ x, fh_ix p (fh_mt n s l) < x → x < q → fh_mt n s (p.getD x 0) = n ∨ (fh_ix p (fh_mt n s (p.getD x 0)) < q ∧ fh_ix p (fh_mt n s l) ≤ fh_ix p (fh_mt n s (p.getD x 0)))) := by
  have hlen : (p.take q).length = q := by rw [List.length_take, h.1]; omega
  have hq2 : q ≤ p.length := by rw [h.1]; omega
  have ixq : ∀ y, fh_ix (p.take q) y = if fh_ix p y < q then fh_ix p y else q := fun y => ix_take y p q hq2
  unfold fh_ce
  rw [hlen, ixq]
  by_cases c1 : fh_mt n s l = n
  · rw [if_pos (Or.inl c1)]
    exact ⟨fun _ => Or.inl c1, fun _ => rfl⟩
  by_cases c2 : fh_ix p (fh_mt n s l) < q
  rotate_left
  · rw [if_neg c2, if_pos (Or.inr rfl)]
    exact ⟨fun _ => Or.inr (Or.inl c2), fun _ => rfl⟩
  rw [if_pos c2, if_neg (fun e => e.elim c1 (fun e => by omega)), List.all_eq_true]
  have body : ∀ x, (fh_mt n s x == n || (decide (fh_ix (p.take q) (fh_mt n s x) < q) && decide (fh_ix p (fh_mt n s l) ≤ fh_ix (p.take q) (fh_mt n s x)))) = true ↔ (fh_mt n s x = n ∨ (fh_ix p (fh_mt n s x) < q ∧ fh_ix p (fh_mt n s l) ≤ fh_ix p (fh_mt n s x))) := by
    intro x
    rw [Bool.or_eq_true, beq_iff_eq, Bool.and_eq_true, decide_eq_true_iff, decide_eq_true_iff, ixq]
    by_cases c : fh_ix p (fh_mt n s x) < q
    · rw [if_pos c]
    · rw [if_neg c]
      constructor
      · rintro (e | e)
        · exact Or.inl e
        · omega
      · rintro (e | e)
        · exact Or.inl e
        · omega
  constructor
  · intro hall
    refine Or.inr (Or.inr (fun x h1 h2 => ?_))
    refine (body (p.getD x 0)).mp (hall _ ?_)
    rw [List.mem_iff_getElem?]
    refine ⟨x - (fh_ix p (fh_mt n s l) + 1), ?_⟩
    rw [List.getElem?_drop, List.getElem?_take, if_pos (by omega), show fh_ix p (fh_mt n s l) + 1 + (x - (fh_ix p (fh_mt n s l) + 1)) = x by omega, List.getD_eq_getElem?_getD, List.getElem?_eq_getElem (by omega)]
    rfl
  · intro hor x hx
    rw [List.mem_iff_getElem?] at hx
    obtain ⟨i, hi⟩ := hx
    rw [List.getElem?_drop, List.getElem?_take] at hi
    by_cases c : fh_ix p (fh_mt n s l) + 1 + i < q
    · rw [if_pos c] at hi
      rcases hor with e | e | e
      · exact absurd e c1
      · exact absurd c2 e
      · have := e (fh_ix p (fh_mt n s l) + 1 + i) (by omega) c
        rw [List.getD_eq_getElem?_getD, hi] at this
        exact (body x).mpr this
    · rw [if_neg c] at hi
      exact absurd hi (by simp)

theorem bw_iff {a b x y : Nat} : fh_bw a b x = fh_bw a b y ↔ (((a < x ∧ x < b) ∨ (b < x ∧ x < a)) ↔ ((a < y ∧ y < b) ∨ (b < y ∧ y < a))) := by
  unfold fh_bw
  rw [decide_eq_decide]
theorem chn_nx {n : Nat} {p : List Nat} (h : fh_pm n p) (hl : ∀ x, x ∈ p → x < n) : fh_chn n [] p = fh_nx n (fh_ix p) := by
  have inj : ∀ l l', l < n → l' < n → fh_ix p l = fh_ix p l' → l = l' := by
    intro l l' h1 h2 e
    have a := ix_get l p (by rw [h.1]; exact h.2.2 l h1)
    have b := ix_get l' p (by rw [h.1]; exact h.2.2 l' h2)
    rw [← a, ← b, e]
  have gi : ∀ l, l < n → p.getD (fh_ix p l) 0 = l := fun l h1 => ix_get l p (by rw [h.1]; exact h.2.2 l h1)
  have ig : ∀ i, i < n → fh_ix p (p.getD i 0) = i := fun i h1 => ix_of p i h.2.1 (by rw [h.1]; exact h1)
  have gl : ∀ i, i < n → p.getD i 0 < n := fun i h1 => pm_lt h h1 hl
  rw [Bool.eq_iff_iff, chn_iff, fh_nx, decide_eq_true_iff]
  have step : ∀ q, q < n → (fh_ok n ([] ++ p.take q) (p.getD q 0) = true ↔ ∀ s, s < 2 → (fh_mt n s (p.getD q 0) = n ∨ ¬ fh_ix p (fh_mt n s (p.getD q 0)) < q ∨ ∀ x, fh_ix p (fh_mt n s (p.getD q 0)) < x → x < q → fh_mt n s (p.getD x 0) = n ∨ (fh_ix p (fh_mt n s (p.getD x 0)) < q ∧ fh_ix p (fh_mt n s (p.getD q 0)) ≤ fh_ix p (fh_mt n s (p.getD x 0))))) := by
    intro q hq
    rw [List.nil_append, fh_ok, Bool.and_eq_true, ce_iff h hq, ce_iff h hq]
    constructor
    · intro ⟨a, b⟩ s hs
      rcases (show s = 0 ∨ s = 1 by omega) with e | e <;> subst e
      · exact a
      · exact b
    · intro a
      exact ⟨a 0 (by omega), a 1 (by omega)⟩
  constructor
  · intro H i hi j hj ⟨hi1, hj1, hij, hpar⟩
    rw [bw_iff]
    -- the fold i ends at q, of side i % 2
    have key : ∀ l m : Nat, (l = i ∧ m = i + 1) ∨ (l = i + 1 ∧ m = i) → fh_ix p m < fh_ix p l → ∀ y o : Nat, (y = j ∧ o = j + 1) ∨ (y = j + 1 ∧ o = j) → fh_ix p m < fh_ix p y → fh_ix p y < fh_ix p l → fh_ix p m < fh_ix p o ∧ fh_ix p o < fh_ix p l := by
      intro l m hlm hlt y o hyo h1 h2
      have hl' : l < n := by omega
      have hy' : y < n := by omega
      have ho' : o < n := by omega
      have hq := h.2.2 l hl'
      have c := (step (fh_ix p l) hq).mp (H (fh_ix p l) (by rw [h.1]; exact hq)) (i % 2) (by omega)
      rw [gi l hl'] at c
      have e1 : fh_mt n (i % 2) l = m := by
        obtain ⟨a, b⟩ := mt_lo (n := n) (s := i % 2) hi1 (by omega)
        rcases hlm with ⟨r1, r2⟩ | ⟨r1, r2⟩ <;> rw [r1, r2] <;> assumption
      have e2 : fh_mt n (i % 2) y = o := by
        obtain ⟨a, b⟩ := mt_lo (n := n) (s := i % 2) hj1 (by omega)
        rcases hyo with ⟨r1, r2⟩ | ⟨r1, r2⟩ <;> rw [r1, r2] <;> assumption
      rw [e1] at c
      rcases c with c | c | c
      · omega
      · exact absurd hlt c
      · have d := c (fh_ix p y) h1 h2
        rw [gi y hy', e2] at d
        rcases d with d | d
        · omega
        · refine ⟨?_, d.1⟩
          rcases Nat.lt_or_ge (fh_ix p m) (fh_ix p o) with g | g
          · exact g
          · have := inj m o (by omega) ho' (by omega)
            omega
    have k1 := key i (i + 1) (Or.inl ⟨rfl, rfl⟩)
    have k2 := key (i + 1) i (Or.inr ⟨rfl, rfl⟩)
    constructor
    · rintro (⟨a, b⟩ | ⟨a, b⟩)
      · exact Or.inl (k2 (by omega) j (j + 1) (Or.inl ⟨rfl, rfl⟩) a b)
      · exact Or.inr (k1 (by omega) j (j + 1) (Or.inl ⟨rfl, rfl⟩) a b)
    · rintro (⟨a, b⟩ | ⟨a, b⟩)
      · exact Or.inl (k2 (by omega) (j + 1) j (Or.inr ⟨rfl, rfl⟩) a b)
      · exact Or.inr (k1 (by omega) (j + 1) j (Or.inr ⟨rfl, rfl⟩) a b)
  · intro H q hq
    rw [h.1] at hq
    rw [step q hq]
    intro s hs
    have hlq := gl q hq
    rcases mt_cases n s (p.getD q 0) hlq with c | ⟨i, hi, hsi, hc⟩
    · exact Or.inl c
    refine Or.inr ?_
    generalize hm : fh_mt n s (p.getD q 0) = m at *
    by_cases c2 : fh_ix p m < q
    rotate_left
    · exact Or.inl c2
    refine Or.inr (fun x x1 x2 => ?_)
    have hxl := gl x (by omega)
    rcases mt_cases n s (p.getD x 0) hxl with c | ⟨j, hj, hsj, hcj⟩
    · exact Or.inl c
    refine Or.inr ?_
    generalize ho : fh_mt n s (p.getD x 0) = o at *
    -- places
    have pq := ig q hq
    have px := ig x (by omega)
    generalize p.getD q 0 = l at *
    generalize p.getD x 0 = y at *
    have hij : i ≠ j := by
      intro e
      subst e
      have : y = l ∨ y = m := by omega
      rcases this with e | e
      · rw [e] at px
        omega
      · rw [e] at px
        omega
    have nq : fh_ix p o ≠ q := fun e => by
      have := inj o l (by omega) (by omega) (by omega)
      omega
    have nb : fh_ix p o ≠ fh_ix p m := fun e => by
      have := inj o m (by omega) (by omega) e
      omega
    rcases Nat.lt_or_gt_of_ne hij with hlt | hlt
    · have c := bw_iff.mp (H i (by omega) j (by omega) ⟨hi, hj, by omega, by omega⟩)
      rcases hc with ⟨r1, r2⟩ | ⟨r1, r2⟩ <;> rcases hcj with ⟨r3, r4⟩ | ⟨r3, r4⟩ <;> subst r1 <;> subst r2 <;> subst r3 <;> subst r4 <;> omega
    · have c := bw_iff.mp (H j (by omega) i (by omega) ⟨hj, hi, by omega, by omega⟩)
      rcases hc with ⟨r1, r2⟩ | ⟨r1, r2⟩ <;> rcases hcj with ⟨r3, r4⟩ | ⟨r3, r4⟩ <;> subst r1 <;> subst r2 <;> subst r3 <;> subst r4 <;> omega
