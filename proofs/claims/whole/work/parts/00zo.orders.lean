/-! orders: all rows of leaves, and those that can be -/
theorem msk_mem (l : Nat) (p : List Nat) : (fh_msk p).testBit l = true ↔ l ∈ p := by
  have key : ∀ (p : List Nat) (w : Nat), (p.foldl (fun w v => w ||| 2 ^ v) w).testBit l = true ↔ (w.testBit l = true ∨ l ∈ p) := by
    intro p
    induction p with
    | nil =>
      intro w
      simp
    | cons a p ih =>
      intro w
      rw [List.foldl_cons, ih, Nat.testBit_or, Bool.or_eq_true, Nat.testBit_two_pow, decide_eq_true_iff, List.mem_cons]
      constructor
      · rintro ((h | h) | h)
        · exact Or.inl h
        · exact Or.inr (Or.inl h.symm)
        · exact Or.inr (Or.inr h)
      · rintro (h | h | h)
        · exact Or.inl (Or.inl h)
        · exact Or.inl (Or.inr h.symm)
        · exact Or.inr h
  unfold fh_msk
  rw [key, Nat.zero_testBit]
  simp
theorem msk_b {k : Nat} {p : List Nat} (h : ∀ x, x ∈ p → x < k) : fh_msk p < 2 ^ k := by
  apply Nat.lt_pow_two_of_testBit
  intro i hi
  rw [← Bool.not_eq_true, msk_mem]
  intro hm
  have := h i hm
  omega
theorem nd_full {n : Nat} {p : List Nat} (hd : p.Nodup) (hlen : p.length = n) (hl : ∀ x, x ∈ p → x < n) : fh_pm n p := by
  refine ⟨hlen, hd, fun l h => ?_⟩
  refine Decidable.byContradiction (fun hn => ?_)
  rw [← hlen, ← ix_mem] at hn
  have := nodup_le n (l :: p) (List.nodup_cons.mpr ⟨hn, hd⟩) (fun x hx => by
    rcases List.mem_cons.mp hx with h1 | h1
    · rw [h1]
      exact h
    · exact hl x h1)
  rw [List.length_cons] at this
  omega
/-- p: different leaves below n -/
def fh_pp (n : Nat) (p : List Nat) : Prop := p.Nodup ∧ (∀ x, x ∈ p → x < n) ∧ p.length ≤ n
theorem pp_app {n l : Nat} {p : List Nat} (h : fh_pp n p) (hl : l < n) (hn : ¬ fh_ix p l < p.length) : fh_pp n (p ++ [l]) ∧ p.length < n := by
  rw [← ix_mem] at hn
  have hd : (p ++ [l]).Nodup := by
    rw [List.nodup_append]
    refine ⟨h.1, List.nodup_cons.mpr ⟨by simp, List.nodup_nil⟩, fun a ha b hb e => ?_⟩
    rw [List.mem_singleton] at hb
    exact hn (hb ▸ e ▸ ha)
  have hb : ∀ x, x ∈ p ++ [l] → x < n := by
    intro x hx
    rw [List.mem_append, List.mem_singleton] at hx
    rcases hx with hx | hx
    · exact h.2.1 x hx
    · rw [hx]
      exact hl
  have hle := nodup_le n _ hd hb
  rw [List.length_append, List.length_singleton] at hle
  exact ⟨⟨hd, hb, by rw [List.length_append, List.length_singleton]; omega⟩, by omega⟩
def fh_all (n : Nat) : Nat → List Nat → List (List Nat)
  | 0, p => [p]
  | k + 1, p => (List.range n).flatMap (fun l => if fh_ix p l < p.length then [] else fh_all n k (p ++ [l]))
theorem all_pre (n : Nat) : ∀ (k : Nat) (p r : List Nat), r ∈ fh_all n k p → ∃ t, r = p ++ t
  | 0, p, r, h => by
    rw [fh_all, List.mem_singleton] at h
    exact ⟨[], by rw [h, List.append_nil]⟩
  | k + 1, p, r, h => by
    rw [fh_all, List.mem_flatMap] at h
    obtain ⟨l, -, h2⟩ := h
    split at h2
    · exact absurd h2 (by simp)
    · obtain ⟨t, e⟩ := all_pre n k (p ++ [l]) r h2
      exact ⟨l :: t, by rw [e, List.append_assoc]; rfl⟩
theorem all_pm (n : Nat) : ∀ (k : Nat) (p r : List Nat), fh_pp n p → p.length + k = n → r ∈ fh_all n k p → fh_pm n r ∧ ∀ x, x ∈ r → x < n
  | 0, p, r, hp, e, h => by
    rw [fh_all, List.mem_singleton] at h
    rw [h]
    exact ⟨nd_full hp.1 (by omega) hp.2.1, hp.2.1⟩
  | k + 1, p, r, hp, e, h => by
    rw [fh_all, List.mem_flatMap] at h
    obtain ⟨l, h1, h2⟩ := h
    rw [List.mem_range] at h1
    by_cases c : fh_ix p l < p.length
    · rw [if_pos c] at h2
      exact absurd h2 (by simp)
    · rw [if_neg c] at h2
      exact all_pm n k (p ++ [l]) r (pp_app hp h1 c).1 (by rw [List.length_append, List.length_singleton]; omega) h2
theorem go_all (n : Nat) : ∀ (k : Nat) (p : List Nat), fh_go n k p = (fh_all n k p).filter (fun r => fh_chn n p (r.drop p.length))
  | 0, p => by
    rw [fh_go, fh_all, List.filter_cons_of_pos]
    · rfl
    · rw [List.drop_length]
      rfl
  | k + 1, p => by
    rw [fh_go, fh_all, List.filter_flatMap]
    congr 1
    funext l
    by_cases c : fh_ix p l < p.length
    · rw [if_pos c, if_pos c]
      rfl
    · rw [if_neg c, if_neg c]
      by_cases o : fh_ok n p l = true
      · rw [if_pos o, go_all n k (p ++ [l])]
        apply List.filter_congr
        intro r hr
        obtain ⟨t, e⟩ := all_pre n k (p ++ [l]) r hr
        rw [e, List.drop_left, List.append_assoc, List.drop_left]
        show _ = (fh_ok n p l && fh_chn n (p ++ [l]) t)
        rw [o, Bool.true_and]
      · rw [if_neg o]
        symm
        rw [List.filter_eq_nil_iff]
        intro r hr
        obtain ⟨t, e⟩ := all_pre n k (p ++ [l]) r hr
        rw [e, List.append_assoc, List.drop_left]
        show ¬ (fh_ok n p l && fh_chn n (p ++ [l]) t) = true
        rw [Bool.and_eq_true]
        exact fun h => o h.1
theorem ord_all (n : Nat) : fh_ord n = (fh_all n n []).filter (fun r => fh_nx n (fh_ix r)) := by
  rw [fh_ord, go_all]
  apply List.filter_congr
  intro r hr
  obtain ⟨h1, h2⟩ := all_pm n n [] r ⟨List.nodup_nil, fun x hx => absurd hx (by simp), Nat.zero_le n⟩ (by simp) hr
  rw [List.length_nil, List.drop_zero]
  exact chn_nx h1 h2
