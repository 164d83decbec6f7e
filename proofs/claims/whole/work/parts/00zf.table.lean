/-! tables of keys, with slots tried one after another -/
theorem least {P : Nat → Prop} : ∀ o : Nat, P o → ∃ o' : Nat, o' ≤ o ∧ P o' ∧ ∀ i, i < o' → ¬ P i := by
  intro o
  induction o using Nat.strongRecOn with
  | ind o ih =>
    intro hp
    rcases Classical.em (∃ i, i < o ∧ P i) with ⟨i, hi, hpi⟩ | hno
    · obtain ⟨o', h1, h2, h3⟩ := ih i hi hpi
      exact ⟨o', by omega, h2, h3⟩
    · exact ⟨o, Nat.le_refl o, hp, fun i hi hpi => hno ⟨i, hi, hpi⟩⟩
theorem free : ∀ (N : Nat) (U : List Nat), U.length < N → ∃ s, s < N ∧ s ∉ U
  | 0, _, h => absurd h (by omega)
  | N + 1, U, h => by
    by_cases e : N ∈ U
    · obtain ⟨s, h1, h2⟩ := free N (U.erase N) (by
        rw [List.length_erase_of_mem e]
        have := List.length_pos_of_mem e
        omega)
      exact ⟨s, by omega, fun h3 => h2 ((List.mem_erase_of_ne (by omega)).mpr h3)⟩
    · exact ⟨N, by omega, e⟩
def tbl (N : Nat) (hh : Nat → Nat) (D : List Nat) (m c : Nat → Nat) : Prop :=
  (∀ s, s < N → (m s = 0 ∧ c s = 0) ∨ (m s ≠ 0 ∧ c s = D.count (m s) ∧ 0 < c s)) ∧
  (∀ s s', s < N → s' < N → m s = m s' → m s ≠ 0 → s = s') ∧
  (∀ k, k ∈ D → k ≠ 0 ∧ ∃ o, m ((hh k + o) % N) = k ∧ ∀ i, i < o → m ((hh k + i) % N) ≠ 0) ∧
  (∃ U : List Nat, U.length ≤ D.length ∧ ∀ s, s < N → m s ≠ 0 → s ∈ U)
theorem tbl_0 {N : Nat} {hh m c : Nat → Nat} (h : ∀ s, s < N → m s = 0 ∧ c s = 0) : tbl N hh [] m c :=
  ⟨fun s hs => Or.inl (h s hs), fun s _ hs _ _ hne => absurd (h s hs).1 hne, fun k hk => absurd hk (by simp), [], Nat.le_refl _, fun s hs hne => absurd (h s hs).1 hne⟩
theorem tbl_find {N : Nat} {hh m c : Nat → Nat} {D : List Nat} (T : tbl N hh D m c) (hN : D.length < N) {k : Nat} (hk : k ≠ 0) : ∃ o, o < N ∧ (∀ i, i < o → m ((hh k + i) % N) ≠ 0 ∧ m ((hh k + i) % N) ≠ k) ∧ ((m ((hh k + o) % N) = 0 ∧ D.count k = 0 ∧ c ((hh k + o) % N) = 0) ∨ (m ((hh k + o) % N) = k ∧ c ((hh k + o) % N) = D.count k ∧ 0 < c ((hh k + o) % N))) := by
  obtain ⟨t1, t2, t3, U, u1, u2⟩ := T
  obtain ⟨e, e1, e2⟩ := free N U (by omega)
  have em : m e = 0 := Decidable.byContradiction (fun h => e2 (u2 e e1 h))
  have hr : hh k % N < N := Nat.mod_lt _ (by omega)
  have slot : ∃ o, o < N ∧ (hh k + o) % N = e := by
    rcases Nat.lt_or_ge e (hh k % N) with c | c
    · refine ⟨e + N - hh k % N, by omega, ?_⟩
      rw [Nat.add_mod, Nat.mod_eq_of_lt (show e + N - hh k % N < N by omega), show hh k % N + (e + N - hh k % N) = e + N by omega, Nat.add_mod_right, Nat.mod_eq_of_lt e1]
    · refine ⟨e - hh k % N, by omega, ?_⟩
      rw [Nat.add_mod, Nat.mod_eq_of_lt (show e - hh k % N < N by omega), show hh k % N + (e - hh k % N) = e by omega, Nat.mod_eq_of_lt e1]
  obtain ⟨o1, l1, l2⟩ := slot
  obtain ⟨o, p1, p2, p3⟩ := least (P := fun o => m ((hh k + o) % N) = 0 ∨ m ((hh k + o) % N) = k) o1 (Or.inl (by rw [l2]; exact em))
  have lt : (hh k + o) % N < N := Nat.mod_lt _ (by omega)
  refine ⟨o, by omega, fun i hi => ⟨fun e => p3 i hi (Or.inl e), fun e => p3 i hi (Or.inr e)⟩, ?_⟩
  rcases p2 with p2 | p2
  · refine Or.inl ⟨p2, ?_, ?_⟩
    · refine Decidable.byContradiction (fun hc => ?_)
      obtain ⟨-, o', q1, q2⟩ := t3 k (List.count_pos_iff.mp (by omega))
      rcases Nat.lt_trichotomy o' o with h | h | h
      · exact p3 o' h (Or.inr q1)
      · rw [h] at q1
        omega
      · exact q2 o h p2
    · rcases t1 _ lt with h | h
      · exact h.2
      · exact absurd p2 h.1
  · rcases t1 _ lt with h | h
    · exact absurd (p2.symm.trans h.1) hk
    · rw [p2] at h
      exact Or.inr ⟨p2, h.2⟩
theorem tbl_put {N : Nat} {hh m c m' c' : Nat → Nat} {D : List Nat} (T : tbl N hh D m c) {k o : Nat} (h0 : 0 < N) (hk : k ≠ 0) (f1 : ∀ i, i < o → m ((hh k + i) % N) ≠ 0 ∧ m ((hh k + i) % N) ≠ k) (f2 : (m ((hh k + o) % N) = 0 ∧ D.count k = 0 ∧ c ((hh k + o) % N) = 0) ∨ (m ((hh k + o) % N) = k ∧ c ((hh k + o) % N) = D.count k ∧ 0 < c ((hh k + o) % N))) (g1 : m' ((hh k + o) % N) = k) (g2 : c' ((hh k + o) % N) = c ((hh k + o) % N) + 1) (g3 : ∀ s, s < N → s ≠ (hh k + o) % N → m' s = m s ∧ c' s = c s) : tbl N hh (k :: D) m' c' := by
  obtain ⟨t1, t2, t3, U, u1, u2⟩ := T
  have lt : (hh k + o) % N < N := Nat.mod_lt _ (by omega)
  generalize hs : (hh k + o) % N = s at *
  have oth : ∀ s', s' < N → s' ≠ s → m s' ≠ k := by
    intro s' l1 l2 e
    rcases f2 with ⟨a, b, -⟩ | ⟨a, -, -⟩
    · rcases t1 s' l1 with h | h
      · exact hk (e.symm.trans h.1)
      · rw [e] at h
        omega
    · exact l2 (t2 s' s l1 lt (e.trans a.symm) (by rw [e]; exact hk))
  refine ⟨fun s' l1 => ?_, fun s1 s2 l1 l2 e hne => ?_, fun k' hk' => ?_, s :: U, by simp only [List.length_cons]; omega, fun s' l1 hne => ?_⟩
  · by_cases e : s' = s
    · rw [e, g1, g2, List.count_cons_self]
      refine Or.inr ⟨hk, ?_, by omega⟩
      rcases f2 with ⟨a, b, d⟩ | ⟨a, b, -⟩ <;> omega
    · obtain ⟨a, b⟩ := g3 s' l1 e
      rw [a, b]
      rcases t1 s' l1 with h | h
      · exact Or.inl h
      · rw [List.count_cons_of_ne (fun e' => oth s' l1 e e'.symm)]
        exact Or.inr h
  · by_cases e1 : s1 = s
    · by_cases e2 : s2 = s
      · rw [e1, e2]
      · rw [e1, g1, (g3 s2 l2 e2).1] at e
        exact absurd e.symm (oth s2 l2 e2)
    · by_cases e2 : s2 = s
      · rw [e2, g1, (g3 s1 l1 e1).1] at e
        exact absurd e (oth s1 l1 e1)
      · rw [(g3 s1 l1 e1).1, (g3 s2 l2 e2).1] at e
        rw [(g3 s1 l1 e1).1] at hne
        exact t2 s1 s2 l1 l2 e hne
  · have nz : ∀ s', s' < N → m s' ≠ 0 → m' s' ≠ 0 := by
      intro s' l1 hne
      by_cases e : s' = s
      · rw [e, g1]
        exact hk
      · rw [(g3 s' l1 e).1]
        exact hne
    by_cases ek : k' = k
    · rw [ek]
      refine ⟨hk, o, by rw [hs]; exact g1, fun i hi => nz _ (Nat.mod_lt _ h0) (f1 i hi).1⟩
    · rcases List.mem_cons.mp hk' with h | h
      · exact absurd h ek
      · obtain ⟨n0, o', q1, q2⟩ := t3 k' h
        refine ⟨n0, o', ?_, fun i hi => nz _ (Nat.mod_lt _ h0) (q2 i hi)⟩
        have ne : (hh k' + o') % N ≠ s := by
          intro e
          rw [e] at q1
          rcases f2 with ⟨a, -, -⟩ | ⟨a, -, -⟩
          · exact n0 (q1.symm.trans a)
          · exact ek (q1.symm.trans a)
        rw [(g3 _ (Nat.mod_lt _ h0) ne).1]
        exact q1
  · by_cases e : s' = s
    · rw [e]
      exact List.mem_cons_self
    · rw [(g3 s' l1 e).1] at hne
      exact List.mem_cons_of_mem _ (u2 s' l1 hne)
