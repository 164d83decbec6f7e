/-! leaves laid by the class, looked at by the reference -/
theorem cep_iff (n s : Nat) (p : List Nat) (l : Nat) : fh_ce n s p l = true ↔ (fh_mt n s l = n ∨ ¬ fh_ix p (fh_mt n s l) < p.length ∨ ∀ x, fh_ix p (fh_mt n s l) < x → x < p.length → fh_mt n s (p.getD x 0) = n ∨ (fh_ix p (fh_mt n s (p.getD x 0)) < p.length ∧ fh_ix p (fh_mt n s l) ≤ fh_ix p (fh_mt n s (p.getD x 0)))) := by
  have hle := ix_le (fh_mt n s l) p
  unfold fh_ce
  by_cases c1 : fh_mt n s l = n
  · rw [if_pos (Or.inl c1)]
    exact ⟨fun _ => Or.inl c1, fun _ => rfl⟩
  by_cases c2 : fh_ix p (fh_mt n s l) < p.length
  rotate_left
  · rw [if_pos (Or.inr (by omega))]
    exact ⟨fun _ => Or.inr (Or.inl c2), fun _ => rfl⟩
  rw [if_neg (fun e => e.elim c1 (fun e => by omega)), List.all_eq_true]
  have body : ∀ x, (fh_mt n s x == n || (decide (fh_ix p (fh_mt n s x) < p.length) && decide (fh_ix p (fh_mt n s l) ≤ fh_ix p (fh_mt n s x)))) = true ↔ (fh_mt n s x = n ∨ (fh_ix p (fh_mt n s x) < p.length ∧ fh_ix p (fh_mt n s l) ≤ fh_ix p (fh_mt n s x))) := by
    intro x
    rw [Bool.or_eq_true, beq_iff_eq, Bool.and_eq_true, decide_eq_true_iff, decide_eq_true_iff]
  constructor
  · intro hall
    refine Or.inr (Or.inr (fun x h1 h2 => ?_))
    refine (body (p.getD x 0)).mp (hall _ ?_)
    rw [List.mem_iff_getElem?]
    refine ⟨x - (fh_ix p (fh_mt n s l) + 1), ?_⟩
    rw [List.getElem?_drop, show fh_ix p (fh_mt n s l) + 1 + (x - (fh_ix p (fh_mt n s l) + 1)) = x by omega, List.getD_eq_getElem?_getD, List.getElem?_eq_getElem h2]
    rfl
  · intro hor x hx
    rw [List.mem_iff_getElem?] at hx
    obtain ⟨i, hi⟩ := hx
    rw [List.getElem?_drop] at hi
    have c : fh_ix p (fh_mt n s l) + 1 + i < p.length := by
      rcases Nat.lt_or_ge (fh_ix p (fh_mt n s l) + 1 + i) p.length with g | g
      · exact g
      · rw [List.getElem?_eq_none g] at hi
        exact absurd hi (by simp)
    rcases hor with e | e | e
    · exact absurd e c1
    · exact absurd c2 e
    · have := e (fh_ix p (fh_mt n s l) + 1 + i) (by omega) c
      rw [List.getD_eq_getElem?_getD, hi] at this
      exact (body x).mpr this
theorem m_isCrossed {I : gI} {J : gJ} {n : Nat} {at' : Nat → Nat} (hn : n ≤ 8) (ha : ∀ l, l < n → I 25 l = nI (at' l) ∧ at' l < 8) {Q : Bool → Prop} (hQ : Q (!(fh_nx n at'))) : wM_isCrossed (nI n) I J Q := by
  have bad : ∀ i j, i + 1 < n → j + 1 < n → i + 2 ≤ j → (j - i) % 2 = 0 → fh_bw (at' i) (at' (i + 1)) (at' j) ≠ fh_bw (at' i) (at' (i + 1)) (at' (j + 1)) → Q true := by
    intro i j h1 h2 h3 h4 h5
    rwa [show fh_nx n at' = false from decide_eq_false (fun e => h5 (e i (by omega) j (by omega) ⟨h1, h2, h3, h4⟩))] at hQ
  have outer : ∀ d i : Nat, d + i = n → (∀ i', i' < i → ∀ j, i' + 1 < n → j + 1 < n → i' + 2 ≤ j → (j - i') % 2 = 0 → fh_bw (at' i') (at' (i' + 1)) (at' j) = fh_bw (at' i') (at' (i' + 1)) (at' (j + 1))) → wM_isCrossed_l2 I J Q (d + 1) (nI n) (nI i) := by
    intro d
    induction d with
    | zero =>
      intro i e hi
      obtain rfl : i = n := by omega
      refine br_t ?_ ?_
      · rw [nI_1]
        exact nI_le (by omega) (by omega)
      · rwa [show fh_nx i at' = true from decide_eq_true (fun i' h1 j h2 h3 => hi i' h1 j h3.1 h3.2.1 h3.2.2.1 h3.2.2.2)] at hQ
    | succ d ih =>
      intro i e hi
      by_cases c : i + 1 < n
      rotate_left
      · refine br_t ?_ ?_
        · rw [nI_1]
          exact nI_le (by omega) (by omega)
        · rwa [show fh_nx n at' = true from decide_eq_true (fun i' h1 j h2 h3 => hi i' (by omega) j h3.1 h3.2.1 h3.2.2.1 h3.2.2.2)] at hQ
      have ai := (ha i (by omega)).2
      have ai1 := (ha (i + 1) (by omega)).2
      have c43 : ∀ lo hi' : Nat, lo + hi' = at' i + at' (i + 1) → lo ≤ at' i → lo ≤ at' (i + 1) → (lo = at' i ∨ lo = at' (i + 1)) → wM_isCrossed_c43 I J (wM_isCrossed_l2 I J Q (d + 1)) (nI n) (nI i) (nI lo) Q := by
        intro lo hi' hs h1 h2 h0
        have bw : ∀ z, fh_bw (at' i) (at' (i + 1)) z = decide (lo < z ∧ z < hi') := by
          intro z
          unfold fh_bw
          rw [decide_eq_decide]
          omega
        unfold wM_isCrossed_c43
        rw [nI_1, nI_clamp (show i < 2147483648 by omega), nI_clamp (show i + 1 < 2147483648 by omega), (ha i (by omega)).1, (ha (i + 1) c).1, nI_add, show (nI (at' i + at' (i + 1))) - nI lo = nI hi' by rw [zI_n, zI_n, zI_sub, zI_n]; congr 1; omega, show nI i + 2 = nI (i + 2) from nI_add i 2]
        refine ⟨vp_in_nI (by omega) (by decide), vp_in_nI (by omega) (by decide), ?_⟩
        rintro x3 rfl
        have inner : ∀ f j : Nat, n + 2 ≤ f + j → j ≤ n + 1 → i + 2 ≤ j → (j - i) % 2 = 0 → (∀ j', i + 2 ≤ j' → j' < j → j' + 1 < n → (j' - i) % 2 = 0 → fh_bw (at' i) (at' (i + 1)) (at' j') = fh_bw (at' i) (at' (i + 1)) (at' (j' + 1))) → wM_isCrossed_l68 I J (wM_isCrossed_l2 I J Q (d + 1)) Q (f + 1) (nI n) (nI i) (nI lo) (nI hi') (nI j) := by
          intro f
          induction f using Nat.strongRecOn with
          | ind f ihf =>
            intro j ej ej2 hj hp hall
            by_cases cj : j + 1 < n
            rotate_left
            · refine br_t ?_ ?_
              · rw [nI_1]
                exact nI_le (by omega) (by omega)
              · rw [nI_1]
                refine ih (i + 1) (by omega) (fun i' g1 j' g2 g3 g4 g5 => ?_)
                by_cases ei : i' = i
                · subst ei
                  exact hall j' g4 (by omega) g3 g5
                · exact hi i' (by omega) j' g2 g3 g4 g5
            · obtain ⟨g, rfl⟩ : ∃ g, f = g + 2 := ⟨f - 2, by omega⟩
              have aj := ha j (by omega)
              have aj1 := ha (j + 1) cj
              have c138 : ∀ u v : Bool, fh_bw (at' i) (at' (i + 1)) (at' j) = u → fh_bw (at' i) (at' (i + 1)) (at' (j + 1)) = v → wM_isCrossed_c138 I J (wM_isCrossed_l2 I J Q (d + 1)) (wM_isCrossed_l68 I J (wM_isCrossed_l2 I J Q (d + 1)) Q (g + 2)) (nI n) (nI i) (nI lo) (nI hi') (nI j) (bI u) (bI v) Q := by
                intro u v hu hv
                have nx : u = v → wM_isCrossed_l68 I J (wM_isCrossed_l2 I J Q (d + 1)) Q (g + 2) (nI n) (nI i) (nI lo) (nI hi') (nI (j + 2)) := by
                  intro euv
                  refine ihf (g + 1) (by omega) (j + 2) (by omega) (by omega) (by omega) (by omega) (fun j' h3 h4 h5 h6 => ?_)
                  by_cases e2 : j' = j
                  · rw [e2, hu, hv, euv]
                  · exact hall j' h3 (by omega) h5 h6
                unfold wM_isCrossed_c138
                rw [show nI j + 2 = nI (j + 2) from nI_add j 2]
                cases u <;> cases v
                · exact br_t rfl (nx rfl)
                · exact br_f (by decide) (bad i j c cj hj hp (by rw [hu, hv]; decide))
                · exact br_f (by decide) (bad i j c cj hj hp (by rw [hu, hv]; decide))
                · exact br_t rfl (nx rfl)
              have c104 : ∀ u : Bool, fh_bw (at' i) (at' (i + 1)) (at' j) = u → wM_isCrossed_c104 I J (wM_isCrossed_l2 I J Q (d + 1)) (wM_isCrossed_l68 I J (wM_isCrossed_l2 I J Q (d + 1)) Q (g + 2)) (nI n) (nI i) (nI lo) (nI hi') (nI j) (bI u) Q := by
                intro u hu
                unfold wM_isCrossed_c104
                rw [nI_1, nI_clamp (show j + 1 < 2147483648 by omega), aj1.1, nI_leI (by omega) (by omega), nI_leI (by omega) (by omega)]
                refine ⟨vp_in_nI (by omega) (by decide), fun h3 => c138 u false hu ?_, fun h3 => ⟨fun h4 => c138 u false hu ?_, fun h4 => c138 u true hu ?_⟩⟩
                · rw [bw]
                  exact decide_eq_false (by omega)
                · rw [bw]
                  exact decide_eq_false (by omega)
                · rw [bw]
                  exact decide_eq_true (by omega)
              refine br_f ?_ ?_
              · rw [nI_1]
                exact nI_ge (by omega) (by omega)
              rw [nI_clamp (show j < 2147483648 by omega), aj.1, nI_leI (by omega) (by omega), nI_leI (by omega) (by omega)]
              refine ⟨vp_in_nI (by omega) (by decide), fun h3 => c104 false ?_, fun h3 => ⟨fun h4 => c104 false ?_, fun h4 => c104 true ?_⟩⟩
              · rw [bw]
                exact decide_eq_false (by omega)
              · rw [bw]
                exact decide_eq_false (by omega)
              · rw [bw]
                exact decide_eq_true (by omega)
        exact ⟨n - i + 1, inner (n - i) (i + 2) (by omega) (by omega) (by omega) (by omega) (fun j' g1 g2 => absurd g2 (by omega))⟩
      refine br_f ?_ ?_
      · rw [nI_1]
        exact nI_ge (by omega) (by omega)
      rw [nI_1, nI_clamp (show i < 2147483648 by omega), nI_clamp (show i + 1 < 2147483648 by omega), (ha i (by omega)).1, (ha (i + 1) c).1, nI_leI (by omega) (by omega)]
      refine ⟨vp_in_nI (by omega) (by decide), vp_in_nI (by omega) (by decide), fun h1 => ?_, fun h1 => ?_⟩
      · exact c43 (at' (i + 1)) (at' i) (by omega) h1 (Nat.le_refl _) (Or.inr rfl)
      · exact c43 (at' i) (at' (i + 1)) (by omega) (Nat.le_refl _) (by omega) (Or.inl rfl)
  exact ⟨n + 1, outer n 0 (by omega) (fun i' h => absurd h (by omega))⟩

/-! the class lays -/
theorem mate_v : ∀ s : Nat, s < 2 → ∀ l : Nat, l < 8 → ((nI l + nI s) ^^^ 1) - nI s = if (l + s) % 2 = 0 then nI (l + 1) else zI ((l : Int) - 1) := by decide +kernel
theorem x_mate {X : gI} {Y : gJ} {R : gR} {L : List Nat} {S : gS} {n s l : Nat} (hn : n ≤ 8) (hs : s < 2) (hl : l < n) {Q : Int32 → Prop} (hQ : Q (if fh_mt n s l = n then -1 else nI (fh_mt n s l))) : wX4_mateOf (nI l) (nI s) (nI n) X Y R L S Q := by
  unfold wX4_mateOf
  rw [mate_v s hs l (by omega)]
  unfold fh_mt at hQ
  by_cases h : (l + s) % 2 = 0
  · rw [if_pos h] at hQ ⊢
    refine br_f (show ¬ nI (l + 1) < nI 0 from nI_nlt (by omega) (by omega)) ?_
    rw [nI_leI (by omega) (by omega)]
    by_cases h2 : l + 1 < n
    · rw [if_pos h2, if_neg (by omega)] at hQ
      exact br_f (by omega) hQ
    · rw [if_neg h2, if_pos rfl] at hQ
      exact br_t (by omega) hQ
  · rw [if_neg h] at hQ ⊢
    rw [zI_n n, zI_le (by omega) (by omega) (by omega) (by omega), zI_0, zI_lt (by omega) (by omega) (by omega) (by omega)]
    by_cases h2 : l = 0
    · rw [if_pos h2, if_pos rfl] at hQ
      exact br_t (by omega) hQ
    · rw [if_neg h2, if_neg (by omega)] at hQ
      rw [zI_n, show ((l - 1 : Nat) : Int) = (l : Int) - 1 by omega] at hQ
      exact br_f (by omega) (br_f (by omega) hQ)
/-- leaves p lie there -/
def xLs (X : gI) (p : List Nat) : Prop := (∀ i, i < p.length → X 10 i = nI (p.getD i 0)) ∧ ∀ l, l < 8 → X 11 l = if fh_ix p l < p.length then nI (fh_ix p l) else -1
theorem x_closes {X : gI} {Y : gJ} {R : gR} {L : List Nat} {S : gS} {n s l : Nat} {p : List Nat} (hn : n ≤ 8) (hs : s < 2) (hl : l < n) (T : xLs X (p ++ [l])) (hp : p.length < n) (hd : p.Nodup) (hlt : ∀ x, x ∈ p → x < n) (hnl : ¬ fh_ix p l < p.length) {Q : Bool → Prop} (hQ : Q (fh_ce n s p l)) : wX4_closes (nI p.length) (nI s) (nI n) X Y R L S Q := by
  have al : (p ++ [l]).length = p.length + 1 := by rw [List.length_append]; rfl
  have e10 : X 10 p.length = nI l := by
    rw [T.1 p.length (by omega), List.getD_eq_getElem?_getD, List.getElem?_append_right (Nat.le_refl _), Nat.sub_self]
    rfl
  have g10 : ∀ i, i < p.length → X 10 i = nI (p.getD i 0) := by
    intro i hi
    rw [T.1 i (by omega), List.getD_eq_getElem?_getD, List.getElem?_append_left hi, ← List.getD_eq_getElem?_getD]
  have g11 : ∀ y, y < 8 → y ≠ l → X 11 y = if fh_ix p y < p.length then nI (fh_ix p y) else -1 := by
    intro y hy hne
    rw [T.2 y hy, ix_app, al, if_neg hne]
    by_cases c : fh_ix p y < p.length
    · rw [if_pos c, if_pos c, if_pos (by omega)]
    · rw [if_neg c, if_neg c, if_neg (by omega)]
  have gl : ∀ i, i < p.length → p.getD i 0 < n := by
    intro i hi
    refine hlt _ ?_
    rw [ix_mem, ix_of p i hd hi]
    exact hi
  have hT := cep_iff n s p l
  refine ⟨vp_in_nI (by omega) (by decide), ?_⟩
  rw [nI_clamp (show p.length < 2147483648 by omega), e10]
  refine x_mate hn hs hl ?_
  rcases mt_cases n s l hl with c | ⟨i, hi, hsi, hc⟩
  · rw [if_pos c]
    rw [hT.mpr (Or.inl c)] at hQ
    exact br_t rfl hQ
  have hml : fh_mt n s l < n := by omega
  have hne : fh_mt n s l ≠ l := by omega
  rw [if_neg (by omega)]
  refine br_f (nI_nm1 (by omega)) ⟨vp_in_nI (by omega) (by decide), ?_⟩
  rw [nI_clamp (show fh_mt n s l < 2147483648 by omega), g11 _ (by omega) hne]
  by_cases c2 : fh_ix p (fh_mt n s l) < p.length
  rotate_left
  · rw [if_neg c2]
    rw [hT.mpr (Or.inr (Or.inl c2))] at hQ
    exact br_n rfl hQ
  rw [if_pos c2]
  refine br_m (nI_nm1 (by omega)) ?_
  have key : ∀ f x : Nat, f + x = p.length → fh_ix p (fh_mt n s l) < x → (∀ x', fh_ix p (fh_mt n s l) < x' → x' < x → fh_mt n s (p.getD x' 0) = n ∨ (fh_ix p (fh_mt n s (p.getD x' 0)) < p.length ∧ fh_ix p (fh_mt n s l) ≤ fh_ix p (fh_mt n s (p.getD x' 0)))) → wX4_closes_l47 X Y R L S Q (f + 1) (nI p.length) (nI s) (nI n) (nI (fh_ix p (fh_mt n s l))) (nI x) := by
    intro f
    induction f with
    | zero =>
      intro x e h1 h2
      obtain rfl : x = p.length := by omega
      refine br_t (nI_le (Nat.le_refl _) (by omega)) ?_
      rwa [hT.mpr (Or.inr (Or.inr h2))] at hQ
    | succ f ih =>
      intro x e h1 h2
      have hx : x < p.length := by omega
      have hxn := gl x hx
      have next : (fh_mt n s (p.getD x 0) = n ∨ (fh_ix p (fh_mt n s (p.getD x 0)) < p.length ∧ fh_ix p (fh_mt n s l) ≤ fh_ix p (fh_mt n s (p.getD x 0)))) → wX4_closes_l47 X Y R L S Q (f + 1) (nI p.length) (nI s) (nI n) (nI (fh_ix p (fh_mt n s l))) (nI x + 1) := by
        intro h3
        rw [nI_1]
        refine ih (x + 1) (by omega) (by omega) (fun x' g1 g2 => ?_)
        by_cases ex : x' = x
        · rw [ex]
          exact h3
        · exact h2 x' g1 (by omega)
      refine br_f (nI_ge (by omega) (by omega)) ⟨vp_in_nI (by omega) (by decide), ?_⟩
      rw [nI_clamp (show x < 2147483648 by omega), g10 x hx]
      refine x_mate hn hs hxn ?_
      rcases mt_cases n s (p.getD x 0) hxn with c | ⟨j, hj, hsj, hcj⟩
      · rw [if_pos c]
        exact br_t rfl (next (Or.inl c))
      have hol : fh_mt n s (p.getD x 0) < n := by omega
      have hox : fh_mt n s (p.getD x 0) ≠ l := by
        intro eo
        have : p.getD x 0 = fh_mt n s l := by omega
        have px := ix_of p x hd hx
        rw [this] at px
        omega
      rw [if_neg (by omega)]
      refine br_f (nI_nm1 (by omega)) ⟨vp_in_nI (by omega) (by decide), ?_⟩
      rw [nI_clamp (show fh_mt n s (p.getD x 0) < 2147483648 by omega), g11 _ (by omega) hox]
      by_cases c3 : fh_ix p (fh_mt n s (p.getD x 0)) < p.length
      · rw [if_pos c3, nI_leI (by omega) (by omega)]
        refine ⟨fun h3 => next (Or.inr ⟨c3, h3⟩), fun h3 => ?_⟩
        have : fh_ce n s p l = false := by
          rw [← Bool.not_eq_true, hT]
          intro e
          rcases e with e | e | e
          · omega
          · exact e c2
          · rcases e x h1 hx with e | e
            · omega
            · exact h3 e.2
        rwa [this] at hQ
      · rw [if_neg c3]
        refine br_f ?_ ?_
        · rw [zI_n, zI_m1, zI_le (by omega) (by omega) (by omega) (by omega)]
          omega
        · have : fh_ce n s p l = false := by
            rw [← Bool.not_eq_true, hT]
            intro e
            rcases e with e | e | e
            · omega
            · exact e c2
            · rcases e x h1 hx with e | e
              · omega
              · exact c3 e.1
          rwa [this] at hQ
  refine ⟨p.length - (fh_ix p (fh_mt n s l) + 1) + 1, ?_⟩
  rw [nI_1]
  exact key _ _ (by omega) (by omega) (fun x' h1 h2 => absurd h2 (by omega))
theorem x_lays {X : gI} {Y : gJ} {R : gR} {L : List Nat} {S : gS} {n l : Nat} {p : List Nat} (hn : n ≤ 8) (hl : l < n) (T : xLs X p) (hp : p.length < n) (hd : p.Nodup) (hlt : ∀ x, x ∈ p → x < n) (hnl : ¬ fh_ix p l < p.length) {Q : Bool → gI → gJ → gR → Prop} (hQ : ∀ X', xLs X' (p ++ [l]) → (∀ a, a ≠ 10 → a ≠ 11 → X' a = X a) → (∀ y, y ≠ l → X' 11 y = X 11 y) → Q (fh_ok n p l) X' Y R) : wX4_lays (nI l) (nI p.length) (nI n) X Y R L S Q := by
  have al : (p ++ [l]).length = p.length + 1 := by rw [List.length_append]; rfl
  refine br_f (show ¬ nI l < nI 0 from nI_nlt (by omega) (by omega)) (br_f (nI_ge (b := 8) (by omega) (by omega)) (br_f (show ¬ nI p.length < nI 0 from nI_nlt (by omega) (by omega)) (br_t (nI_lt (b := 8) (by omega) (by omega)) ⟨vp_in_nI (by omega) (by decide), ?_⟩)))
  rintro I6 rfl
  refine ⟨vp_in_nI (by omega) (by decide), ?_⟩
  rintro I9 rfl
  rw [nI_clamp (show l < 2147483648 by omega), nI_clamp (show p.length < 2147483648 by omega)]
  have T' : xLs (upI (upI X 10 p.length (nI l)) 11 l (nI p.length)) (p ++ [l]) := by
    refine ⟨fun i hi => ?_, fun y hy => ?_⟩
    · rw [upI_n (by omega), upI_s, List.getD_eq_getElem?_getD]
      rw [al] at hi
      by_cases e : i = p.length
      · rw [e, upd_s, List.getElem?_append_right (Nat.le_refl _), Nat.sub_self]
        rfl
      · rw [upd_n e, List.getElem?_append_left (by omega), ← List.getD_eq_getElem?_getD]
        exact T.1 i (by omega)
    · rw [upI_s, upI_n (by omega), ix_app, al]
      by_cases e : y = l
      · rw [e, upd_s, if_neg hnl, if_pos rfl, if_pos (by omega)]
      · rw [upd_n e, T.2 y hy, if_neg e]
        by_cases c : fh_ix p y < p.length
        · rw [if_pos c, if_pos c, if_pos (by omega)]
        · rw [if_neg c, if_neg c, if_neg (by omega)]
  have hq := hQ _ T' (fun a a1 a2 => by rw [upI_n a2, upI_n a1]) (fun y hy => by rw [upI_s, upd_n hy, upI_n (by omega)])
  unfold fh_ok at hq
  refine x_closes (s := 0) hn (by omega) hl T' hp hd hlt hnl ?_
  cases h0 : fh_ce n 0 p l
  · rw [h0] at hq
    exact btf hq
  · rw [h0] at hq
    refine bft (x_closes (s := 1) hn (by omega) hl T' hp hd hlt hnl ?_)
    cases h1 : fh_ce n 1 p l
    · rw [h1] at hq
      exact btf hq
    · rw [h1] at hq
      exact bft hq
