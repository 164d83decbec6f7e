/-! read: the reference's words -/
def fh_wv (i : Nat) : Nat := fh_wt.getD i 0
theorem wv_b : ∀ i : Nat, i < 19 → fh_wv i < 256 := by decide +kernel
/-- how many bytes of the word at b, from its i-th on, stand at a -/
def fh_mw (g : Nat → Int32) (z b : Nat) : Nat → Nat → Nat → Nat
  | 0, _, _ => 0
  | d + 1, i, a => if fh_hr g z a = nI (fh_wv (b + i)) then fh_mw g z b d (i + 1) (a + 1) + 1 else 0
theorem mw_le (g : Nat → Int32) (z b : Nat) : ∀ d i a : Nat, fh_mw g z b d i a ≤ d
  | 0, _, _ => Nat.le_refl 0
  | d + 1, i, a => by
    have := mw_le g z b d (i + 1) (a + 1)
    rw [fh_mw]
    split <;> omega
theorem mw_z (g : Nat → Int32) (z b : Nat) (hb : ∀ i, fh_wv (b + i) < 256) : ∀ d i a : Nat, a ≤ z → a + fh_mw g z b d i a ≤ z
  | 0, _, _, h => h
  | d + 1, i, a, h => by
    rw [fh_mw]
    split
    · rename_i e
      have hin : a < z := hr_in (g := g) (by rw [e]; exact nI_nm1 (by have := hb i; omega))
      have := mw_z g z b hb d (i + 1) (a + 1) (by omega)
      omega
    · exact h
theorem m_word {I : gI} {J : gJ} {g : Nat → Int32} {s z a : Nat} (T : tRm I J g s z a) (h9 : ∀ i, i < 19 → I 9 i = nI (fh_wv i)) {b n far w : Nat} (hbn : b + n < 19) (hf : far ≤ 160) (hw : w < 3) (hz0 : ∀ i, i < n → fh_wv (b + i) ≠ 0) (hz1 : fh_wv (b + n) = 0) {B9 : Int32 → Int32 → Int32 → gI → gJ → Prop} {Q : Int32 → gI → gJ → Prop} (hY : fh_mw g z b n 0 a = n → a + n ≤ z → Q (nI w) (upI I 0 3 (nI (a + n))) J) (hN : fh_mw g z b n 0 a < n → B9 (nI (b + n + 1)) (nI (if a + fh_mw g z b n 0 a ≤ far then far else a + fh_mw g z b n 0 a)) (nI (w + 1)) I J) : ∃ k : Nat, wM_wordOf_l23 B9 Q k (nI b) (nI far) (nI w) (nI a) (nI b) I J := by
  have hz := T.2.2.2.1
  have ha := T.2.2.2.2.2.1
  have skip : ∀ far' : Nat, B9 (nI (b + n + 1)) (nI far') (nI (w + 1)) I J → ∃ k : Nat, wM_wordOf_l105 B9 Q k (nI b) (nI far') (nI w) I J := by
    intro far' hB
    have key : ∀ d i : Nat, d + i = n → wM_wordOf_l105 B9 Q (d + 1) (nI (b + i)) (nI far') (nI w) I J := by
      intro d
      induction d with
      | zero =>
        intro i e
        obtain rfl : i = n := by omega
        refine ⟨vp_in_nI hbn (by decide), ?_⟩
        rw [nI_clamp (show b + i < 2147483648 by omega), h9 _ hbn, hz1, nI_1, nI_1]
        exact ⟨fun _ => hB, fun h => absurd rfl h⟩
      | succ d ih =>
        intro i e
        have hv := wv_b (b + i) (by omega)
        refine ⟨vp_in_nI (show b + i < 19 by omega) (by decide), ?_⟩
        rw [nI_clamp (show b + i < 2147483648 by omega), h9 _ (by omega), nI_1]
        refine ⟨fun h => ?_, fun _ => ?_⟩
        · have := (nI_eq (b := 0) (by omega) (by omega)).mp h
          exact absurd this (hz0 i (by omega))
        · have := ih (i + 1) (by omega)
          exact this
    exact ⟨n + 1, key n 0 (by omega)⟩
  have c74 : ∀ m : Nat, m = fh_mw g z b n 0 a → m ≤ n → a + m ≤ z → wM_wordOf_c74 B9 (nI b) (nI far) (nI w) (nI (a + m)) (nI (b + m)) I J Q := by
    intro m hm hmn hmz
    have hv := wv_b (b + m) (by omega)
    refine ⟨vp_in_nI (show b + m < 19 by omega) (by decide), ?_⟩
    rw [nI_clamp (show b + m < 2147483648 by omega), h9 _ (by omega)]
    have E0 : nI (fh_wv (b + m)) = 0 ↔ fh_wv (b + m) = 0 := nI_eq (b := 0) (by omega) (by omega)
    rw [E0, nI_leI (by omega) (by omega)]
    refine ⟨fun n0 => ?_, fun y0 => ?_⟩
    · have hlt : m < n := by
        rcases Nat.lt_or_ge m n with h | h
        · exact h
        · have : m = n := by omega
          rw [this] at n0
          exact absurd hz1 n0
      have hB := hN (by omega)
      rw [← hm] at hB
      refine ⟨fun y => skip _ ?_, fun h => skip _ ?_⟩
      · rwa [if_pos y] at hB
      · rwa [if_neg h] at hB
    · have hmn2 : m = n := by
        rcases Nat.lt_or_ge m n with h | h
        · exact absurd y0 (hz0 m h)
        · omega
      intro I4 h4
      rw [h4, hmn2]
      exact hY (by omega) (by omega)
  have key : ∀ d i : Nat, d + i = n → fh_mw g z b d i (a + i) + i = fh_mw g z b n 0 a → a + i ≤ z → wM_wordOf_l23 B9 Q (d + 1) (nI b) (nI far) (nI w) (nI (a + i)) (nI (b + i)) I J := by
    intro d
    induction d with
    | zero =>
      intro i e he hi
      obtain rfl : i = n := by omega
      rw [fh_mw, Nat.zero_add] at he
      refine ⟨vp_in_nI hbn (by decide), fun _ => c74 i he (by omega) hi, fun h => ?_⟩
      rw [nI_clamp (show b + i < 2147483648 by omega), h9 _ hbn, hz1] at h
      exact absurd rfl h
    | succ d ih =>
      intro i e he hi
      rw [fh_mw] at he
      have hv := wv_b (b + i) (by omega)
      refine ⟨vp_in_nI (show b + i < 19 by omega) (by decide), fun h => ?_, fun _ => ?_⟩
      · rw [nI_clamp (show b + i < 2147483648 by omega), h9 _ (by omega)] at h
        have := (nI_eq (b := 0) (by omega) (by omega)).mp h
        exact absurd this (hz0 i (by omega))
      · rw [T.2.2.1, T.1, nI_clamp (show b + i < 2147483648 by omega), h9 _ (by omega)]
        by_cases c : a + i < z
        · obtain ⟨c1, c2⟩ := m_cell T.2.1 (show a + i < 160 by omega) T.2.2.2.2.2.2
          rw [c2, show g (a + i) = fh_hr g z (a + i) by rw [fh_hr, if_pos c]]
          refine br_f (nI_ge c (by omega)) ⟨c1, fun h => ?_, fun y => ?_⟩
          · rw [if_neg h, Nat.zero_add] at he
            exact c74 i he (by omega) hi
          · rw [if_pos y] at he
            rw [nI_1, nI_1]
            exact ih (i + 1) (by omega) (by rw [← Nat.add_assoc a i 1]; omega) (by omega)
        · have hne : ¬ fh_hr g z (a + i) = nI (fh_wv (b + i)) := by
            rw [fh_hr, if_neg c]
            exact fun e => nI_nm1 (by omega) e.symm
          rw [if_neg hne, Nat.zero_add] at he
          exact br_t (nI_le (by omega) (by omega)) (c74 i he (by omega) hi)
  exact ⟨n + 1, key n 0 (by omega) (by rw [Nat.add_zero, Nat.add_zero]) (by omega)⟩
theorem wv_all (i : Nat) : fh_wv i < 256 := by
  rcases Nat.lt_or_ge i 19 with h | h
  · exact wv_b i h
  · unfold fh_wv
    rw [List.getD_eq_getElem?_getD, List.getElem?_eq_none (by show 19 ≤ i; exact h)]
    decide
theorem m_wordOf {I : gI} {J : gJ} {g : Nat → Int32} {s z a : Nat} (T : tRm I J g s z a) (h9 : ∀ i, i < 19 → I 9 i = nI (fh_wv i)) {Q : Int32 → gI → gJ → Prop} (h0 : fh_mw g z 0 6 0 a = 6 → a + 6 ≤ z → Q (nI 0) (upI I 0 3 (nI (a + 6))) J) (h1 : fh_mw g z 0 6 0 a < 6 → fh_mw g z 7 5 0 a = 5 → a + 5 ≤ z → Q (nI 1) (upI I 0 3 (nI (a + 5))) J) (h2 : fh_mw g z 0 6 0 a < 6 → fh_mw g z 7 5 0 a < 5 → fh_mw g z 13 5 0 a = 5 → a + 5 ≤ z → Q (nI 2) (upI I 0 3 (nI (a + 5))) J) (hn : fh_mw g z 0 6 0 a < 6 → fh_mw g z 7 5 0 a < 5 → fh_mw g z 13 5 0 a < 5 → ∀ far, (far = a + fh_mw g z 0 6 0 a ∨ far = a + fh_mw g z 7 5 0 a ∨ far = a + fh_mw g z 13 5 0 a) → a + fh_mw g z 0 6 0 a ≤ far → a + fh_mw g z 7 5 0 a ≤ far → a + fh_mw g z 13 5 0 a ≤ far → Q (-1) (upI I 0 6 (nI far)) J) : wM_wordOf I J Q := by
  have hz := T.2.2.2.1
  have ha := T.2.2.2.2.2.1
  have e3 := T.2.2.2.2.1
  have z0 := mw_z g z 0 (fun i => wv_all _) 6 0 a ha
  have z1 := mw_z g z 7 (fun i => wv_all _) 5 0 a ha
  have z2 := mw_z g z 13 (fun i => wv_all _) 5 0 a ha
  generalize hm0 : fh_mw g z 0 6 0 a = m0 at *
  generalize hm1 : fh_mw g z 7 5 0 a = m1 at *
  generalize hm2 : fh_mw g z 13 5 0 a = m2 at *
  unfold wM_wordOf
  refine ⟨4, ?_⟩
  rw [e3]
  refine br_f (show ¬ nI 3 ≤ nI 0 from nI_ge (by omega) (by omega)) ?_
  rw [e3]
  refine m_word (b := 0) (n := 6) (far := a) (w := 0) T h9 (by omega) (by omega) (by omega) (by decide) (by decide) (by rw [hm0]; exact h0) (fun c0 => ?_)
  rw [hm0] at c0 ⊢
  generalize hf1 : (if a + m0 ≤ a then a else a + m0) = f1
  have g1 : f1 = a + m0 := by rw [← hf1]; split <;> omega
  refine br_f (show ¬ nI 3 ≤ nI 1 from nI_ge (by omega) (by omega)) ?_
  rw [e3]
  refine m_word (b := 7) (n := 5) (far := f1) (w := 1) T h9 (by omega) (by omega) (by omega) (by decide) (by decide) (by rw [hm1]; exact h1 c0) (fun c1 => ?_)
  rw [hm1] at c1 ⊢
  generalize hf2 : (if a + m1 ≤ f1 then f1 else a + m1) = f2
  have g2 : (f2 = a + m0 ∨ f2 = a + m1) ∧ a + m0 ≤ f2 ∧ a + m1 ≤ f2 := by rw [← hf2]; split <;> omega
  refine br_f (show ¬ nI 3 ≤ nI 2 from nI_ge (by omega) (by omega)) ?_
  rw [e3]
  refine m_word (b := 13) (n := 5) (far := f2) (w := 2) T h9 (by omega) (by omega) (by omega) (by decide) (by decide) (by rw [hm2]; exact h2 c0 c1) (fun c2 => ?_)
  rw [hm2] at c2 ⊢
  generalize hf3 : (if a + m2 ≤ f2 then f2 else a + m2) = f3
  have g3 : (f3 = a + m0 ∨ f3 = a + m1 ∨ f3 = a + m2) ∧ a + m0 ≤ f3 ∧ a + m1 ≤ f3 ∧ a + m2 ≤ f3 := by rw [← hf3]; split <;> omega
  refine br_t (show nI 3 ≤ nI 3 from nI_le (by omega) (by omega)) ?_
  intro I2 hI
  rw [hI]
  exact hn c0 c1 c2 f3 g3.1 g3.2.1 g3.2.2.1 g3.2.2.2
theorem m_isStripW {I : gI} {J : gJ} {g : Nat → Int32} {s z a : Nat} (T : tRm I J g s z a) (h9 : ∀ i, i < 19 → I 9 i = nI (fh_wv i)) {Q : Bool → Prop} (hQ : Q (decide (fh_mw g z 0 5 0 a = 5))) : wM_isStrip_ I J Q := by
  have hz := T.2.2.2.1
  have ha := T.2.2.2.2.2.1
  have c52 : ∀ i : Nat, i ≤ 5 → i = fh_mw g z 0 5 0 a → wM_isStrip__c52 I J (nI i) Q := by
    intro i hi he
    have E : nI i = 5 ↔ i = 5 := nI_eq (b := 5) (by omega) (by omega)
    unfold wM_isStrip__c52
    rw [E]
    refine ⟨fun n => ?_, fun y => ?_⟩
    · rwa [decide_eq_false (by omega)] at hQ
    · rwa [decide_eq_true (by omega)] at hQ
  have key : ∀ d i : Nat, d + i = 5 → fh_mw g z 0 d i (a + i) + i = fh_mw g z 0 5 0 a → a + i ≤ z → wM_isStrip__l2 I J Q (d + 1) (nI i) := by
    intro d
    induction d with
    | zero =>
      intro i e he hi
      obtain rfl : i = 5 := by omega
      rw [fh_mw, Nat.zero_add] at he
      exact br_t (nI_le (a := 5) (b := 5) (Nat.le_refl _) (by omega)) (c52 5 (by omega) he)
    | succ d ih =>
      intro i e he hi
      rw [fh_mw] at he
      have hv := wv_b (0 + i) (by omega)
      refine br_f (nI_ge (b := 5) (by omega) (by omega)) ?_
      rw [T.2.2.1, T.2.2.2.2.1, T.1, nI_add, nI_add, nI_add, Nat.add_assoc, nI_clamp (show i < 2147483648 by omega), h9 i (by omega), nI_1]
      rw [Nat.zero_add] at he hv
      by_cases c : a + i < z
      · obtain ⟨c1, c2⟩ := m_cell T.2.1 (show a + i < 160 by omega) T.2.2.2.2.2.2
        rw [nI_add] at c1 c2
        rw [c2, show g (a + i) = fh_hr g z (a + i) by rw [fh_hr, if_pos c]]
        refine br_f (nI_ge c (by omega)) ⟨c1, vp_in_nI (show i < 19 by omega) (by decide), fun h => ?_, fun y => ?_⟩
        · rw [if_neg h, Nat.zero_add] at he
          exact c52 i (by omega) he
        · rw [if_pos y] at he
          exact ih (i + 1) (by omega) (by rw [← Nat.add_assoc a i 1]; omega) (by omega)
      · have hne : ¬ fh_hr g z (a + i) = nI (fh_wv i) := by
          rw [fh_hr, if_neg c]
          exact fun e => nI_nm1 (by omega) e.symm
        rw [if_neg hne, Nat.zero_add] at he
        exact br_t (nI_le (by omega) (by omega)) (c52 i (by omega) he)
  exact ⟨6, key 5 0 (by omega) (by rw [Nat.add_zero, Nat.add_zero]) (by omega)⟩
