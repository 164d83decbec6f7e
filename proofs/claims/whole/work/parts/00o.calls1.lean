/-! calls on shelves -/
def qE {α : Type} (L : List Nat) (S : gS) (r r' : α) (I' : gI) (J' : gJ) (X' : gI) (Y' : gJ) (R' : gR) : Prop := r = r' ∧ ∃ n T, Rl n T I' J' X' Y' R' L S
theorem qE.of {α : Type} {n : Nat} {T : Nat → gP} {I X : gI} {J Y : gJ} {R : gR} {L : List Nat} {S : gS} {r r' : α} (h : Rl n T I J X Y R L S) (e : r = r') : qE L S r r' I J X Y R := ⟨e, n, T, h⟩
theorem qE.rf {α : Type} {n : Nat} {T : Nat → gP} {I X : gI} {J Y : gJ} {R : gR} {L : List Nat} {S : gS} {r : α} (h : Rl n T I J X Y R L S) (b : Nat) (hb : b < 8) : qE L S r r (upI I 1 b (I 1 b + 1)) J (upI X 5 b (X 5 b + 1)) Y R := ⟨rfl, n, T, h.ref b hb⟩
theorem bff {A B : Prop} (b : B) : (false = true → A) ∧ (false = false → B) := ⟨fun e => Bool.noConfusion e, fun _ => b⟩
theorem btt {A B : Prop} (a : A) : (true = true → A) ∧ (true = false → B) := ⟨fun _ => a, fun e => Bool.noConfusion e⟩
theorem bft {A B : Prop} (b : B) : (true = false → A) ∧ (true = true → B) := ⟨fun e => Bool.noConfusion e, fun _ => b⟩
theorem btf {A B : Prop} (a : A) : (false = false → A) ∧ (false = true → B) := ⟨fun _ => a, fun e => Bool.noConfusion e⟩
/-- both refuse -/
theorem both_no {n : Nat} {T : Nat → gP} {I X : gI} {J Y : gJ} {R : gR} {L : List Nat} {S : gS} (h : Rl n T I J X Y R L S) (b : Nat) (hb : b < 8) (h0 : 0 < b) {M : (Int32 → gI → gJ → Prop) → Prop} (hM : ∀ Q : Int32 → gI → gJ → Prop, wM_no (-nI b) I J Q → M Q) : wX11_refuse (-nI b) X Y R L S (fun r X' Y' R' => M (fun r' I' J' => qE L S r r' I' J' X' Y' R')) :=
  x_refuse b hb h0 (hM _ (m_no b hb (qE.rf h b hb)))
theorem both_no1 {n : Nat} {T : Nat → gP} {I X : gI} {J Y : gJ} {R : gR} {L : List Nat} {S : gS} (h : Rl n T I J X Y R L S) {M : (Int32 → gI → gJ → Prop) → Prop} (hM : ∀ Q : Int32 → gI → gJ → Prop, wM_no (-1) I J Q → M Q) : wX11_refuse (-1) X Y R L S (fun r X' Y' R' => M (fun r' I' J' => qE L S r r' I' J' X' Y' R')) := both_no h 1 (by omega) (by omega) hM
theorem both_no2 {n : Nat} {T : Nat → gP} {I X : gI} {J Y : gJ} {R : gR} {L : List Nat} {S : gS} (h : Rl n T I J X Y R L S) {M : (Int32 → gI → gJ → Prop) → Prop} (hM : ∀ Q : Int32 → gI → gJ → Prop, wM_no (-2) I J Q → M Q) : wX11_refuse (-2) X Y R L S (fun r X' Y' R' => M (fun r' I' J' => qE L S r r' I' J' X' Y' R')) := both_no h 2 (by omega) (by omega) hM
theorem both_no3 {n : Nat} {T : Nat → gP} {I X : gI} {J Y : gJ} {R : gR} {L : List Nat} {S : gS} (h : Rl n T I J X Y R L S) {M : (Int32 → gI → gJ → Prop) → Prop} (hM : ∀ Q : Int32 → gI → gJ → Prop, wM_no (-3) I J Q → M Q) : wX11_refuse (-3) X Y R L S (fun r X' Y' R' => M (fun r' I' J' => qE L S r r' I' J' X' Y' R')) := both_no h 3 (by omega) (by omega) hM
theorem both_no4 {n : Nat} {T : Nat → gP} {I X : gI} {J Y : gJ} {R : gR} {L : List Nat} {S : gS} (h : Rl n T I J X Y R L S) {M : (Int32 → gI → gJ → Prop) → Prop} (hM : ∀ Q : Int32 → gI → gJ → Prop, wM_no (-4) I J Q → M Q) : wX11_refuse (-4) X Y R L S (fun r X' Y' R' => M (fun r' I' J' => qE L S r r' I' J' X' Y' R')) := both_no h 4 (by omega) (by omega) hM
theorem both_no5 {n : Nat} {T : Nat → gP} {I X : gI} {J Y : gJ} {R : gR} {L : List Nat} {S : gS} (h : Rl n T I J X Y R L S) {M : (Int32 → gI → gJ → Prop) → Prop} (hM : ∀ Q : Int32 → gI → gJ → Prop, wM_no (-5) I J Q → M Q) : wX11_refuse (-5) X Y R L S (fun r X' Y' R' => M (fun r' I' J' => qE L S r r' I' J' X' Y' R')) := both_no h 5 (by omega) (by omega) hM
theorem both_no6 {n : Nat} {T : Nat → gP} {I X : gI} {J Y : gJ} {R : gR} {L : List Nat} {S : gS} (h : Rl n T I J X Y R L S) {M : (Int32 → gI → gJ → Prop) → Prop} (hM : ∀ Q : Int32 → gI → gJ → Prop, wM_no (-6) I J Q → M Q) : wX11_refuse (-6) X Y R L S (fun r X' Y' R' => M (fun r' I' J' => qE L S r r' I' J' X' Y' R')) := both_no h 6 (by omega) (by omega) hM
theorem both_no7 {n : Nat} {T : Nat → gP} {I X : gI} {J Y : gJ} {R : gR} {L : List Nat} {S : gS} (h : Rl n T I J X Y R L S) {M : (Int32 → gI → gJ → Prop) → Prop} (hM : ∀ Q : Int32 → gI → gJ → Prop, wM_no (-7) I J Q → M Q) : wX11_refuse (-7) X Y R L S (fun r X' Y' R' => M (fun r' I' J' => qE L S r r' I' J' X' Y' R')) := both_no h 7 (by omega) (by omega) hM
theorem lt_ge {a b : Int32} (h : ¬ a < b) : b ≤ a := fa_of_nlt h
theorem nle_of {a b : Int32} (h : a < b) : ¬ b ≤ a := (fa_of_lt h).2.1
/-- a shelf cleared -/
theorem x_fillJ {X : gI} {Y : gJ} {R : gR} {L : List Nat} {S : gS} {k : Nat} {v : Int64} {Q : gI → gJ → gR → Prop} (hQ : ∀ Y', (∀ i, i < 160 → Y' (3 + k) i = v) → (∀ a, a ≠ 3 + k → Y' a = Y a) → Q X Y' R) : wJ7_fill_d0a16 k v X Y R L S Q := by
  have key : ∀ (g j : Nat) (Y' : gJ), g + j = 160 → (∀ i, i < j → Y' (3 + k) i = v) → (∀ a, a ≠ 3 + k → Y' a = Y a) → wJ7_fill_d0a16_l6 k L S Q (g + 1) v (nI j) 160 X Y' R := by
    intro g
    induction g with
    | zero =>
      intro j Y' e h1 h2
      obtain rfl : j = 160 := by omega
      exact br_t (nI_le (a := 160) (b := 160) (by omega) (by omega)) (hQ _ h1 h2)
    | succ g ih =>
      intro j Y' e h1 h2
      refine br_f (nI_ge (a := j) (b := 160) (by omega) (by omega)) ⟨vp_in_nI (by omega) (by decide), ?_⟩
      rintro J3 rfl
      rw [nI_clamp (by omega), nI_1]
      refine ih (j + 1) _ (by omega) (fun i hi => ?_) (fun a ha => ?_)
      · rw [upJ_at]
        by_cases ei : i = j
        · rw [if_pos ⟨rfl, ei⟩]
        · rw [if_neg (fun e => ei e.2)]
          exact h1 i (by omega)
      · rw [upJ_n ha]
        exact h2 a ha
  exact ⟨161, key 160 0 Y (by omega) (fun i hi => absurd hi (by omega)) (fun a _ => rfl)⟩
theorem m_rowL {I : gI} {J : gJ} {s : Nat} (hs : s < 8) {Q : Int32 → gI → gJ → Prop} (hQ : ∀ J', (∀ i, i < 160 → J' 2 (160 * s + i) = 0) → (∀ i, (i < 160 * s ∨ 160 * s + 160 ≤ i) → J' 2 i = J 2 i) → (∀ a, a ≠ 2 → J' a = J a) → Q 1 I J') : ∃ n : Nat, wM_row_l79 Q n (nI s) 0 I J := by
  have key : ∀ (g j : Nat) (J' : gJ), g + j = 160 → (∀ i, i < j → J' 2 (160 * s + i) = 0) → (∀ i, (i < 160 * s ∨ 160 * s + 160 ≤ i) → J' 2 i = J 2 i) → (∀ a, a ≠ 2 → J' a = J a) → wM_row_l79 Q (g + 1) (nI s) (nI j) I J' := by
    intro g
    induction g with
    | zero =>
      intro j J' e h1 h2 h3
      obtain rfl : j = 160 := by omega
      exact br_t (nI_le (a := 160) (b := 160) (by omega) (by omega)) (hQ _ h1 h2 h3)
    | succ g ih =>
      intro j J' e h1 h2 h3
      have ei : (160 : Int32) * nI s + nI j = nI (160 * s + j) := by
        show nI 160 * nI s + nI j = _
        rw [pk_mul, nI_add]
      show wM_row_b79 _ _ _ _ _ Q
      unfold wM_row_b79
      rw [ei]
      refine br_f (nI_ge (a := j) (b := 160) (by omega) (by omega)) ⟨vp_in_nI (by omega) (by decide), ?_⟩
      rintro J3 rfl
      rw [nI_clamp (by omega), nI_1]
      refine ih (j + 1) _ (by omega) (fun i hi => ?_) (fun i hi => ?_) (fun a ha => ?_)
      · rw [upJ_at]
        by_cases ei : i = j
        · rw [if_pos ⟨rfl, by omega⟩]
        · rw [if_neg (fun e => ei (by omega))]
          exact h1 i (by omega)
      · rw [upJ_at, if_neg (by omega)]
        exact h2 i hi
      · rw [upJ_n ha]
        exact h3 a ha
  exact ⟨161, key 160 0 J (by omega) (fun i hi => absurd hi (by omega)) (fun _ _ => rfl) (fun a _ => rfl)⟩
/-- one shelf holds another thing -/
theorem Rl.shelf {n : Nat} {T : Nat → gP} {I X : gI} {J Y : gJ} {R : gR} {L : List Nat} {S : gS} (h : Rl n T I J X Y R L S) {s : Nat} (hs : s < 8) {I' X' : gI} {J' Y' : gJ} (hI : ∀ k, k ≠ 5 → k ≠ 6 → k ≠ 7 → k ≠ 8 → I' k = I k) (hX : ∀ k, k ≠ 3 → k ≠ 4 → X' k = X k) (hI2 : ∀ k i, i ≠ s → I' k i = I k i) (hX2 : ∀ k i, i ≠ s → X' k i = X k i) (hJ : ∀ k, k ≠ 2 → J' k = J k) (hY : ∀ k, k ≠ 3 + s → Y' k = Y k) (hJ2 : ∀ i, (i < 160 * s ∨ 160 * s + 160 ≤ i) → J' 2 i = J 2 i) (hc : ∀ i, i < 160 → Y' (3 + s) i = J' 2 (160 * s + i)) (hsh : rSh n I' X' s) : Rl n T I' J' X' Y' R L S := by
  obtain ⟨⟨a1, a2, a3, a4⟩, b, c, d, e, f, g, i, j, k, l⟩ := h
  have i0 := hI 0 (by omega) (by omega) (by omega) (by omega)
  have x0 := hX 0 (by omega) (by omega)
  refine ⟨⟨a1, by rw [i0]; exact a2, by rw [x0]; exact a3, fun q hq => ⟨?_, (a4 q hq).2⟩⟩, b, ?_, fun q hq => ?_, fun q hq p hp => ?_, fun q hq => ?_, ?_, ?_, fun q hq => ?_, ?_, ?_⟩
  · have := (a4 q hq).1
    unfold mS
    rw [hI 2 (by omega) (by omega) (by omega) (by omega), hI 3 (by omega) (by omega) (by omega) (by omega), hI 4 (by omega) (by omega) (by omega) (by omega), hJ 1 (by omega)]
    exact this
  · unfold rIm
    rw [i0, x0, hI 11 (by omega) (by omega) (by omega) (by omega), hJ 5 (by omega)]
    exact c
  · by_cases eq : q = s
    · rw [eq]; exact hsh
    · have := d q hq
      unfold rSh
      rw [hI2 5 q eq, hI2 6 q eq, hI2 7 q eq, hI2 8 q eq, hX2 3 q eq, hX2 4 q eq]
      exact this
  · by_cases eq : q = s
    · subst eq; exact hc p hp
    · rw [hY (3 + q) (by omega), hJ2 _ (by omega)]
      exact e q hq p hp
  · rw [hX 5 (by omega) (by omega), hI 1 (by omega) (by omega) (by omega) (by omega)]
    exact f q hq
  · rw [i0, x0]; exact g
  · unfold rTr
    rw [i0, x0, hI 29 (by omega) (by omega) (by omega) (by omega), hX 15 (by omega) (by omega)]
    exact i
  · rw [hI 9 (by omega) (by omega) (by omega) (by omega)]; exact j q hq
  · unfold rLX
    rw [x0, hX 12 (by omega) (by omega), hX 13 (by omega) (by omega), hX 14 (by omega) (by omega)]
    exact k
  · unfold rLM
    rw [i0, hI 26 (by omega) (by omega) (by omega) (by omega)]
    exact l
theorem pc_row {n : Nat} {T : Nat → gP} {I X : gI} {J Y : gJ} {R : gR} {L : List Nat} {S : gS} (h : Rl n T I J X Y R L S) (v1 v2 v3 : Int32) : wX11_row v1 v2 v3 X Y R L S (fun r X' Y' R' => wM_row v1 v2 v3 I J (fun r' I' J' => qE L S r r' I' J' X' Y' R')) := by
  rcases ix_shelf v1 with h1 | ⟨s, hs, rfl⟩
  · exact x_shelfN h1 (bff (br_f (by decide) (both_no1 h (fun Q q => m_shelfN h1 (bff q)))))
  refine x_shelfY hs (btt ?_)
  by_cases h3 : 0 ≤ v3
  rotate_left
  · exact br_f h3 (br_f (by decide) (both_no4 h (fun Q q => m_shelfY hs (btt (br_f h3 q)))))
  refine br_t h3 ?_
  by_cases h2 : v2 < 0
  · exact br_t h2 (br_f (by decide) (both_no6 h (fun Q q => m_shelfY hs (btt (br_t h3 (br_t h2 q))))))
  refine br_f h2 ?_
  by_cases h4 : v2 < 4
  rotate_left
  · have h4' : ¬ v2 ≤ 3 := by
      intro e
      apply h4
      rw [Int32.le_iff_toInt_le] at e
      rw [Int32.lt_iff_toInt_lt]
      have a : (3 : Int32).toInt = 3 := rfl
      have b : (4 : Int32).toInt = 4 := rfl
      omega
    exact br_f h4 (br_f (by decide) (both_no6 h (fun Q q => m_shelfY hs (btt (br_t h3 (br_f h2 (br_f h4' q)))))))
  have h4' : v2 ≤ 3 := by
    rw [Int32.lt_iff_toInt_lt] at h4
    rw [Int32.le_iff_toInt_le]
    have a : (3 : Int32).toInt = 3 := rfl
    have b : (4 : Int32).toInt = 4 := rfl
    omega
  refine br_t h4 ?_
  by_cases h5 : v3 ≤ 160
  rotate_left
  · exact br_f h5 (br_f (by decide) (both_no7 h (fun Q q => m_shelfY hs (btt (br_t h3 (br_f h2 (br_t h4' (br_f h5 q))))))))
  refine br_t h5 (br_t rfl ⟨vp_in_nI hs (by decide), ?_⟩)
  obtain ⟨o, ho, rfl⟩ := nI_of2 (M := 3) (n := 3) rfl h2 h4'
  obtain ⟨m, hm, rfl⟩ := nI_of2 (M := 160) (n := 160) rfl (fun e => by
    rw [Int32.lt_iff_toInt_lt] at e
    rw [Int32.le_iff_toInt_le] at h3
    omega) h5
  unfold wX8_holdNewRow
  rw [nI_clamp (by omega)]
  rintro X1 rfl X3 rfl
  refine x_fillJ (fun Y' y1 y2 => ?_)
  refine m_shelfY hs (btt (br_t h3 (br_f h2 (br_t h4' (br_t h5 ⟨vp_in_nI hs (by decide), ?_⟩)))))
  rw [nI_clamp (by omega)]
  rintro I8 rfl I10 rfl I12 rfl
  refine m_rowL hs (fun J' j1 j2 j3 => qE.of (h.shelf hs ?_ ?_ ?_ ?_ j3 y2 j2 ?_ ?_) rfl)
  · intro k a b c d
    rw [upI_n (by omega), upI_n (by omega), upI_n (by omega)]
  · intro k a b
    rw [upI_n (by omega), upI_n (by omega)]
  · intro k i a
    rw [upI_at, if_neg (by omega), upI_at, if_neg (by omega), upI_at, if_neg (by omega)]
  · intro k i a
    rw [upI_at, if_neg (by omega), upI_at, if_neg (by omega)]
  · intro i hi
    rw [y1 i hi, j1 i hi]
  · refine Or.inr (Or.inl ⟨?_, o, m, ho, hm, ?_, ?_, ?_, ?_⟩)
    · simp only [upI_at]
      simp
      rfl
    · simp only [upI_at]
      simp
    · simp only [upI_at]
      simp
      exact nI_add 100 o
    · simp only [upI_at]
      simp
    · simp only [upI_at]
      simp
