/-! words, wrong, mend, judge -/
theorem noTen_of {c : Nat} {I : gI} {J : gJ} {Q : Int32 → gI → gJ → Prop} (hc : c < 8) (h : Q (-nI c + -10) (upI I 1 c (I 1 c + 1)) J) : wM_noTen (-nI c) I J Q := m_noTen c hc h
/-- both refuse, counted by ten -/
theorem both_ten {n : Nat} {T : Nat → gP} {I X : gI} {J Y : gJ} {R : gR} {L : List Nat} {S : gS} (h : Rl n T I J X Y R L S) (b : Nat) (hb : b < 8) (h0 : 0 < b) {M : (Int32 → gI → gJ → Prop) → Prop} (hM : ∀ Q : Int32 → gI → gJ → Prop, wM_noTen (-nI b) I J Q → M Q) : wX11_refuse (-nI b) X Y R L S (fun r X' Y' R' => M (fun r' I' J' => qE L S (r + -10) r' I' J' X' Y' R')) :=
  x_refuse b hb h0 (hM _ (m_noTen b hb (qE.rf h b hb)))
/-- told creases looked at: which of them, or why not -/
theorem told_cases {n : Nat} {T : Nat → gP} {I X : gI} {J Y : gJ} {R : gR} {L : List Nat} {S : gS} (h : Rl n T I J X Y R L S) (v m : Int32) : (∃ c : Nat, 1 ≤ c ∧ c ≤ 5 ∧ (∀ Q : Int32 → Prop, Q (-nI c) → wX11_noTold v m X Y R L S Q) ∧ (∀ Q : Int32 → Prop, Q (-nI c) → wM_bars v m I J Q)) ∨ (∃ s z k : Nat, s < 8 ∧ v = nI s ∧ z ≤ 160 ∧ k ≤ z ∧ m = nI k ∧ X 4 s = nI z ∧ (∀ Q : Int32 → Prop, Q 0 → wM_bars v m I J Q) ∧ ((63 < k ∧ (∀ Q : Int32 → Prop, Q (-nI 6) → wX11_noTold v m X Y R L S Q)) ∨ (k ≤ 63 ∧ (∀ Q : Int32 → Prop, Q 0 → wX11_noTold v m X Y R L S Q)))) := by
  rcases bar_cases h v m with ⟨c, c1, c2, hx, hm⟩ | ⟨s, o, z, k, hs, rfl, ho, hz, hkz, rfl, e1, e2, e3, e4, e5, hx, hm⟩
  · exact Or.inl ⟨c, c1, c2, fun Q q => hx _ (br_m (neg_ne0 c1 (by omega)) q), hm⟩
  · refine Or.inr ⟨s, z, k, hs, rfl, hz, hkz, rfl, e5, hm, ?_⟩
    have E : nI k ≤ 63 ↔ k ≤ 63 := nI_leI (b := 63) (by omega) (by omega)
    rcases Nat.lt_or_ge 63 k with c | c
    · exact Or.inl ⟨c, fun Q q => hx _ (br_n rfl (br_f (fun e => by have := E.mp e; omega) q))⟩
    · exact Or.inr ⟨c, fun Q q => hx _ (br_n rfl (br_t (E.mpr c) q))⟩
theorem pc_wrong {n : Nat} {T : Nat → gP} {I X : gI} {J Y : gJ} {R : gR} {L : List Nat} {S : gS} (h : Rl n T I J X Y R L S) (v1 v2 : Int32) : wX11_wrong v1 v2 X Y R L S (fun r X' Y' R' => wM_wrong v1 v2 I J (fun r' I' J' => qE L S r r' I' J' X' Y' R')) := by
  rcases told_cases h v1 v2 with ⟨c, c1, c2, hx, hm⟩ | ⟨s, z, k, hs, rfl, hz, hkz, rfl, e5, hm, ⟨hk, hx⟩ | ⟨hk, hx⟩⟩
  · exact hx _ (br_f (neg_ne0 c1 (by omega)) (both_ten h c (by omega) c1 (fun Q q => hm _ (br_f (neg_ne0 c1 (by omega)) q))))
  · have E : nI k ≤ 63 ↔ k ≤ 63 := nI_leI (b := 63) (by omega) (by omega)
    exact hx _ (br_f (by decide) (both_ten h 6 (by omega) (by omega) (fun Q q => hm _ (br_t rfl (br_f (fun e => by have := E.mp e; omega) q)))))
  have E : nI k ≤ 63 ↔ k ≤ 63 := nI_leI (b := 63) (by omega) (by omega)
  refine hx _ (br_t rfl ⟨k + 1, ?_⟩)
  have fin : ∀ r : Int32, r = (if fh_wr (sG J s) k = 0 then -1 else nI (fh_wr (sG J s) k)) → wM_wrong (nI s) (nI k) I J (fun r' I' J' => qE L S r r' I' J' X Y R) := by
    intro r hr
    refine hm _ (br_t rfl (br_t (E.mpr hk) (m_seen hs hk (fun I' hs' hf => qE.of (h.fr hf xFr.rf) ?_))))
    rw [hr, hs'.2.2]
  have stay : ∀ m j : Nat, fh_wr (sG J s) m ≠ 0 → fh_wr (sG J s) (m + j) = fh_wr (sG J s) m := by
    intro m j hne
    induction j with
    | zero => rfl
    | succ j ih =>
      rw [← Nat.add_assoc, fh_wr, ih, if_neg hne]
  have key : ∀ g m : Nat, g + m = k → fh_wr (sG J s) m = 0 → wX11_wrong_l23 L S (fun r X' Y' R' => wM_wrong (nI s) (nI k) I J (fun r' I' J' => qE L S r r' I' J' X' Y' R')) (g + 1) (nI s) (nI k) (nI (m + 1)) X Y R := by
    intro g
    induction g with
    | zero =>
      intro m e hw
      obtain rfl : m = k := by omega
      exact br_t (nI_lt (by omega) (by omega)) (fin _ (by rw [if_pos hw]))
    | succ g ih =>
      intro m e hw
      refine br_f (nI_nlt (by omega) (by omega)) ⟨vp_in_nI hs (by decide), ?_⟩
      rw [nI_clamp (by omega)]
      refine x_levels h hs hz e5 (m := m + 1) (c := 1) (by omega) (by omega) (by omega) (x_levels h hs hz e5 (m := m + 1) (c := 0) (by omega) (by omega) (by omega) ?_)
      have hl := mk_lt (sG J s) 1 (m + 1)
      have ha : fh_mk2 (sG J s) 1 (m + 1) &&& fh_mk2 (sG J s) 0 (m + 1) < 2 ^ 6 := Nat.lt_of_le_of_lt Nat.and_le_left hl
      have E0 : nI (fh_mk2 (sG J s) 1 (m + 1) &&& fh_mk2 (sG J s) 0 (m + 1)) = 0 ↔ fh_wr (sG J s) (m + 1) = 0 := by
        rw [← and_0]
        exact nI_eq (b := 0) (by omega) (by omega)
      rw [fa_and, E0, nI_1]
      refine ⟨fun hy => ih (m + 1) (by omega) hy, fun hn => fin _ ?_⟩
      have hk' := stay (m + 1) (k - (m + 1)) hn
      rw [show m + 1 + (k - (m + 1)) = k by omega] at hk'
      have hv : fh_wr (sG J s) (m + 1) = m + 1 := by
        rw [fh_wr, if_pos hw] at hn ⊢
        by_cases c : fh_as (sG J s m) (m + 1) ≠ 2 ∧ 0 < fh_cn (sG J s) 0 (fh_lv (m + 1)) (m + 1) ∧ 0 < fh_cn (sG J s) 1 (fh_lv (m + 1)) (m + 1)
        · rw [if_pos c]
        · rw [if_neg c] at hn
          exact absurd rfl hn
      rw [hk', hv, if_neg (by omega)]
  exact key k 0 (by omega) rfl
/-- how many levels below b are asked for nothing -/
def fh_fr (g : Nat → Int32) (n : Nat) : Nat → Nat
  | 0 => 0
  | b + 1 => fh_fr g n b + (if fh_cn g 0 b n + fh_cn g 1 b n = 0 then 1 else 0)
theorem or_on (g : Nat → Int32) (n : Nat) : ∀ b : Nat, fh_fr g n b + fh_on (fh_mk2 g 1 n ||| fh_mk2 g 0 n) b = b
  | 0 => rfl
  | b + 1 => by
    have ih := or_on g n b
    rw [fh_fr, fh_on]
    have hb : (fh_mk2 g 1 n ||| fh_mk2 g 0 n) / 2 ^ b % 2 = if fh_cn g 0 b n + fh_cn g 1 b n = 0 then 0 else 1 := by
      have h1 : (fh_mk2 g 1 n ||| fh_mk2 g 0 n).testBit b = decide (¬ fh_cn g 0 b n + fh_cn g 1 b n = 0) := by
        rw [Nat.testBit_or, mk_bit, mk_bit]
        by_cases c0 : 0 < fh_cn g 0 b n <;> by_cases c1 : 0 < fh_cn g 1 b n <;> simp [c0, c1] <;> omega
      rw [Nat.testBit_eq_decide_div_mod_eq] at h1
      by_cases c : fh_cn g 0 b n + fh_cn g 1 b n = 0
      · rw [if_pos c]
        simp [c] at h1
        omega
      · rw [if_neg c]
        rw [decide_eq_true c] at h1
        exact of_decide_eq_true h1
    rw [hb]
    split <;> omega
theorem cn_0 (g : Nat → Int32) (c k : Nat) : ∀ n : Nat, n < 64 → fh_bl n ≤ k → fh_cn g c k n = 0 := by
  intro n hn hk
  have D : ∀ n : Nat, n < 64 → ∀ i, i < n → fh_lv (i + 1) < fh_bl n := by decide +kernel
  unfold fh_cn
  rw [fb_ct_zero]
  intro i hi
  have := D n hn i hi
  have h2 : (fh_lv (i + 1) == k) = false := by
    simp
    omega
  rw [h2, Bool.and_false]
theorem mk_bl (g : Nat → Int32) (c n : Nat) (hn : n < 64) : fh_mk2 g c n < 2 ^ fh_bl n := by
  have hb : fh_bl n ≤ 6 := by
    have D : ∀ n : Nat, n < 64 → fh_bl n ≤ 6 := by decide +kernel
    exact D n hn
  rcases Nat.lt_or_ge (fh_mk2 g c n) (2 ^ fh_bl n) with h | h
  · exact h
  · exfalso
    obtain ⟨i, hi, hb2⟩ := Nat.exists_ge_and_testBit_of_ge_two_pow h
    rw [mk_bit, cn_0 g c i n hn hi] at hb2
    simp at hb2
theorem words_s (Q : Int32 → gI → gJ → Prop) (g : Nat) (v5 v6 : Int32) (I : gI) (J : gJ) : wM_words_l102 Q (g + 1) v5 v6 I J = wM_words_b102 (wM_words_l102 Q g) v5 v6 I J Q := rfl
theorem pc_words {n : Nat} {T : Nat → gP} {I X : gI} {J Y : gJ} {R : gR} {L : List Nat} {S : gS} (h : Rl n T I J X Y R L S) (v1 v2 v3 : Int32) : wX11_words v1 v2 v3 X Y R L S (fun r X' Y' R' => wM_words v1 v2 v3 I J (fun r' I' J' => qE L S r r' I' J' X' Y' R')) := by
  have ten : ∀ (c : Nat), 1 ≤ c → c < 8 → (∀ Q : Int32 → gI → gJ → Prop, wM_noTen (-nI c) I J Q → wM_words v1 v2 v3 I J Q) → wX11_words_c30 L S v1 v2 v3 (-nI c) X Y R (fun r X' Y' R' => wM_words v1 v2 v3 I J (fun r' I' J' => qE L S r r' I' J' X' Y' R')) := fun c h1 h2 hq => br_f (neg_ne0 h1 h2) (both_ten h c h2 h1 hq)
  rcases told_cases h v1 v2 with ⟨c, c1, c2, hx, hm⟩ | ⟨s, z, k, hs, rfl, hz, hkz, rfl, e5, hm, ⟨hk, hx⟩ | ⟨hk, hx⟩⟩
  · exact hx _ (br_m (neg_ne0 c1 (by omega)) (ten c c1 (by omega) (fun Q q => hm _ (br_f (neg_ne0 c1 (by omega)) q))))
  · have E : nI k ≤ 63 ↔ k ≤ 63 := nI_leI (b := 63) (by omega) (by omega)
    exact hx _ (br_m (by decide) (ten 6 (by omega) (by omega) (fun Q q => hm _ (br_t rfl (br_f (fun e => by have := E.mp e; omega) q)))))
  have E : nI k ≤ 63 ↔ k ≤ 63 := nI_leI (b := 63) (by omega) (by omega)
  have hb : fh_bl k ≤ 6 := by
    have D : ∀ n : Nat, n < 64 → fh_bl n ≤ 6 := by decide +kernel
    exact D k (by omega)
  have hl1 := mk_lt (sG J s) 1 k
  have hl0 := mk_lt (sG J s) 0 k
  have hwl := wr_le (sG J s) k
  -- the reference, once it has looked
  have toM : ∀ Q : Int32 → gI → gJ → Prop, (∀ I', mSn (sG J s) k k I' → mFr I J I' J → ((v3 = (-1) → (I' 0 10 = (-1) → ∃ n : Nat, wM_words_l102 Q n 0 0 I' J) ∧ (¬ I' 0 10 = (-1) → Q (-1) I' J)) ∧ (¬ v3 = (-1) → (v3 < 0 → wM_words_c64 I' J Q) ∧ (¬ v3 < 0 → (I' 0 9 ≤ v3 → wM_words_c64 I' J Q) ∧ (¬ I' 0 9 ≤ v3 → (I' 0 10 = (-1) → vp_in v3 6 ∧ (I' 23 v3.toNatClampNeg ≤ 0 → Q 0 I' J) ∧ (¬ I' 23 v3.toNatClampNeg ≤ 0 → Q 1 I' J)) ∧ (¬ I' 0 10 = (-1) → wM_words_c64 I' J Q)))))) → wM_words (nI s) (nI k) v3 I J Q := fun Q q => hm _ (br_t rfl (br_t (E.mpr hk) (m_seen hs hk q)))
  have five : (∀ I', mSn (sG J s) k k I' → (¬ v3 = -1 ∧ (v3 < 0 ∨ (¬ v3 < 0 ∧ (nI (fh_bl k) ≤ v3 ∨ (¬ nI (fh_bl k) ≤ v3 ∧ fh_wr (sG J s) k ≠ 0)))))) → wX11_refuse (-5) X Y R L S (fun r X' Y' R' => wM_words (nI s) (nI k) v3 I J (fun r' I' J' => qE L S (r + -10) r' I' J' X' Y' R')) := by
    intro hc
    refine x_refuse 5 (by omega) (by omega) (toM _ (fun I' hs' hf => ?_))
    have h' := h.fr hf xFr.rf
    have no : wM_words_c64 I' J (fun r' I'' J'' => qE L S (-nI 5 + -10) r' I'' J'' (upI X 5 5 (X 5 5 + 1)) Y R) := m_noTen 5 (by omega) (qE.rf h' 5 (by omega))
    obtain ⟨c1, c2⟩ := hc I' hs'
    refine br_f c1 ?_
    rw [hs'.1, hs'.2.2]
    rcases c2 with c2 | ⟨c2, c3 | ⟨c3, c4⟩⟩
    · exact br_t c2 no
    · exact br_f c2 (br_t c3 no)
    · refine br_f c2 (br_f c3 (br_f ?_ no))
      rw [if_neg c4]
      exact nI_nm1 (by omega)
  have c26 : (∀ I', mSn (sG J s) k k I' → (¬ v3 = -1 ∧ (v3 < 0 ∨ (¬ v3 < 0 ∧ (nI (fh_bl k) ≤ v3 ∨ (¬ nI (fh_bl k) ≤ v3 ∧ fh_wr (sG J s) k ≠ 0)))))) → wX11_words_c26 L S (nI s) (nI k) v3 X Y R (fun r X' Y' R' => wM_words (nI s) (nI k) v3 I J (fun r' I' J' => qE L S r r' I' J' X' Y' R')) := fun hc => br_f (by decide) (five hc)
  refine hx _ (br_n rfl ?_)
  rcases Decidable.em (v3 < -1) with g | g
  · refine br_t g (c26 (fun _ _ => ⟨fun e => ?_, Or.inl ?_⟩))
    · rw [e] at g
      exact absurd g (by decide)
    · rw [Int32.lt_iff_toInt_lt] at g ⊢
      have a : (-1 : Int32).toInt = -1 := rfl
      have b : (0 : Int32).toInt = 0 := rfl
      omega
  refine br_f g (x_reached (by omega) ?_)
  rcases Decidable.em (v3 = -1) with e | n1
  · -- how many levels are free
    subst e
    have hlt : (-1 : Int32) < nI (fh_bl k) := by
      rw [Int32.lt_iff_toInt_lt, nI_toInt (by omega)]
      have a : (-1 : Int32).toInt = -1 := rfl
      omega
    refine br_t hlt (br_t rfl ⟨vp_in_nI hs (by decide), ?_⟩)
    rw [nI_clamp (by omega)]
    refine x_levels h hs hz e5 (c := 1) (by omega) (by omega) (by omega) (x_levels h hs hz e5 (c := 0) (by omega) (by omega) (by omega) ?_)
    have ha : fh_mk2 (sG J s) 1 k &&& fh_mk2 (sG J s) 0 k < 2 ^ 6 := Nat.lt_of_le_of_lt Nat.and_le_left hl1
    have E0 : nI (fh_mk2 (sG J s) 1 k &&& fh_mk2 (sG J s) 0 k) = 0 ↔ fh_wr (sG J s) k = 0 := by
      rw [← and_0]
      exact nI_eq (b := 0) (by omega) (by omega)
    rw [fa_and, E0]
    refine ⟨fun hn => br_n rfl (br_t rfl (toM _ (fun I' hs' hf => ?_))), fun hy => br_n rfl (br_f (by decide) (x_reached (by omega) ?_))⟩
    · refine br_t rfl ?_
      rw [hs'.2.2, if_neg hn]
      exact br_f (nI_nm1 (by omega)) (qE.of (h.fr hf xFr.rf) rfl)
    · rw [fa_or]
      have hor : fh_mk2 (sG J s) 1 k ||| fh_mk2 (sG J s) 0 k < 2 ^ fh_bl k := Nat.or_lt_two_pow (mk_bl _ _ _ (by omega)) (mk_bl _ _ _ (by omega))
      have hor6 : fh_mk2 (sG J s) 1 k ||| fh_mk2 (sG J s) 0 k < 2 ^ 6 := Nat.or_lt_two_pow hl1 hl0
      refine x_bitCountI (by omega) ?_
      have hon := on_ext hor (32 - fh_bl k)
      rw [show fh_bl k + (32 - fh_bl k) = 32 by omega] at hon
      have hfr := or_on (sG J s) k (fh_bl k)
      have hle : fh_on (fh_mk2 (sG J s) 1 k ||| fh_mk2 (sG J s) 0 k) (fh_bl k) ≤ fh_bl k := on_le _ _
      rw [hon, pk_sub hle]
      refine toM _ (fun I' hs' hf => br_t rfl ?_)
      rw [hs'.2.2, if_pos hy]
      refine br_t rfl ⟨fh_bl k + 1, ?_⟩
      have cnt : ∀ g b : Nat, g + b = fh_bl k → wM_words_l102 (fun r' I'' J'' => qE L S (nI (fh_bl k - fh_on (fh_mk2 (sG J s) 1 k ||| fh_mk2 (sG J s) 0 k) (fh_bl k))) r' I'' J'' X Y R) (g + 1) (nI (fh_fr (sG J s) k b)) (nI b) I' J := by
        intro g
        induction g with
        | zero =>
          intro b e
          obtain rfl : b = fh_bl k := by omega
          rw [words_s]
          unfold wM_words_b102
          rw [hs'.1]
          refine br_t (nI_le (Nat.le_refl _) (by omega)) (qE.of (h.fr hf xFr.rf) ?_)
          congr 1
          omega
        | succ g ih =>
          intro b e
          obtain ⟨b1, b2⟩ := hs'.2.1 b (by omega)
          have l0 := cn_le (sG J s) 0 b k
          have l1 := cn_le (sG J s) 1 b k
          have Eb : nI (fh_cn (sG J s) 0 b k + fh_cn (sG J s) 1 b k) = 0 ↔ fh_cn (sG J s) 0 b k + fh_cn (sG J s) 1 b k = 0 := nI_eq (b := 0) (by omega) (by omega)
          have next := ih (b + 1) (by omega)
          rw [fh_fr] at next
          rw [words_s]
          unfold wM_words_b102
          rw [hs'.1, nI_clamp (by omega), b1, b2, nI_add, Eb, nI_1, nI_1]
          refine br_f (nI_ge (by omega) (by omega)) ⟨vp_in_nI (by omega) (by decide), fun hn => ?_, fun hy => ?_⟩
          · rw [if_neg hn] at next
            exact next
          · rw [if_pos hy] at next
            exact next
      exact cnt (fh_bl k) 0 (by omega)
  -- the letter of a level
  have g0 : ¬ v3 < 0 := by
    intro e
    apply n1
    rw [Int32.lt_iff_toInt_lt] at g e
    rw [← Int32.toInt_inj]
    have a : (-1 : Int32).toInt = -1 := rfl
    have b : (0 : Int32).toInt = 0 := rfl
    omega
  obtain ⟨w, hw, rfl⟩ := nI_of g0
  rcases Nat.lt_or_ge w (fh_bl k) with c | c
  rotate_left
  · exact br_f (nI_nlt c (by omega)) (c26 (fun _ _ => ⟨n1, Or.inr ⟨g0, Or.inl (nI_le c (by omega))⟩⟩))
  refine br_t (nI_lt c (by omega)) (br_t rfl ⟨vp_in_nI hs (by decide), ?_⟩)
  rw [nI_clamp (show s < 2147483648 by omega)]
  refine x_levels h hs hz e5 (c := 1) (by omega) (by omega) (by omega) (x_levels h hs hz e5 (c := 0) (by omega) (by omega) (by omega) ?_)
  have ha : fh_mk2 (sG J s) 1 k &&& fh_mk2 (sG J s) 0 k < 2 ^ 6 := Nat.lt_of_le_of_lt Nat.and_le_left hl1
  have E0 : nI (fh_mk2 (sG J s) 1 k &&& fh_mk2 (sG J s) 0 k) = 0 ↔ fh_wr (sG J s) k = 0 := by
    rw [← and_0]
    exact nI_eq (b := 0) (by omega) (by omega)
  rw [fa_and, E0]
  refine ⟨fun hn => br_m n1 (br_n rfl (five (fun _ _ => ⟨n1, Or.inr ⟨g0, Or.inr ⟨nI_ge c (by omega), hn⟩⟩⟩))), fun hy => br_m n1 (br_m (by decide) (toM _ (fun I' hs' hf => ?_)))⟩
  have es : nI (fh_mk2 (sG J s) 1 k) >>> (nI w &&& 31) = nI (fh_mk2 (sG J s) 1 k / 2 ^ w) := pk_shrN (by omega) _ _ (s_l _ (by omega))
  have e1 : (1 : Int32) = nI (2 ^ 1 - 1) := rfl
  have eb : fh_mk2 (sG J s) 1 k / 2 ^ w % 2 = if 0 < fh_cn (sG J s) 1 w k then 1 else 0 := by
    have hb := mk_bit (sG J s) 1 w k
    rw [Nat.testBit_eq_decide_div_mod_eq] at hb
    by_cases c : 0 < fh_cn (sG J s) 1 w k
    · rw [if_pos c]
      rw [decide_eq_true c] at hb
      exact of_decide_eq_true hb
    · rw [if_neg c]
      rw [decide_eq_false c] at hb
      have := of_decide_eq_false hb
      omega
  have ev : ((nI (fh_mk2 (sG J s) 1 k) >>> (nI w &&& 31)) &&& 1) = nI (if 0 < fh_cn (sG J s) 1 w k then 1 else 0) := by
    rw [es]
    have := fa_mask (fh_mk2 (sG J s) 1 k / 2 ^ w) 1
    rw [← e1, Nat.pow_one, eb] at this
    exact this
  rw [ev]
  have l1 := cn_le (sG J s) 1 w k
  have El : nI (fh_cn (sG J s) 1 w k) ≤ 0 ↔ fh_cn (sG J s) 1 w k ≤ 0 := nI_leI (b := 0) (by omega) (by omega)
  refine br_f n1 (br_f g0 ?_)
  rw [hs'.1, hs'.2.2, if_pos hy, nI_clamp (by omega), (hs'.2.1 w (by omega)).2, El]
  refine br_f (nI_ge c (by omega)) (br_t rfl ⟨vp_in_nI (by omega) (by decide), fun hle => ?_, fun hle => ?_⟩)
  · rw [if_neg (by omega)]
    exact qE.of (h.fr hf xFr.rf) rfl
  · rw [if_pos (by omega)]
    exact qE.of (h.fr hf xFr.rf) rfl
