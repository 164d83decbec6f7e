/-! told creases -/
def fh_lv (i : Nat) : Nat := if i % 2 = 1 then 0 else if i % 4 = 2 then 1 else if i % 8 = 4 then 2 else if i % 16 = 8 then 3 else if i % 32 = 16 then 4 else 5
/-- the letter that a told crease asks of its level; 2: none -/
def fh_as (s : Int32) (i : Nat) : Nat := if s = 0 ∨ s = 1 then (if i / 2 ^ fh_lv i % 4 = 1 then (if s = 0 then 0 else 1) else (if s = 0 then 1 else 0)) else 2
def fh_cn (g : Nat → Int32) (c k m : Nat) : Nat := fb_ct (fun j => fh_as (g j) (j + 1) == c && fh_lv (j + 1) == k) m
/-- the first crease that no word fits; 0: there is none -/
def fh_wr (g : Nat → Int32) : Nat → Nat
  | 0 => 0
  | m + 1 => if fh_wr g m = 0 then (if fh_as (g m) (m + 1) ≠ 2 ∧ 0 < fh_cn g 0 (fh_lv (m + 1)) (m + 1) ∧ 0 < fh_cn g 1 (fh_lv (m + 1)) (m + 1) then m + 1 else 0) else fh_wr g m
def fh_mk2 (g : Nat → Int32) (c : Nat) : Nat → Nat
  | 0 => 0
  | m + 1 => if fh_as (g m) (m + 1) = c then fh_mk2 g c m ||| 2 ^ fh_lv (m + 1) else fh_mk2 g c m
def fh_bl (n : Nat) : Nat := if n = 0 then 0 else if n < 2 then 1 else if n < 4 then 2 else if n < 8 then 3 else if n < 16 then 4 else if n < 32 then 5 else 6
theorem lv_le (i : Nat) : fh_lv i ≤ 5 := by
  unfold fh_lv
  repeat' split
  all_goals omega
theorem as_3 (s : Int32) (i : Nat) : fh_as s i = 0 ∨ fh_as s i = 1 ∨ fh_as s i = 2 := by
  unfold fh_as
  repeat' split
  all_goals simp
theorem cn_s (g : Nat → Int32) (c k m : Nat) : fh_cn g c k (m + 1) = fh_cn g c k m + (if fh_as (g m) (m + 1) = c ∧ fh_lv (m + 1) = k then 1 else 0) := by
  unfold fh_cn
  rw [fb_ct_succ]
  by_cases h : fh_as (g m) (m + 1) = c ∧ fh_lv (m + 1) = k
  · rw [if_pos h, if_pos]
    simp [h.1, h.2]
  · rw [if_neg h, if_neg]
    simp
    intro h1 h2
    exact h ⟨h1, h2⟩
theorem cn_le (g : Nat → Int32) (c k m : Nat) : fh_cn g c k m ≤ m := fb_ct_le _ _
theorem mk_bit (g : Nat → Int32) (c k : Nat) : ∀ m : Nat, (fh_mk2 g c m).testBit k = decide (0 < fh_cn g c k m)
  | 0 => by
    show Nat.testBit 0 k = decide (0 < 0)
    simp
  | m + 1 => by
    rw [fh_mk2, cn_s]
    have ih := mk_bit g c k m
    by_cases h : fh_as (g m) (m + 1) = c
    · rw [if_pos h, Nat.testBit_or, ih, Nat.testBit_two_pow]
      by_cases h2 : fh_lv (m + 1) = k
      · rw [if_pos ⟨h, h2⟩]
        simp [h2]
      · rw [if_neg (fun e => h2 e.2)]
        simp [h2]
    · rw [if_neg h, if_neg (fun e => h e.1), ih]
      simp
theorem mk_lt (g : Nat → Int32) (c : Nat) : ∀ m : Nat, fh_mk2 g c m < 2 ^ 6
  | 0 => (by decide : 0 < 2 ^ 6)
  | m + 1 => by
    rw [fh_mk2]
    split
    · exact Nat.or_lt_two_pow (mk_lt g c m) (Nat.pow_lt_pow_right (by omega) (by have := lv_le (m + 1); omega))
    · exact mk_lt g c m
/-- no word fits just where some level is asked for both -/
theorem wr_iff (g : Nat → Int32) : ∀ m : Nat, fh_wr g m = 0 ↔ ∀ k, ¬ (0 < fh_cn g 0 k m ∧ 0 < fh_cn g 1 k m)
  | 0 => by
    refine ⟨fun _ k h => absurd h.1 (Nat.lt_irrefl 0), fun _ => rfl⟩
  | m + 1 => by
    have ih := wr_iff g m
    rw [fh_wr]
    have mono : ∀ c k, fh_cn g c k m ≤ fh_cn g c k (m + 1) := fun c k => by rw [cn_s]; omega
    by_cases h : fh_wr g m = 0
    · rw [if_pos h]
      have hk := ih.mp h
      by_cases h2 : fh_as (g m) (m + 1) ≠ 2 ∧ 0 < fh_cn g 0 (fh_lv (m + 1)) (m + 1) ∧ 0 < fh_cn g 1 (fh_lv (m + 1)) (m + 1)
      · rw [if_pos h2]
        exact ⟨fun e => by omega, fun e => absurd h2.2 (e _)⟩
      · rw [if_neg h2]
        refine ⟨fun _ k hc => ?_, fun _ => rfl⟩
        by_cases h3 : fh_lv (m + 1) = k
        · subst h3
          by_cases h4 : fh_as (g m) (m + 1) = 2
          · have := hk (fh_lv (m + 1))
            rw [cn_s, if_neg (by omega), cn_s, if_neg (by omega)] at hc
            exact this hc
          · exact h2 ⟨h4, hc⟩
        · have := hk k
          rw [cn_s, if_neg (fun e => h3 e.2), cn_s, if_neg (fun e => h3 e.2)] at hc
          exact this hc
    · rw [if_neg h]
      refine ⟨fun e => absurd e h, fun e => absurd (ih.mpr (fun k hc => e k ⟨Nat.lt_of_lt_of_le hc.1 (mono 0 k), Nat.lt_of_lt_of_le hc.2 (mono 1 k)⟩)) h⟩
theorem wr_le (g : Nat → Int32) : ∀ m : Nat, fh_wr g m ≤ m
  | 0 => Nat.le_refl 0
  | m + 1 => by
    have := wr_le g m
    rw [fh_wr]
    split
    · split <;> omega
    · omega
theorem and_0 (g : Nat → Int32) (m : Nat) : (fh_mk2 g 1 m &&& fh_mk2 g 0 m = 0) ↔ fh_wr g m = 0 := by
  rw [wr_iff]
  constructor
  · intro h k hc
    have := congrArg (fun x => x.testBit k) h
    simp only [Nat.testBit_and, mk_bit, Nat.zero_testBit] at this
    simp [hc.1, hc.2] at this
  · intro h
    apply Nat.eq_of_testBit_eq
    intro k
    rw [Nat.testBit_and, mk_bit, mk_bit, Nat.zero_testBit]
    have := h k
    by_cases h0 : 0 < fh_cn g 0 k m
    · have h1 : ¬ 0 < fh_cn g 1 k m := fun e => this ⟨h0, e⟩
      simp [h1]
    · simp [h0]
theorem low_d : ∀ i : Nat, i < 64 → 0 < i → (nI i &&& -nI i) = nI (2 ^ fh_lv i) ∧ ((nI i &&& (nI (2 ^ fh_lv i) <<< ((1 : Int32) &&& 31))) = 0 ↔ i / 2 ^ fh_lv i % 4 = 1) := by decide +kernel
/-- how the class and the reference see shelf s -/
def sG (J : gJ) (s : Nat) : Nat → Int32 := fun j => (J 2 (160 * s + j)).toInt32
theorem x_asked {n : Nat} {T : Nat → gP} {I X : gI} {J Y : gJ} {R : gR} {L : List Nat} {S : gS} (h : Rl n T I J X Y R L S) {s z : Nat} (hs : s < 8) (hz : z ≤ 160) (e5 : X 4 s = nI z) {i : Nat} (h0 : 0 < i) (h1 : i ≤ z) (h63 : i ≤ 63) {Q : Int32 → Prop} (hQ : Q (if fh_as (sG J s (i - 1)) i = 2 then -1 else nI (fh_as (sG J s (i - 1)) i))) : wX11_letterAsked s (nI i) X Y R L S Q := by
  have es : nI i - 1 = nI (i - 1) := pk_sub (b := 1) h0
  have hc := h.2.2.2.2.1 s hs (i - 1) (by omega)
  obtain ⟨l1, l2⟩ := low_d i (by omega) h0
  unfold wX11_letterAsked wX11_letterAsked_c19 wX11_letterAsked_c37
  rw [es, l1]
  refine x_asInt e5 hz (by omega) ?_
  rw [hc]
  have eg : (J 2 (160 * s + (i - 1))).toInt32 = sG J s (i - 1) := rfl
  rw [eg]
  unfold fh_as at hQ
  generalize sG J s (i - 1) = v at *
  rcases Decidable.em (v = 0) with v0 | v0
  · subst v0
    rw [if_pos (Or.inl rfl)] at hQ
    refine br_t rfl ⟨fun hn => br_t rfl ?_, fun hy => br_f (by decide) ?_⟩
    · rw [if_neg (fun e => hn (l2.mpr e)), if_pos rfl, if_neg (by decide)] at hQ
      exact hQ
    · rw [if_pos (l2.mp hy), if_pos rfl, if_neg (by decide)] at hQ
      exact hQ
  refine br_f v0 ?_
  rcases Decidable.em (v = 1) with v1 | v1
  · subst v1
    rw [if_pos (Or.inr rfl)] at hQ
    refine br_t rfl ⟨fun hn => br_t rfl ?_, fun hy => br_f (by decide) ?_⟩
    · rw [if_neg (fun e => hn (l2.mpr e)), if_neg (by decide), if_neg (by decide)] at hQ
      exact hQ
    · rw [if_pos (l2.mp hy), if_neg (by decide), if_neg (by decide)] at hQ
      exact hQ
  refine br_f v1 ?_
  rw [if_neg (show ¬ (v = 0 ∨ v = 1) from fun e => e.elim v0 v1), if_pos rfl] at hQ
  exact hQ
theorem as_q {s : Int32} {i c : Nat} (hc : c < 2) : (if fh_as s i = 2 then (-1 : Int32) else nI (fh_as s i)) = nI c ↔ fh_as s i = c := by
  rcases as_3 s i with e | e | e <;> rw [e]
  · rw [if_neg (by omega), nI_eq (by omega) (by omega)]
  · rw [if_neg (by omega), nI_eq (by omega) (by omega)]
  · rw [if_pos rfl]
    exact ⟨fun e => absurd e.symm (nI_nm1 (by omega)), fun e => by omega⟩
theorem x_levels {n : Nat} {T : Nat → gP} {I X : gI} {J Y : gJ} {R : gR} {L : List Nat} {S : gS} (h : Rl n T I J X Y R L S) {s z : Nat} (hs : s < 8) (hz : z ≤ 160) (e5 : X 4 s = nI z) {m : Nat} (h1 : m ≤ z) (h63 : m ≤ 63) {c : Nat} (hc : c < 2) {Q : Int32 → Prop} (hQ : Q (nI (fh_mk2 (sG J s) c m))) : wX11_levelsAsked s (nI m) (nI c) X Y R L S Q := by
  have key : ∀ g i : Nat, g + i = m → wX11_levelsAsked_l5 s X Y R L S Q (g + 1) (nI m) (nI c) (nI (fh_mk2 (sG J s) c i)) (nI (i + 1)) := by
    intro g
    induction g with
    | zero =>
      intro i e
      obtain rfl : i = m := by omega
      exact br_t (nI_lt (by omega) (by omega)) hQ
    | succ g ih =>
      intro i e
      have hl := (low_d (i + 1) (by omega) (by omega)).1
      have hm := mk_lt (sG J s) c i
      refine br_f (nI_nlt (by omega) (by omega)) (x_asked h hs hz e5 (i := i + 1) (by omega) (by omega) (by omega) ?_)
      rw [as_q hc, Nat.add_sub_cancel, hl, fa_or]
      have next := ih (i + 1) (by omega)
      rw [fh_mk2] at next
      rw [nI_1]
      refine ⟨fun hn => ?_, fun hy => ?_⟩
      · rw [if_neg hn] at next
        exact next
      · rw [if_pos hy] at next
        exact next
  exact ⟨m + 1, key m 0 (by omega)⟩
theorem x_reached {X : gI} {Y : gJ} {R : gR} {L : List Nat} {S : gS} {m : Nat} (hm : m < 64) {Q : Int32 → Prop} (hQ : Q (nI (fh_bl m))) : wX11_levelsReached (nI m) X Y R L S Q := by
  have sh : ∀ (k : Nat) (n : Nat), k < 32 → n < 2 ^ 32 → ((nI n).toUInt32 >>> ((nI k).toUInt32 &&& Int32.toUInt32 31)).toInt32 = nI (n / 2 ^ k) := fun k n hk hn => pk_ushrN hn (nI k) k (s_u k hk)
  have s1 := sh 1
  have s2 := sh 2
  have s4 := sh 4
  have i1 : nI 1 = 1 := rfl
  have i2 : nI 2 = 2 := rfl
  have i4 : nI 4 = 4 := rfl
  rw [i1] at s1
  rw [i2] at s2
  rw [i4] at s4
  have fin : ∀ r : Int32, 32 - r = nI (fh_bl m) → Q (32 - r) := fun r hr => by rw [hr]; exact hQ
  have E0 : (0 : Int32) < nI m ↔ 0 < m := nI_ltI (a := 0) (by omega) (by omega)
  have E1 : nI m < 65536 ↔ m < 65536 := nI_ltI (b := 65536) (by omega) (by omega)
  have E2 : nI m < 256 ↔ m < 256 := nI_ltI (b := 256) (by omega) (by omega)
  have E3 : nI m < 16 ↔ m < 16 := nI_ltI (b := 16) (by omega) (by omega)
  have E4 : ∀ x : Nat, x < 1000 → (nI x < 4 ↔ x < 4) := fun x hx => nI_ltI (b := 4) (by omega) (by omega)
  unfold wX11_levelsReached wJ6_numberOfLeadingZeros_0f7a4
  rcases Nat.eq_zero_or_pos m with z | z
  · subst z
    refine br_f (by decide) (br_n rfl ?_)
    exact fin 32 rfl
  have D : ∀ m : Nat, m < 64 → 0 < m → (m < 4 → 32 - (31 - nI (m / 2 ^ 1)) = nI (fh_bl m)) ∧ (4 ≤ m → m < 16 → 32 - ((31 + -2) - nI (m / 2 ^ 2 / 2 ^ 1)) = nI (fh_bl m)) ∧ (16 ≤ m → 32 - ((31 + -4) - nI (m / 2 ^ 4 / 2 ^ 1)) = nI (fh_bl m)) := by decide +kernel
  obtain ⟨d1, d2, d3⟩ := D m hm z
  refine br_t (E0.mpr z) (br_t (E1.mpr (by omega)) (br_t (E2.mpr (by omega)) ?_))
  unfold wJ6_numberOfLeadingZeros_0f7a4_c48 wJ6_numberOfLeadingZeros_0f7a4_c61
  rw [E3]
  refine ⟨fun h16 => ?_, fun h16 => ?_⟩
  · rw [E4 m (by omega)]
    refine ⟨fun h4 => ?_, fun h4 => ?_⟩
    · rw [s1 m (by omega) (by omega)]
      exact fin _ (d1 h4)
    · rintro x2 rfl
      rw [s2 m (by omega) (by omega), s1 _ (by omega) (by omega)]
      exact fin _ (d2 (by omega) h16)
  · rintro x2 rfl
    rw [s4 m (by omega) (by omega), E4 _ (by omega)]
    refine br_t (by omega) ?_
    rw [s1 _ (by omega) (by omega)]
    exact fin _ (d3 (by omega))
/-! the reference looks at the told creases -/
theorem m_intAt {I : gI} {J : gJ} {s k : Nat} (hs : s < 8) (hk : k < 160) {Q : Int32 → Prop} (hQ : Q (sG J s k)) : wM_intAt (nI s) (nI k) I J Q := by
  have ei : (160 : Int32) * nI s + nI k = nI (160 * s + k) := by
    show nI 160 * nI s + nI k = _
    rw [pk_mul, nI_add]
  unfold wM_intAt
  rw [ei, nI_clamp (by omega)]
  exact ⟨vp_in_nI (by omega) (by decide), hQ⟩
theorem mFr.g {I I' : gI} {J J' : gJ} (h : mFr I J I' J') (s : Nat) : sG J' s = sG J s := by
  unfold sG
  rw [h.2.2.2.2.2.2.1]
theorem lv_dv : ∀ i : Nat, i < 64 → 0 < i → i / 2 ^ fh_lv i % 2 = 1 ∧ ∀ j, j < fh_lv i → i / 2 ^ j % 2 = 0 := by decide +kernel
/-- what it has found behind the first m -/
def mSn (g : Nat → Int32) (n m : Nat) (I : gI) : Prop := I 0 9 = nI (fh_bl n) ∧ (∀ k, k < 6 → I 22 k = nI (fh_cn g 0 k m) ∧ I 23 k = nI (fh_cn g 1 k m)) ∧ I 0 10 = (if fh_wr g m = 0 then -1 else nI (fh_wr g m))
theorem m_seen {I : gI} {J : gJ} {s n : Nat} (hs : s < 8) (hn : n ≤ 63) {Q : gI → gJ → Prop} (hQ : ∀ I', mSn (sG J s) n n I' → mFr I J I' J → Q I' J) : wM_seen (nI s) (nI n) I J Q := by
  -- the third loop: crease by crease
  have l62 : ∀ (g m : Nat) (I' : gI), g + m = n → mSn (sG J s) n m I' → mFr I J I' J → wM_seen_l62 Q (g + 1) (nI s) (nI n) (nI (m + 1)) I' J := by
    intro g
    induction g with
    | zero =>
      intro m I' e h1 h2
      obtain rfl : m = n := by omega
      exact br_t (nI_lt (by omega) (by omega)) (hQ I' h1 h2)
    | succ g ih =>
      intro m I' e h1 h2
      have es : nI (m + 1) - 1 = nI m := nI_pred m
      show wM_seen_b62 _ _ _ _ _ _ Q
      unfold wM_seen_b62
      rw [es]
      refine br_f (nI_nlt (by omega) (by omega)) (m_intAt hs (by omega) ?_)
      -- told: count it at its level
      have told : ∀ v : Int32, v = sG J s m → (v = 0 ∨ v = 1) → ∃ d : Nat, wM_seen_l97 (wM_seen_l62 Q (g + 1)) Q d (nI s) (nI n) (nI (m + 1)) v 0 (nI (m + 1)) I' J := by
        intro v hv hv01
        have has : fh_as v (m + 1) ≠ 2 := by
          unfold fh_as
          rw [if_pos hv01]
          repeat' split
          all_goals omega
        have hle := lv_le (m + 1)
        obtain ⟨hodd, hev⟩ := lv_dv (m + 1) (by omega) (by omega)
        -- what comes behind the count
        have c165 : ∀ I2 : gI, I2 0 9 = nI (fh_bl n) → (∀ k, k < 6 → I2 22 k = nI (fh_cn (sG J s) 0 k (m + 1)) ∧ I2 23 k = nI (fh_cn (sG J s) 1 k (m + 1))) → I2 0 10 = (if fh_wr (sG J s) m = 0 then -1 else nI (fh_wr (sG J s) m)) → mFr I J I2 J → wM_seen_c165 (wM_seen_l62 Q (g + 1)) (nI s) (nI n) (nI (m + 1)) (nI (fh_lv (m + 1))) I2 J Q := by
          intro I2 a1 a2 a3 a4
          have hwl := wr_le (sG J s) m
          have hwr : fh_wr (sG J s) (m + 1) = (if fh_wr (sG J s) m = 0 then (if 0 < fh_cn (sG J s) 0 (fh_lv (m + 1)) (m + 1) ∧ 0 < fh_cn (sG J s) 1 (fh_lv (m + 1)) (m + 1) then m + 1 else 0) else fh_wr (sG J s) m) := by
            rw [fh_wr]
            rw [hv] at has
            by_cases c : 0 < fh_cn (sG J s) 0 (fh_lv (m + 1)) (m + 1) ∧ 0 < fh_cn (sG J s) 1 (fh_lv (m + 1)) (m + 1)
            · rw [if_pos c, if_pos (show fh_as (sG J s m) (m + 1) ≠ 2 ∧ 0 < fh_cn (sG J s) 0 (fh_lv (m + 1)) (m + 1) ∧ 0 < fh_cn (sG J s) 1 (fh_lv (m + 1)) (m + 1) from ⟨has, c⟩)]
            · rw [if_neg c, if_neg (show ¬ (fh_as (sG J s m) (m + 1) ≠ 2 ∧ 0 < fh_cn (sG J s) 0 (fh_lv (m + 1)) (m + 1) ∧ 0 < fh_cn (sG J s) 1 (fh_lv (m + 1)) (m + 1)) from fun e => c e.2)]
          obtain ⟨b1, b2⟩ := a2 (fh_lv (m + 1)) (by omega)
          have cl0 := cn_le (sG J s) 0 (fh_lv (m + 1)) (m + 1)
          have cl1 := cn_le (sG J s) 1 (fh_lv (m + 1)) (m + 1)
          have go : ∀ w : Nat, fh_wr (sG J s) (m + 1) = w → ∀ I3 : gI, I3 0 9 = nI (fh_bl n) → (∀ k, k < 6 → I3 22 k = nI (fh_cn (sG J s) 0 k (m + 1)) ∧ I3 23 k = nI (fh_cn (sG J s) 1 k (m + 1))) → I3 0 10 = (if w = 0 then -1 else nI w) → mFr I J I3 J → wM_seen_l62 Q (g + 1) (nI s) (nI n) (nI (m + 1 + 1)) I3 J := fun w hw I3 b1 b2 b3 b4 => ih (m + 1) I3 (by omega) ⟨b1, b2, by rw [b3, hw]⟩ b4
          unfold wM_seen_c165
          rw [a3, nI_clamp (by omega), b1, b2, nI_1]
          by_cases cw : fh_wr (sG J s) m = 0
          · rw [if_pos cw] at a3 hwr ⊢
            refine br_n rfl ⟨vp_in_nI (by omega) (by decide), ?_⟩
            have E0 : nI (fh_cn (sG J s) 0 (fh_lv (m + 1)) (m + 1)) ≤ 0 ↔ fh_cn (sG J s) 0 (fh_lv (m + 1)) (m + 1) ≤ 0 := nI_leI (b := 0) (by omega) (by omega)
            have E1 : nI (fh_cn (sG J s) 1 (fh_lv (m + 1)) (m + 1)) ≤ 0 ↔ fh_cn (sG J s) 1 (fh_lv (m + 1)) (m + 1) ≤ 0 := nI_leI (b := 0) (by omega) (by omega)
            rw [E0, E1]
            refine ⟨fun c0 => ?_, fun c0 => ⟨fun c1 => ?_, fun c1 => ?_⟩⟩
            · rw [if_neg (by omega)] at hwr
              exact go 0 hwr I2 a1 a2 (by rw [a3, if_pos rfl]) a4
            · rw [if_neg (by omega)] at hwr
              exact go 0 hwr I2 a1 a2 (by rw [a3, if_pos rfl]) a4
            · rw [if_pos (by omega)] at hwr
              rintro I5 rfl
              refine go (m + 1) hwr _ ?_ (fun k hk => ?_) ?_ (a4.tr (mFr.I0 (by omega)))
              · rw [upI_at, if_neg (by omega)]; exact a1
              · rw [upI_n (by omega), upI_n (by omega)]; exact a2 k hk
              · rw [upI_at, if_pos ⟨rfl, rfl⟩, if_neg (by omega)]
          · rw [if_neg cw] at a3 hwr ⊢
            exact br_m (nI_nm1 (by omega)) (go _ hwr I2 a1 a2 (by rw [a3, if_neg cw]) a4)
        have c133 : ∀ u : Nat, u < 2 → fh_as v (m + 1) = u → wM_seen_c133 (wM_seen_l62 Q (g + 1)) (nI s) (nI n) (nI (m + 1)) (nI (fh_lv (m + 1))) (nI u) I' J Q := by
          intro u hu hau
          have hin : vp_in (nI (fh_lv (m + 1))) 6 := vp_in_nI (by omega) (by decide)
          obtain ⟨b1, b2⟩ := h1.2.1 (fh_lv (m + 1)) (by omega)
          rw [hv] at hau
          unfold wM_seen_c133
          rw [nI_clamp (by omega), b1, b2, nI_1, nI_1]
          rcases (show u = 0 ∨ u = 1 by omega) with e | e <;> subst e
          · refine br_n rfl ⟨hin, ?_⟩
            rintro I6 rfl
            refine c165 _ ?_ (fun k hk => ?_) ?_ (h2.tr (mFr.I (by omega)))
            · rw [upI_n (by omega)]; exact h1.1
            · rw [cn_s, cn_s, hau]
              refine ⟨?_, ?_⟩
              · rw [upI_at]
                by_cases ek : fh_lv (m + 1) = k
                · rw [if_pos ⟨rfl, ek.symm⟩, if_pos ⟨rfl, ek⟩, ek]
                · rw [if_neg (fun e => ek e.2.symm), if_neg (fun e => ek e.2), Nat.add_zero]
                  exact (h1.2.1 k hk).1
              · rw [upI_n (by omega), if_neg (by omega), Nat.add_zero]
                exact (h1.2.1 k hk).2
            · rw [upI_n (by omega)]; exact h1.2.2
          · refine br_m (by decide) ⟨hin, ?_⟩
            rintro I6 rfl
            refine c165 _ ?_ (fun k hk => ?_) ?_ (h2.tr (mFr.I (by omega)))
            · rw [upI_n (by omega)]; exact h1.1
            · rw [cn_s, cn_s, hau]
              refine ⟨?_, ?_⟩
              · rw [upI_n (by omega), if_neg (by omega), Nat.add_zero]
                exact (h1.2.1 k hk).1
              · rw [upI_at]
                by_cases ek : fh_lv (m + 1) = k
                · rw [if_pos ⟨rfl, ek.symm⟩, if_pos ⟨rfl, ek⟩, ek]
                · rw [if_neg (fun e => ek e.2.symm), if_neg (fun e => ek e.2), Nat.add_zero]
                  exact (h1.2.1 k hk).2
            · rw [upI_n (by omega)]; exact h1.2.2
        have dv : ∀ d k : Nat, d + k = fh_lv (m + 1) → wM_seen_l97 (wM_seen_l62 Q (g + 1)) Q (d + 1) (nI s) (nI n) (nI (m + 1)) v (nI k) (nI ((m + 1) / 2 ^ k)) I' J := by
          intro d
          induction d with
          | zero =>
            intro k ek
            obtain rfl : k = fh_lv (m + 1) := by omega
            have hq : (m + 1) / 2 ^ fh_lv (m + 1) < 2147483648 := Nat.lt_of_le_of_lt (Nat.div_le_self _ _) (by omega)
            have e2 : nI ((m + 1) / 2 ^ fh_lv (m + 1)) % 2 = nI ((m + 1) / 2 ^ fh_lv (m + 1) % 2) := pk_iMod (b := 2) (by omega) (by omega)
            have e4 : nI ((m + 1) / 2 ^ fh_lv (m + 1)) % 4 = nI ((m + 1) / 2 ^ fh_lv (m + 1) % 4) := pk_iMod (b := 4) (by omega) (by omega)
            have E2 : nI ((m + 1) / 2 ^ fh_lv (m + 1) % 2) = 0 ↔ (m + 1) / 2 ^ fh_lv (m + 1) % 2 = 0 := nI_eq (b := 0) (by omega) (by omega)
            have E4 : nI ((m + 1) / 2 ^ fh_lv (m + 1) % 4) = 1 ↔ (m + 1) / 2 ^ fh_lv (m + 1) % 4 = 1 := nI_eq (b := 1) (by omega) (by omega)
            show wM_seen_b97 _ _ _ _ _ _ _ _ _ _ Q
            unfold wM_seen_b97
            rw [e2, e4, E2, E4]
            refine br_m (by omega) ⟨fun n4 => ?_, fun y4 => ?_⟩
            · rcases id hv01 with e | e
              · have ha : fh_as v (m + 1) = 1 := by
                  unfold fh_as
                  rw [if_pos hv01, if_neg n4, if_pos e]
                have := c133 1 (by omega) ha
                rw [e]
                exact this
              · have ha : fh_as v (m + 1) = 0 := by
                  unfold fh_as
                  rw [if_pos hv01, if_neg n4, if_neg (by rw [e]; decide)]
                have := c133 0 (by omega) ha
                rw [e]
                exact this
            · rcases id hv01 with e | e
              · have ha : fh_as v (m + 1) = 0 := by
                  unfold fh_as
                  rw [if_pos hv01, if_pos y4, if_pos e]
                have := c133 0 (by omega) ha
                rw [e]
                exact this
              · have ha : fh_as v (m + 1) = 1 := by
                  unfold fh_as
                  rw [if_pos hv01, if_pos y4, if_neg (by rw [e]; decide)]
                have := c133 1 (by omega) ha
                rw [e]
                exact this
          | succ d ihd =>
            intro k ek
            have hq : (m + 1) / 2 ^ k < 2147483648 := Nat.lt_of_le_of_lt (Nat.div_le_self _ _) (by omega)
            have e2 : nI ((m + 1) / 2 ^ k) % 2 = nI ((m + 1) / 2 ^ k % 2) := pk_iMod (b := 2) (by omega) (by omega)
            have E2 : nI ((m + 1) / 2 ^ k % 2) = 0 ↔ (m + 1) / 2 ^ k % 2 = 0 := nI_eq (b := 0) (by omega) (by omega)
            have ed : nI ((m + 1) / 2 ^ k) / 2 = nI ((m + 1) / 2 ^ (k + 1)) := by
              rw [Nat.pow_succ, ← Nat.div_div_eq_div_mul]
              exact pk_iDv (b := 2) (by omega) (by omega)
            show wM_seen_b97 _ _ _ _ _ _ _ _ _ _ Q
            unfold wM_seen_b97
            rw [e2, E2, ed, nI_1]
            exact br_n (hev k (by omega)) (ihd (k + 1) (by omega))
        have d0 := dv (fh_lv (m + 1)) 0 (by omega)
        rw [Nat.pow_zero, Nat.div_one] at d0
        exact ⟨fh_lv (m + 1) + 1, d0⟩
      refine ⟨fun e0 => told _ rfl (Or.inl e0), fun n0 => ⟨fun e1 => told _ rfl (Or.inr e1), fun n1 => ?_⟩⟩
      have has : fh_as (sG J s m) (m + 1) = 2 := by
        unfold fh_as
        rw [if_neg (show ¬ (sG J s m = 0 ∨ sG J s m = 1) from fun e => e.elim n0 n1)]
      rw [nI_1]
      refine ih (m + 1) I' (by omega) ⟨h1.1, fun k hk => ?_, ?_⟩ h2
      · rw [cn_s, cn_s, has, if_neg (by omega), if_neg (by omega)]
        exact h1.2.1 k hk
      · have e2 : fh_wr (sG J s) (m + 1) = fh_wr (sG J s) m := by
          rw [fh_wr]
          by_cases c : fh_wr (sG J s) m = 0
          · rw [if_pos c, if_neg (show ¬ (fh_as (sG J s m) (m + 1) ≠ 2 ∧ 0 < fh_cn (sG J s) 0 (fh_lv (m + 1)) (m + 1) ∧ 0 < fh_cn (sG J s) 1 (fh_lv (m + 1)) (m + 1)) from fun e => e.1 has), c]
          · rw [if_neg c]
        rw [e2]
        exact h1.2.2
  -- the second loop: all counts 0
  have l29 : ∀ (g k : Nat) (I' : gI), g + k = 6 → I' 0 9 = nI (fh_bl n) → (∀ i, i < k → I' 22 i = 0 ∧ I' 23 i = 0) → mFr I J I' J → wM_seen_l29 Q (g + 1) (nI s) (nI n) (nI k) I' J := by
    intro g
    induction g with
    | zero =>
      intro k I' e h1 h2 h3
      obtain rfl : k = 6 := by omega
      refine br_t (nI_le (a := 6) (b := 6) (by omega) (by omega)) ?_
      rintro I2 rfl
      refine ⟨n + 1, l62 n 0 _ (by omega) ⟨?_, fun k hk => ?_, ?_⟩ (h3.tr (mFr.I0 (by omega)))⟩
      · rw [upI_at, if_neg (by omega)]; exact h1
      · rw [upI_n (by omega), upI_n (by omega)]; exact h2 k hk
      · rw [upI_at, if_pos ⟨rfl, rfl⟩]; rfl
    | succ g ih =>
      intro k I' e h1 h2 h3
      refine br_f (nI_ge (a := k) (b := 6) (by omega) (by omega)) ⟨vp_in_nI (by omega) (by decide), ?_⟩
      rintro I5 rfl I7 rfl
      rw [nI_clamp (by omega), nI_1]
      refine ih (k + 1) _ (by omega) ?_ (fun i hi => ?_) (h3.tr ((mFr.I (by omega)).tr (mFr.I (by omega))))
      · rw [upI_n (by omega), upI_n (by omega)]; exact h1
      · by_cases ei : i = k
        · subst ei
          refine ⟨?_, ?_⟩
          · rw [upI_n (by omega), upI_s, upd_s]
          · rw [upI_s, upd_s]
        · rw [upI_at, if_neg (by omega), upI_at, if_neg (by omega), upI_at, if_neg (by omega), upI_at, if_neg (by omega)]
          exact h2 i (by omega)
  -- the first loop: how many levels
  have bl : ∀ n : Nat, n < 64 → fh_bl n ≤ 6 ∧ n / 2 ^ fh_bl n = 0 ∧ ∀ k, k < fh_bl n → 0 < n / 2 ^ k := by decide +kernel
  obtain ⟨b1, b2, b3⟩ := bl n (by omega)
  have l5 : ∀ (g k : Nat) (I' : gI), g + k = fh_bl n → I' 0 9 = nI k → mFr I J I' J → wM_seen_l5 Q (g + 1) (nI s) (nI n) I' J := by
    intro g
    induction g with
    | zero =>
      intro k I' e h1 h3
      obtain rfl : k = fh_bl n := by omega
      have es : nI n >>> (nI (fh_bl n) &&& 31) = nI (n / 2 ^ fh_bl n) := pk_shrN (by omega) _ _ (s_l _ (by omega))
      show wM_seen_b5 _ _ _ _ _ Q
      unfold wM_seen_b5
      rw [h1, es, b2]
      exact br_t (nI_le (a := 0) (b := 0) (by omega) (by omega)) ⟨7, l29 6 0 I' (by omega) h1 (fun i hi => absurd hi (by omega)) h3⟩
    | succ g ih =>
      intro k I' e h1 h3
      have es : nI n >>> (nI k &&& 31) = nI (n / 2 ^ k) := pk_shrN (by omega) _ _ (s_l _ (by omega))
      have hp := b3 k (by omega)
      have hd : n / 2 ^ k ≤ n := Nat.div_le_self _ _
      have E : nI (n / 2 ^ k) ≤ 0 ↔ n / 2 ^ k ≤ 0 := nI_leI (b := 0) (by omega) (by omega)
      show wM_seen_b5 _ _ _ _ _ Q
      unfold wM_seen_b5
      rw [h1, es, E, nI_1]
      refine br_f (by omega) ?_
      rintro I2 rfl
      exact ih (k + 1) _ (by omega) (by rw [upI_at, if_pos ⟨rfl, rfl⟩]) (h3.tr (mFr.I0 (by omega)))
  unfold wM_seen
  rintro I1 rfl
  exact ⟨fh_bl n + 1, l5 (fh_bl n) 0 _ (by omega) (by rw [upI_at, if_pos ⟨rfl, rfl⟩]; rfl) (mFr.I0 (by omega))⟩
