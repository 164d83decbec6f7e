/-! signed numbers, more -/
theorem zlit (n : Nat) : (OfNat.ofNat n : Int32) = zI (OfNat.ofNat n : Int) := (Int32.ofInt_eq_ofNat (n := n)).symm
theorem zlitL (n : Nat) : (OfNat.ofNat n : Int64) = zL (OfNat.ofNat n : Int) := (Int64.ofInt_eq_ofNat (n := n)).symm
theorem zI_cl {a : Int} (h1 : -2147483648 ≤ a) (h2 : a < 2147483648) : (zI a).toNatClampNeg = a.toNat := by
  show (zI a).toInt.toNat = _
  rw [zI_t h1 h2]
theorem tmod4 (d : Int) : (0 ≤ d ∧ d.tmod 4 = d % 4) ∨ (d < 0 ∧ d.tmod 4 = -((-d) % 4)) := by
  rcases Int.lt_or_le d 0 with h | h
  · right
    refine ⟨h, ?_⟩
    have := Int.neg_tmod (-d) 4
    rw [Int.neg_neg] at this
    rw [this, Int.tmod_eq_emod_of_nonneg (by omega)]
  · exact Or.inl ⟨h, Int.tmod_eq_emod_of_nonneg h⟩
theorem zL_mod4 {a : Int} (h1 : -9223372036854775808 ≤ a) (h2 : a < 9223372036854775808) : zL a % 4 = zL (a.tmod 4) := by
  have h := tmod4 a
  have e4 : (4 : Int64) = zL 4 := rfl
  rw [e4, ← Int64.toInt_inj, Int64.toInt_mod, zL_t h1 h2, zL_t (x := 4) (by omega) (by omega), zL_t (by omega) (by omega)]
theorem rnd4 {d : Int} (h1 : -4611686018427387904 ≤ d) (h2 : d < 4611686018427387904) : ((((zL d) % 4) + 4) % 4).toInt32 = nI (d % 4).toNat := by
  have h := tmod4 d
  have h' := tmod4 (d.tmod 4 + 4)
  have e4 : (4 : Int64) = zL 4 := rfl
  have e := zL_mod4 (a := d) (by omega) (by omega)
  have e' := zL_mod4 (a := d.tmod 4 + 4) (by omega) (by omega)
  rw [e]
  rw [← zL_add, ← e4] at e'
  rw [e', zL_toI, zI_n]
  congr 1
  omega
/-! the reference's words on one strip -/
def mS (I : gI) (J : gJ) (i : Nat) (t : gP) : Prop := I 2 i = nI (tk t) ∧ I 3 i = nI (ta t) ∧ I 4 i = nI (tf t) ∧ J 1 i = lN (tw t)
theorem bs_or (t : gP) : fh_bs t = 2 ∨ fh_bs t = 3 := by unfold fh_bs; split <;> simp
theorem bs_2 {t : gP} (h : ¬ tk t = 2) : fh_bs t = 2 := if_neg h
theorem bs_3 {t : gP} (h : tk t = 2) : fh_bs t = 3 := if_pos h
theorem si_b {b : Nat} {c : Nat → Nat} {n : Nat} (k : Nat) : -1 ≤ fh_tm b c n k ∧ fh_tm b c n k ≤ 1 := by
  have := sg_or (c k)
  unfold fh_tm
  repeat' split
  all_goals omega
theorem dr_b {t : gP} (ok : stok t) {n : Nat} (h : n < fh_pw t) : -40 ≤ fh_dr (fh_pc t) n ∧ fh_dr (fh_pc t) n ≤ 40 := by
  rw [dr_pc h]
  have h1 := fb_si_bound (f := fh_tm (fh_bs t) (fh_ct t) n) (c := 1) (by omega) (n := tf t) (fun k _ => si_b k)
  have := ok.2.2.2.1
  omega
theorem m_power {I : gI} {J : gJ} {Q : Int64 → Prop} {b n : Nat} (hb : b < 2147483648) (hn : n < 2147483648) (hQ : Q (lN (b ^ n))) : wM_power (nI b) (nI n) I J Q := by
  have key : ∀ k j : Nat, j + k = n → wM_power_l5 I J Q (k + 1) (nI b) (nI n) (lN (b ^ j)) (nI j) := by
    intro k
    induction k with
    | zero =>
      intro j e
      obtain rfl : j = n := by omega
      exact br_t (nI_le (Nat.le_refl _) hn) hQ
    | succ k ih =>
      intro j e
      refine br_f (nI_ge (by omega) hn) ?_
      rw [nI_l hb, lN_mul, nI_1, ← Nat.pow_succ]
      exact ih (j + 1) (by omega)
  exact ⟨n + 1, key n 0 (by omega)⟩
theorem m_kind {I : gI} {J : gJ} {i : Nat} {t : gP} (hi : i < 8) (h : mS I J i t) : (I 2 (nI i).toNatClampNeg) = nI (tk t) := by rw [nI_clamp (by omega)]; exact h.1
theorem m_whole {I : gI} {J : gJ} {i : Nat} {t : gP} (hi : i < 8) (h : mS I J i t) (ok : stok t) {Q : Int64 → Prop} (hQ : Q (lN (fh_wh t))) : wM_whole (nI i) I J Q := by
  have hin : vp_in (nI i) 8 := vp_in_nI hi (by decide)
  have hk := m_kind hi h
  have hf := ok.2.2.2.1
  have hk6 := ok.1
  unfold wM_whole wM_whole_c16
  rw [hk, nI_clamp (by omega), h.2.2.1]
  have e1 : (1 : Int64) = lN 1 := rfl
  refine ⟨hin, fun hk => ⟨hin, m_power (b := 2) (by omega) (by omega) ?_⟩, fun hk => ⟨hin, m_power (b := 3) (by omega) (by omega) ?_⟩⟩
  · have hn : ¬ tk t = 2 := fun e => hk (by rw [e]; rfl)
    have h2 := wh_ge ok
    unfold fh_wh fh_pw at hQ h2
    rw [bs_2 hn] at hQ h2
    rw [e1, lN_sub (by omega)]
    exact hQ
  · have hn : tk t = 2 := (nI_eq (b := 2) (by omega) (by omega)).mp hk
    have h2 := wh_ge ok
    unfold fh_wh fh_pw at hQ h2
    rw [bs_3 hn] at hQ h2
    rw [e1, lN_sub (by omega)]
    exact hQ
theorem m_letter {I : gI} {J : gJ} {i : Nat} {t : gP} (hi : i < 8) (h : mS I J i t) (ok : stok t) {l : Nat} (hl : l < 64) {Q : Int32 → Prop} (hQ : Q (nI (tw t / 2 ^ l % 2))) : wM_letter (nI i) (nI l) I J Q := by
  have hw : tw t < 2 ^ 62 := by
    have h1 := ok.2.2.2.2.2
    have h2 := pw_2 ok.2.2.2.1
    omega
  unfold wM_letter
  rw [nI_clamp (by omega), h.2.2.2, sh_r hw hl, g_and1 (Nat.lt_of_le_of_lt (Nat.div_le_self _ _) (by omega)), lN_i]
  exact ⟨vp_in_nI hi (by decide), hQ⟩
theorem m_counts {I : gI} {J : gJ} {i : Nat} {t : gP} (hi : i < 8) (h : mS I J i t) (ok : stok t) {l : Nat} (hl : l < 64) {Q : Int32 → Prop} (hQ : Q (nI (fh_ct t l))) : wM_counts (nI i) (nI l) I J Q := by
  have hin : vp_in (nI i) 8 := vp_in_nI hi (by decide)
  have hk := m_kind hi h
  have hk6 := ok.1
  have ha := ok.2.1
  unfold wM_counts
  rw [hk, nI_clamp (by omega), h.2.1]
  unfold fh_ct at hQ
  refine ⟨hin, fun hk => m_letter hi h ok hl ?_, fun hk => ?_⟩
  · rw [if_neg (fun e => hk (by rw [e]; rfl))] at hQ
    exact hQ
  · rw [if_pos ((nI_eq (b := 1) (by omega) (by omega)).mp hk)] at hQ
    have e : nI (ta t) % 2 = nI (ta t % 2) := pk_iMod (b := 2) (by omega) (by omega)
    rw [e]
    exact hQ
theorem m_cutOf {I : gI} {J : gJ} {i : Nat} {t : gP} (hi : i < 8) (h : mS I J i t) (ok : stok t) {Q : Int64 → Prop} (hQ : Q (lN (fh_cu t))) : wM_cutOf (nI i) I J Q := by
  have hin : vp_in (nI i) 8 := vp_in_nI hi (by decide)
  have hk := m_kind hi h
  have hk6 := ok.1
  have ha := ok.2.1
  have hwh := wh_ge ok
  have key : tk t = 3 ∨ tk t = 4 → wM_cutOf_c20 I J (nI i) Q := by
    intro e
    refine ⟨hin, m_whole hi h ok ⟨?_, ?_⟩⟩
    · intro e0
      have : fh_wh t = 0 := (pk_lEQ (b := 0) (by omega) (by omega)).mp e0
      omega
    · rw [nI_clamp (by omega), h.2.1, nI_l (by omega), pk_lMod (by omega) (by omega)]
      unfold fh_cu at hQ
      rw [if_pos e] at hQ
      exact hQ
  unfold wM_cutOf
  rw [hk]
  refine ⟨hin, fun hk => key (Or.inl ((nI_eq (b := 3) (by omega) (by omega)).mp hk)), fun h3 => ⟨fun h4 => ?_, fun hk => key (Or.inr ((nI_eq (b := 4) (by omega) (by omega)).mp hk))⟩⟩
  rw [cu_0 (fun e => e.elim (fun e => h3 (by rw [e]; rfl)) (fun e => h4 (by rw [e]; rfl)))] at hQ
  exact hQ
theorem m_creasesOf {I : gI} {J : gJ} {i : Nat} {t : gP} (hi : i < 8) (h : mS I J i t) (ok : stok t) {Q : Int64 → Prop} (hQ : Q (lN (fh_cs t))) : wM_creasesOf (nI i) I J Q := by
  have hc := cu_lt ok
  refine m_whole hi h ok (m_cutOf hi h ok ?_)
  rw [lN_sub (by omega)]
  exact hQ
theorem m_plain_l {I : gI} {J : gJ} {i : Nat} {t : gP} (hi : i < 8) (h : mS I J i t) (ok : stok t) {Q : Int32 → Prop} : ∀ (g k m : Nat), g + k = tf t → 0 < m → m < fh_bs t ^ g → Q (nI (fh_pl (fh_bs t) g (fun j => fh_ct t (j + k)) m)) → wM_plain_l23 I J Q g (nI i) (nI (fh_bs t)) (nI k) (lN m)
  | 0, k, m, _, h0, hm, _ => by rw [Nat.pow_zero] at hm; omega
  | g + 1, k, m, e, h0, hm, hQ => by
    have hb := bs_or t
    have hf := ok.2.2.2.1
    have hm2 : m < 2 ^ 63 := by
      have h1 : fh_bs t ^ (g + 1) ≤ fh_bs t ^ tf t := Nat.pow_le_pow_right (by omega) (by omega)
      have h2 := pw_le ok
      unfold fh_pw at h2
      omega
    show wM_plain_b23 I J (wM_plain_l23 I J Q g) (nI i) (nI (fh_bs t)) (nI k) (lN m) Q
    unfold wM_plain_b23
    have e0 : ∀ {a : Nat}, a < 2 ^ 63 → (lN a = 0 ↔ a = 0) := fun ha => pk_lEQ (b := 0) ha (by omega)
    have e1 : ∀ {a : Nat}, a < 2 ^ 63 → (lN a = 1 ↔ a = 1) := fun ha => pk_lEQ (b := 1) ha (by omega)
    have e3 : lN m % 3 = lN (m % 3) := pk_lMod (b := 3) hm2 (by omega)
    have e4 : lN m % 4 = lN (m % 4) := pk_lMod (b := 4) hm2 (by omega)
    have e33 : nI (fh_bs t) = 3 ↔ fh_bs t = 3 := nI_eq (b := 3) (by omega) (by omega)
    have em : lN 1 = 1 := rfl
    rw [nI_l (by omega), pk_lMod hm2 (by omega), pk_lDv hm2 (by omega), e0 (by omega), e0 (Nat.lt_of_le_of_lt (Nat.mod_le _ _) hm2), e33, e3, e4, e1 (by omega), e1 (by omega), nI_1]
    rw [fh_pl] at hQ
    refine ⟨by omega, fun h1 => m_counts hi h ok (by omega) ?_, fun h1 => ⟨by omega, ?_⟩⟩
    · have h2 := ct_le t k
      rw [if_neg h1, Nat.zero_add] at hQ
      have es : (1 : Int32) - nI (fh_ct t k) = nI (1 - fh_ct t k) := pk_sub (a := 1) h2
      rw [es]
      rcases hb with hb | hb <;> rw [hb] at hQ ⊢
      · rw [show fh_e 2 = 4 from rfl] at hQ
        refine ⟨fun _ => ⟨fun h3 => ?_, fun h3 => ?_⟩, fun h3 => absurd h3 (by omega)⟩
        · rw [if_neg h3] at hQ; exact hQ
        · rw [if_pos h3] at hQ; exact hQ
      · rw [show fh_e 3 = 3 from rfl] at hQ
        refine ⟨fun h3 => absurd rfl h3, fun _ => ⟨fun h3 => ?_, fun h3 => ?_⟩⟩
        · rw [if_neg h3] at hQ; exact hQ
        · rw [if_pos h3] at hQ; exact hQ
    · rw [if_pos h1] at hQ
      refine m_plain_l hi h ok g (k + 1) (m / fh_bs t) (by omega) ?_ ?_ ?_
      · rcases hb with hb | hb <;> rw [hb] at h1 ⊢ <;> omega
      · rw [Nat.pow_succ, Nat.mul_comm] at hm
        exact Nat.div_lt_of_lt_mul hm
      · have ef : (fun j => fh_ct t (j + (k + 1))) = (fun j => fh_ct t (j + 1 + k)) := by
          funext j
          rw [Nat.add_right_comm, Nat.add_assoc]
        rw [ef]
        exact hQ
theorem m_plain {I : gI} {J : gJ} {i : Nat} {t : gP} (hi : i < 8) (h : mS I J i t) (ok : stok t) {n : Nat} (h0 : 0 < n) (hn : n < fh_pw t) {Q : Int32 → Prop} (hQ : Q (nI (fh_pc t n))) : wM_plain (nI i) (lN n) I J Q := by
  have hin : vp_in (nI i) 8 := vp_in_nI hi (by decide)
  have hk6 := ok.1
  have key : wM_plain_l23 I J Q (tf t) (nI i) (nI (fh_bs t)) (nI 0) (lN n) := m_plain_l hi h ok (tf t) 0 n (by omega) h0 hn hQ
  unfold wM_plain
  rw [m_kind hi h]
  refine ⟨hin, fun hk => ⟨tf t, ?_⟩, fun hk => ⟨tf t, ?_⟩⟩
  · rw [bs_2 (fun e => hk (by rw [e]; rfl))] at key
    exact key
  · rw [bs_3 ((nI_eq (b := 2) (by omega) (by omega)).mp hk)] at key
    exact key
theorem m_creaseOf {I : gI} {J : gJ} {i : Nat} {t : gP} (hi : i < 8) (h : mS I J i t) (ok : stok t) {n : Nat} (h0 : 0 < n) (hn : n ≤ fh_cs t) {Q : Int32 → Prop} (hQ : Q (nI (fh_cr t n))) : wM_creaseOf (nI i) (lN n) I J Q := by
  have hin : vp_in (nI i) 8 := vp_in_nI hi (by decide)
  have hk6 := ok.1
  have hcs := cs_ge ok
  have hpw := pw_le ok
  have hone : ∀ m, (1 : Int32) - nI (fh_pc t m) = nI (1 - fh_pc t m) := fun m => pk_sub (a := 1) (pc_le t m)
  have e1 : (1 : Int64) = lN 1 := rfl
  have hE : ∀ c : Nat, c < 100 → (nI (tk t) = nI c ↔ tk t = c) := fun c hc => nI_eq (by omega) (by omega)
  unfold wM_creaseOf
  rw [m_kind hi h]
  unfold fh_cr at hQ
  refine ⟨hin, fun hk => ?_, fun h3 => ⟨fun hk => ?_, fun h4 => ⟨fun hk => ?_, fun h5 => ⟨fun hk => ?_, fun h6 => ?_⟩⟩⟩⟩
  · rw [if_pos ((hE 3 (by omega)).mp hk)] at hQ
    refine m_cutOf hi h ok ?_
    rw [lN_add]
    exact m_plain hi h ok (by omega) (by omega) hQ
  · have hk := (hE 4 (by omega)).mp hk
    rw [if_neg (by omega), if_pos hk] at hQ
    refine m_creasesOf hi h ok (m_cutOf hi h ok ?_)
    rw [e1, lN_add, lN_sub (by omega), lN_add, show fh_cs t + 1 - n + fh_cu t = fh_pw t - n by omega]
    refine m_plain hi h ok (by omega) (by omega) ?_
    rw [hone]
    exact hQ
  · have hk := (hE 5 (by omega)).mp hk
    rw [if_neg (by omega), if_neg (by omega), if_pos hk] at hQ
    refine m_plain hi h ok (by omega) (by omega) ?_
    rw [hone]
    exact hQ
  · have hk := (hE 6 (by omega)).mp hk
    rw [if_neg (by omega), if_neg (by omega), if_neg (by omega), if_pos hk] at hQ
    have e4 : lN n % 4 = lN (n % 4) := pk_lMod (b := 4) (by omega) (by omega)
    have e0 : lN (n % 4) = 0 ↔ n % 4 = 0 := pk_lEQ (b := 0) (by omega) (by omega)
    rw [e4, e0]
    refine ⟨fun hm => ?_, fun hm => ?_⟩
    · rw [if_neg hm] at hQ
      refine m_plain hi h ok (by omega) (by omega) ?_
      rw [hone]
      exact hQ
    · rw [if_pos hm] at hQ
      exact hQ
  · have n3 := fun e => h3 ((hE 3 (by omega)).mpr e)
    have n4 := fun e => h4 ((hE 4 (by omega)).mpr e)
    have n5 := fun e => h5 ((hE 5 (by omega)).mpr e)
    have n6 := fun e => h6 ((hE 6 (by omega)).mpr e)
    rw [if_neg n3, if_neg n4, if_neg n5, if_neg n6] at hQ
    exact m_plain hi h ok (by omega) (by omega) hQ
/-- the turns from a level on -/
def fh_ts (t : gP) (n fr k : Nat) : Int := fb_si (fun j => if fr ≤ j then fh_tm (fh_bs t) (fh_ct t) n j else 0) k
theorem ts_0 {t : gP} {n : Nat} (hn : n < fh_pw t) : fh_ts t n 0 (tf t) = fh_dr (fh_pc t) n := by
  rw [dr_pc hn]
  unfold fh_ts
  congr 1
theorem ts_b {t : gP} (n fr k : Nat) : -(k : Int) ≤ fh_ts t n fr k ∧ fh_ts t n fr k ≤ k := by
  have h1 := fb_si_bound (f := fun j => if fr ≤ j then fh_tm (fh_bs t) (fh_ct t) n j else 0) (c := 1) (by omega) (n := k) (fun k _ => by
    have := @si_b (fh_bs t) (fh_ct t) n k
    show -1 ≤ (if fr ≤ k then fh_tm (fh_bs t) (fh_ct t) n k else 0) ∧ _
    split <;> omega)
  unfold fh_ts
  omega
theorem m_turned_l {I : gI} {J : gJ} {i : Nat} {t : gP} (hi : i < 8) (h : mS I J i t) (ok : stok t) {n fr : Nat} (hfr : fr < 100) {Q : Int32 → Prop} (hQ : Q (zI (fh_ts t n fr (tf t)))) : ∀ (g k : Nat), g + k = tf t → n / fh_bs t ^ k < fh_bs t ^ g → wM_turned_l26 I J Q (g + 1) (nI i) (nI fr) (nI (fh_bs t)) (zI (fh_ts t n fr k)) (lN (n / fh_bs t ^ k)) (nI k) := by
  have hb := bs_or t
  have hf := ok.2.2.2.1
  have stop : ∀ (B : Int32 → Int32 → Int32 → Int32 → Int64 → Int32 → Prop) (k : Nat), k ≤ tf t → n / fh_bs t ^ k = 0 → wM_turned_b26 I J B (nI i) (nI fr) (nI (fh_bs t)) (zI (fh_ts t n fr k)) (lN (n / fh_bs t ^ k)) (nI k) Q := by
    intro B k hk h0
    have e : fh_ts t n fr k = fh_ts t n fr (tf t) := by
      obtain ⟨j, hj⟩ : ∃ j, tf t = k + j := ⟨tf t - k, by omega⟩
      unfold fh_ts
      rw [hj]
      refine (si_tail j (fun i hi => ?_)).symm
      rw [tm_0 hb h0 hi]
      split <;> rfl
    rw [h0, e]
    exact br_t (by decide) hQ
  intro g
  induction g with
  | zero =>
    intro k e hm
    exact stop _ k (by omega) (by rw [Nat.pow_zero] at hm; exact Nat.lt_one_iff.mp hm)
  | succ g ih =>
    intro k e hm
    rcases Nat.eq_zero_or_pos (n / fh_bs t ^ k) with h0 | h0
    · exact stop _ k (by omega) h0
    have hm2 : n / fh_bs t ^ k < 2 ^ 62 := by
      have h1 : fh_bs t ^ (g + 1) ≤ fh_bs t ^ tf t := Nat.pow_le_pow_right (by omega) (by omega)
      have h2 := pw_le ok
      unfold fh_pw at h2
      omega
    have next := ih (k + 1) (by omega) (by
      rw [Nat.pow_succ, ← Nat.div_div_eq_div_mul]
      rw [Nat.pow_succ, Nat.mul_comm] at hm
      exact Nat.div_lt_of_lt_mul hm)
    rw [Nat.pow_succ, ← Nat.div_div_eq_div_mul] at next
    have hs : fh_ts t n fr (k + 1) = fh_ts t n fr k + (if fr ≤ k then fh_tm (fh_bs t) (fh_ct t) n k else 0) := rfl
    show wM_turned_b26 I J (wM_turned_l26 I J Q (g + 1)) (nI i) (nI fr) (nI (fh_bs t)) (zI (fh_ts t n fr k)) (lN (n / fh_bs t ^ k)) (nI k) Q
    generalize hm0 : n / fh_bs t ^ k = m at *
    have c100 : ∀ s : Int32, s = zI (fh_ts t n fr (k + 1)) → wM_turned_c100 I J (wM_turned_l26 I J Q (g + 1)) (nI i) (nI fr) (nI (fh_bs t)) s (lN m) (nI k) Q := by
      intro s hs
      rw [hs]
      refine ⟨?_, ?_⟩
      · rw [nI_l (by omega)]
        intro e0
        have : fh_bs t = 0 := (pk_lEQ (b := 0) (by omega) (by omega)).mp e0
        omega
      · rw [nI_l (by omega), pk_lDv (by omega) (by omega), nI_1]
        exact next
    have c59 : ∀ (y : Int64) (z : Nat), y = lN z → z < 2 ^ 63 → (z % 2 = 1 → fh_tm (fh_bs t) (fh_ct t) n k = fh_sg (fh_ct t k)) → (¬ z % 2 = 1 → fh_tm (fh_bs t) (fh_ct t) n k = 0) → wM_turned_c59 I J (wM_turned_l26 I J Q (g + 1)) (nI i) (nI fr) (nI (fh_bs t)) (zI (fh_ts t n fr k)) (lN m) (nI k) y Q := by
      intro y z hy hz t1 t0
      have ey : y % 2 = lN (z % 2) := by rw [hy]; exact pk_lMod (b := 2) hz (by omega)
      have ey1 : lN (z % 2) = 1 ↔ z % 2 = 1 := pk_lEQ (b := 1) (by omega) (by omega)
      unfold wM_turned_c59 wM_turned_c97
      rw [ey, ey1, nI_ltI (by omega) (by omega)]
      refine ⟨fun hl => c100 _ (by rw [hs, if_neg (by omega), Int.add_zero]), fun hl => ⟨fun hz => c100 _ (by rw [hs, if_pos (by omega), t0 hz, Int.add_zero]), fun hz => m_counts hi h ok (by omega) ?_⟩⟩
      have hc := ct_le t k
      have ec : nI (fh_ct t k) = 1 ↔ fh_ct t k = 1 := nI_eq (b := 1) (by omega) (by omega)
      rw [ec]
      refine ⟨fun h1 => c100 _ ?_, fun h1 => c100 _ ?_⟩
      · rw [hs, if_pos (by omega), t1 hz, zI_m1, zI_add]
        unfold fh_sg
        rw [if_neg h1]
      · rw [hs, if_pos (by omega), t1 hz, zI_1, zI_add]
        unfold fh_sg
        rw [if_pos h1]
    have e0 : lN m ≤ 0 ↔ m ≤ 0 := pk_lLE (b := 0) (by omega) (by omega)
    have e33 : nI (fh_bs t) = 3 ↔ fh_bs t = 3 := nI_eq (b := 3) (by omega) (by omega)
    unfold wM_turned_b26
    rw [e0, e33]
    refine ⟨fun h1 => absurd h1 (by omega), fun _ => ⟨fun h3 => ?_, fun h3 => ?_⟩⟩
    · have h2 : fh_bs t = 2 := by omega
      have ez : (lN m + 1) / 2 = lN ((m + 1) / 2) := by
        show (lN m + lN 1) / lN 2 = _
        rw [lN_add]
        exact pk_lDv (b := 2) (by omega) (by omega)
      refine c59 _ ((m + 1) / 2) ez (by omega) (fun hz => ?_) (fun hz => ?_)
      · rw [h2] at hm0 ⊢
        rw [tm2, hm0, if_pos (by omega)]
      · rw [h2] at hm0 ⊢
        rw [tm2, hm0, if_neg (by omega)]
    · have ez : lN m - lN m / 3 = lN (m - m / 3) := by
        have e3 : lN m / 3 = lN (m / 3) := pk_lDv (b := 3) (by omega) (by omega)
        rw [e3, lN_sub (by omega)]
      refine c59 _ (m - m / 3) ez (by omega) (fun hz => ?_) (fun hz => ?_)
      · rw [h3] at hm0 ⊢
        rw [tm3, hm0, if_pos (by omega)]
      · rw [h3] at hm0 ⊢
        rw [tm3, hm0, if_neg (by omega)]
theorem m_turned {I : gI} {J : gJ} {i : Nat} {t : gP} (hi : i < 8) (h : mS I J i t) (ok : stok t) {n fr : Nat} (hfr : fr < 100) (hn : n < fh_pw t) {Q : Int32 → Prop} (hQ : Q (zI (fh_ts t n fr (tf t)))) : wM_turned (nI i) (lN n) (nI fr) I J Q := by
  have hin : vp_in (nI i) 8 := vp_in_nI hi (by decide)
  have hk6 := ok.1
  have key := m_turned_l hi h ok hfr (n := n) hQ (tf t) 0 (by omega) (by rw [Nat.pow_zero, Nat.div_one]; exact hn)
  rw [Nat.pow_zero, Nat.div_one] at key
  unfold wM_turned wM_turned_c15
  rw [m_kind hi h]
  refine ⟨hin, fun hk => ⟨tf t + 1, ?_⟩, fun hk => ⟨tf t + 1, ?_⟩⟩
  · rw [bs_2 (fun e => hk (by rw [e]; rfl))] at key
    exact key
  · rw [bs_3 ((nI_eq (b := 2) (by omega) (by omega)).mp hk)] at key
    exact key
theorem m_turned0 {I : gI} {J : gJ} {i : Nat} {t : gP} (hi : i < 8) (h : mS I J i t) (ok : stok t) {n : Nat} (hn : n < fh_pw t) {Q : Int32 → Prop} (hQ : Q (zI (fh_dr (fh_pc t) n))) : wM_turned (nI i) (lN n) 0 I J Q :=
  m_turned hi h ok (fr := 0) (by omega) hn (by rw [ts_0 hn]; exact hQ)
