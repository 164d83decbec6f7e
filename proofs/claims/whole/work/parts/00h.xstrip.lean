/-! the class's words on one strip -/
def xV (t : gP) (i : Nat) : gV := (tk t, nI (tk t), nI i, nI (ta t), nI (tf t), lN (tw t), lN (fh_cu t))
/-- the letters that a strip's creases go by -/
def fh_lt (t : gP) (l : Nat) : Nat := if tk t = 1 then ta t % 2 else if tk t = 5 ∨ tk t = 6 then 1 - tw t / 2 ^ l % 2 else tw t / 2 ^ l % 2
def fh_qc (t : gP) (n : Nat) : Nat := fh_pl 2 (tf t) (fh_lt t) n
theorem lt_le (t : gP) (l : Nat) : fh_lt t l ≤ 1 := by unfold fh_lt; repeat' split
                                                       all_goals omega
theorem tw_b {t : gP} (ok : stok t) : tw t < 1099511627776 := Nat.lt_of_lt_of_le ok.2.2.2.2.2 (pw_2 ok.2.2.2.1)
theorem lt_ct {t : gP} (h5 : tk t ≠ 5) (h6 : tk t ≠ 6) : fh_lt t = fh_ct t := by
  funext l
  unfold fh_lt fh_ct
  rw [if_neg (show ¬ (tk t = 5 ∨ tk t = 6) by omega)]
theorem lt_not {t : gP} (h : tk t = 5 ∨ tk t = 6) : fh_lt t = fun l => 1 - fh_ct t l := by
  funext l
  unfold fh_lt fh_ct
  rw [if_neg (by omega), if_pos h, if_neg (by omega)]
theorem qc_pc {t : gP} (h2 : tk t ≠ 2) (h5 : tk t ≠ 5) (h6 : tk t ≠ 6) : fh_qc t = fh_pc t := by
  funext n
  unfold fh_qc fh_pc
  rw [bs_2 h2, lt_ct h5 h6]
theorem qc_not {t : gP} (h : tk t = 5 ∨ tk t = 6) {n : Nat} (h0 : n ≠ 0) (hn : n < fh_pw t) : fh_qc t n = 1 - fh_pc t n := by
  have hb : fh_bs t = 2 := bs_2 (by omega)
  unfold fh_qc fh_pc
  unfold fh_pw at hn
  rw [hb] at hn ⊢
  rw [lt_not h]
  exact pl_not 2 (tf t) (fh_ct t) n (ct_le t) h0 hn
theorem and_pow (x : Int64) {k : Nat} (hk : k < 63) : (x &&& lN (2 ^ k)) = 0 ↔ x.toBitVec.getLsbD k = false := by
  rw [← Int64.toBitVec_inj, Int64.toBitVec_and, wb_tb]
  have e : BitVec.ofNat 64 (2 ^ k) = BitVec.twoPow 64 k := by
    apply BitVec.eq_of_toNat_eq
    rw [BitVec.toNat_ofNat, BitVec.toNat_twoPow]
  rw [e, BitVec.and_twoPow]
  cases h : x.toBitVec.getLsbD k
  · simp
  · have hp : 2 ^ k < 2 ^ 64 := Nat.pow_lt_pow_right (by omega) (by omega)
    have hp0 : 0 < 2 ^ k := Nat.two_pow_pos k
    simp only [if_true, Bool.true_eq_false, iff_false]
    intro h1
    have h2 := congrArg BitVec.toNat h1
    rw [BitVec.toNat_twoPow, Nat.mod_eq_of_lt hp] at h2
    have h3 : (0 : Int64).toBitVec.toNat = 0 := rfl
    omega
theorem w_bit (w l : Nat) (hl : l < 64) : (lN w).toBitVec.getLsbD l = decide (w / 2 ^ l % 2 = 1) := by
  rw [wb_tb, BitVec.getLsbD_ofNat, Nat.testBit_eq_decide_div_mod_eq]
  simp [hl]
theorem x_letters {I : gI} {J : gJ} {R : gR} {L : List Nat} {S : gS} {z i : Nat} {t : gP} (hS : S z = xV t i) (ok : stok t) {Q : Int64 → Prop} (hQ : ∀ x : Int64, (∀ l, l < 64 → x.toBitVec.getLsbD l = decide (fh_lt t l = 1)) → Q x) : wv_creaseLetters z I J R L S Q := by
  have hk6 := ok.1
  have hw := tw_b ok
  have ha := ok.2.1
  have e1 : sC (S z) = tk t := by rw [hS]; rfl
  have e2 : sW (S z) = lN (tw t) := by rw [hS]; rfl
  have e3 : sA (S z) = nI (ta t) := by rw [hS]; rfl
  have plain : tk t ≠ 1 → tk t ≠ 5 → tk t ≠ 6 → Q (lN (tw t)) := by
    intro n1 n5 n6
    refine hQ _ (fun l hl => ?_)
    rw [w_bit _ _ hl]
    unfold fh_lt
    rw [if_neg n1, if_neg (by omega)]
  have glass : tk t = 5 ∨ tk t = 6 → Q (lN (tw t) ^^^ (-1)) := by
    intro n5
    refine hQ _ (fun l hl => ?_)
    have em : ((-1 : Int64)).toBitVec = BitVec.allOnes 64 := rfl
    rw [Int64.toBitVec_xor, em, BitVec.getLsbD_xor, w_bit _ _ hl, BitVec.getLsbD_allOnes]
    unfold fh_lt
    rw [if_neg (by omega), if_pos n5]
    rcases Nat.mod_two_eq_zero_or_one (tw t / 2 ^ l) with h | h <;> rw [h] <;> simp [hl]
  unfold wv_creaseLetters wX7_creaseLetters wX3_creaseLetters wX9_creaseLetters
  rw [e1, e2, e3]
  refine ⟨fun k1 => ?_, fun n1 => ⟨fun k2 => plain (by omega) (by omega) (by omega), fun n2 => ⟨fun k3 => plain (by omega) (by omega) (by omega), fun n3 => ⟨fun k4 => plain (by omega) (by omega) (by omega), fun n4 => ⟨fun k5 => glass (Or.inl k5), fun n5 => ⟨fun k6 => glass (Or.inr k6), fun n6 => plain n1 n5 n6⟩⟩⟩⟩⟩⟩
  have e : nI (ta t) % 2 = nI (ta t % 2) := pk_iMod (b := 2) (by omega) (by omega)
  have e0 : nI (ta t % 2) = 0 ↔ ta t % 2 = 0 := nI_eq (b := 0) (by omega) (by omega)
  rw [e, e0]
  refine ⟨fun h => hQ _ (fun l hl => ?_), fun h => hQ _ (fun l hl => ?_)⟩
  · have em : ((-1 : Int64)).toBitVec = BitVec.allOnes 64 := rfl
    rw [em, BitVec.getLsbD_allOnes]
    unfold fh_lt
    rw [if_pos k1]
    have : ta t % 2 = 1 := by omega
    simp [hl, this]
  · have em : ((0 : Int64)).toBitVec = 0#64 := rfl
    rw [em, BitVec.getLsbD_zero]
    unfold fh_lt
    rw [if_pos k1, h]
    rfl
theorem x_toward9 {I : gI} {J : gJ} {R : gR} {L : List Nat} {S : gS} {z i : Nat} {t : gP} (hS : S z = xV t i) (ok : stok t) {l : Nat} (hl : l < 64) {Q : Int32 → Prop} (hQ : Q (zI (fh_sg (fh_lt t l)))) : wX9_toward z (nI l) I J R L S Q := by
  unfold wX9_toward
  refine x_letters hS ok (fun x hx => ?_)
  have h := bit_r x hl
  rw [hx l hl] at h
  rw [h]
  unfold fh_sg at hQ
  by_cases h1 : fh_lt t l = 1
  · rw [if_pos h1] at hQ
    rw [decide_eq_true h1]
    exact ⟨fun k => absurd rfl k, fun _ => hQ⟩
  · rw [if_neg h1] at hQ
    rw [decide_eq_false h1]
    exact ⟨fun _ => hQ, fun k => absurd k (by decide)⟩
theorem v_same {c : Nat} {A : Prop} (h : A) : (c = 1 → A) ∧ (¬ c = 1 → (c = 2 → A) ∧ (¬ c = 2 → (c = 3 → A) ∧ (¬ c = 3 → (c = 4 → A) ∧ (¬ c = 4 → (c = 5 → A) ∧ (¬ c = 5 → (c = 6 → A) ∧ (¬ c = 6 → A)))))) :=
  ⟨fun _ => h, fun _ => ⟨fun _ => h, fun _ => ⟨fun _ => h, fun _ => ⟨fun _ => h, fun _ => ⟨fun _ => h, fun _ => ⟨fun _ => h, fun _ => h⟩⟩⟩⟩⟩⟩
theorem v_kind {c : Nat} (hc : c ≤ 6) {A0 A1 A2 A3 A4 A5 A6 : Prop} (h0 : c = 0 → A0) (h1 : c = 1 → A1) (h2 : c = 2 → A2) (h3 : c = 3 → A3) (h4 : c = 4 → A4) (h5 : c = 5 → A5) (h6 : c = 6 → A6) : (c = 1 → A1) ∧ (¬ c = 1 → (c = 2 → A2) ∧ (¬ c = 2 → (c = 3 → A3) ∧ (¬ c = 3 → (c = 4 → A4) ∧ (¬ c = 4 → (c = 5 → A5) ∧ (¬ c = 5 → (c = 6 → A6) ∧ (¬ c = 6 → A0)))))) :=
  ⟨h1, fun _ => ⟨h2, fun _ => ⟨h3, fun _ => ⟨h4, fun _ => ⟨h5, fun _ => ⟨h6, fun _ => h0 (by omega)⟩⟩⟩⟩⟩⟩
theorem x_toward {I : gI} {J : gJ} {R : gR} {L : List Nat} {S : gS} {z i : Nat} {t : gP} (hS : S z = xV t i) (ok : stok t) {l : Nat} (hl : l < 64) {Q : Int32 → Prop} (hQ : Q (zI (fh_sg (fh_lt t l)))) : wv_toward z (nI l) I J R L S Q := v_same (x_toward9 hS ok hl hQ)
theorem x_letter {I : gI} {J : gJ} {R : gR} {L : List Nat} {S : gS} {z i : Nat} {t : gP} (hS : S z = xV t i) (ok : stok t) {l : Nat} (hl : l < 64) {Q : Int32 → Prop} (hQ : Q (nI (tw t / 2 ^ l % 2))) : wX9_letter z (nI l) I J R L S Q := by
  have hw := tw_b ok
  have e2 : sW (S z) = lN (tw t) := by rw [hS]; rfl
  unfold wX9_letter
  rw [e2, sh_r (by omega) hl, g_and1 (Nat.lt_of_le_of_lt (Nat.div_le_self _ _) (by omega)), lN_i]
  exact hQ
theorem x_leftOver9 {I : gI} {J : gJ} {R : gR} {L : List Nat} {S : gS} {z i : Nat} {t : gP} (hS : S z = xV t i) (ok : stok t) {n l : Nat} (hn : n < 1152921504606846976) (hl : l < 64) {Q : Int32 → Prop} (hQ : Q (zI (fh_tm 2 (fh_lt t) n l))) : wX9_leftOver z (lN n) (nI l) I J R L S Q := by
  have hm : n / 2 ^ l < 1152921504606846976 := Nat.lt_of_le_of_lt (Nat.div_le_self _ _) hn
  have e : ((lN n >>> ((nI l).toInt64 &&& 63)) + 1) / 2 % 2 = lN ((n / 2 ^ l + 1) / 2 % 2) := by
    rw [sh_r (by omega) hl]
    show (lN (n / 2 ^ l) + lN 1) / lN 2 % lN 2 = _
    rw [lN_add, pk_lDv (by omega) (by omega), pk_lMod (by omega) (by omega)]
  have e1 : lN ((n / 2 ^ l + 1) / 2 % 2) = 1 ↔ (n / 2 ^ l + 1) / 2 % 2 = 1 := pk_lEQ (b := 1) (by omega) (by omega)
  unfold wX9_leftOver
  rw [e, e1]
  rw [tm2] at hQ
  refine ⟨fun h => ?_, fun h => x_toward hS ok hl ?_⟩
  · rw [if_neg (by omega)] at hQ
    exact hQ
  · rw [if_pos (by omega)] at hQ
    exact hQ
theorem x_leftOver {I : gI} {J : gJ} {R : gR} {L : List Nat} {S : gS} {z i : Nat} {t : gP} (hS : S z = xV t i) (ok : stok t) {n l : Nat} (hn : n < 1152921504606846976) (hl : l < 64) {Q : Int32 → Prop} (hQ : Q (zI (fh_tm 2 (fh_lt t) n l))) : wv_leftOver z (lN n) (nI l) I J R L S Q := v_same (x_leftOver9 hS ok hn hl hQ)
theorem x_way9 {I : gI} {J : gJ} {R : gR} {L : List Nat} {S : gS} {z i : Nat} {t : gP} (hS : S z = xV t i) (ok : stok t) {n : Nat} (hn : n < 2 ^ tf t) {Q : Int32 → Prop} (hQ : Q (nI (fh_dr (fh_qc t) n % 4).toNat)) : wX9_wayBehind z (lN n) I J R L S Q := by
  have hf := ok.2.2.2.1
  have hn2 : n < 1099511627776 := Nat.lt_of_lt_of_le hn (pw_2 hf)
  have e2 : sL (S z) = nI (tf t) := by rw [hS]; rfl
  have ed : fh_dr (fh_qc t) n = fb_si (fh_tm 2 (fh_lt t) n) (tf t) := dr_sum2 _ _ _ (lt_le t) hn
  rw [ed] at hQ
  have key : ∀ g k : Nat, g + k = tf t → wX9_wayBehind_l5 z I J R L S Q (g + 1) (lN n) (zI (fb_si (fh_tm 2 (fh_lt t) n) k)) (nI k) := by
    intro g
    induction g with
    | zero =>
      intro k e
      obtain rfl : k = tf t := by omega
      show wX9_wayBehind_b5 z I J R L S _ _ _ _ Q
      unfold wX9_wayBehind_b5
      rw [e2]
      refine br_t (nI_le (Nat.le_refl _) (by omega)) ?_
      rw [zI_a3]
      exact hQ
    | succ g ih =>
      intro k e
      show wX9_wayBehind_b5 z I J R L S _ _ _ _ Q
      unfold wX9_wayBehind_b5
      rw [e2]
      refine br_f (nI_ge (by omega) (by omega)) (x_leftOver hS ok (by omega) (by omega) ?_)
      rw [zI_add, nI_1]
      exact ih (k + 1) (by omega)
  exact ⟨tf t + 1, key (tf t) 0 (by omega)⟩
/-! how many creases -/
theorem x_count9 {I : gI} {J : gJ} {R : gR} {L : List Nat} {S : gS} {z i : Nat} {t : gP} (hS : S z = xV t i) (ok : stok t) {Q : Int64 → Prop} (hQ : Q (lN (2 ^ tf t - 1))) : wX9_creaseCount z I J R L S Q := by
  have hf := ok.2.2.2.1
  have e2 : sL (S z) = nI (tf t) := by rw [hS]; rfl
  have e1 : (1 : Int64) = lN 1 := rfl
  unfold wX9_creaseCount
  rw [e2, sh_l1 (by omega), e1, lN_sub (Nat.two_pow_pos _)]
  exact hQ
theorem x_count10 {I : gI} {J : gJ} {R : gR} {L : List Nat} {S : gS} {z i : Nat} {t : gP} (hS : S z = xV t i) (ok : stok t) {Q : Int64 → Prop} (hQ : Q (lN (3 ^ tf t - 1))) : wX10_creaseCount z I J R L S Q := by
  have hf := ok.2.2.2.1
  have e2 : sL (S z) = nI (tf t) := by rw [hS]; rfl
  have e1 : (1 : Int64) = lN 1 := rfl
  have key : ∀ g k : Nat, g + k = tf t → wX10_creaseCount_l4 z I J R L S Q (g + 1) (lN (3 ^ k)) (nI k) := by
    intro g
    induction g with
    | zero =>
      intro k e
      obtain rfl : k = tf t := by omega
      show wX10_creaseCount_b4 z I J R L S _ _ _ Q
      unfold wX10_creaseCount_b4
      rw [e2]
      refine br_t (nI_le (Nat.le_refl _) (by omega)) ?_
      rw [e1, lN_sub (Nat.pow_pos (by omega))]
      exact hQ
    | succ g ih =>
      intro k e
      show wX10_creaseCount_b4 z I J R L S _ _ _ Q
      unfold wX10_creaseCount_b4
      rw [e2]
      refine br_f (nI_ge (by omega) (by omega)) ?_
      have e3 : lN (3 ^ k) * 3 = lN (3 ^ (k + 1)) := by
        rw [Nat.pow_succ]
        exact lN_mul _ 3
      rw [e3, nI_1]
      exact ih (k + 1) (by omega)
  exact ⟨tf t + 1, key (tf t) 0 (by omega)⟩
theorem cs_p {t : gP} (h : ¬ (tk t = 3 ∨ tk t = 4)) : fh_cs t = fh_pw t - 1 := by
  unfold fh_cs
  rw [cu_0 h]
  rfl
theorem x_count2 {I : gI} {J : gJ} {R : gR} {L : List Nat} {S : gS} {z i : Nat} {t : gP} (hS : S z = xV t i) (ok : stok t) (hk : tk t = 3 ∨ tk t = 4) {Q : Int64 → Prop} (hQ : Q (lN (fh_cs t))) : wX2_creaseCount z I J R L S Q := by
  have e2 : sF (S z) = lN (fh_cu t) := by rw [hS]; rfl
  have hc := cu_lt ok
  have ew : 2 ^ tf t - 1 = fh_wh t := by
    unfold fh_wh fh_pw
    rw [bs_2 (by omega)]
  refine x_count9 hS ok ?_
  rw [e2, ew, lN_sub (by omega)]
  exact hQ
theorem x_count {I : gI} {J : gJ} {R : gR} {L : List Nat} {S : gS} {z i : Nat} {t : gP} (hS : S z = xV t i) (ok : stok t) {Q : Int64 → Prop} (hQ : Q (lN (fh_cs t))) : wv_creaseCount z I J R L S Q := by
  have hk6 := ok.1
  have e1 : sC (S z) = tk t := by rw [hS]; rfl
  have pl : ¬ (tk t = 3 ∨ tk t = 4) → tk t ≠ 2 → wX9_creaseCount z I J R L S Q := by
    intro h h2
    refine x_count9 hS ok ?_
    rw [cs_p h] at hQ
    unfold fh_pw at hQ
    rw [bs_2 h2] at hQ
    exact hQ
  unfold wv_creaseCount
  rw [e1]
  refine v_kind hk6 (fun _ => pl (by omega) (by omega)) (fun _ => pl (by omega) (by omega)) (fun h => ?_) (fun h => x_count2 hS ok (Or.inl h) hQ) (fun h => x_count2 hS ok (Or.inr h) hQ) (fun _ => pl (by omega) (by omega)) (fun _ => pl (by omega) (by omega))
  refine x_count10 hS ok ?_
  rw [cs_p (by omega)] at hQ
  unfold fh_pw at hQ
  rw [bs_3 h] at hQ
  exact hQ
theorem x_sides9 {I : gI} {J : gJ} {R : gR} {L : List Nat} {S : gS} {z i : Nat} {t : gP} (hS : S z = xV t i) (ok : stok t) {Q : Int64 → Prop} (hQ : Q (lN (fh_cs t + 1))) : wX9_sides z I J R L S Q := by
  refine x_count hS ok ?_
  rw [lN_1]
  exact hQ
theorem x_sides {I : gI} {J : gJ} {R : gR} {L : List Nat} {S : gS} {z i : Nat} {t : gP} (hS : S z = xV t i) (ok : stok t) {Q : Int64 → Prop} (hQ : Q (lN (fh_cs t + 1))) : wv_sides z I J R L S Q := v_same (x_sides9 hS ok hQ)
theorem x_cutOff {I : gI} {J : gJ} {R : gR} {L : List Nat} {S : gS} {z i : Nat} {t : gP} (hS : S z = xV t i) (ok : stok t) {Q : Int64 → Prop} (hQ : Q (lN (fh_cu t))) : wv_cutOff z I J R L S Q := by
  have hk6 := ok.1
  have e1 : sC (S z) = tk t := by rw [hS]; rfl
  have e2 : sF (S z) = lN (fh_cu t) := by rw [hS]; rfl
  have pl : ¬ (tk t = 3 ∨ tk t = 4) → Q 0 := by
    intro h
    rw [cu_0 h] at hQ
    exact hQ
  unfold wv_cutOff wX9_cutOff wX2_cutOff
  rw [e1, e2]
  exact v_kind hk6 (fun _ => pl (by omega)) (fun _ => pl (by omega)) (fun _ => pl (by omega)) (fun _ => hQ) (fun _ => hQ) (fun _ => pl (by omega)) (fun _ => pl (by omega))
/-! creases -/
theorem x_crease9 {I : gI} {J : gJ} {R : gR} {L : List Nat} {S : gS} {z i : Nat} {t : gP} (hS : S z = xV t i) (ok : stok t) {n : Nat} (h0 : 0 < n) (hn : n < 2 ^ tf t) {Q : Int32 → Prop} (hQ : Q (nI (fh_qc t n))) : wX9_creaseAt z (lN n) I J R L S Q := by
  have hf := ok.2.2.2.1
  have hn2 : n < 1099511627776 := Nat.lt_of_lt_of_le hn (pw_2 hf)
  obtain ⟨k, q, hk, rfl⟩ := od_val (tf t) n h0 hn
  unfold fh_qc at hQ
  rw [pl_val k (tf t) (fh_lt t) q hk] at hQ
  have hl := lt_le t k
  have el := low_b k q (by omega) (by omega)
  have e2 : lN (2 ^ k) <<< (((1 : Int32)).toInt64 &&& 63) = lN (2 ^ (k + 1)) := by
    rw [Nat.pow_succ]
    exact sh_l (2 ^ k) (k := 1) (by omega)
  have hq : 2 ^ k * (2 * q + 1) / 2 ^ (k + 1) % 2 = q % 2 := by
    rw [Nat.pow_succ, ← Nat.div_div_eq_div_mul, Nat.mul_div_cancel_left _ (Nat.two_pow_pos k)]
    omega
  have e3 : (lN (2 ^ k * (2 * q + 1)) &&& lN (2 ^ (k + 1))) = 0 ↔ q % 2 = 0 := by
    rw [fb_bitL (by omega), Nat.testBit_eq_decide_div_mod_eq, hq]
    simp
  have c21 : ∀ s : Nat, s = fh_lt t k → wX9_creaseAt_c21 z I J R L S (lN (2 ^ k * (2 * q + 1))) (lN (2 ^ k)) (nI s) Q := by
    intro s hs
    subst hs
    unfold wX9_creaseAt_c21
    rw [e2, e3]
    have es : (1 : Int32) - nI (fh_lt t k) = nI (1 - fh_lt t k) := pk_sub (a := 1) hl
    rw [es]
    refine ⟨fun h => ?_, fun h => ?_⟩
    · rw [if_neg h] at hQ; exact hQ
    · rw [if_pos h] at hQ; exact hQ
  unfold wX9_creaseAt
  refine x_letters hS ok (fun x hx => ?_)
  rw [el, and_pow x (by omega), hx k (by omega)]
  refine ⟨fun h => c21 0 ?_, fun h => c21 1 ?_⟩
  · have := of_decide_eq_false h
    omega
  · by_cases h1 : fh_lt t k = 1
    · exact h1.symm
    · exact absurd (decide_eq_false h1) h
theorem x_crease10_l {I : gI} {J : gJ} {R : gR} {L : List Nat} {S : gS} {z i : Nat} {t : gP} (hS : S z = xV t i) (ok : stok t) (h2 : tk t = 2) {Q : Int32 → Prop} : ∀ (g k m : Nat), g + 1 + k = tf t → 0 < m → m < 3 ^ (g + 1) → Q (nI (fh_pl 3 (g + 1) (fun j => fh_ct t (j + k)) m)) → wX10_creaseAt_l5 z I J R L S Q (g + 1) (lN m) (nI k) := by
  have hf := ok.2.2.2.1
  have hf1 := ok.2.2.1
  have e2 : sL (S z) = nI (tf t) := by rw [hS]; rfl
  have e1 : nI (tf t) - 1 = nI (tf t - 1) := pk_sub (b := 1) hf1
  have c38 : ∀ (g k m : Nat), k < 64 → m < 2 ^ 62 → m % 3 ≠ 0 → Q (nI (fh_pl 3 (g + 1) (fun j => fh_ct t (j + k)) m)) → wX10_creaseAt_c38 z I J R L S (lN m) (nI k) Q := by
    intro g k m hk hm h3 hQ
    have e3 : lN m % 3 = lN (m % 3) := pk_lMod (b := 3) (by omega) (by omega)
    have e4 : lN (m % 3) = 1 ↔ m % 3 = 1 := pk_lEQ (b := 1) (by omega) (by omega)
    rw [pl_3n g _ h3, Nat.zero_add] at hQ
    have ec : fh_ct t k = tw t / 2 ^ k % 2 := by
      unfold fh_ct
      rw [if_neg (by omega)]
    have es : (1 : Int32) - nI (tw t / 2 ^ k % 2) = nI (1 - tw t / 2 ^ k % 2) := pk_sub (a := 1) (by omega)
    unfold wX10_creaseAt_c38
    rw [e3, e4]
    rw [ec] at hQ
    refine ⟨fun h => x_letter hS ok hk ?_, fun h => x_letter hS ok hk ?_⟩
    · rw [if_neg h] at hQ
      rw [es]
      exact hQ
    · rw [if_pos h] at hQ
      exact hQ
  have hmb : ∀ g m k : Nat, g + 1 + k = tf t → m < 3 ^ (g + 1) → m < 2 ^ 62 := by
    intro g m k e hm
    have h1 : 3 ^ (g + 1) ≤ 3 ^ tf t := Nat.pow_le_pow_right (by omega) (by omega)
    have h3 := pw_3 (ok.2.2.2.2.1 h2)
    omega
  intro g
  induction g with
  | zero =>
    intro k m e h0 hm hQ
    have hm2 := hmb 0 m k e hm
    show wX10_creaseAt_b5 z I J R L S _ _ _ Q
    unfold wX10_creaseAt_b5
    rw [e2, e1]
    refine br_t (nI_le (by omega) (by omega)) (c38 0 k m (by omega) hm2 ?_ hQ)
    rw [Nat.zero_add, Nat.pow_one] at hm
    omega
  | succ g ih =>
    intro k m e h0 hm hQ
    have hm2 := hmb (g + 1) m k e hm
    have e3 : lN m % 3 = lN (m % 3) := pk_lMod (b := 3) (by omega) (by omega)
    have e4 : lN (m % 3) = 0 ↔ m % 3 = 0 := pk_lEQ (b := 0) (by omega) (by omega)
    have e5 : lN m / 3 = lN (m / 3) := pk_lDv (b := 3) (by omega) (by omega)
    show wX10_creaseAt_b5 z I J R L S _ _ _ Q
    unfold wX10_creaseAt_b5
    rw [e2, e1, e3, e4, e5]
    refine br_f (nI_ge (by omega) (by omega)) ⟨fun h => c38 (g + 1) k m (by omega) hm2 h hQ, fun h => ?_⟩
    rw [nI_1]
    refine ih (k + 1) (m / 3) (by omega) (by omega) ?_ ?_
    · rw [Nat.pow_succ] at hm
      omega
    · rw [fh_pl, if_pos h] at hQ
      have ef : (fun j => fh_ct t (j + (k + 1))) = (fun j => fh_ct t (j + 1 + k)) := by
        funext j
        rw [Nat.add_right_comm, Nat.add_assoc]
      rw [ef]
      exact hQ
theorem x_crease2 {I : gI} {J : gJ} {R : gR} {L : List Nat} {S : gS} {z i : Nat} {t : gP} (hS : S z = xV t i) (ok : stok t) (hk : tk t = 3 ∨ tk t = 4) {n : Nat} (h0 : 0 < n + fh_cu t) (hn : n + fh_cu t < fh_pw t) {Q : Int32 → Prop} (hQ : Q (nI (fh_pc t (n + fh_cu t)))) : wX2_creaseAt z (lN n) I J R L S Q := by
  have e2 : sF (S z) = lN (fh_cu t) := by rw [hS]; rfl
  unfold wX2_creaseAt
  rw [e2, lN_add]
  unfold fh_pw at hn
  rw [bs_2 (by omega)] at hn
  refine x_crease9 hS ok h0 hn ?_
  rw [qc_pc (by omega) (by omega) (by omega)]
  exact hQ
theorem x_crease {I : gI} {J : gJ} {R : gR} {L : List Nat} {S : gS} {z i : Nat} {t : gP} (hS : S z = xV t i) (ok : stok t) {n : Nat} (h0 : 0 < n) (hn : n ≤ fh_cs t) {Q : Int32 → Prop} (hQ : Q (nI (fh_cr t n))) : wv_creaseAt z (lN n) I J R L S Q := by
  have hk6 := ok.1
  have hcs := cs_ge ok
  have hpw := pw_le ok
  have e1 : sC (S z) = tk t := by rw [hS]; rfl
  have pw2 : tk t ≠ 2 → fh_pw t = 2 ^ tf t := by
    intro h
    unfold fh_pw
    rw [bs_2 h]
  have pl : tk t ≠ 2 → tk t ≠ 3 → tk t ≠ 4 → tk t ≠ 5 → tk t ≠ 6 → wX9_creaseAt z (lN n) I J R L S Q := by
    intro n2 n3 n4 n5 n6
    rw [cr_n n3 n4 n5 n6] at hQ
    refine x_crease9 hS ok h0 (by rw [← pw2 n2]; omega) ?_
    rw [qc_pc n2 n5 n6]
    exact hQ
  have gl : tk t = 5 ∨ tk t = 6 → Q (nI (1 - fh_pc t n)) → wX9_creaseAt z (lN n) I J R L S Q := by
    intro h hQ
    refine x_crease9 hS ok h0 (by rw [← pw2 (by omega)]; omega) ?_
    rw [qc_not h (by omega) (by omega)]
    exact hQ
  unfold wv_creaseAt
  rw [e1]
  refine v_kind hk6 (fun _ => pl (by omega) (by omega) (by omega) (by omega) (by omega)) (fun _ => pl (by omega) (by omega) (by omega) (by omega) (by omega)) (fun h => ?_) (fun h => ?_) (fun h => ?_) (fun h => ?_) (fun h => ?_)
  · rw [cr_n (by omega) (by omega) (by omega) (by omega)] at hQ
    unfold fh_pc at hQ
    rw [bs_3 h] at hQ
    obtain ⟨g, hg⟩ : ∃ g, tf t = g + 1 := ⟨tf t - 1, by have := ok.2.2.1; omega⟩
    refine ⟨g + 1, x_crease10_l hS ok h g 0 n (by omega) h0 ?_ ?_⟩
    · unfold fh_pw at hcs
      rw [bs_3 h, hg] at hcs
      omega
    · rw [hg] at hQ
      exact hQ
  · rw [pc_pos h] at hQ
    exact x_crease2 hS ok (Or.inl h) (by omega) (by omega) hQ
  · rw [cr_4 h] at hQ
    unfold wX0_creaseAt
    refine x_sides9 hS ok ?_
    rw [lN_sub (by omega)]
    refine x_crease2 hS ok (Or.inr h) (by omega) (by omega) ?_
    have es : (1 : Int32) - nI (fh_pc t (fh_cs t + 1 - n + fh_cu t)) = nI (1 - fh_pc t (fh_cs t + 1 - n + fh_cu t)) := pk_sub (a := 1) (pc_le t _)
    rw [es, show fh_cs t + 1 - n + fh_cu t = fh_pw t - n by omega]
    exact hQ
  · rw [cr_5 h] at hQ
    exact gl (Or.inl h) hQ
  · have e4 : lN n % 4 = lN (n % 4) := pk_lMod (b := 4) (by omega) (by omega)
    have e0 : lN (n % 4) = 0 ↔ n % 4 = 0 := pk_lEQ (b := 0) (by omega) (by omega)
    unfold wX5_creaseAt
    unfold fh_cr at hQ
    rw [if_neg (by omega), if_neg (by omega), if_neg (by omega), if_pos h] at hQ
    rw [e4, e0]
    refine ⟨fun h4 => ?_, fun h4 => ?_⟩
    · rw [if_neg h4] at hQ
      exact gl (Or.inr h) hQ
    · rw [if_pos h4] at hQ
      exact hQ
