/-! the class's way and place -/
theorem a3_nI {a : Int} : zI a &&& 3 = nI (a % 4).toNat := zI_a3 a
theorem pw_n2 {t : gP} (h : tk t ≠ 2) : fh_pw t = 2 ^ tf t := by
  unfold fh_pw
  rw [bs_2 h]
theorem x_way10 {I : gI} {J : gJ} {R : gR} {L : List Nat} {S : gS} {z i : Nat} {t : gP} (hS : S z = xV t i) (ok : stok t) (h2 : tk t = 2) {n : Nat} (hn : n < fh_pw t) {Q : Int32 → Prop} (hQ : Q (nI (fh_dr (fh_pc t) n % 4).toNat)) : wX10_wayBehind z (lN n) I J R L S Q := by
  have hf := ok.2.2.2.1
  have hn2 : n < 1099511627776 := Nat.lt_of_lt_of_le hn (pw_le ok)
  have e2 : sL (S z) = nI (tf t) := by rw [hS]; rfl
  have ed := dr_pc hn
  rw [bs_3 h2] at ed
  rw [ed] at hQ
  have hlc : fh_lt t = fh_ct t := lt_ct (by omega) (by omega)
  have key : ∀ g k : Nat, g + k = tf t → wX10_wayBehind_l8 z I J R L S Q (g + 1) (lN (n / 3 ^ k)) (zI (fb_si (fh_tm 3 (fh_ct t) n) k)) (nI k) := by
    intro g
    induction g with
    | zero =>
      intro k e
      obtain rfl : k = tf t := by omega
      show wX10_wayBehind_b8 z I J R L S _ _ _ _ Q
      unfold wX10_wayBehind_b8
      rw [e2]
      refine br_t (nI_le (Nat.le_refl _) (by omega)) ?_
      rw [zI_a3]
      exact hQ
    | succ g ih =>
      intro k e
      have next := ih (k + 1) (by omega)
      rw [fb_si_succ, tm3, Nat.pow_succ, ← Nat.div_div_eq_div_mul] at next
      have hm : n / 3 ^ k < 1099511627776 := Nat.lt_of_le_of_lt (Nat.div_le_self _ _) hn2
      generalize n / 3 ^ k = m at *
      have e3 : lN m % 3 = lN (m % 3) := pk_lMod (b := 3) (by omega) (by omega)
      have e4 : lN (m % 3) = 1 ↔ m % 3 = 1 := pk_lEQ (b := 1) (by omega) (by omega)
      have e5 : lN m / 3 = lN (m / 3) := pk_lDv (b := 3) (by omega) (by omega)
      show wX10_wayBehind_b8 z I J R L S _ _ _ _ Q
      unfold wX10_wayBehind_b8
      rw [e2, e3, e4, e5, nI_1]
      refine br_f (nI_ge (by omega) (by omega)) ⟨fun h => ?_, fun h => x_toward9 hS ok (by omega) ?_⟩
      · rw [if_neg h, Int.add_zero] at next
        exact next
      · rw [if_pos h] at next
        rw [zI_add, hlc]
        exact next
  have k0 := key (tf t) 0 (by omega)
  rw [Nat.pow_zero, Nat.div_one] at k0
  exact ⟨tf t + 1, k0⟩
theorem sub_a3 (a b : Int) : (nI (a % 4).toNat - nI (b % 4).toNat) &&& 3 = nI ((a - b) % 4).toNat := by
  rw [zI_n, zI_n, zI_sub, zI_a3]
  congr 1
  omega
theorem x_way2 {I : gI} {J : gJ} {R : gR} {L : List Nat} {S : gS} {z i : Nat} {t : gP} (hS : S z = xV t i) (ok : stok t) (hk : tk t = 3 ∨ tk t = 4) {n : Nat} (hn : n + fh_cu t < fh_pw t) {Q : Int32 → Prop} (hQ : Q (nI ((fh_dr (fh_pc t) (n + fh_cu t) - fh_dr (fh_pc t) (fh_cu t)) % 4).toNat)) : wX2_wayBehind z (lN n) I J R L S Q := by
  have e2 : sF (S z) = lN (fh_cu t) := by rw [hS]; rfl
  have e := pw_n2 (t := t) (by omega)
  have eq : fh_qc t = fh_pc t := qc_pc (by omega) (by omega) (by omega)
  unfold wX2_wayBehind
  rw [e2, lN_add]
  refine x_way9 hS ok (by rw [← e]; exact hn) (x_way9 hS ok (by rw [← e]; omega) ?_)
  rw [sub_a3, eq]
  exact hQ
theorem x_way {I : gI} {J : gJ} {R : gR} {L : List Nat} {S : gS} {z i : Nat} {t : gP} (hS : S z = xV t i) (ok : stok t) {n : Nat} (hn : n ≤ fh_cs t) {Q : Int32 → Prop} (hQ : Q (nI (fh_dr (fh_cr t) n % 4).toNat)) : wv_wayBehind z (lN n) I J R L S Q := by
  have hk6 := ok.1
  have hcs := cs_ge ok
  have hpw := pw_le ok
  have hwh := wh_ge ok
  have e1 : sC (S z) = tk t := by rw [hS]; rfl
  have pl : tk t ≠ 2 → tk t ≠ 3 → tk t ≠ 4 → tk t ≠ 5 → tk t ≠ 6 → wX9_wayBehind z (lN n) I J R L S Q := by
    intro n2 n3 n4 n5 n6
    rw [cr_n n3 n4 n5 n6] at hQ
    refine x_way9 hS ok (by rw [← pw_n2 n2]; omega) ?_
    rw [qc_pc n2 n5 n6]
    exact hQ
  unfold wv_wayBehind
  rw [e1]
  refine v_kind hk6 (fun _ => pl (by omega) (by omega) (by omega) (by omega) (by omega)) (fun _ => pl (by omega) (by omega) (by omega) (by omega) (by omega)) (fun h => ?_) (fun h => ?_) (fun h => ?_) (fun h => ?_) (fun h => ?_)
  · rw [cr_n (by omega) (by omega) (by omega) (by omega)] at hQ
    exact x_way10 hS ok h (by omega) hQ
  · rw [pc_pos h, dr_cut] at hQ
    exact x_way2 hS ok (Or.inl h) (by omega) hQ
  · rw [cr_4 h, dr_back _ (pc_le t) _ _ (by omega)] at hQ
    unfold wX0_wayBehind
    refine x_count2 hS ok (Or.inr h) ?_
    rw [lN_sub (by omega)]
    refine x_way2 hS ok (Or.inr h) (by omega) (x_count2 hS ok (Or.inr h) (x_way2 hS ok (Or.inr h) (by omega) ?_))
    rw [sub_a3, show fh_cs t - n + fh_cu t = fh_pw t - 1 - n by omega, show fh_cs t + fh_cu t = fh_pw t - 1 by omega]
    have e : fh_dr (fh_pc t) (fh_pw t - 1 - n) - fh_dr (fh_pc t) (fh_cu t) - (fh_dr (fh_pc t) (fh_pw t - 1) - fh_dr (fh_pc t) (fh_cu t)) = fh_dr (fh_pc t) (fh_pw t - 1 - n) - fh_dr (fh_pc t) (fh_pw t - 1) := by omega
    rw [e]
    exact hQ
  · refine x_way9 hS ok (by rw [← pw_n2 (by omega)]; omega) ?_
    have e : fh_dr (fh_qc t) n = fh_dr (fh_cr t) n := dr_cong (fun i h1 h2 => by
      rw [qc_not (Or.inl h) (by omega) (by omega), cr_5 h])
    rw [e]
    exact hQ
  · have c0 := ct_le t 0
    have c1 := ct_le t 1
    rw [dr_6 h ok (by omega), lf_dr _ _ (by omega) (by omega)] at hQ
    have hl : fh_lt t = fun l => 1 - fh_ct t l := lt_not (Or.inr h)
    unfold wX5_wayBehind
    refine x_leftOver9 hS ok (l := 0) (by omega) (by omega) (x_leftOver9 hS ok (l := 1) (by omega) (by omega) ?_)
    rw [tm2, tm2, Nat.pow_zero, Nat.div_one, Nat.pow_one, hl]
    have e4 : (lN n / 4 % 4).toInt32 = nI (n / 4 % 4) := by
      have a1 : lN n / 4 = lN (n / 4) := pk_lDv (b := 4) (by omega) (by omega)
      have a2 : lN (n / 4) % 4 = lN (n / 4 % 4) := pk_lMod (b := 4) (by omega) (by omega)
      rw [a1, a2, lN_i]
    rw [e4, zI_n, zI_add, zI_add, zI_a3]
    refine ek_v (P := Q) ?_ hQ
    congr 2
    have e5 : (n / 2 % 4 = 1 ∨ n / 2 % 4 = 2) ↔ (n % 8 = 2 ∨ n % 8 = 3 ∨ n % 8 = 4 ∨ n % 8 = 5) := by omega
    simp only [e5]
    generalize (if n % 4 = 1 ∨ n % 4 = 2 then fh_sg (1 - fh_ct t 0) else 0) = A
    generalize (if n % 8 = 2 ∨ n % 8 = 3 ∨ n % 8 = 4 ∨ n % 8 = 5 then fh_sg (1 - fh_ct t 1) else 0) = B
    omega
/-! a bug stands -/
def sd (J : gJ) (b : Nat) (x y : Int) : gJ := upJ (upJ J 1 b (zL x)) 2 b (zL y)
theorem sd_1 (J : gJ) (b : Nat) (x y : Int) : sd J b x y 1 b = zL x := by
  show upJ J 1 b (zL x) 1 b = _
  rw [upJ_s, upl_s]
theorem sd_2 (J : gJ) (b : Nat) (x y : Int) : sd J b x y 2 b = zL y := by
  unfold sd
  rw [upJ_s, upl_s]
theorem upl_upl (f : Nat → Int64) (k : Nat) (x y : Int64) : vp_updL (vp_updL f k x) k y = vp_updL f k y := by
  funext j
  unfold vp_updL
  split <;> rfl
theorem sd_ext {J J' : gJ} (h : ∀ k, k ≠ 1 → k ≠ 2 → J k = J' k) (h1 : J 1 = J' 1) (h2 : J 2 = J' 2) : J = J' := by
  funext k
  by_cases a : k = 1
  · rw [a]; exact h1
  · by_cases b : k = 2
    · rw [b]; exact h2
    · exact h k a b
theorem sd_k (J : gJ) (b : Nat) (x y : Int) {k : Nat} (h1 : k ≠ 1) (h2 : k ≠ 2) : sd J b x y k = J k := by
  unfold sd
  rw [upJ_n h2, upJ_n h1]
theorem sd_k1 (J : gJ) (b : Nat) (x y : Int) : sd J b x y 1 = vp_updL (J 1) b (zL x) := by
  unfold sd
  rw [upJ_n (by omega), upJ_s]
theorem sd_k2 (J : gJ) (b : Nat) (x y : Int) : sd J b x y 2 = vp_updL (J 2) b (zL y) := by
  unfold sd
  rw [upJ_s, upJ_n (by omega)]
theorem sd_sd (J : gJ) (b : Nat) (x y x' y' : Int) : sd (sd J b x y) b x' y' = sd J b x' y' := by
  apply sd_ext
  · intro k h1 h2
    rw [sd_k _ _ _ _ h1 h2, sd_k _ _ _ _ h1 h2, sd_k _ _ _ _ h1 h2]
  · rw [sd_k1, sd_k1, sd_k1, upl_upl]
  · rw [sd_k2, sd_k2, sd_k2, upl_upl]
theorem sd_x (J : gJ) (b : Nat) (x y x' : Int) : upJ (sd J b x y) 1 b (zL x') = sd J b x' y := by
  apply sd_ext
  · intro k h1 h2
    rw [upJ_n h1, sd_k _ _ _ _ h1 h2, sd_k _ _ _ _ h1 h2]
  · rw [upJ_s, sd_k1, sd_k1, upl_upl]
  · rw [upJ_n (by omega), sd_k2, sd_k2]
theorem sd_y (J : gJ) (b : Nat) (x y y' : Int) : upJ (sd J b x y) 2 b (zL y') = sd J b x y' := by
  apply sd_ext
  · intro k h1 h2
    rw [upJ_n h2, sd_k _ _ _ _ h1 h2, sd_k _ _ _ _ h1 h2]
  · rw [upJ_n (by omega), sd_k1, sd_k1]
  · rw [upJ_s, sd_k2, sd_k2, upl_upl]
section SD
variable {I : gI} {J : gJ} {R : gR} {L : List Nat} {S : gS} {b : Nat} {x y : Int} {Q : gI → gJ → gR → Prop}
theorem x_stand (hQ : Q I (sd J b x y) R) : wX1_standAt b (zL x) (zL y) I J R L S Q := by
  rintro J1 rfl J3 rfl
  exact hQ
theorem x_goOn {w : Int} (hQ : Q I (sd J b (x + fh_ux w) (y + fh_uy w)) R) : wX1_goOn b (zI w) I (sd J b x y) R L S Q := by
  have hb : (w % 4).toNat < 4 := by omega
  have E : ∀ c : Nat, c < 4 → ((zI w &&& 3) = nI c ↔ (w % 4).toNat = c) := by
    intro c hc
    rw [zI_a3]
    exact nI_eq (by omega) (by omega)
  have u := u_cases w
  unfold wX1_goOn
  rw [sd_1, sd_2]
  refine ⟨fun h => ?_, fun h0 => ⟨fun h => ?_, fun h1 => ⟨fun h => ?_, fun h2 => ?_⟩⟩⟩
  · have h := (E 0 (by omega)).mp h
    rintro J2 rfl
    rw [zL_1, zL_add, sd_x]
    rw [show x + fh_ux w = x + 1 by omega, show y + fh_uy w = y by omega] at hQ
    exact hQ
  · have h := (E 1 (by omega)).mp h
    rintro J2 rfl
    rw [zL_1, zL_add, sd_y]
    rw [show x + fh_ux w = x by omega, show y + fh_uy w = y + 1 by omega] at hQ
    exact hQ
  · have h := (E 2 (by omega)).mp h
    rintro J2 rfl
    rw [zL_1, zL_sub, sd_x]
    rw [show x + fh_ux w = x - 1 by omega, show y + fh_uy w = y by omega] at hQ
    exact hQ
  · have n0 : (w % 4).toNat ≠ 0 := fun e => h0 ((E 0 (by omega)).mpr e)
    have n1 : (w % 4).toNat ≠ 1 := fun e => h1 ((E 1 (by omega)).mpr e)
    have n2 : (w % 4).toNat ≠ 2 := fun e => h2 ((E 2 (by omega)).mpr e)
    rintro J2 rfl
    rw [zL_1, zL_sub, sd_y]
    rw [show x + fh_ux w = x by omega, show y + fh_uy w = y - 1 by omega] at hQ
    exact hQ
theorem x_stretch {o s : Int} (h1 : -10 ≤ o) (h2 : o ≤ 10) (h3 : -10 ≤ s) (h4 : s ≤ 10) (hQ : Q I (sd J b (o * x - s * y) (o * y + s * x)) R) : wX1_stretch b (zI o) (zI s) I (sd J b x y) R L S Q := by
  unfold wX1_stretch
  rw [sd_1, sd_2, zI_l (by omega) (by omega), zI_l (by omega) (by omega), zL_mul, zL_mul, zL_mul, zL_mul, zL_sub, zL_add]
  refine x_stand ?_
  rw [sd_sd]
  exact hQ
theorem x_turnRound {w : Int} (hQ : Q I (sd J b (fh_ux w * x - fh_uy w * y) (fh_uy w * x + fh_ux w * y)) R) : wX1_turnRound b (zI w) I (sd J b x y) R L S Q := by
  obtain ⟨q, hq, eq⟩ : ∃ q : Nat, q < 4 ∧ (w % 4).toNat = q := ⟨_, by omega, rfl⟩
  have ew : (w : Int) % 4 = (q : Int) % 4 := by omega
  rw [ux_mod ew, uy_mod ew] at hQ
  have e3 : zI w &&& 3 = nI q := by rw [zI_a3, eq]
  have key : ∀ g k : Nat, g + k = q → wX1_turnRound_l2 b L S Q (g + 1) (zI w) (nI k) I (sd J b (fh_ux k * x - fh_uy k * y) (fh_uy k * x + fh_ux k * y)) R := by
    intro g
    induction g with
    | zero =>
      intro k e
      obtain rfl : k = q := by omega
      show wX1_turnRound_b2 b L S _ _ _ _ _ _ Q
      unfold wX1_turnRound_b2
      rw [e3]
      exact br_t (nI_le (Nat.le_refl _) (by omega)) hQ
    | succ g ih =>
      intro k e
      show wX1_turnRound_b2 b L S _ _ _ _ _ _ Q
      unfold wX1_turnRound_b2
      rw [e3, sd_1, sd_2, zL_neg, nI_1]
      refine br_f (nI_ge (by omega) (by omega)) (x_stand ?_)
      rw [sd_sd]
      have next := ih (k + 1) (by omega)
      have e1 : fh_ux ((k + 1 : Nat) : Int) = -fh_uy k := ux_1 k
      have e2 : fh_uy ((k + 1 : Nat) : Int) = fh_ux k := uy_1 k
      rw [e1, e2, Int.neg_mul, Int.neg_mul] at next
      have a1 : -(fh_uy (k : Int) * x + fh_ux (k : Int) * y) = -(fh_uy (k : Int) * x) - fh_ux (k : Int) * y := by omega
      have a2 : fh_ux (k : Int) * x - fh_uy (k : Int) * y = fh_ux (k : Int) * x + -(fh_uy (k : Int) * y) := by omega
      rw [a1, a2]
      exact next
  have k0 := key q 0 (by omega)
  have u0 : fh_ux ((0 : Nat) : Int) = 1 := rfl
  have u1 : fh_uy ((0 : Nat) : Int) = 0 := rfl
  rw [u0, u1] at k0
  simp only [Int.one_mul, Int.zero_mul, Int.sub_zero, Int.zero_add] at k0
  exact ⟨q + 1, k0⟩
end SD
theorem q_3 {n k : Nat} (hn : n < 1152921504606846976) (hk : k < 64) : ((lN n >>> ((nI k).toInt64 &&& 63)) &&& 3).toInt32 = nI (n / 2 ^ k % 4) := by
  rw [sh_r (by omega) hk]
  have h := fb_maskL (n / 2 ^ k) 2
  have e : lN (2 ^ 2 - 1) = 3 := rfl
  rw [e] at h
  rw [h, lN_i]
theorem x_lead9 {I : gI} {J : gJ} {R : gR} {L : List Nat} {S : gS} {z i : Nat} {t : gP} (hS : S z = xV t i) (ok : stok t) {b n : Nat} (hn : n ≤ 2 ^ tf t) {Q : gI → gJ → gR → Prop} (hQ : Q I (sd J b (fh_px (fh_qc t) 0 n) (fh_py (fh_qc t) 0 n)) R) : wX9_lead z b (lN n) I J R L S Q := by
  have hf := ok.2.2.2.1
  have hn2 : n ≤ 1099511627776 := Nat.le_trans hn (pw_2 hf)
  have e2 : sL (S z) = nI (tf t) := by rw [hS]; rfl
  have key : ∀ k : Nat, k ≤ tf t → ∀ W : Int, (n < 2 ^ tf t → W = fh_dr (fh_pl 2 (tf t - k) (fun j => fh_lt t (j + k))) (n / 2 ^ k)) → wX9_lead_l22 z b L S Q (k + 1) (lN n) (zI W) (zI ((k : Int) - 1)) I (sd J b (fh_px (fh_pl 2 (tf t - k) (fun j => fh_lt t (j + k))) 0 (n / 2 ^ k)) (fh_py (fh_pl 2 (tf t - k) (fun j => fh_lt t (j + k))) 0 (n / 2 ^ k))) R := by
    intro k
    induction k with
    | zero =>
      intro _ W _
      show wX9_lead_b22 z b L S _ _ _ _ _ _ _ Q
      unfold wX9_lead_b22
      refine br_t (by decide) ?_
      rw [Nat.pow_zero, Nat.div_one, Nat.sub_zero]
      exact hQ
    | succ k ih =>
      intro hk W hW
      obtain ⟨g, hg⟩ : ∃ g, tf t - k = g + 1 := ⟨tf t - k - 1, by omega⟩
      have next := ih (by omega)
      rw [hg] at next
      rw [show tf t - (k + 1) = g by omega] at hW ⊢
      have ef : (fun j => fh_lt t (j + (k + 1))) = (fun j => (fun i => fh_lt t (i + k)) (j + 1)) := by
        funext j
        show fh_lt t (j + (k + 1)) = fh_lt t (j + 1 + k)
        rw [Nat.add_right_comm, Nat.add_assoc]
      have hc0 : (fun i => fh_lt t (i + k)) 0 ≤ 1 := lt_le t _
      have ediv : n / 2 ^ (k + 1) = n / 2 ^ k / 2 := by rw [Nat.pow_succ, Nat.div_div_eq_div_mul]
      rw [ef, ediv] at hW
      rw [ef, ediv]
      have hodd : n / 2 ^ k % 2 = 1 → n < 2 ^ tf t := by
        intro ho
        rcases Nat.lt_or_ge n (2 ^ tf t) with h | h
        · exact h
        · have en : n = 2 ^ tf t := by omega
          obtain ⟨d, hd⟩ : ∃ d, tf t = k + 1 + d := ⟨tf t - (k + 1), by omega⟩
          rw [en, hd, Nat.add_assoc, Nat.pow_add, Nat.mul_div_cancel_left _ (Nat.two_pow_pos k), Nat.add_comm 1 d, Nat.pow_succ] at ho
          omega
      have etm : fh_tm 2 (fh_lt t) n k = (if n / 2 ^ k % 4 = 1 ∨ n / 2 ^ k % 4 = 2 then fh_sg (fh_lt t (0 + k)) else 0) := by rw [tm2, Nat.zero_add]
      have hq := q_3 (n := n) (k := k) (by omega) (by omega)
      have hm : n / 2 ^ k ≤ 1099511627776 := Nat.le_trans (Nat.div_le_self _ _) hn2
      have ek : zI (((k + 1 : Nat) : Int) - 1) = nI k := by rw [zI_n]; congr 1; omega
      have el0 : fh_lt t k = (fun i => fh_lt t (i + k)) 0 := by
        show fh_lt t k = fh_lt t (0 + k)
        rw [Nat.zero_add]
      show wX9_lead_b22 z b L S _ _ _ _ _ _ _ Q
      unfold wX9_lead_b22
      rw [ek, hq]
      clear hq ek
      generalize hc : (fun i => fh_lt t (i + k)) = c at *
      have hp := p_2e g c hc0 0
      have hd2 := dr_2 g c hc0
      have hde := dr_2e g c hc0
      generalize n / 2 ^ k = m at *
      have fin : ∀ (I' : gI) (J' : gJ) (R' : gR), I' = I → R' = R → J' = sd J b (fh_px (fh_pl 2 (g + 1) c) 0 m) (fh_py (fh_pl 2 (g + 1) c) 0 m) → wX9_lead_c83 z b L S (wX9_lead_l22 z b L S Q (k + 1)) (lN n) (zI W) (nI k) I' J' R' Q := by
        intro I' J' R' e1 e2 e3
        subst e1
        subst e2
        subst e3
        refine x_leftOver hS ok (n := n) (l := k) (by omega) (by omega) ?_
        have ek2 : nI k + (-1) = zI ((k : Int) - 1) := by rw [zI_n, zI_m1, zI_add]; rfl
        rw [ek2, zI_add]
        refine next _ (fun hlt => ?_)
        rw [hW hlt, etm, hd2]
        congr 1
        show (if _ then fh_sg (fh_lt t (0 + k)) else 0) = (if _ then fh_sg (c 0) else 0)
        rw [← hc]
      have E : ∀ d : Nat, d < 4 → (nI (m % 4) = nI d ↔ m % 4 = d) := fun d hd => nI_eq (by omega) (by omega)
      have hs := sg_or (c 0)
      refine br_f (nI_pos (by omega)) (x_toward hS ok (by omega) ?_)
      rw [el0]
      refine x_stretch (o := 1) (by omega) (by omega) (by omega) (by omega) ?_
      obtain ⟨p1, p2⟩ := hp (m / 2)
      rw [Int.one_mul, Int.one_mul, ← p1, ← p2]
      refine ⟨fun n1 => ⟨fun n3 => ?_, fun k3 => ?_⟩, fun k1 => ?_⟩
      · have n1 : m % 4 ≠ 1 := fun e => n1 ((E 1 (by omega)).mpr e)
        have n3 : m % 4 ≠ 3 := fun e => n3 ((E 3 (by omega)).mpr e)
        refine fin _ _ _ rfl rfl ?_
        rw [show 2 * (m / 2) = m by omega]
      · have k3 := (E 3 (by omega)).mp k3
        rw [zI_add]
        refine x_goOn (fin _ _ _ rfl rfl ?_)
        have eW := hW (hodd (by omega))
        have ed := hde (m / 2)
        rw [if_pos (by omega)] at ed
        obtain ⟨h, hh⟩ : ∃ h, m = 2 * h + 1 := ⟨m / 2, by omega⟩
        rw [hh] at ed eW ⊢
        rw [show (2 * h + 1) / 2 = h by omega] at ed eW ⊢
        rw [px_0 _ (2 * h), py_0 _ (2 * h), ed, eW]
      · have k1 := (E 1 (by omega)).mp k1
        refine x_goOn (fin _ _ _ rfl rfl ?_)
        have eW := hW (hodd (by omega))
        have ed := hde (m / 2)
        rw [if_neg (by omega), Int.add_zero] at ed
        obtain ⟨h, hh⟩ : ∃ h, m = 2 * h + 1 := ⟨m / 2, by omega⟩
        rw [hh] at ed eW ⊢
        rw [show (2 * h + 1) / 2 = h by omega] at ed eW ⊢
        rw [px_0 _ (2 * h), py_0 _ (2 * h), ed, eW]
  unfold wX9_lead
  rw [e2, sh_r (by omega) (by omega)]
  have hq : n / 2 ^ tf t < 2 := by
    rw [Nat.div_lt_iff_lt_mul (Nat.two_pow_pos _)]
    have := Nat.two_pow_pos (tf t)
    omega
  have ex : fh_px (fh_pl 2 0 (fun j => fh_lt t (j + tf t))) 0 (n / 2 ^ tf t) = (n / 2 ^ tf t : Nat) ∧ fh_py (fh_pl 2 0 (fun j => fh_lt t (j + tf t))) 0 (n / 2 ^ tf t) = 0 := by
    rcases (show n / 2 ^ tf t = 0 ∨ n / 2 ^ tf t = 1 by revert hq; generalize n / 2 ^ tf t = u; intro hq; omega) with e | e <;> rw [e] <;> exact ⟨rfl, rfl⟩
  have k0 := key (tf t) (Nat.le_refl _) 0 (by
    intro hlt
    rw [Nat.div_eq_of_lt hlt]
    rfl)
  rw [Nat.sub_self, ex.1, ex.2] at k0
  rw [zL_n, zL_0]
  refine x_stand ⟨tf t + 1, ?_⟩
  have e3 : nI (tf t) - 1 = zI ((tf t : Int) - 1) := by rw [zI_n, zI_1, zI_sub]
  rw [e3]
  rw [zL_n] at k0
  exact k0
