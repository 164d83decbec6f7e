/-! the class's place: thirds, cut, back -/
theorem x_lead10 {I : gI} {J : gJ} {R : gR} {L : List Nat} {S : gS} {z i : Nat} {t : gP} (hS : S z = xV t i) (ok : stok t) (h2 : tk t = 2) {b n : Nat} (hn : n ≤ fh_pw t) {Q : gI → gJ → gR → Prop} (hQ : Q I (sd J b (fh_px (fh_pc t) 0 n) (fh_py (fh_pc t) 0 n)) R) : wX10_lead z b (lN n) I J R L S Q := by
  have hf := ok.2.2.2.1
  have hn2 : n ≤ 1099511627776 := Nat.le_trans hn (pw_le ok)
  have e2 : sL (S z) = nI (tf t) := by rw [hS]; rfl
  have hpw : fh_pw t = 3 ^ tf t := by unfold fh_pw; rw [bs_3 h2]
  have hlc : fh_lt t = fh_ct t := lt_ct (by omega) (by omega)
  have hp40 := pw_le ok
  unfold fh_pc at hQ
  rw [bs_3 h2] at hQ
  rw [hpw] at hn hp40
  have key : ∀ k : Nat, k ≤ tf t → ∀ W : Int, (n < 3 ^ tf t → W = fh_dr (fh_pl 3 (tf t - k) (fun j => fh_ct t (j + k))) (n / 3 ^ k)) → wX10_lead_l40 z b L S Q (k + 1) (lN n) (zI W) (zI ((k : Int) - 1)) (lN (3 ^ k / 3)) I (sd J b (fh_px (fh_pl 3 (tf t - k) (fun j => fh_ct t (j + k))) 0 (n / 3 ^ k)) (fh_py (fh_pl 3 (tf t - k) (fun j => fh_ct t (j + k))) 0 (n / 3 ^ k))) R := by
    intro k
    induction k with
    | zero =>
      intro _ W _
      show wX10_lead_b40 z b L S _ _ _ _ _ _ _ _ Q
      unfold wX10_lead_b40
      refine br_t (by decide) ?_
      rw [Nat.pow_zero, Nat.div_one, Nat.sub_zero]
      exact hQ
    | succ k ih =>
      intro hk W hW
      obtain ⟨g, hg⟩ : ∃ g, tf t - k = g + 1 := ⟨tf t - k - 1, by omega⟩
      have next := ih (by omega)
      rw [hg] at next
      rw [show tf t - (k + 1) = g by omega] at hW ⊢
      have ef : (fun j => fh_ct t (j + (k + 1))) = (fun j => (fun i => fh_ct t (i + k)) (j + 1)) := by
        funext j
        show fh_ct t (j + (k + 1)) = fh_ct t (j + 1 + k)
        rw [Nat.add_right_comm, Nat.add_assoc]
      have hc0 : (fun i => fh_ct t (i + k)) 0 ≤ 1 := ct_le t _
      have ediv : n / 3 ^ (k + 1) = n / 3 ^ k / 3 := by rw [Nat.pow_succ, Nat.div_div_eq_div_mul]
      have epw : 3 ^ (k + 1) / 3 = 3 ^ k := by rw [Nat.pow_succ]; omega
      have hp0 : 0 < 3 ^ k := Nat.pow_pos (by omega)
      have hp1 : 3 ^ k ≤ 1099511627776 := Nat.le_trans (Nat.pow_le_pow_right (by omega) (by omega)) hp40
      rw [ef, ediv] at hW
      rw [ef, ediv, epw]
      have hodd : n / 3 ^ k % 3 ≠ 0 → n < 3 ^ tf t := by
        intro ho
        rcases Nat.lt_or_ge n (3 ^ tf t) with h | h
        · exact h
        · have en : n = 3 ^ tf t := by omega
          obtain ⟨d, hd⟩ : ∃ d, tf t = k + 1 + d := ⟨tf t - (k + 1), by omega⟩
          rw [en, hd, Nat.add_assoc, Nat.pow_add, Nat.mul_div_cancel_left _ hp0, Nat.add_comm 1 d, Nat.pow_succ] at ho
          omega
      have hm : n / 3 ^ k ≤ 1099511627776 := Nat.le_trans (Nat.div_le_self _ _) hn2
      have ek : zI (((k + 1 : Nat) : Int) - 1) = nI k := by rw [zI_n]; congr 1; omega
      have el0 : fh_lt t k = (fun i => fh_ct t (i + k)) 0 := by
        show fh_lt t k = fh_ct t (0 + k)
        rw [Nat.zero_add, hlc]
      have e5 : lN n / lN (3 ^ k) = lN (n / 3 ^ k) := pk_lDv (by omega) (by omega)
      have e6 : lN (n / 3 ^ k) % 3 = lN (n / 3 ^ k % 3) := pk_lMod (b := 3) (by omega) (by omega)
      have e7 : lN (3 ^ k) / 3 = lN (3 ^ k / 3) := pk_lDv (b := 3) (by omega) (by omega)
      have z0 : lN (3 ^ k) ≤ 0 ↔ 3 ^ k ≤ 0 := pk_lLE (b := 0) (by omega) (by omega)
      have z1 : lN (3 ^ k) = 0 ↔ 3 ^ k = 0 := pk_lEQ (b := 0) (by omega) (by omega)
      have z2 : lN (n / 3 ^ k % 3) ≤ 0 ↔ n / 3 ^ k % 3 ≤ 0 := pk_lLE (b := 0) (by omega) (by omega)
      have z3 : lN (n / 3 ^ k % 3) ≤ 1 ↔ n / 3 ^ k % 3 ≤ 1 := pk_lLE (b := 1) (by omega) (by omega)
      have z4 : lN (n / 3 ^ k % 3) = 1 ↔ n / 3 ^ k % 3 = 1 := pk_lEQ (b := 1) (by omega) (by omega)
      show wX10_lead_b40 z b L S _ _ _ _ _ _ _ _ Q
      unfold wX10_lead_b40 wX10_lead_c90 wX10_lead_c106
      rw [ek, e5, e6, z0, z1, z2, z3, z4, e7]
      clear ek
      generalize hc : (fun i => fh_ct t (i + k)) = c at *
      have hp := p_3e g c hc0 0
      have hd3 := dr_3 g c hc0
      generalize n / 3 ^ k = m at *
      have ek2 : nI k + (-1) = zI ((k : Int) - 1) := by rw [zI_n, zI_m1, zI_add]; rfl
      rw [ek2]
      refine ⟨fun h => absurd h (by omega), fun _ => br_f (nI_pos (by omega)) (x_toward9 hS ok (by omega) ⟨by omega, ?_⟩)⟩
      rw [el0]
      have hs := sg_or (c 0)
      refine x_stretch (o := 2) (by omega) (by omega) (by omega) (by omega) ?_
      obtain ⟨p1, p2⟩ := hp (m / 3)
      rw [← p1, ← p2, zI_add]
      obtain ⟨q, r, hr, hh⟩ : ∃ q r, r < 3 ∧ m = 3 * q + r := ⟨m / 3, m % 3, by omega, by omega⟩
      have hdq : n < 3 ^ tf t → W = fh_dr (fh_pl 3 g fun j => c (j + 1)) q := by
        intro hlt
        rw [hW hlt, show m / 3 = q by omega]
      have d0 : fh_dr (fh_pl 3 (g + 1) c) (3 * q) = fh_dr (fh_pl 3 g fun j => c (j + 1)) q := by
        rw [hd3, if_neg (by omega), show 3 * q / 3 = q by omega, Int.add_zero]
      have d1 : fh_dr (fh_pl 3 (g + 1) c) (3 * q + 1) = fh_dr (fh_pl 3 g fun j => c (j + 1)) q + fh_sg (c 0) := by
        rw [hd3, if_pos (by omega), show (3 * q + 1) / 3 = q by omega]
      have d2 : fh_dr (fh_pl 3 (g + 1) c) (3 * q + 2) = fh_dr (fh_pl 3 g fun j => c (j + 1)) q := by
        rw [hd3, if_neg (by omega), show (3 * q + 2) / 3 = q by omega, Int.add_zero]
      rw [show m / 3 = q by omega]
      rcases (show r = 0 ∨ r = 1 ∨ r = 2 by omega) with hr | hr | hr
      · have em : m = 3 * q := by omega
        refine ⟨fun _ => ⟨fun _ => ⟨fun _ => ?_, fun h => absurd h (by omega)⟩, fun h => absurd h (by omega)⟩, fun h => absurd h (by omega)⟩
        rw [← em]
        refine next _ (fun hlt => ?_)
        rw [em, d0]
        exact hdq hlt
      · have em : m = 3 * q + 1 := by omega
        have eW := hdq (hodd (by omega))
        refine ⟨fun h => absurd h (by omega), fun _ => x_goOn ⟨fun _ => ⟨fun h => absurd (show m % 3 = 1 by omega) h, fun _ => ?_⟩, fun h => absurd h (by omega)⟩⟩
        rw [eW, ← d0, ← px_0, ← py_0, d0, ← em]
        refine next _ (fun hlt => ?_)
        rw [em, d1]
      · have em : m = 3 * q + 2 := by omega
        have eW := hdq (hodd (by omega))
        refine ⟨fun h => absurd h (by omega), fun _ => x_goOn ⟨fun h => absurd h (by omega), fun _ => x_goOn ⟨fun _ => ?_, fun h => absurd h (by omega)⟩⟩⟩
        rw [eW, ← d1, ← d0, ← px_0, ← py_0]
        have a1 := px_0 (fh_pl 3 (g + 1) c) (3 * q + 1)
        have a2 := py_0 (fh_pl 3 (g + 1) c) (3 * q + 1)
        rw [← a1, ← a2, show 3 * q + 1 + 1 = m by omega]
        refine next _ (fun hlt => ?_)
        rw [em, d2, d0]
  have ex : n / 3 ^ tf t = (if n ≤ 3 ^ tf t - 1 then 0 else 1) := by
    have h3 : 0 < 3 ^ tf t := Nat.pow_pos (by omega)
    split
    · exact Nat.div_eq_of_lt (by omega)
    · rw [show n = 3 ^ tf t by omega, Nat.div_self h3]
  have k0 := key (tf t) (Nat.le_refl _) 0 (by
    intro hlt
    rw [Nat.div_eq_of_lt hlt]
    rfl)
  rw [Nat.sub_self, ex] at k0
  have c15 : ∀ u : Nat, u = (if n ≤ 3 ^ tf t - 1 then 0 else 1) → wX10_lead_c15 z b L S (lN n) (lN u) I J R Q := by
    intro u hu
    have eu : fh_px (fh_pl 3 0 (fun j => fh_ct t (j + tf t))) 0 u = (u : Int) ∧ fh_py (fh_pl 3 0 (fun j => fh_ct t (j + tf t))) 0 u = 0 := by
      have : u = 0 ∨ u = 1 := by
        rw [hu]
        split <;> simp
      rcases this with e | e <;> rw [e] <;> exact ⟨rfl, rfl⟩
    rw [← hu, eu.1, eu.2] at k0
    unfold wX10_lead_c15
    rw [zL_n u, zL_0]
    refine x_stand (x_sides9 hS ok ⟨tf t + 1, ?_⟩)
    have e3 : nI (tf t) - 1 = zI ((tf t : Int) - 1) := by rw [zI_n, zI_1, zI_sub]
    have hcs := cs_ge ok
    have hc := cu_0 (t := t) (by omega)
    have es : fh_cs t + 1 = 3 ^ tf t := by omega
    have e7 : lN (3 ^ tf t) / 3 = lN (3 ^ tf t / 3) := pk_lDv (b := 3) (by omega) (by omega)
    rw [e2, e3, es, e7]
    exact k0
  unfold wX10_lead
  refine x_count10 hS ok ?_
  rw [pk_lLE (by omega) (by omega)]
  refine ⟨fun h => c15 0 ?_, fun h => c15 1 ?_⟩
  · rw [if_pos h]
  · rw [if_neg h]
theorem x_lead2 {I : gI} {J : gJ} {R : gR} {L : List Nat} {S : gS} {z i : Nat} {t : gP} (hS : S z = xV t i) (ok : stok t) (hk : tk t = 3 ∨ tk t = 4) {b n : Nat} (hn : n + fh_cu t ≤ fh_pw t) {Q : gI → gJ → gR → Prop} (hQ : Q I (sd J b (fh_ux (-fh_dr (fh_pc t) (fh_cu t)) * (fh_px (fh_pc t) 0 (n + fh_cu t) - fh_px (fh_pc t) 0 (fh_cu t)) - fh_uy (-fh_dr (fh_pc t) (fh_cu t)) * (fh_py (fh_pc t) 0 (n + fh_cu t) - fh_py (fh_pc t) 0 (fh_cu t))) (fh_uy (-fh_dr (fh_pc t) (fh_cu t)) * (fh_px (fh_pc t) 0 (n + fh_cu t) - fh_px (fh_pc t) 0 (fh_cu t)) + fh_ux (-fh_dr (fh_pc t) (fh_cu t)) * (fh_py (fh_pc t) 0 (n + fh_cu t) - fh_py (fh_pc t) 0 (fh_cu t)))) R) : wX2_lead z b (lN n) I J R L S Q := by
  have e2 : sF (S z) = lN (fh_cu t) := by rw [hS]; rfl
  have e := pw_n2 (t := t) (by omega)
  have eq : fh_qc t = fh_pc t := qc_pc (by omega) (by omega) (by omega)
  have hcs := cs_ge ok
  unfold wX2_lead
  rw [e2, lN_add]
  refine x_lead9 hS ok (by rw [← e]; omega) (x_lead9 hS ok (by rw [← e]; omega) ?_)
  rw [sd_1, sd_2, sd_1, sd_2, zL_sub, zL_sub, sd_sd, eq]
  refine x_stand (x_way9 hS ok (by rw [← e]; omega) ?_)
  rw [sd_sd, zI_n, zI_neg]
  refine x_turnRound ?_
  rw [ux_mod (show (-((fh_dr (fh_qc t) (fh_cu t) % 4).toNat : Int)) % 4 = (-fh_dr (fh_qc t) (fh_cu t)) % 4 by omega), uy_mod (show (-((fh_dr (fh_qc t) (fh_cu t) % 4).toNat : Int)) % 4 = (-fh_dr (fh_qc t) (fh_cu t)) % 4 by omega), eq]
  exact hQ
theorem rot_add (d e x y : Int) : fh_ux (d + e) * x - fh_uy (d + e) * y = fh_ux d * (fh_ux e * x - fh_uy e * y) - fh_uy d * (fh_uy e * x + fh_ux e * y) ∧ fh_uy (d + e) * x + fh_ux (d + e) * y = fh_uy d * (fh_ux e * x - fh_uy e * y) + fh_ux d * (fh_uy e * x + fh_ux e * y) := by
  rw [ux_add, uy_add]
  rcases u_cases d with ⟨_, h1, h2⟩ | ⟨_, h1, h2⟩ | ⟨_, h1, h2⟩ | ⟨_, h1, h2⟩ <;> rcases u_cases e with ⟨_, h3, h4⟩ | ⟨_, h3, h4⟩ | ⟨_, h3, h4⟩ | ⟨_, h3, h4⟩ <;> rw [h1, h2, h3, h4] <;> omega
theorem x_lead0 {I : gI} {J : gJ} {R : gR} {L : List Nat} {S : gS} {z i : Nat} {t : gP} (hS : S z = xV t i) (ok : stok t) (hk : tk t = 4) {b n : Nat} (hn : n ≤ fh_cs t + 1) {Q : gI → gJ → gR → Prop} (hQ : Q I (sd J b (fh_px (fh_cr t) 0 n) (fh_py (fh_cr t) 0 n)) R) : wX0_lead z b (lN n) I J R L S Q := by
  have hcs := cs_ge ok
  unfold wX0_lead
  refine x_sides9 hS ok (x_lead2 hS ok (Or.inr hk) (by omega) (x_sides9 hS ok ?_))
  rw [lN_sub (by omega)]
  refine x_lead2 hS ok (Or.inr hk) (by omega) ?_
  rw [sd_1, sd_2, sd_1, sd_2, zL_sub, zL_sub, sd_sd]
  refine x_stand (x_count2 hS ok (Or.inr hk) (x_way2 hS ok (Or.inr hk) (by omega) ?_))
  rw [sd_sd, zI_n, zI_2, zI_sub]
  refine x_turnRound ?_
  obtain ⟨b1, b2⟩ := p_back (fh_pc t) (pc_le t) (fh_pw t) n (by omega)
  rw [cr_4 hk, b1, b2] at hQ
  have em : ∀ A B : Int, (2 - (((A - B) % 4).toNat : Int)) % 4 = (2 + (-A + B)) % 4 := fun A B => by omega
  rw [ux_mod (em _ _), uy_mod (em _ _), show fh_cs t + 1 - n + fh_cu t = fh_pw t - n by omega, show fh_cs t + 1 + fh_cu t = fh_pw t by omega, show fh_cs t + fh_cu t = fh_pw t - 1 by omega]
  generalize fh_dr (fh_pc t) (fh_pw t - 1) = A at *
  generalize fh_dr (fh_pc t) (fh_cu t) = B
  generalize fh_px (fh_pc t) 0 (fh_pw t) = X1 at *
  generalize fh_px (fh_pc t) 0 (fh_pw t - n) = X2 at *
  generalize fh_px (fh_pc t) 0 (fh_cu t) = X3
  generalize fh_py (fh_pc t) 0 (fh_pw t) = Y1 at *
  generalize fh_py (fh_pc t) 0 (fh_pw t - n) = Y2 at *
  generalize fh_py (fh_pc t) 0 (fh_cu t) = Y3
  refine ek_v (P := fun v => Q I v R) ?_ hQ
  rw [show (2 : Int) + (-A + B) = (-A + B) + 2 by omega, ux_2, uy_2]
  obtain ⟨r1, r2⟩ := rot_add (-A) B (fh_ux (-B) * (X2 - X3) - fh_uy (-B) * (Y2 - Y3) - (fh_ux (-B) * (X1 - X3) - fh_uy (-B) * (Y1 - Y3))) (fh_uy (-B) * (X2 - X3) + fh_ux (-B) * (Y2 - Y3) - (fh_uy (-B) * (X1 - X3) + fh_ux (-B) * (Y1 - Y3)))
  rw [Int.neg_mul, Int.neg_mul, Int.neg_mul, Int.neg_mul]
  have e0 : ∀ a b : Int, -a - -b = -(a - b) := fun a b => by omega
  have e1 : ∀ a b : Int, -a + -b = -(a + b) := fun a b => by omega
  rw [e0, e1, r1, r2]
  have s1 : fh_ux B * (fh_ux (-B) * (X2 - X3) - fh_uy (-B) * (Y2 - Y3) - (fh_ux (-B) * (X1 - X3) - fh_uy (-B) * (Y1 - Y3))) - fh_uy B * (fh_uy (-B) * (X2 - X3) + fh_ux (-B) * (Y2 - Y3) - (fh_uy (-B) * (X1 - X3) + fh_ux (-B) * (Y1 - Y3))) = X2 - X1 := by
    rw [ux_neg, uy_neg]
    rcases u_cases B with ⟨_, h1, h2⟩ | ⟨_, h1, h2⟩ | ⟨_, h1, h2⟩ | ⟨_, h1, h2⟩ <;> rw [h1, h2] <;> omega
  have s2 : fh_uy B * (fh_ux (-B) * (X2 - X3) - fh_uy (-B) * (Y2 - Y3) - (fh_ux (-B) * (X1 - X3) - fh_uy (-B) * (Y1 - Y3))) + fh_ux B * (fh_uy (-B) * (X2 - X3) + fh_ux (-B) * (Y2 - Y3) - (fh_uy (-B) * (X1 - X3) + fh_ux (-B) * (Y1 - Y3))) = Y2 - Y1 := by
    rw [ux_neg, uy_neg]
    rcases u_cases B with ⟨_, h1, h2⟩ | ⟨_, h1, h2⟩ | ⟨_, h1, h2⟩ | ⟨_, h1, h2⟩ <;> rw [h1, h2] <;> omega
  rw [s1, s2]
  rcases u_cases (-A) with ⟨_, h1, h2⟩ | ⟨_, h1, h2⟩ | ⟨_, h1, h2⟩ | ⟨_, h1, h2⟩ <;> rw [h1, h2] <;> congr 1 <;> omega
/-! a bug steps -/
/-- a bug on strip t at z, set out from (x0, y0) going w0, j sides gone -/
def bW (b z : Nat) (t : gP) (x0 y0 w0 : Int) (j : Nat) (I : gI) (J : gJ) (R : gR) : Prop :=
  R 3 b = some z ∧ I 1 b = nI j ∧ J 1 b = zL (x0 + fh_px (fh_cr t) w0 j) ∧ J 2 b = zL (y0 + fh_py (fh_cr t) w0 j) ∧ ∃ W : Int, I 2 b = zI W ∧ W % 4 = (w0 + fh_dr (fh_cr t) (j - 1)) % 4
/-- what else there is stays -/
def bF (b : Nat) (I : gI) (J : gJ) (R : gR) (I' : gI) (J' : gJ) (R' : gR) : Prop :=
  (∀ k, k ≠ 1 → k ≠ 2 → I' k = I k) ∧ (∀ k, k ≠ 1 → k ≠ 2 → J' k = J k) ∧ (∀ k, k ≠ 3 → R' k = R k) ∧ (∀ c, c ≠ b → I' 1 c = I 1 c ∧ I' 2 c = I 2 c ∧ J' 1 c = J 1 c ∧ J' 2 c = J 2 c ∧ R' 3 c = R 3 c)
theorem bF.rf {b : Nat} {I : gI} {J : gJ} {R : gR} : bF b I J R I J R := ⟨fun _ _ _ => rfl, fun _ _ _ => rfl, fun _ _ => rfl, fun _ _ => ⟨rfl, rfl, rfl, rfl, rfl⟩⟩
theorem bF.tr {b : Nat} {I I' I'' : gI} {J J' J'' : gJ} {R R' R'' : gR} (h : bF b I J R I' J' R') (h' : bF b I' J' R' I'' J'' R'') : bF b I J R I'' J'' R'' :=
  ⟨fun k a c => (h'.1 k a c).trans (h.1 k a c), fun k a c => (h'.2.1 k a c).trans (h.2.1 k a c), fun k a => (h'.2.2.1 k a).trans (h.2.2.1 k a), fun c hc => ⟨(h'.2.2.2 c hc).1.trans (h.2.2.2 c hc).1, (h'.2.2.2 c hc).2.1.trans (h.2.2.2 c hc).2.1, (h'.2.2.2 c hc).2.2.1.trans (h.2.2.2 c hc).2.2.1, (h'.2.2.2 c hc).2.2.2.1.trans (h.2.2.2 c hc).2.2.2.1, (h'.2.2.2 c hc).2.2.2.2.trans (h.2.2.2 c hc).2.2.2.2⟩⟩
theorem bF.i1 {b : Nat} {I : gI} {J : gJ} {R : gR} {v : Int32} : bF b I J R (upI I 1 b v) J R :=
  ⟨fun k a _ => upI_n a, fun _ _ _ => rfl, fun _ _ => rfl, fun c hc => ⟨by rw [upI_s, upd_n hc], by rw [upI_n (by omega)], rfl, rfl, rfl⟩⟩
theorem bF.i2 {b : Nat} {I : gI} {J : gJ} {R : gR} {v : Int32} : bF b I J R (upI I 2 b v) J R :=
  ⟨fun k _ a => upI_n a, fun _ _ _ => rfl, fun _ _ => rfl, fun c hc => ⟨by rw [upI_n (by omega)], by rw [upI_s, upd_n hc], rfl, rfl, rfl⟩⟩
theorem bF.jj {b : Nat} {I : gI} {J : gJ} {R : gR} {x y : Int} : bF b I J R I (sd J b x y) R :=
  ⟨fun _ _ _ => rfl, fun k h1 h2 => sd_k _ _ _ _ h1 h2, fun _ _ => rfl, fun c hc => ⟨rfl, rfl, by rw [sd_k1, upl_n hc], by rw [sd_k2, upl_n hc], rfl⟩⟩
theorem va_up_s {α : Type} (f : Nat → α) (k : Nat) (x : α) : va_up f k x k = x := if_pos rfl
theorem va_up_n {α : Type} {f : Nat → α} {k j : Nat} {x : α} (h : j ≠ k) : va_up f k x j = f j := if_neg h
theorem bF.r3 {b : Nat} {I : gI} {J : gJ} {R : gR} {v : Option Nat} : bF b I J R I J (upR R 3 b v) :=
  ⟨fun _ _ _ => rfl, fun _ _ _ => rfl, fun k a => upR_n a, fun c hc => ⟨rfl, rfl, rfl, rfl, by rw [upR_s, va_up_n hc]⟩⟩
theorem sd_self {J : gJ} {b : Nat} {x y : Int} (h1 : J 1 b = zL x) (h2 : J 2 b = zL y) : sd J b x y = J := by
  apply sd_ext
  · intro k a c
    exact sd_k _ _ _ _ a c
  · rw [sd_k1]
    funext j
    by_cases e : j = b
    · subst e; rw [upl_s, h1]
    · rw [upl_n e]
  · rw [sd_k2]
    funext j
    by_cases e : j = b
    · subst e; rw [upl_s, h2]
    · rw [upl_n e]
theorem x_setOut {I : gI} {J : gJ} {R : gR} {L : List Nat} {S : gS} {b z : Nat} {x0 y0 w0 : Int} (t : gP) {Q : gI → gJ → gR → Prop} (hQ : ∀ I' J' R', bW b z t x0 y0 w0 0 I' J' R' → bF b I J R I' J' R' → Q I' J' R') : wX1_setOut b z (zL x0) (zL y0) (zI w0) I J R L S Q := by
  unfold wX1_setOut
  rintro R1 rfl I3 rfl I5 rfl
  refine x_stand (hQ _ _ _ ⟨?_, ?_, ?_, ?_, w0, ?_, ?_⟩ (bF.r3.tr (bF.i1.tr (bF.i2.tr bF.jj))))
  · rw [upR_s, va_up_s]
  · rw [upI_n (by omega), upI_s, upd_s]; rfl
  · rw [sd_1]; show _ = zL (x0 + 0); rw [Int.add_zero]
  · rw [sd_2]; show _ = zL (y0 + 0); rw [Int.add_zero]
  · rw [upI_s, upd_s]
  · show _ = (w0 + 0) % 4
    rw [Int.add_zero]
theorem x_step {I : gI} {J : gJ} {R : gR} {L : List Nat} {S : gS} {z i : Nat} {t : gP} (hS : S z = xV t i) (ok : stok t) (hz : z ∈ L) {b j : Nat} {x0 y0 w0 : Int} (hb : bW b z t x0 y0 w0 j I J R) (hj : j < fh_cs t + 1) (hj2 : j < 2147483647) {Q : gI → gJ → gR → Prop} (hQ : ∀ I' J' R', bW b z t x0 y0 w0 (j + 1) I' J' R' → bF b I J R I' J' R' → Q I' J' R') : wX1_step b I J R L S Q := by
  obtain ⟨h1, h2, h3, h4, W, h5, h6⟩ := hb
  have hcs := cs_ge ok
  have c61 : ∀ (I' : gI) (W' : Int), I' 1 b = nI j → I' 2 b = zI W' → W' % 4 = (w0 + fh_dr (fh_cr t) j) % 4 → bF b I J R I' J R → wX1_step_c61 b L S I' J R Q := by
    intro I' W' g1 g2 g3 g4
    unfold wX1_step_c61
    rintro I1 rfl
    rw [g1, upI_n (by omega), g2, ← sd_self h3 h4, nI_1]
    refine x_goOn (hQ _ _ _ ⟨h1, ?_, ?_, ?_, W', ?_, ?_⟩ ?_)
    · rw [upI_s, upd_s]
    · rw [sd_1, px_1, ux_mod g3, Int.add_assoc]
    · rw [sd_2, py_1, uy_mod g3, Int.add_assoc]
    · rw [upI_n (by omega), g2]
    · exact g3
    · exact g4.tr (bF.i1.tr bF.jj)
  have c57 : ∀ s : Int, (W + s) % 4 = (w0 + fh_dr (fh_cr t) j) % 4 → wX1_step_c57 b L S (zI W) (zI s) I J R Q := by
    intro s g
    unfold wX1_step_c57
    rintro I1 rfl
    rw [zI_add]
    refine c61 _ (W + s) ?_ ?_ g bF.i2
    · rw [upI_n (by omega)]; exact h2
    · rw [upI_s, upd_s]
  unfold wX1_step
  rw [h1]
  refine ⟨fun h => absurd h (by simp), fun _ => ⟨z, rfl, hz, x_sides hS ok ?_⟩⟩
  rw [h2, nI_l (by omega), pk_lLT (by omega) (by omega)]
  refine br_t hj ⟨fun hle => ?_, fun hle => ?_⟩
  · have e0 : j = 0 := by
      have := (nI_leI (b := 0) (by omega) (by omega)).mp hle
      omega
    subst e0
    exact c61 I W h2 h5 h6 bF.rf
  · have e0 : 0 < j := by
      rcases Nat.eq_zero_or_pos j with e | e
      · subst e; exact absurd (by decide) hle
      · exact e
    obtain ⟨i, rfl⟩ : ∃ i, j = i + 1 := ⟨j - 1, by omega⟩
    refine x_crease hS ok e0 (by omega) ?_
    have ed : fh_dr (fh_cr t) (i + 1) = fh_dr (fh_cr t) i + fh_sg (fh_cr t (i + 1)) := rfl
    rw [show i + 1 - 1 = i by omega] at h6
    have hc := cr_le t (i + 1)
    have ec : nI (fh_cr t (i + 1)) = 1 ↔ fh_cr t (i + 1) = 1 := nI_eq (b := 1) (by omega) (by omega)
    rw [ec, h5]
    refine ⟨fun hne => c57 3 ?_, fun he => c57 1 ?_⟩
    · rw [ed]
      unfold fh_sg
      rw [if_neg hne]
      omega
    · rw [ed]
      unfold fh_sg
      rw [if_pos he]
      omega
theorem x_step_end {I : gI} {J : gJ} {R : gR} {L : List Nat} {S : gS} {z i : Nat} {t : gP} (hS : S z = xV t i) (ok : stok t) (hz : z ∈ L) {b j : Nat} {x0 y0 w0 : Int} (hb : bW b z t x0 y0 w0 j I J R) (hj : j = fh_cs t + 1) (hj2 : j < 2147483647) {Q : gI → gJ → gR → Prop} (hQ : Q I J R) : wX1_step b I J R L S Q := by
  obtain ⟨h1, h2, -⟩ := hb
  have hcs := cs_ge ok
  unfold wX1_step
  rw [h1]
  refine ⟨fun h => absurd h (by simp), fun _ => ⟨z, rfl, hz, x_sides hS ok ?_⟩⟩
  rw [h2, nI_l (by omega), pk_lLT (by omega) (by omega)]
  exact br_f (by omega) hQ
