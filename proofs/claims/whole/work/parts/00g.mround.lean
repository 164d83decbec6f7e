/-! the reference's way -/
theorem pc_pos {t : gP} (hk : tk t = 3) : fh_cr t = fun i => fh_pc t (i + fh_cu t) := by
  funext i
  unfold fh_cr
  rw [if_pos hk]
theorem cr_4 {t : gP} (hk : tk t = 4) : fh_cr t = fun i => 1 - fh_pc t (fh_pw t - i) := by
  funext i
  unfold fh_cr
  rw [if_neg (by omega), if_pos hk]
theorem cr_5 {t : gP} (hk : tk t = 5) : fh_cr t = fun i => 1 - fh_pc t i := by
  funext i
  unfold fh_cr
  rw [if_neg (by omega), if_neg (by omega), if_pos hk]
theorem cr_n {t : gP} (h3 : tk t ≠ 3) (h4 : tk t ≠ 4) (h5 : tk t ≠ 5) (h6 : tk t ≠ 6) : fh_cr t = fh_pc t := by
  funext i
  unfold fh_cr
  rw [if_neg h3, if_neg h4, if_neg h5, if_neg h6]
theorem dr_6 {t : gP} (hk : tk t = 6) (ok : stok t) {n : Nat} (hn : n < fh_pw t) : fh_dr (fh_cr t) n = fh_dr (fh_lf (1 - fh_ct t 0) (1 - fh_ct t 1)) n := dr_cong (fun i _ h2 => lf_cr hk ok (by omega))
/-- the turns of the two lowest levels -/
theorem ts_low {t : gP} (hk : tk t = 6) (ok : stok t) {n : Nat} (hn : n < fh_pw t) : fh_ts t n 0 (tf t) - fh_ts t n 2 (tf t) = (if n % 4 = 1 ∨ n % 4 = 2 then fh_sg (fh_ct t 0) else 0) + (if n % 8 = 2 ∨ n % 8 = 3 ∨ n % 8 = 4 ∨ n % 8 = 5 then fh_sg (fh_ct t 1) else 0) := by
  have hb : fh_bs t = 2 := bs_2 (by omega)
  unfold fh_ts
  rw [← fb_si_sub]
  have e0 : fh_tm (fh_bs t) (fh_ct t) n 0 = (if n % 4 = 1 ∨ n % 4 = 2 then fh_sg (fh_ct t 0) else 0) := by
    rw [hb, tm2, Nat.pow_zero, Nat.div_one]
  have e1 : fh_tm (fh_bs t) (fh_ct t) n 1 = (if n % 8 = 2 ∨ n % 8 = 3 ∨ n % 8 = 4 ∨ n % 8 = 5 then fh_sg (fh_ct t 1) else 0) := by
    rw [hb, tm2, Nat.pow_one]
    by_cases h : n / 2 % 4 = 1 ∨ n / 2 % 4 = 2
    · rw [if_pos h, if_pos (by omega)]
    · rw [if_neg h, if_neg (by omega)]
  rw [← e0, ← e1]
  have hf := ok.2.2.1
  rcases Nat.lt_or_ge (tf t) 2 with h1 | h1
  · have ef : tf t = 1 := by omega
    have hn2 : n < 2 := by
      unfold fh_pw at hn
      rw [hb, ef] at hn
      exact hn
    have z : fh_tm (fh_bs t) (fh_ct t) n 1 = 0 := by
      rw [e1, if_neg (by omega)]
    rw [ef, z, fb_si_succ]
    show (0 : Int) + _ = _
    rw [if_pos (by omega), if_neg (by omega)]
    omega
  · obtain ⟨j, hj⟩ : ∃ j, tf t = 2 + j := ⟨tf t - 2, by omega⟩
    rw [hj, si_tail j (fun i hi => by rw [if_pos (by omega), if_pos hi]; omega), fb_si_succ, fb_si_succ]
    show (0 : Int) + _ + _ = _
    rw [if_pos (by omega), if_neg (by omega), if_pos (by omega), if_neg (by omega)]
    omega
theorem m_round {I : gI} {J : gJ} {i : Nat} {t : gP} (hi : i < 8) (h : mS I J i t) (ok : stok t) {n : Nat} (hn : n ≤ fh_cs t) {Q : Int32 → Prop} (hQ : Q (nI (fh_dr (fh_cr t) n % 4).toNat)) : wM_round (nI i) (lN n) I J Q := by
  have hin : vp_in (nI i) 8 := vp_in_nI hi (by decide)
  have hk6 := ok.1
  have hcs := cs_ge ok
  have hwh := wh_ge ok
  have hpw := pw_le ok
  have hE : ∀ c : Nat, c < 100 → (nI (tk t) = nI c ↔ tk t = c) := fun c hc => nI_eq (by omega) (by omega)
  have fin : ∀ (d : Int) (y : Int64), y = zL d → -1000000000000000 ≤ d → d ≤ 1000000000000000 → d % 4 = fh_dr (fh_cr t) n % 4 → wM_round_c151 I J y Q := by
    intro d y hy h1 h2 h3
    unfold wM_round_c151
    rw [hy, rnd4 (by omega) (by omega), h3]
    exact hQ
  unfold wM_round
  rw [m_kind hi h]
  refine ⟨hin, fun hk => ?_, fun h3 => ⟨fun hk => ?_, fun h4 => ⟨fun hk => ?_, fun h5 => ⟨fun hk => ?_, fun h6 => ?_⟩⟩⟩⟩
  · have hk := (hE 3 (by omega)).mp hk
    refine m_cutOf hi h ok ?_
    rw [lN_add]
    refine m_turned0 hi h ok (by omega) (m_cutOf hi h ok (m_turned0 hi h ok (by omega) ?_))
    have b1 := dr_b ok (n := n + fh_cu t) (by omega)
    have b2 := dr_b ok (n := fh_cu t) (by omega)
    refine fin (fh_dr (fh_pc t) (n + fh_cu t) - fh_dr (fh_pc t) (fh_cu t)) _ ?_ (by omega) (by omega) ?_
    · rw [zI_sub, zI_l (by omega) (by omega)]
    · rw [pc_pos hk, dr_cut]
  · have hk := (hE 4 (by omega)).mp hk
    refine m_whole hi h ok ?_
    rw [lN_sub (by omega)]
    refine m_turned0 hi h ok (by omega) (m_turned0 hi h ok (by omega) ?_)
    have b1 := dr_b ok (n := fh_wh t - n) (by omega)
    have b2 := dr_b ok (n := fh_wh t) (by omega)
    refine fin (fh_dr (fh_pc t) (fh_wh t - n) - fh_dr (fh_pc t) (fh_wh t)) _ ?_ (by omega) (by omega) ?_
    · rw [zI_sub, zI_l (by omega) (by omega)]
    · rw [cr_4 hk, dr_back _ (pc_le t) _ _ (by omega), show fh_pw t - 1 = fh_wh t by omega]
  · have hk := (hE 5 (by omega)).mp hk
    refine m_turned0 hi h ok (by omega) ?_
    have b1 := dr_b ok (n := n) (by omega)
    refine fin (-fh_dr (fh_pc t) n) _ ?_ (by omega) (by omega) ?_
    · rw [zI_neg, zI_l (by omega) (by omega)]
    · rw [cr_5 hk, dr_glass _ _ (fun i _ _ => pc_le t i)]
  · have hk := (hE 6 (by omega)).mp hk
    refine m_turned hi h ok (fr := 0) (by omega) (by omega) (m_turned hi h ok (fr := 2) (by omega) (by omega) ?_)
    have b1 := @ts_b t n 0 (tf t)
    have b2 := @ts_b t n 2 (tf t)
    have hf := ok.2.2.2.1
    refine fin ((n / 4 : Nat) - fh_ts t n 0 (tf t) + fh_ts t n 2 (tf t)) _ ?_ (by omega) (by omega) ?_
    · have e4 : lN n / 4 = zL (n / 4 : Nat) := by
        rw [← zL_n]
        exact pk_lDv (b := 4) (by omega) (by omega)
      rw [e4, zI_l (by omega) (by omega), zI_l (by omega) (by omega), zL_sub, zL_add]
    · have hl := ts_low hk ok (n := n) (by omega)
      have c0 := ct_le t 0
      have c1 := ct_le t 1
      rw [dr_6 hk ok (by omega), lf_dr _ _ (by omega) (by omega), sg_neg c0, sg_neg c1]
      have e : ((n / 4 : Nat) : Int) - fh_ts t n 0 (tf t) + fh_ts t n 2 (tf t) = (if n % 4 = 1 ∨ n % 4 = 2 then -fh_sg (fh_ct t 0) else 0) + (if n % 8 = 2 ∨ n % 8 = 3 ∨ n % 8 = 4 ∨ n % 8 = 5 then -fh_sg (fh_ct t 1) else 0) + (n / 4 : Nat) := by
        revert hl
        generalize fh_ts t n 0 (tf t) = A
        generalize fh_ts t n 2 (tf t) = B
        intro hl
        repeat' split
        all_goals simp_all
        all_goals omega
      rw [e]
  · have n3 := fun e => h3 ((hE 3 (by omega)).mpr e)
    have n4 := fun e => h4 ((hE 4 (by omega)).mpr e)
    have n5 := fun e => h5 ((hE 5 (by omega)).mpr e)
    have n6 := fun e => h6 ((hE 6 (by omega)).mpr e)
    rw [cr_n n3 n4 n5 n6] at hQ fin
    refine m_turned0 hi h ok (by omega) ?_
    have b1 := dr_b ok (n := n) (by omega)
    exact fin (fh_dr (fh_pc t) n) _ (zI_l (by omega) (by omega)) (by omega) (by omega) rfl
