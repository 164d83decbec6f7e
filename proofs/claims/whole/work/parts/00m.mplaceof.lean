/-! the reference's place, all kinds -/
theorem m_c270 {I : gI} {J : gJ} {x y w : Int} {Q : gI → gJ → Prop} (hQ : ∀ J', J' 0 1 = zL (fh_ux (-w) * x - fh_uy (-w) * y) → J' 0 2 = zL (fh_uy (-w) * x + fh_ux (-w) * y) → mFr I J I J' → Q I J') : wM_placeOf_c270 (zL x) (zL y) (zI w) I J Q := by
  unfold wM_placeOf_c270
  rw [zI_neg]
  refine m_turnX ?_
  rintro J2 rfl
  refine m_turnY ?_
  rintro J5 rfl
  refine hQ _ ?_ ?_ ((mFr.J (by omega)).tr (mFr.J (by omega)))
  · simp only [upJ_at]
    simp
  · simp only [upJ_at]
    simp
theorem m_placeOf6 {I : gI} {J : gJ} {i : Nat} {t : gP} (hi : i < 8) (h : mS I J i t) (ok : stok t) {n : Nat} (hn : n ≤ fh_cs t + 1) (h5 : n ≤ 100000) {Q : gI → gJ → Prop} (hQ : ∀ J', J' 0 1 = zL (fh_px (fh_cr t) 0 n) → J' 0 2 = zL (fh_py (fh_cr t) 0 n) → mFr I J I J' → Q I J') : ∀ (g j : Nat) (W : Int) (J' : gJ), g + j = n → (j < n → W % 4 = fh_dr (fh_cr t) j % 4) → J' 0 1 = zL (fh_px (fh_cr t) 0 j) → J' 0 2 = zL (fh_py (fh_cr t) 0 j) → mFr I J I J' → wM_placeOf_l31 Q (g + 1) (nI i) (lN n) (zI W) (lN (j + 1)) I J' := by
  intro g
  induction g with
  | zero =>
    intro j W J' e hW h1 h2 hf
    show wM_placeOf_b31 _ _ _ _ _ _ _ Q
    unfold wM_placeOf_b31
    rw [pk_lLT (by omega) (by omega)]
    rw [show j = n by omega] at h1 h2
    exact br_t (by omega) (hQ _ h1 h2 hf)
  | succ g ih =>
    intro j W J' e hW h1 h2 hf
    show wM_placeOf_b31 _ _ _ _ _ _ _ Q
    unfold wM_placeOf_b31 wM_placeOf_c96 wM_placeOf_c97
    rw [pk_lLT (by omega) (by omega), pk_lLE (by omega) (by omega), zL_1, zL_0]
    refine br_f (by omega) (m_turnX ?_)
    rintro J3 rfl
    refine m_turnY ?_
    rintro J6 rfl
    have eW := hW (by omega)
    rw [upJ_at (a := 0) (j := 2), if_neg (by omega), h1, h2, zL_add, zL_add, Int.mul_one, Int.mul_zero, Int.sub_zero, Int.mul_one, Int.mul_zero, Int.add_zero, ux_mod eW, uy_mod eW, ← px_0, ← py_0]
    have hf' : mFr I J I (upJ (upJ J' 0 1 (zL (fh_px (fh_cr t) 0 (j + 1)))) 0 2 (zL (fh_py (fh_cr t) 0 (j + 1)))) := hf.tr ((mFr.J (by omega)).tr (mFr.J (by omega)))
    have g1 : upJ (upJ J' 0 1 (zL (fh_px (fh_cr t) 0 (j + 1)))) 0 2 (zL (fh_py (fh_cr t) 0 (j + 1))) 0 1 = zL (fh_px (fh_cr t) 0 (j + 1)) := by
      simp only [upJ_at]
      simp
    have g2 : upJ (upJ J' 0 1 (zL (fh_px (fh_cr t) 0 (j + 1)))) 0 2 (zL (fh_py (fh_cr t) 0 (j + 1))) 0 2 = zL (fh_py (fh_cr t) 0 (j + 1)) := by
      simp only [upJ_at]
      simp
    have eL1 : lN (j + 1) + zL 1 = lN (j + 1 + 1) := lN_1 _
    rw [eL1, zI_m1, zI_1, zI_add, zI_add]
    refine ⟨fun hle => ih (j + 1) _ _ (by omega) (fun hlt => absurd hlt (by omega)) g1 g2 hf', fun hle => m_creaseOf hi (h.fr hf') ok (by omega) (by omega) ?_⟩
    have hc := cr_le t (j + 1)
    have ec : nI (fh_cr t (j + 1)) = zI 1 ↔ fh_cr t (j + 1) = 1 := nI_eq (b := 1) (by omega) (by omega)
    have ed : fh_dr (fh_cr t) (j + 1) = fh_dr (fh_cr t) j + fh_sg (fh_cr t (j + 1)) := rfl
    unfold fh_sg at ed
    rw [ec]
    refine ⟨fun hne => ih (j + 1) _ _ (by omega) (fun hlt => ?_) g1 g2 hf', fun he => ih (j + 1) _ _ (by omega) (fun hlt => ?_) g1 g2 hf'⟩
    · rw [ed, if_neg hne]
      omega
    · rw [ed, if_pos he]
      omega
theorem m_placeOf {I : gI} {J : gJ} {i : Nat} {t : gP} (hi : i < 8) (h : mS I J i t) (ok : stok t) {n : Nat} (hn : n ≤ fh_cs t + 1) (h5 : tk t = 6 → n ≤ 100000) {Q : gI → gJ → Prop} (hQ : ∀ I' J', J' 0 1 = zL (fh_px (fh_cr t) 0 n) → J' 0 2 = zL (fh_py (fh_cr t) 0 n) → mFr I J I' J' → Q I' J') : wM_placeOf (nI i) (lN n) I J Q := by
  have hin : vp_in (nI i) 8 := vp_in_nI hi (by decide)
  have hk6 := ok.1
  have hcs := cs_ge ok
  have hpw := pw_le ok
  have hE : ∀ c : Nat, c < 100 → (nI (tk t) = nI c ↔ tk t = c) := fun c hc => nI_eq (by omega) (by omega)
  have e1 : (1 : Int64) = lN 1 := rfl
  unfold wM_placeOf
  rw [m_kind hi h]
  refine ⟨hin, fun h6 => ⟨fun h3 => ?_, fun h3 => ⟨fun h4 => ?_, fun h4 => ?_⟩⟩, fun h6 => ?_⟩
  · have hk := (hE 3 (by omega)).mp h3
    have h3' : nI (tk t) = 3 := h3
    unfold wM_placeOf_c144
    refine m_cutOf hi h ok (m_creasesOf hi h ok ⟨fun hne => absurd h3 hne, fun _ => ⟨fun hne => absurd h3 hne, fun _ => ?_⟩⟩)
    unfold wM_placeOf_c195
    rw [lN_add]
    refine m_plainPlace hi h ok (by omega) (fun I2 J3 a1 a2 f1 => m_plainPlace hi (h.fr f1) ok (by omega) (fun I5 J6 b1 b2 f2 => ⟨fun hne => absurd h3 hne, fun _ => m_turned0 hi (h.fr (f1.tr f2)) ok (by omega) ?_⟩))
    rw [a1, a2, b1, b2, zL_sub, zL_sub]
    obtain ⟨c1, c2⟩ := p_cut (fh_pc t) (fh_cu t) n
    refine m_c270 (fun J' d1 d2 f3 => hQ I5 J' ?_ ?_ (f1.tr (f2.tr f3)))
    · rw [d1, pc_pos hk, c1, Nat.add_comm n]
    · rw [d2, pc_pos hk, c2, Nat.add_comm n]
  · have hk := (hE 4 (by omega)).mp h4
    have n3 : ¬ nI (tk t) = 3 := h3
    unfold wM_placeOf_c144
    refine m_cutOf hi h ok (m_creasesOf hi h ok ⟨fun _ => ⟨fun _ => ?_, fun h3' => absurd h3' h3⟩, fun h3' => absurd h3' h3⟩)
    unfold wM_placeOf_c195
    rw [e1, lN_add, lN_add, lN_sub (by omega), lN_sub (by omega), hcs.2.2.1]
    refine m_plainPlace hi h ok (by omega) (fun I2 J3 a1 a2 f1 => m_plainPlace hi (h.fr f1) ok (by omega) (fun I5 J6 b1 b2 f2 => ⟨fun _ => m_turned0 hi (h.fr (f1.tr f2)) ok (by omega) ?_, fun h3' => absurd h3' h3⟩))
    rw [a1, a2, b1, b2, zL_sub, zL_sub, zI_2, zI_add]
    obtain ⟨c1, c2⟩ := p_back (fh_pc t) (pc_le t) (fh_pw t) n (by omega)
    refine m_c270 (fun J' d1 d2 f3 => hQ I5 J' ?_ ?_ (f1.tr (f2.tr f3)))
    · rw [d1, cr_4 hk, c1]
      have em : (-(fh_dr (fh_pc t) (fh_pw t - 1) + 2)) % 4 = (-fh_dr (fh_pc t) (fh_pw t - 1) + 2) % 4 := by omega
      rw [ux_mod em, uy_mod em, ux_2, uy_2]
      congr 1
      rcases u_cases (-fh_dr (fh_pc t) (fh_pw t - 1)) with ⟨_, h1, h2⟩ | ⟨_, h1, h2⟩ | ⟨_, h1, h2⟩ | ⟨_, h1, h2⟩ <;> rw [h1, h2] <;> omega
    · rw [d2, cr_4 hk, c2]
      have em : (-(fh_dr (fh_pc t) (fh_pw t - 1) + 2)) % 4 = (-fh_dr (fh_pc t) (fh_pw t - 1) + 2) % 4 := by omega
      rw [ux_mod em, uy_mod em, ux_2, uy_2]
      congr 1
      rcases u_cases (-fh_dr (fh_pc t) (fh_pw t - 1)) with ⟨_, h1, h2⟩ | ⟨_, h1, h2⟩ | ⟨_, h1, h2⟩ | ⟨_, h1, h2⟩ <;> rw [h1, h2] <;> omega
  · have n3 : tk t ≠ 3 := fun e => h3 ((hE 3 (by omega)).mpr e)
    have n4 : tk t ≠ 4 := fun e => h4 ((hE 4 (by omega)).mpr e)
    have n6 : tk t ≠ 6 := fun e => h6 ((hE 6 (by omega)).mpr e)
    have hc := cu_0 (t := t) (by omega)
    refine m_plainPlace hi h ok (by omega) (fun I' J' a1 a2 f1 => ⟨fun h5 => ?_, fun h5 => ?_⟩)
    · have n5 : tk t ≠ 5 := fun e => h5 ((hE 5 (by omega)).mpr e)
      refine hQ I' J' ?_ ?_ f1
      · rw [cr_n n3 n4 n5 n6]; exact a1
      · rw [cr_n n3 n4 n5 n6]; exact a2
    · have hk := (hE 5 (by omega)).mp h5
      rintro J9 rfl
      obtain ⟨g1, g2⟩ := p_glass (fh_pc t) n (pc_le t)
      refine hQ I' _ ?_ ?_ (f1.tr (mFr.J (by omega)))
      · rw [upJ_at, if_neg (by omega), a1, cr_5 hk, g1]
      · rw [upJ_at, if_pos ⟨rfl, rfl⟩, a2, zL_neg, cr_5 hk, g2]
  · have hk := (hE 6 (by omega)).mp h6
    rintro J11 rfl J13 rfl
    have hfr : mFr I J I (upJ (upJ J 0 1 0) 0 2 0) := (mFr.J (by omega)).tr (mFr.J (by omega))
    exact ⟨n + 1, m_placeOf6 hi (h.fr hfr) ok hn (h5 hk) (fun J' a b c => hQ I J' a b (hfr.tr c)) n 0 0 _ (by omega) (fun _ => rfl) rfl rfl mFr.rf⟩
