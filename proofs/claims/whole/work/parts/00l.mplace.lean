/-! the reference's parts and places -/
theorem upJ_at (J : gJ) (k i : Nat) (v : Int64) (a j : Nat) : upJ J k i v a j = if a = k ∧ j = i then v else J a j := by
  unfold upJ vp_updL
  by_cases h : a = k
  · subst h
    rw [if_pos rfl]
    by_cases h2 : j = i
    · rw [if_pos h2, if_pos ⟨rfl, h2⟩]
    · rw [if_neg h2, if_neg (fun e => h2 e.2)]
  · rw [if_neg h, if_neg (fun e => h e.1)]
theorem upI_at (I : gI) (k i : Nat) (v : Int32) (a j : Nat) : upI I k i v a j = if a = k ∧ j = i then v else I a j := by
  unfold upI upd
  by_cases h : a = k
  · subst h
    rw [if_pos rfl]
    by_cases h2 : j = i
    · rw [if_pos h2, if_pos ⟨rfl, h2⟩]
    · rw [if_neg h2, if_neg (fun e => h2 e.2)]
  · rw [if_neg h, if_neg (fun e => h e.1)]
/-- the stretches up to level m stand in the tables -/
def mPA (t : gP) (m : Nat) (I : gI) (J : gJ) : Prop :=
  (∀ j, j ≤ m → J 6 j = zL (fh_ax (fh_bs t) (fh_ct t) j).1 ∧ J 7 j = zL (fh_ax (fh_bs t) (fh_ct t) j).2 ∧ I 12 j = zI (fh_er (fh_bs t) (fh_ct t) j)) ∧
  (fh_bs t = 2 → ∃ X Y : Int, J 8 m = zL X ∧ J 9 m = zL Y ∧ I 13 m = zI (-fh_er (fh_bs t) (fh_ct t) m) ∧ fh_ux (fh_er (fh_bs t) (fh_ct t) m) * X - fh_uy (fh_er (fh_bs t) (fh_ct t) m) * Y = (fh_ax (fh_bs t) (fh_ct t) m).1 ∧ fh_uy (fh_er (fh_bs t) (fh_ct t) m) * X + fh_ux (fh_er (fh_bs t) (fh_ct t) m) * Y = (fh_ax (fh_bs t) (fh_ct t) m).2)
theorem usg (v : Nat) : fh_ux (fh_sg v) = 0 ∧ fh_uy (fh_sg v) = fh_sg v ∧ fh_ux (-fh_sg v) = 0 ∧ fh_uy (-fh_sg v) = -fh_sg v := by
  rcases sg_or v with h | h <;> rw [h] <;> decide
theorem m_parts_s {I : gI} {J : gJ} {i : Nat} {t : gP} (hi : i < 8) (h : mS I J i t) (ok : stok t) {m : Nat} (hm : m < tf t) (hp : mPA t m I J) {Q : gI → gJ → Prop} {B : Int32 → Int32 → gI → gJ → Prop} (hB : ∀ I' J', mPA t (m + 1) I' J' → mFr I J I' J' → B (nI i) (nI (m + 2)) I' J') : wM_parts_c71 B (nI i) (nI (m + 1)) (zI (fh_sg (fh_ct t m))) I J Q := by
  have hf := ok.2.2.2.1
  have hk6 := ok.1
  have hin : vp_in (nI i) 8 := vp_in_nI hi (by decide)
  have in1 : vp_in (nI m) 41 := vp_in_nI (by omega) (by decide)
  have in2 : vp_in (nI (m + 1)) 41 := vp_in_nI (by omega) (by decide)
  have e0 : nI (m + 1) - 1 = nI m := nI_pred m
  have e2 : nI (m + 1) + 1 = nI (m + 2) := nI_1 _
  obtain ⟨h6, h7, h12⟩ := hp.1 m (Nat.le_refl _)
  have hs := sg_or (fh_ct t m)
  obtain ⟨u1, u2, u3, u4⟩ := usg (fh_ct t m)
  unfold wM_parts_c71
  rw [m_kind hi h, e0, nI_clamp (show m < 2147483648 by omega), nI_clamp (show m + 1 < 2147483648 by omega), e2]
  refine ⟨hin, fun h2 => ⟨in1, ?_⟩, fun h2 => ⟨in1, ?_⟩⟩
  · have hb : fh_bs t = 2 := bs_2 (fun e => h2 (by rw [e]; rfl))
    obtain ⟨X, Y, h8, h9, h13, i1, i2⟩ := hp.2 hb
    rw [h8, h9, h12, zI_add, zI_sub, h6, h13]
    have eA : ∀ d : Int, fh_er (fh_bs t) (fh_ct t) m + d = d + fh_er (fh_bs t) (fh_ct t) m := fun d => Int.add_comm _ _
    have eS : fh_er (fh_bs t) (fh_ct t) m - fh_sg (fh_ct t m) = -fh_sg (fh_ct t m) + fh_er (fh_bs t) (fh_ct t) m := by omega
    rw [eA, eS]
    obtain ⟨r1, r2⟩ := rot_add (fh_sg (fh_ct t m)) (fh_er (fh_bs t) (fh_ct t) m) X Y
    obtain ⟨r3, r4⟩ := rot_add (-fh_sg (fh_ct t m)) (fh_er (fh_bs t) (fh_ct t) m) X Y
    rw [i1, i2, u1, u2] at r1 r2
    rw [i1, i2, u3, u4] at r3 r4
    refine m_turnX ⟨in2, ?_⟩
    rintro J6 rfl
    rw [upJ_at, if_neg (by omega), upJ_at, if_neg (by omega), upJ_at, if_neg (by omega), h8, h9, h7]
    refine m_turnY ?_
    rintro J9 rfl
    rw [upJ_at, if_neg (by omega), upJ_at, if_neg (by omega), upJ_at, if_neg (by omega), upJ_at, if_neg (by omega), upJ_at, if_neg (by omega), upJ_at, if_neg (by omega), h8, h9, h6]
    refine m_turnX ?_
    rintro J12 rfl
    rw [upJ_at, if_neg (by omega), upJ_at, if_neg (by omega), upJ_at, if_neg (by omega), upJ_at, if_neg (by omega), upJ_at, if_neg (by omega), upJ_at, if_neg (by omega), upJ_at, if_neg (by omega), upJ_at, if_neg (by omega), upJ_at, if_neg (by omega), h8, h9, h7]
    refine m_turnY ?_
    rintro J15 rfl I17 rfl I19 rfl
    rw [upI_at, if_neg (by omega), h13, zL_add, zL_add, zL_add, zL_add, zI_add, zI_add, r1, r2, r3, r4]
    have hax : fh_ax (fh_bs t) (fh_ct t) (m + 1) = (1 * (fh_ax (fh_bs t) (fh_ct t) m).1 - fh_sg (fh_ct t m) * (fh_ax (fh_bs t) (fh_ct t) m).2, 1 * (fh_ax (fh_bs t) (fh_ct t) m).2 + fh_sg (fh_ct t m) * (fh_ax (fh_bs t) (fh_ct t) m).1) := by
      rw [fh_ax, if_neg (by omega)]
    have her : fh_er (fh_bs t) (fh_ct t) (m + 1) = fh_sg (fh_ct t m) := by
      rw [fh_er, if_neg (by omega)]
    refine hB _ _ ⟨fun j hj => ?_, fun _ => ⟨(fh_ax (fh_bs t) (fh_ct t) m).1 + (0 * (fh_ax (fh_bs t) (fh_ct t) m).1 - -fh_sg (fh_ct t m) * (fh_ax (fh_bs t) (fh_ct t) m).2), (fh_ax (fh_bs t) (fh_ct t) m).2 + (-fh_sg (fh_ct t m) * (fh_ax (fh_bs t) (fh_ct t) m).1 + 0 * (fh_ax (fh_bs t) (fh_ct t) m).2), ?_, ?_, ?_, ?_, ?_⟩⟩ ?_
    · by_cases ej : j = m + 1
      · subst ej
        rw [hax, her]
        refine ⟨?_, ?_, ?_⟩
        · simp only [upJ_at]
          simp
          try (congr 1; try omega)
        · simp only [upJ_at]
          simp
          try (congr 1; try omega)
        · simp only [upI_at]
          simp
          try (congr 1; try omega)
      · obtain ⟨g6, g7, g12⟩ := hp.1 j (by omega)
        simp only [upJ_at, upI_at]
        simp [ej, g6, g7, g12]
    · simp only [upJ_at]
      simp
    · simp only [upJ_at]
      simp
    · rw [her]
      simp only [upI_at]
      simp
      try (congr 1; try omega)
    · rw [her, hax, u1, u2]
      rcases hs with hs | hs <;> rw [hs] <;> show _ = (_ : Int) <;> simp only [] <;> omega
    · rw [her, hax, u1, u2]
      rcases hs with hs | hs <;> rw [hs] <;> show _ = (_ : Int) <;> simp only [] <;> omega
    · exact (mFr.J (by omega)).tr ((mFr.J (by omega)).tr ((mFr.J (by omega)).tr ((mFr.J (by omega)).tr ((mFr.I (by omega)).tr (mFr.I (by omega))))))
  · have hk : tk t = 2 := (nI_eq (b := 2) (by omega) (by omega)).mp h2
    have hb : fh_bs t = 3 := bs_3 hk
    rw [h6, h7]
    refine m_turnX ⟨in2, ?_⟩
    rintro J24 rfl
    rw [upJ_at, if_neg (by omega), upJ_at, if_neg (by omega), h6, h7]
    refine m_turnY ?_
    rintro J27 rfl I29 rfl
    rw [zL_2, zL_mul, zL_mul, zL_add, zL_add, u1, u2, zI_0]
    have hax : fh_ax (fh_bs t) (fh_ct t) (m + 1) = (2 * (fh_ax (fh_bs t) (fh_ct t) m).1 - fh_sg (fh_ct t m) * (fh_ax (fh_bs t) (fh_ct t) m).2, 2 * (fh_ax (fh_bs t) (fh_ct t) m).2 + fh_sg (fh_ct t m) * (fh_ax (fh_bs t) (fh_ct t) m).1) := by
      rw [fh_ax, if_pos hb]
    have her : fh_er (fh_bs t) (fh_ct t) (m + 1) = 0 := by
      rw [fh_er, if_pos hb]
    refine hB _ _ ⟨fun j hj => ?_, fun e => absurd e (by omega)⟩ ?_
    · by_cases ej : j = m + 1
      · subst ej
        rw [hax, her]
        refine ⟨?_, ?_, ?_⟩
        · simp only [upJ_at]
          simp
          try (congr 1; try omega)
        · simp only [upJ_at]
          simp
        · simp only [upI_at]
          simp
      · obtain ⟨g6, g7, g12⟩ := hp.1 j (by omega)
        simp only [upJ_at, upI_at]
        simp [ej, g6, g7, g12]
    · exact (mFr.J (by omega)).tr ((mFr.J (by omega)).tr (mFr.I (by omega)))
theorem m_parts {I : gI} {J : gJ} {i : Nat} {t : gP} (hi : i < 8) (h : mS I J i t) (ok : stok t) {Q : gI → gJ → Prop} (hQ : ∀ I' J', (∀ j, j ≤ tf t → J' 6 j = zL (fh_ax (fh_bs t) (fh_ct t) j).1 ∧ J' 7 j = zL (fh_ax (fh_bs t) (fh_ct t) j).2 ∧ I' 12 j = zI (fh_er (fh_bs t) (fh_ct t) j)) → mFr I J I' J' → Q I' J') : wM_parts (nI i) I J Q := by
  have hf := ok.2.2.2.1
  have hin : vp_in (nI i) 8 := vp_in_nI hi (by decide)
  have key : ∀ (g m : Nat) (I' : gI) (J' : gJ), g + m = tf t → mPA t m I' J' → mFr I J I' J' → wM_parts_l44 Q (g + 1) (nI i) (nI (m + 1)) I' J' := by
    intro g
    induction g with
    | zero =>
      intro m I' J' e hp hfr
      have h' := h.fr hfr
      show wM_parts_b44 _ _ _ _ _ Q
      unfold wM_parts_b44
      rw [nI_clamp (by omega), h'.2.2.1]
      refine ⟨hin, br_t (nI_lt (by omega) (by omega)) (hQ _ _ ?_ hfr)⟩
      rw [show tf t = m by omega]
      exact hp.1
    | succ g ih =>
      intro m I' J' e hp hfr
      have h' := h.fr hfr
      have e0 : nI (m + 1) - 1 = nI m := nI_pred m
      have hc := ct_le t m
      have next : wM_parts_c71 (wM_parts_l44 Q (g + 1)) (nI i) (nI (m + 1)) (zI (fh_sg (fh_ct t m))) I' J' Q := m_parts_s hi h' ok (by omega) hp (fun I'' J'' hp' hf' => ih (m + 1) I'' J'' (by omega) hp' (hfr.tr hf'))
      show wM_parts_b44 _ _ _ _ _ Q
      unfold wM_parts_b44
      rw [nI_clamp (by omega), h'.2.2.1, e0]
      refine ⟨hin, br_f (nI_nlt (by omega) (by omega)) (m_counts hi h' ok (by omega) ?_)⟩
      have ec : nI (fh_ct t m) = 1 ↔ fh_ct t m = 1 := nI_eq (b := 1) (by omega) (by omega)
      rw [ec]
      unfold fh_sg at next
      refine ⟨fun hn => ?_, fun hn => ?_⟩
      · rw [if_neg hn] at next
        exact next
      · rw [if_pos hn] at next
        exact next
  unfold wM_parts
  rintro J1 rfl J3 rfl J5 rfl J7 rfl I9 rfl I11 rfl
  refine ⟨tf t + 1, key (tf t) 0 _ _ (by omega) ⟨fun j hj => ?_, fun _ => ⟨1, 0, ?_, ?_, ?_, ?_, ?_⟩⟩ ?_⟩
  · obtain rfl : j = 0 := by omega
    refine ⟨rfl, rfl, rfl⟩
  · rfl
  · rfl
  · rfl
  · rfl
  · rfl
  · exact (mFr.J (by omega)).tr ((mFr.J (by omega)).tr ((mFr.J (by omega)).tr ((mFr.J (by omega)).tr ((mFr.I (by omega)).tr (mFr.I (by omega))))))
/-- one stretch further: where, and which way -/
theorem piece {t : gP} (ok : stok t) {k q G : Nat} (hk : k ≤ tf t) (hG : G = fh_bs t ^ k * q) (h2 : fh_bs t = 2 → q % 2 = 0) : fh_px (fh_pc t) 0 (G + fh_bs t ^ k) = fh_px (fh_pc t) 0 G + (fh_ux (fh_dr (fh_pc t) G) * (fh_ax (fh_bs t) (fh_ct t) k).1 - fh_uy (fh_dr (fh_pc t) G) * (fh_ax (fh_bs t) (fh_ct t) k).2) ∧ fh_py (fh_pc t) 0 (G + fh_bs t ^ k) = fh_py (fh_pc t) 0 G + (fh_uy (fh_dr (fh_pc t) G) * (fh_ax (fh_bs t) (fh_ct t) k).1 + fh_ux (fh_dr (fh_pc t) G) * (fh_ax (fh_bs t) (fh_ct t) k).2) ∧ fh_dr (fh_pc t) (G + fh_bs t ^ k) = fh_dr (fh_pc t) G + (fh_er (fh_bs t) (fh_ct t) k + fh_sg (fh_pc t (G + fh_bs t ^ k))) := by
  have e : fh_pc t = fh_pl (fh_bs t) (tf t) (fh_ct t) := rfl
  have hb := bs_or t
  have hp : 0 < fh_bs t ^ k := Nat.pow_pos (by omega)
  obtain ⟨p, hp'⟩ : ∃ p, fh_bs t ^ k = p + 1 := ⟨fh_bs t ^ k - 1, by omega⟩
  have ed : fh_dr (fh_pc t) (G + fh_bs t ^ k) = fh_dr (fh_pc t) (G + (fh_bs t ^ k - 1)) + fh_sg (fh_pc t (G + fh_bs t ^ k)) := by
    rw [hp', ← Nat.add_assoc, fh_dr, Nat.add_sub_cancel]
  rw [ed]
  rcases hb with hb | hb
  · obtain ⟨r, rfl⟩ : ∃ r, q = 2 * r := ⟨q / 2, by have := h2 hb; omega⟩
    have hG' : G = 2 ^ (k + 1) * r := by rw [hG, hb, Nat.pow_succ, Nat.mul_assoc]
    have a := piece_2 k (tf t) (fh_ct t) r (ct_le t) hk
    have b := er_2 k (tf t) (fh_ct t) r (ct_le t) hk
    rw [← hG'] at a b
    rw [e, hb]
    exact ⟨a.1, a.2, by rw [b]; omega⟩
  · have a := piece_3 k (tf t) (fh_ct t) q (ct_le t) hk
    have b := er_3 k (tf t) (fh_ct t) q (ct_le t) hk
    have hG' : G = 3 ^ k * q := by rw [hG, hb]
    rw [← hG'] at a b
    rw [e, hb]
    exact ⟨a.1, a.2, by rw [b]; omega⟩
/-- the reference goes on from G sides at level k -/
def mPP (t : gP) (I : gI) (J : gJ) (G : Nat) : Prop := (∀ j, j ≤ tf t → J 6 j = zL (fh_ax (fh_bs t) (fh_ct t) j).1 ∧ J 7 j = zL (fh_ax (fh_bs t) (fh_ct t) j).2 ∧ I 12 j = zI (fh_er (fh_bs t) (fh_ct t) j)) ∧ J 0 1 = zL (fh_px (fh_pc t) 0 G) ∧ J 0 2 = zL (fh_py (fh_pc t) 0 G)
theorem m_plainPlace_l {I : gI} {J : gJ} {i : Nat} {t : gP} (hi : i < 8) (h : mS I J i t) (ok : stok t) {n : Nat} (hn : n ≤ fh_pw t) {Q : gI → gJ → Prop} (hQ : ∀ J', J' 0 1 = zL (fh_px (fh_pc t) 0 n) → J' 0 2 = zL (fh_py (fh_pc t) 0 n) → mFr I J I J' → Q I J') : ∀ (g : Nat), g ≤ tf t + 1 → ∀ (G q : Nat) (W : Int) (J' : gJ), G ≤ n → G = fh_bs t ^ g * q → n - G < fh_bs t ^ g → (G < n → W % 4 = fh_dr (fh_pc t) G % 4) → mPP t I J' G → mFr I J I J' → wM_plainPlace_l49 Q (g + 1) (nI i) (nI (fh_bs t)) (zI W) (lN G) (lN (n - G)) (zI ((g : Int) - 1)) I J' := by
  have hf := ok.2.2.2.1
  have hb := bs_or t
  have hn40 := pw_le ok
  intro g
  induction g with
  | zero =>
    intro _ G q W J' h1 h2 h3 h4 h5 h6
    rw [Nat.pow_zero] at h3
    obtain rfl : G = n := by omega
    show wM_plainPlace_b49 _ _ _ _ _ _ _ _ _ Q
    unfold wM_plainPlace_b49
    exact br_t (by decide) (hQ _ h5.2.1 h5.2.2 h6)
  | succ k ih =>
    intro hk G q W J' h1 h2 h3 h4 h5 h6
    have hp : 0 < fh_bs t ^ k := Nat.pow_pos (by omega)
    have hp40 : fh_bs t ^ k ≤ 1099511627776 := by
      have h1 : fh_bs t ^ k ≤ fh_bs t ^ tf t := Nat.pow_le_pow_right (by omega) (by omega)
      unfold fh_pw at hn40
      omega
    have ek : zI (((k + 1 : Nat) : Int) - 1) = nI k := by rw [zI_n]; congr 1; omega
    have ek2 : nI k + (-1) = zI ((k : Int) - 1) := by rw [zI_n, zI_m1, zI_add]; rfl
    show wM_plainPlace_b49 _ _ _ _ _ _ _ _ _ Q
    unfold wM_plainPlace_b49
    rw [ek]
    refine br_f (nI_pos (by omega)) (m_power (by omega) (by omega) ?_)
    -- the inner loop: at most twice
    have inner : ∀ (d G' : Nat) (W' : Int) (J'' : gJ), G ≤ G' → G' ≤ n → G' + d * fh_bs t ^ k = G + fh_bs t ^ (k + 1) → (∃ q', G' = fh_bs t ^ k * q' ∧ (fh_bs t = 2 → fh_bs t ^ k ≤ n - G' → q' % 2 = 0)) → (G' < n → W' % 4 = fh_dr (fh_pc t) G' % 4) → mPP t I J'' G' → mFr I J I J'' → wM_plainPlace_l64 (wM_plainPlace_l49 Q (k + 1)) Q (d + 1) (nI i) (nI (fh_bs t)) (zI W') (lN G') (lN (n - G')) (nI k) (lN (fh_bs t ^ k)) I J'' := by
      intro d
      induction d with
      | zero =>
        intro G' W' J'' g0 g1 g2 g3 g4 g5 g6
        rw [Nat.zero_mul, Nat.add_zero] at g2
        show wM_plainPlace_b64 _ _ _ _ _ _ _ _ _ _ _ Q
        unfold wM_plainPlace_b64
        rw [pk_lLT (by omega) (by omega), ek2]
        obtain ⟨q', e', -⟩ := g3
        refine br_t (by omega) (ih (by omega) G' q' W' J'' g1 e' (by omega) g4 g5 g6)
      | succ d ihd =>
        intro G' W' J'' g0 g1 g2 g3 g4 g5 g6
        obtain ⟨q', e', ev⟩ := g3
        show wM_plainPlace_b64 _ _ _ _ _ _ _ _ _ _ _ Q
        unfold wM_plainPlace_b64
        rw [pk_lLT (by omega) (by omega), ek2]
        refine ⟨fun hlt => ih (by omega) G' q' W' J'' g1 e' hlt g4 g5 g6, fun hge => ⟨vp_in_nI (by omega) (by decide), ?_⟩⟩
        obtain ⟨t6, t7, t12⟩ := g5.1 k (by omega)
        obtain ⟨p1, p2, p3⟩ := piece ok (k := k) (q := q') (by omega) e' (fun e => ev e (by omega))
        have eW := g4 (by omega)
        rw [nI_clamp (by omega), t6, t7]
        refine m_turnX ?_
        rintro J4 rfl
        rw [upJ_at, if_neg (by omega), upJ_at, if_neg (by omega), t6, t7]
        refine m_turnY ?_
        rintro J7 rfl
        rw [upJ_at (a := 0) (j := 2), if_neg (by omega), g5.2.1, g5.2.2, zL_add, zL_add, ux_mod eW, uy_mod eW, ← p1, ← p2, lN_add, lN_sub (by omega), show n - G' - fh_bs t ^ k = n - (G' + fh_bs t ^ k) by omega]
        have hPP : mPP t I (upJ (upJ J'' 0 1 (zL (fh_px (fh_pc t) 0 (G' + fh_bs t ^ k)))) 0 2 (zL (fh_py (fh_pc t) 0 (G' + fh_bs t ^ k)))) (G' + fh_bs t ^ k) := by
          refine ⟨fun j hj => ?_, ?_, ?_⟩
          · obtain ⟨a6, a7, a12⟩ := g5.1 j hj
            simp only [upJ_at]
            simp [a6, a7, a12]
          · simp only [upJ_at]
            simp
          · simp only [upJ_at]
            simp
        have hFr : mFr I J I (upJ (upJ J'' 0 1 (zL (fh_px (fh_pc t) 0 (G' + fh_bs t ^ k)))) 0 2 (zL (fh_py (fh_pc t) 0 (G' + fh_bs t ^ k)))) := g6.tr ((mFr.J (by omega)).tr (mFr.J (by omega)))
        have hq : ∃ q'', G' + fh_bs t ^ k = fh_bs t ^ k * q'' ∧ (fh_bs t = 2 → fh_bs t ^ k ≤ n - (G' + fh_bs t ^ k) → q'' % 2 = 0) := by
          refine ⟨q' + 1, by rw [e', Nat.mul_add, Nat.mul_one], fun e2 hle => ?_⟩
          rw [Nat.pow_succ, e2] at h3
          rw [e2] at hle hge
          omega
        have hd : G' + fh_bs t ^ k + d * fh_bs t ^ k = G + fh_bs t ^ (k + 1) := by
          rw [← g2, Nat.succ_mul]
          omega
        have z0 : lN (n - (G' + fh_bs t ^ k)) ≤ 0 ↔ n - (G' + fh_bs t ^ k) ≤ 0 := pk_lLE (b := 0) (by omega) (by omega)
        rw [z0]
        refine ⟨fun hz => ihd _ _ _ (by omega) (by omega) hd hq (fun hlt => absurd hlt (by omega)) hPP hFr, fun hz => m_plain hi (h.fr hFr) ok (by omega) (by omega) ?_⟩
        have hc := pc_le t (G' + fh_bs t ^ k)
        have ec : nI (fh_pc t (G' + fh_bs t ^ k)) = 1 ↔ fh_pc t (G' + fh_bs t ^ k) = 1 := nI_eq (b := 1) (by omega) (by omega)
        rw [ec, t12, zI_m1, zI_1, zI_add, zI_add, zI_add, zI_add]
        unfold fh_sg at p3
        refine ⟨fun hne => ihd _ _ _ (by omega) (by omega) hd hq (fun hlt => ?_) hPP hFr, fun he => ihd _ _ _ (by omega) (by omega) hd hq (fun hlt => ?_) hPP hFr⟩
        · rw [p3, if_neg hne]
          omega
        · rw [p3, if_pos he]
          omega
    refine ⟨fh_bs t + 1, inner (fh_bs t) G W J' (Nat.le_refl _) h1 ?_ ⟨fh_bs t * q, ?_, fun e _ => by rw [e]; omega⟩ h4 h5 h6⟩
    · rw [Nat.pow_succ']
    · rw [h2, Nat.pow_succ, Nat.mul_assoc]
theorem m_plainPlace {I : gI} {J : gJ} {i : Nat} {t : gP} (hi : i < 8) (h : mS I J i t) (ok : stok t) {n : Nat} (hn : n ≤ fh_pw t) {Q : gI → gJ → Prop} (hQ : ∀ I' J', J' 0 1 = zL (fh_px (fh_pc t) 0 n) → J' 0 2 = zL (fh_py (fh_pc t) 0 n) → mFr I J I' J' → Q I' J') : wM_plainPlace (nI i) (lN n) I J Q := by
  have hin : vp_in (nI i) 8 := vp_in_nI hi (by decide)
  have hk6 := ok.1
  have hf := ok.2.2.2.1
  have hb := bs_or t
  have hp : 0 < fh_bs t ^ tf t := Nat.pow_pos (by omega)
  unfold wM_plainPlace
  refine m_parts hi h ok (fun I' J' hpa hfr => ?_)
  rintro J4 rfl J6 rfl
  have hfr' : mFr I J I' (upJ (upJ J' 0 1 0) 0 2 0) := hfr.tr ((mFr.J (by omega)).tr (mFr.J (by omega)))
  have h' := h.fr hfr'
  have key := m_plainPlace_l hi h' ok hn (Q := Q) (fun J'' a b c => hQ I' J'' a b (hfr'.tr c)) (tf t + 1) (Nat.le_refl _) 0 0 0 (upJ (upJ J' 0 1 0) 0 2 0) (Nat.zero_le _) (by rw [Nat.mul_zero]) (by
    unfold fh_pw at hn
    rw [Nat.pow_succ']
    rcases hb with hb | hb <;> rw [hb] at hn hp ⊢ <;> omega) (fun _ => rfl) ⟨fun j hj => by
      obtain ⟨a6, a7, a12⟩ := hpa j hj
      simp only [upJ_at]
      simp [a6, a7, a12], rfl, rfl⟩ mFr.rf
  rw [m_kind hi h']
  have c30 : ∀ s : Int32, s = nI (fh_bs t) → wM_plainPlace_c30 (nI i) (lN n) s I' (upJ (upJ J' 0 1 0) 0 2 0) Q := by
    intro s hs
    subst hs
    unfold wM_plainPlace_c30
    rw [nI_clamp (by omega), h'.2.2.1]
    refine ⟨hin, tf t + 1 + 1, ?_⟩
    have e1 : nI (tf t) = zI (((tf t + 1 : Nat) : Int) - 1) := by rw [zI_n]; congr 1; omega
    rw [e1]
    exact key
  refine ⟨hin, fun hk => c30 2 ?_, fun hk => c30 3 ?_⟩
  · rw [bs_2 (fun e => hk (by rw [e]; rfl))]; rfl
  · rw [bs_3 ((nI_eq (b := 2) (by omega) (by omega)).mp hk)]; rfl
