/-! read: the reference's numbers and blanks -/
def tRm (I : gI) (J : gJ) (g : Nat → Int32) (s z a : Nat) : Prop := I 0 2 = nI (160 * s) ∧ s < 8 ∧ I 0 4 = nI z ∧ z ≤ 160 ∧ I 0 3 = nI a ∧ a ≤ z ∧ ∀ i, i < 160 → (J 2 (160 * s + i)).toInt32 = g i
/-- of the reference's own ints, only 3, 5, 6 are others -/
def mN (I I' : gI) : Prop := (∀ a, a ≠ 0 → I' a = I a) ∧ ∀ j, j ≠ 3 → j ≠ 5 → j ≠ 6 → I' 0 j = I 0 j
theorem m_cell {J : gJ} {g : Nat → Int32} {s i : Nat} (hs : s < 8) (hi : i < 160) (h : ∀ i, i < 160 → (J 2 (160 * s + i)).toInt32 = g i) : vp_in (nI (160 * s) + nI i) 1280 ∧ (J 2 (nI (160 * s) + nI i).toNatClampNeg).toInt32 = g i := by
  rw [nI_add, nI_clamp (show 160 * s + i < 2147483648 by omega)]
  exact ⟨vp_in_nI (by omega) (by decide), h i hi⟩
theorem m_isDigit {I : gI} {J : gJ} {g : Nat → Int32} {s z a : Nat} (T : tRm I J g s z a) {Q : Bool → Prop} (hQ : Q (fh_dg (fh_hr g z a))) : wM_isDigit I J Q := by
  obtain ⟨t1, t2, t3, t4, t5, t6, t7⟩ := T
  unfold wM_isDigit
  rw [t1, t3, t5]
  by_cases c : a < z
  · obtain ⟨c1, c2⟩ := m_cell t2 (show a < 160 by omega) t7
    rw [fh_hr, if_pos c] at hQ
    rw [c2]
    refine br_f (nI_ge c (by omega)) ⟨c1, fun h1 => ?_, fun h1 => ⟨fun h2 => ?_, fun h2 => ?_⟩⟩
    · rwa [show fh_dg (g a) = false from decide_eq_false (fun e => e.1 h1)] at hQ
    · rwa [show fh_dg (g a) = false from decide_eq_false (fun e => e.2 h2)] at hQ
    · rwa [show fh_dg (g a) = true from decide_eq_true ⟨h1, h2⟩] at hQ
  · rw [fh_hr, if_neg c] at hQ
    exact br_t (nI_le (by omega) (by omega)) hQ
theorem m_number {I : gI} {J : gJ} {g : Nat → Int32} {s z a : Nat} (T : tRm I J g s z a) (most : Int32) {Q : Bool → gI → gJ → Prop} (hQ : ∀ I', tRm I' J g s z (fh_nu g z 6 a 0).1 → I' 0 5 = (fh_nu g z 6 a 0).2 → mN I I' → I' 0 6 = (if fh_nk g z a most = true then I 0 6 else nI a) → Q (fh_nk g z a most) I' J) : wM_number most I J Q := by
  have hge := nu_ge g z 6 a 0 T.2.2.2.2.2.1
  have hz := T.2.2.2.1
  have up : ∀ {I' : gI} {b : Nat} {j : Nat} {v : Int32}, tRm I' J g s z b → j ≠ 2 → j ≠ 3 → j ≠ 4 → tRm (upI I' 0 j v) J g s z b := by
    intro I' b j v T' j2 j3 j4
    refine ⟨?_, T'.2.1, ?_, T'.2.2.2.1, ?_, T'.2.2.2.2.2⟩
    · rw [upI_s, upd_n (fun e => j2 e.symm)]
      exact T'.1
    · rw [upI_s, upd_n (fun e => j4 e.symm)]
      exact T'.2.2.1
    · rw [upI_s, upd_n (fun e => j3 e.symm)]
      exact T'.2.2.2.2.1
  unfold wM_number
  rintro I1 rfl
  have T1 : tRm (upI I 0 5 0) J g s z a := up T (by omega) (by omega) (by omega)
  refine m_isDigit T1 ?_
  cases hd : fh_dg (fh_hr g z a)
  · -- no digit
    have e0 : fh_nu g z 6 a 0 = (a, 0) := by
      rw [fh_nu, hd, if_neg (by decide)]
    have hk : fh_nk g z a most = false := by
      unfold fh_nk
      rw [e0]
      exact decide_eq_false (fun e => e.1 rfl)
    rw [e0, hk] at hQ
    refine bff ?_
    rw [T1.2.2.2.2.1]
    intro I2 h2
    rw [h2]
    refine hQ _ (up T1 (by omega) (by omega) (by omega)) ?_ ⟨fun b hb => by rw [upI_n hb, upI_n hb], fun j h3 h5 h6 => by rw [upI_s, upd_n h6, upI_s, upd_n h5]⟩ ?_
    · rw [upI_s, upd_n (by omega), upI_s, upd_s]
    · rw [upI_s, upd_s]
      rfl
  · have ha := hr_dg hd
    have hlt : (fh_nu g z 6 a 0).1 ≠ a := by
      rw [fh_nu, hd, if_pos rfl]
      have := nu_ge g z 5 (a + 1) (((10 * 0) + fh_hr g z a) - 48) (by omega)
      omega
    refine btt ?_
    rw [T.2.2.2.2.1]
    have fin : ∀ I' : gI, tRm I' J g s z (fh_nu g z 6 a 0).1 → I' 0 5 = (fh_nu g z 6 a 0).2 → mN I I' → I' 0 6 = I 0 6 → wM_number_c87 most (nI a) I' J Q := by
      intro I' T' f5 fN f6
      unfold wM_number_c87
      rw [f5]
      refine ⟨fun y => ?_, fun n => ?_⟩
      · have hk : fh_nk g z a most = true := decide_eq_true ⟨hlt, y⟩
        have := hQ I' T' f5 fN (by rw [hk, f6]; rfl)
        rwa [hk] at this
      · have hk : fh_nk g z a most = false := decide_eq_false (fun e => n e.2)
        intro I2 h2
        rw [h2]
        have := hQ (upI I' 0 6 (nI a)) (up T' (by omega) (by omega) (by omega)) (by rw [upI_s, upd_n (by omega)]; exact f5) ⟨fun b hb => by rw [upI_n hb, fN.1 b hb], fun j h3 h5 h6 => by rw [upI_s, upd_n h6, fN.2 j h3 h5 h6]⟩ (by rw [hk, upI_s, upd_s]; rfl)
        rw [hk] at this
        exact btf this
    have key : ∀ (d i b : Nat) (v : Int32) (I' : gI), d + i = 6 → fh_nu g z d b v = fh_nu g z 6 a 0 → tRm I' J g s z b → I' 0 5 = v → mN I I' → I' 0 6 = I 0 6 → wM_number_l28 Q (d + 1) most (nI a) (nI i) I' J := by
      intro d
      induction d with
      | zero =>
        intro i b v I' e he T' f5 fN f6
        obtain rfl : i = 6 := by omega
        rw [fh_nu] at he
        refine br_t (nI_le (a := 6) (b := 6) (Nat.le_refl _) (by omega)) (fin I' ?_ ?_ fN f6)
        · rw [← he]
          exact T'
        · rw [← he]
          exact f5
      | succ d ih =>
        intro i b v I' e he T' f5 fN f6
        rw [fh_nu] at he
        refine br_f (nI_ge (b := 6) (by omega) (by omega)) (m_isDigit T' ?_)
        cases hd2 : fh_dg (fh_hr g z b)
        · rw [hd2, if_neg (by decide)] at he
          refine btf (fin I' ?_ ?_ fN f6)
          · rw [← he]
            exact T'
          · rw [← he]
            exact f5
        · rw [hd2, if_pos rfl] at he
          have hb := hr_dg hd2
          obtain ⟨c1, c2⟩ := m_cell T'.2.1 (show b < 160 by omega) T'.2.2.2.2.2.2
          refine bft ?_
          rw [T'.1, T'.2.2.2.2.1, c2, show g b = fh_hr g z b by rw [fh_hr, if_pos hb], f5, nI_1]
          refine ⟨c1, ?_⟩
          rintro I5 rfl I7 rfl
          rw [upI_s, upd_n (show (3 : Nat) ≠ 5 by omega), T'.2.2.2.2.1, nI_1]
          refine ih (i + 1) (b + 1) _ _ (by omega) he ⟨?_, T'.2.1, ?_, T'.2.2.2.1, ?_, by omega, T'.2.2.2.2.2.2⟩ ?_ ⟨fun c hc => by rw [upI_n hc, upI_n hc, fN.1 c hc], fun j h3 h5 h6 => ?_⟩ ?_
          · rw [upI_s, upd_n (by omega), upI_s, upd_n (by omega)]
            exact T'.1
          · rw [upI_s, upd_n (by omega), upI_s, upd_n (by omega)]
            exact T'.2.2.1
          · rw [upI_s, upd_s]
          · rw [upI_s, upd_n (by omega), upI_s, upd_s]
          · rw [upI_s, upd_n h3, upI_s, upd_n h5, fN.2 j h3 h5 h6]
          · rw [upI_s, upd_n (by omega), upI_s, upd_n (by omega)]
            exact f6
    refine ⟨7, key 6 0 a 0 _ (by omega) rfl T1 ?_ ⟨fun b hb => by rw [upI_n hb], fun j h3 h5 h6 => by rw [upI_s, upd_n h5]⟩ ?_⟩
    · rw [upI_s, upd_s]
    · rw [upI_s, upd_n (by omega)]
theorem m_blank {I : gI} {J : gJ} {g : Nat → Int32} {s z a : Nat} (T : tRm I J g s z a) {Q : Bool → gI → gJ → Prop} (hY : fh_hr g z a = 32 → a < z → tRm (upI I 0 3 (nI (a + 1))) J g s z (a + 1) → Q true (upI I 0 3 (nI (a + 1))) J) (hN : ¬ fh_hr g z a = 32 → tRm (upI I 0 6 (nI a)) J g s z a → Q false (upI I 0 6 (nI a)) J) : wM_blank I J Q := by
  have T' := T
  obtain ⟨t1, t2, t3, t4, t5, t6, t7⟩ := T
  have bad : ¬ fh_hr g z a = 32 → wM_blank_c31 I J Q := by
    intro hn
    unfold wM_blank_c31
    rw [t5]
    intro I1 h1
    rw [h1]
    refine hN hn ⟨?_, t2, ?_, t4, ?_, t6, t7⟩
    · rw [upI_s, upd_n (by omega)]; exact t1
    · rw [upI_s, upd_n (by omega)]; exact t3
    · rw [upI_s, upd_n (by omega)]; exact t5
  unfold wM_blank
  by_cases c : a < z
  · obtain ⟨c1, c2⟩ := m_cell t2 (show a < 160 by omega) t7
    have eh : fh_hr g z a = g a := by rw [fh_hr, if_pos c]
    rw [t3, t1, t5, c2, nI_1]
    refine br_f (nI_ge c (by omega)) ⟨c1, fun y => ?_, fun n => bad (by rw [eh]; exact n)⟩
    rintro I4 rfl
    refine hY (by rw [eh]; exact y) c ⟨?_, t2, ?_, t4, ?_, by omega, t7⟩
    · rw [upI_s, upd_n (by omega)]; exact t1
    · rw [upI_s, upd_n (by omega)]; exact t3
    · rw [upI_s, upd_s]
  · rw [t3, t5]
    refine br_t (nI_le (by omega) (by omega)) (bad ?_)
    rw [fh_hr, if_neg c]
    decide
