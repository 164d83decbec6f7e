/-! read: the reference's words of letters -/
def fh_wok (g : Nat → Int32) (z t a : Nat) : Bool := decide (0 < fh_lw g z t a ∧ ¬ (fh_lw g z t a = t ∧ fh_isw (fh_hr g z (a + t)) = true))
theorem m_lets {I : gI} {J : gJ} {g : Nat → Int32} {s z a t : Nat} (T : tRm I J g s z a) (ht : t ≤ 40) {Q : Bool → gI → gJ → Prop} (hQ : ∀ I' J' n, n = fh_lw g z t a → tRm I' J' g s z (a + n) → I' 0 7 = nI n → J' 0 0 = fh_ww g z a n → (∀ b, b ≠ 0 → I' b = I b) → (∀ j, j ≠ 3 → j ≠ 6 → j ≠ 7 → I' 0 j = I 0 j) → (∀ b, b ≠ 0 → J' b = J b) → I' 0 6 = (if fh_wok g z t a = true then I 0 6 else nI (a + n)) → Q (fh_wok g z t a) I' J') : wM_letters (nI t) I J Q := by
  have hz := T.2.2.2.1
  have up : ∀ {I' : gI} {J' : gJ} {b j : Nat} {v : Int32}, tRm I' J' g s z b → j ≠ 2 → j ≠ 3 → j ≠ 4 → tRm (upI I' 0 j v) J' g s z b := by
    intro I' J' b j v T' j2 j3 j4
    refine ⟨?_, T'.2.1, ?_, T'.2.2.2.1, ?_, T'.2.2.2.2.2⟩
    · rw [upI_s, upd_n (fun e => j2 e.symm)]
      exact T'.1
    · rw [upI_s, upd_n (fun e => j4 e.symm)]
      exact T'.2.2.1
    · rw [upI_s, upd_n (fun e => j3 e.symm)]
      exact T'.2.2.2.2.1
  have key : ∀ (d i : Nat) (I' : gI) (J' : gJ), d + i = t → fh_lw g z d (a + i) + i = fh_lw g z t a → tRm I' J' g s z (a + i) → I' 0 7 = nI i → J' 0 0 = fh_ww g z a i → (∀ b, b ≠ 0 → I' b = I b) → (∀ j, j ≠ 3 → j ≠ 7 → I' 0 j = I 0 j) → (∀ b, b ≠ 0 → J' b = J b) → wM_letters_l10 Q (d + 1) (nI t) I' J' := by
    intro d
    induction d with
    | zero =>
      intro i I' J' e he T' f7 fw f1 f2 f3
      obtain rfl : i = t := by omega
      rw [fh_lw, Nat.zero_add] at he
      have bad : fh_wok g z i a = false → Q false (upI I' 0 6 (nI (a + i))) J' := by
        intro hb
        have := hQ (upI I' 0 6 (nI (a + i))) J' i he (up T' (by omega) (by omega) (by omega)) (by rw [upI_s, upd_n (by omega)]; exact f7) fw (fun b hb => by rw [upI_n hb, f1 b hb]) (fun j j3 j6 j7 => by rw [upI_s, upd_n j6, f2 j j3 j7]) f3 (by rw [hb, upI_s, upd_s]; rfl)
        rwa [hb] at this
      have stop : fh_isw (fh_hr g z (a + i)) = false → wM_letters_c136 I' J' Q := by
        intro hn
        unfold wM_letters_c136
        rw [f7, T'.2.2.2.2.1]
        have E0 : 0 < nI i ↔ 0 < i := nI_ltI (a := 0) (by omega) (by omega)
        rw [E0]
        refine ⟨fun y => ?_, fun n => ?_⟩
        · have hk : fh_wok g z i a = true := decide_eq_true ⟨by omega, fun h => by rw [hn] at h; exact Bool.noConfusion h.2⟩
          have := hQ I' J' i he T' f7 fw f1 (fun j j3 _ j7 => f2 j j3 j7) f3 (by rw [hk, f2 6 (by omega) (by omega)]; rfl)
          rwa [hk] at this
        · intro I2 h2
          rw [h2]
          exact btf (bad (decide_eq_false (fun h => by omega)))
      have c61 : fh_isw (fh_hr g z (a + i)) = true → wM_letters_c61 (wM_letters_l10 Q 0) (nI i) I' J' Q := by
        intro hy
        unfold wM_letters_c61
        rw [f7, T'.2.2.2.2.1]
        refine br_n rfl ?_
        intro I2 h2
        rw [h2]
        exact bad (decide_eq_false (fun h => h.2 ⟨he.symm, hy⟩))
      show wM_letters_b10 _ _ _ _ Q
      unfold wM_letters_b10
      rw [T'.2.2.1, T'.2.2.2.2.1, T'.1]
      by_cases c : a + i < z
      · obtain ⟨c1, c2⟩ := m_cell T'.2.1 (show a + i < 160 by omega) T'.2.2.2.2.2.2
        have eh : fh_hr g z (a + i) = g (a + i) := by rw [fh_hr, if_pos c]
        rw [c2, ← eh]
        exact br_f (nI_ge c (by omega)) ⟨c1, fun y => c61 (decide_eq_true (Or.inl y)), fun n => ⟨fun n2 => stop (decide_eq_false (fun e => e.elim n n2)), fun y2 => c61 (decide_eq_true (Or.inr y2))⟩⟩
      · have hb := T'.2.2.2.2.2.1
        refine br_t (nI_le (by omega) (by omega)) (stop ?_)
        rw [fh_hr, if_neg c]
        rfl
    | succ d ih =>
      intro i I' J' e he T' f7 fw f1 f2 f3
      rw [fh_lw] at he
      have stop : fh_isw (fh_hr g z (a + i)) = false → wM_letters_c136 I' J' Q := by
        intro hn
        rw [hn, if_neg (by decide), Nat.zero_add] at he
        unfold wM_letters_c136
        rw [f7, T'.2.2.2.2.1]
        have E0 : 0 < nI i ↔ 0 < i := nI_ltI (a := 0) (by omega) (by omega)
        rw [E0]
        refine ⟨fun y => ?_, fun n => ?_⟩
        · have hk : fh_wok g z t a = true := decide_eq_true ⟨by omega, fun h => by omega⟩
          have := hQ I' J' i he T' f7 fw f1 (fun j j3 _ j7 => f2 j j3 j7) f3 (by rw [hk, f2 6 (by omega) (by omega)]; rfl)
          rwa [hk] at this
        · intro I2 h2
          rw [h2]
          have hk : fh_wok g z t a = false := decide_eq_false (fun h => by omega)
          have := hQ (upI I' 0 6 (nI (a + i))) J' i he (up T' (by omega) (by omega) (by omega)) (by rw [upI_s, upd_n (by omega)]; exact f7) fw (fun b hb => by rw [upI_n hb, f1 b hb]) (fun j j3 j6 j7 => by rw [upI_s, upd_n j6, f2 j j3 j7]) f3 (by rw [hk, upI_s, upd_s]; rfl)
          rw [hk] at this
          exact btf this
      have c113 : fh_isw (fh_hr g z (a + i)) = true → ∀ J1 : gJ, J1 0 0 = fh_ww g z a (i + 1) → (∀ b, b ≠ 0 → J1 b = J b) → wM_letters_c113 (wM_letters_l10 Q (d + 1)) (nI t) I' J1 Q := by
        intro hy J1 y1 y2
        rw [hy, if_pos rfl] at he
        have hin := isw_in hy
        rintro I1 rfl I3 rfl
        rw [f7, upI_s, upd_n (show (3 : Nat) ≠ 7 by omega), T'.2.2.2.2.1, nI_1, nI_1]
        refine ih (i + 1) _ J1 (by omega) (by rw [← Nat.add_assoc a i 1]; omega) ⟨by rw [upI_s, upd_n (by omega), upI_s, upd_n (by omega)]; exact T'.1, T'.2.1, by rw [upI_s, upd_n (by omega), upI_s, upd_n (by omega)]; exact T'.2.2.1, T'.2.2.2.1, by rw [upI_s, upd_s]; rfl, by omega, fun q hq => ?_⟩ (by rw [upI_s, upd_n (by omega), upI_s, upd_s]) y1 (fun b hb => by rw [upI_n hb, upI_n hb, f1 b hb]) (fun j j3 j7 => by rw [upI_s, upd_n j3, upI_s, upd_n j7, f2 j j3 j7]) y2
        rw [y2 2 (by omega), ← f3 2 (by omega)]
        exact T'.2.2.2.2.2.2 q hq
      show wM_letters_b10 _ _ _ _ Q
      unfold wM_letters_b10
      rw [T'.2.2.1, T'.2.2.2.2.1, T'.1]
      by_cases c : a + i < z
      · obtain ⟨c1, c2⟩ := m_cell T'.2.1 (show a + i < 160 by omega) T'.2.2.2.2.2.2
        have eh : fh_hr g z (a + i) = g (a + i) := by rw [fh_hr, if_pos c]
        have c61 : fh_isw (fh_hr g z (a + i)) = true → wM_letters_c61 (wM_letters_l10 Q (d + 1)) (nI t) I' J' Q := by
          intro hy
          unfold wM_letters_c61
          rw [f7, T'.1, T'.2.2.2.2.1, c2, ← eh]
          refine br_m (by rw [nI_eq (by omega) (by omega)]; omega) ⟨c1, fun n => c113 hy J' (by rw [fh_ww, if_neg n]; exact fw) f3, fun y => ?_⟩
          rintro J4 rfl
          refine c113 hy _ ?_ (fun b hb => by rw [upJ_n hb, f3 b hb])
          rw [upJ_s, upl_s, fw, fh_ww, if_pos y]
        rw [c2, ← eh]
        exact br_f (nI_ge c (by omega)) ⟨c1, fun y => c61 (decide_eq_true (Or.inl y)), fun n => ⟨fun n2 => stop (decide_eq_false (fun e => e.elim n n2)), fun y2 => c61 (decide_eq_true (Or.inr y2))⟩⟩
      · have hb := T'.2.2.2.2.2.1
        refine br_t (nI_le (by omega) (by omega)) (stop ?_)
        rw [fh_hr, if_neg c]
        rfl
  unfold wM_letters
  rintro I1 rfl J3 rfl
  have T1 : tRm (upI I 0 7 0) (upJ J 0 0 0) g s z a := ⟨(up T (j := 7) (v := 0) (by omega) (by omega) (by omega)).1, T.2.1, (up T (j := 7) (v := 0) (by omega) (by omega) (by omega)).2.2.1, hz, (up T (j := 7) (v := 0) (by omega) (by omega) (by omega)).2.2.2.2.1, T.2.2.2.2.2.1, fun q hq => by rw [upJ_n (by omega)]; exact T.2.2.2.2.2.2 q hq⟩
  exact ⟨t + 1, key t 0 _ _ (by omega) (by rw [Nat.add_zero, Nat.add_zero]) T1 (by rw [upI_s, upd_s]; rfl) (by rw [upJ_s, upl_s]; rfl) (fun b hb => by rw [upI_n hb]) (fun j j3 j7 => by rw [upI_s, upd_n j7]) (fun b hb => by rw [upJ_n hb])⟩
