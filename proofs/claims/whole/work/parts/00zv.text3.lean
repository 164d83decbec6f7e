/-! read: letters of the class -/
def fh_tx (w i : Nat) : Int32 := (tx_byt.getD w []).getD i 0
theorem tx_n : ∀ w : Nat, w < 5 → ∀ i : Nat, i < 5 → (((fh_tx w i &&& 255).toUInt32 % 65536).toInt32) = fh_tx w i := by decide +kernel
theorem tx_l : ∀ w : Nat, w < 5 → (Int32.ofNat (tx_len.getD w 0)) >>> ((0 : Int32) &&& 31) = nI (tx_len.getD w 0) ∧ tx_len.getD w 0 ≤ 5 := by decide +kernel
theorem tx_c : ∀ w : Nat, w < 5 → ∀ i : Nat, i < 5 → narrow .char (.int (fh_tx w i)) = .int (fh_tx w i) := by
  intro w hw i hi
  rcases (show w = 0 ∨ w = 1 ∨ w = 2 ∨ w = 3 ∨ w = 4 by omega) with e | e | e | e | e <;> subst e <;> rcases (show i = 0 ∨ i = 1 ∨ i = 2 ∨ i = 3 ∨ i = 4 by omega) with e | e | e | e | e <;> subst e <;> rfl
theorem x_len {X : gI} {Y : gJ} {R : gR} {L : List Nat} {S : gS} {w : Nat} (hw : w < 5) {Q : Int32 → Prop} (hQ : Q (nI (tx_len.getD w 0))) : wJ0_length_8abf5 w X Y R L S Q := by
  rw [← (tx_l w hw).1] at hQ
  exact br_f (by decide) ⟨by rfl, hQ⟩
theorem x_chr {X : gI} {Y : gJ} {R : gR} {L : List Nat} {S : gS} {w i : Nat} (hw : w < 5) (hi : i < tx_len.getD w 0) {Q : Int32 → Prop} (hQ : Q (fh_tx w i)) : wJ0_charAt_5068e w (nI i) X Y R L S Q := by
  have hl := (tx_l w hw).2
  have e : nI i < Int32.ofNat (tx_len.getD w 0) := nI_lt hi (by omega)
  refine br_f (by decide) (br_n rfl (bft ?_))
  intro r1
  refine br_f (show ¬ nI i < nI 0 from nI_nlt (by omega) (by omega)) (br_t e ⟨vp_in_nI hi (by
    have := (by decide : ∀ w : Nat, w < 5 → tx_len.getD w 0 < 2147483648) w hw
    exact this), ?_⟩)
  rw [nI_clamp (show i < 2147483648 by omega)]
  show narrow .char (.int (((fh_tx w i &&& 255).toUInt32 % 65536).toInt32)) = .int (((fh_tx w i &&& 255).toUInt32 % 65536).toInt32) ∧ narrow .char (.int (((fh_tx w i &&& 255).toUInt32 % 65536).toInt32)) = .int (((fh_tx w i &&& 255).toUInt32 % 65536).toInt32) ∧ Q (((fh_tx w i &&& 255).toUInt32 % 65536).toInt32)
  rw [tx_n w hw i (by omega)]
  exact ⟨tx_c w hw i (by omega), tx_c w hw i (by omega), hQ⟩
/-- how many bytes of word w, from its i-th on, stand at a -/
def fh_lts (g : Nat → Int32) (z w : Nat) : Nat → Nat → Nat → Nat
  | 0, _, _ => 0
  | d + 1, i, a => if fh_hr g z a = fh_tx w i then fh_lts g z w d (i + 1) (a + 1) + 1 else 0
theorem lts_le (g : Nat → Int32) (z w : Nat) : ∀ d i a : Nat, fh_lts g z w d i a ≤ d
  | 0, _, _ => Nat.le_refl 0
  | d + 1, i, a => by
    have := lts_le g z w d (i + 1) (a + 1)
    rw [fh_lts]
    split <;> omega
theorem tx_p : ∀ w : Nat, w < 5 → ∀ i : Nat, i < tx_len.getD w 0 → fh_tx w i ≠ -1 := by decide +kernel
theorem hr_in {g : Nat → Int32} {z a : Nat} (h : fh_hr g z a ≠ -1) : a < z := by
  refine Decidable.byContradiction (fun hn => ?_)
  rw [fh_hr, if_neg hn] at h
  exact h rfl
theorem x_lets {X : gI} {Y : gJ} {R : gR} {L : List Nat} {S : gS} {g : Nat → Int32} {s z a w : Nat} (T : tRx X Y R g s z a) (hw : w < 5) {Q : Bool → gI → gJ → gR → Prop} (hQ : ∀ X' m, m = fh_lts g z w (tx_len.getD w 0) 0 a → tRx X' Y R g s z (a + m) → (∀ b, b ≠ 0 → X' b = X b) → (∀ j, j ≠ 6 → j ≠ 7 → X' 0 j = X 0 j) → X' 0 6 = (if m = tx_len.getD w 0 then X 0 6 else nI (a + m)) → Q (decide (m = tx_len.getD w 0)) X' Y R) : wX6_letters w X Y R L S Q := by
  obtain ⟨tl, t5⟩ := tx_l w hw
  have hz := T.2.2.2.1
  have key : ∀ (d i : Nat) (X' : gI), d + i = tx_len.getD w 0 → fh_lts g z w d i (a + i) + i = fh_lts g z w (tx_len.getD w 0) 0 a → tRx X' Y R g s z (a + i) → (∀ b, b ≠ 0 → X' b = X b) → (∀ j, j ≠ 7 → X' 0 j = X 0 j) → wX6_letters_l2 w L S Q (d + 1) (nI i) X' Y R := by
    intro d
    induction d with
    | zero =>
      intro i X' e he T' f1 f2
      rw [fh_lts, Nat.zero_add] at he
      show wX6_letters_b2 w L S _ _ _ _ _ Q
      unfold wX6_letters_b2
      refine x_len hw ?_
      refine br_t (nI_le (by omega) (by omega)) ?_
      have := hQ X' i he T' f1 (fun j _ j7 => f2 j j7) (by rw [if_pos (by omega), f2 6 (by omega)])
      rwa [show decide (i = tx_len.getD w 0) = true from decide_eq_true (by omega)] at this
    | succ d ih =>
      intro i X' e he T' f1 f2
      rw [fh_lts] at he
      have ha := T'.2.2.2.2.2.1
      show wX6_letters_b2 w L S _ _ _ _ _ Q
      unfold wX6_letters_b2
      refine x_len hw ?_
      refine br_f (nI_ge (by omega) (by omega)) (x_here T' (x_chr hw (by omega) ⟨fun y => ?_, fun n => ?_⟩))
      · rw [if_pos y] at he
        have hin : a + i < z := hr_in (by rw [y]; exact tx_p w hw i (by omega))
        rintro I6 rfl
        rw [T'.2.2.2.2.1, nI_1, nI_1]
        refine ih (i + 1) _ (by omega) (by rw [← Nat.add_assoc a i 1]; omega) ⟨T'.1, T'.2.1, by rw [upI_n (by omega)]; exact T'.2.2.1, T'.2.2.2.1, by rw [upI_s, upd_s]; rfl, by omega, T'.2.2.2.2.2.2⟩ (fun b hb => by rw [upI_n hb, f1 b hb]) (fun j hj => by rw [upI_s, upd_n hj, f2 j hj])
      · rw [if_neg n, Nat.zero_add] at he
        rw [T'.2.2.2.2.1]
        refine x_fail ?_
        have := hQ (upI X' 0 6 (nI (a + i))) i he ⟨T'.1, T'.2.1, by rw [upI_n (by omega)]; exact T'.2.2.1, T'.2.2.2.1, by rw [upI_s, upd_n (by omega)]; exact T'.2.2.2.2.1, ha, T'.2.2.2.2.2.2⟩ (fun b hb => by rw [upI_n hb, f1 b hb]) (fun j j6 j7 => by rw [upI_s, upd_n j6, f2 j j7]) (by rw [if_neg (by omega), upI_s, upd_s])
        rwa [show decide (i = tx_len.getD w 0) = false from decide_eq_false (by omega)] at this
  exact ⟨tx_len.getD w 0 + 1, key (tx_len.getD w 0) 0 X (by omega) (by rw [Nat.add_zero, Nat.add_zero]) T (fun _ _ => rfl) (fun _ _ => rfl)⟩
