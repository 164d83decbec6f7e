/-! read: the words of both are the same -/
theorem mw_lts (g : Nat → Int32) (z b w n : Nat) (h : ∀ i, i < n → nI (fh_wv (b + i)) = fh_tx w i) : ∀ d i a : Nat, d + i ≤ n → fh_mw g z b d i a = fh_lts g z w d i a
  | 0, _, _, _ => rfl
  | d + 1, i, a, hd => by
    rw [fh_mw, fh_lts, h i (by omega), mw_lts g z b w n h d (i + 1) (a + 1) (by omega)]
theorem mw_turn (g : Nat → Int32) (z a : Nat) : fh_mw g z 7 5 0 a = fh_lts g z 2 5 0 a := mw_lts g z 7 2 5 (by decide +kernel) 5 0 a (by omega)
theorem mw_less (g : Nat → Int32) (z a : Nat) : fh_mw g z 13 5 0 a = fh_lts g z 3 5 0 a := mw_lts g z 13 3 5 (by decide +kernel) 5 0 a (by omega)
theorem mw_strip5 (g : Nat → Int32) (z a : Nat) : fh_mw g z 0 5 0 a = fh_lts g z 0 5 0 a := mw_lts g z 0 0 5 (by decide +kernel) 5 0 a (by omega)
theorem mw_more (g : Nat → Int32) (z b : Nat) : ∀ d i a : Nat, fh_mw g z b (d + 1) i a = if fh_mw g z b d i a = d then d + fh_mw g z b 1 (i + d) (a + d) else fh_mw g z b d i a
  | 0, i, a => by
    have e : fh_mw g z b 0 i a = 0 := rfl
    rw [if_pos e]
    show fh_mw g z b 1 i a = 0 + fh_mw g z b 1 i a
    rw [Nat.zero_add]
  | d + 1, i, a => by
    rw [fh_mw, mw_more g z b d (i + 1) (a + 1)]
    have e : fh_mw g z b (d + 1) i a = if fh_hr g z a = nI (fh_wv (b + i)) then fh_mw g z b d (i + 1) (a + 1) + 1 else 0 := rfl
    rw [e]
    by_cases c : fh_hr g z a = nI (fh_wv (b + i))
    · rw [if_pos c, if_pos c]
      by_cases c2 : fh_mw g z b d (i + 1) (a + 1) = d
      · rw [if_pos c2, if_pos (by omega), show i + 1 + d = i + (d + 1) by omega, show a + 1 + d = a + (d + 1) by omega]
        omega
      · rw [if_neg c2, if_neg (by omega)]
    · rw [if_neg c, if_neg c, if_neg (by omega)]
/-- the first word of the reference is that of the class and a blank -/
theorem mw_strip (g : Nat → Int32) (z a : Nat) : fh_mw g z 0 6 0 a = if fh_lts g z 0 5 0 a = 5 then 5 + fh_lts g z 1 1 0 (a + 5) else fh_lts g z 0 5 0 a := by
  rw [mw_more, mw_strip5]
  have e : fh_mw g z 0 1 (0 + 5) (a + 5) = fh_lts g z 1 1 0 (a + 5) := by
    show (if fh_hr g z (a + 5) = nI (fh_wv (0 + (0 + 5))) then 0 + 1 else 0) = (if fh_hr g z (a + 5) = fh_tx 1 0 then 0 + 1 else 0)
    rw [show nI (fh_wv (0 + (0 + 5))) = fh_tx 1 0 by decide +kernel]
  rw [e]
/-- only one of the three words can begin there -/
theorem lts_0 (g : Nat → Int32) (z w d a : Nat) (h : ¬ fh_hr g z a = fh_tx w 0) : fh_lts g z w d 0 a = 0 := by
  cases d with
  | zero => rfl
  | succ d => rw [fh_lts, if_neg h]
