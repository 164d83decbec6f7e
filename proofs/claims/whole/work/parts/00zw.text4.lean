/-! read: words of letters, both -/
def fh_isw (v : Int32) : Bool := decide (v = 108 ∨ v = 114)
def fh_lw (g : Nat → Int32) (z : Nat) : Nat → Nat → Nat
  | 0, _ => 0
  | d + 1, a => if fh_isw (fh_hr g z a) = true then fh_lw g z d (a + 1) + 1 else 0
def fh_ww (g : Nat → Int32) (z a : Nat) : Nat → Int64
  | 0 => 0
  | n + 1 => if fh_hr g z (a + n) = 108 then fh_ww g z a n ||| ((1 : Int64) <<< ((nI n).toInt64 &&& 63)) else fh_ww g z a n
theorem isw_in {g : Nat → Int32} {z a : Nat} (h : fh_isw (fh_hr g z a) = true) : a < z := by
  refine hr_in (g := g) (fun e => ?_)
  rw [e] at h
  exact absurd h (by decide)
theorem x_wordUpTo {X : gI} {Y : gJ} {R : gR} {L : List Nat} {S : gS} {g : Nat → Int32} {s z a t : Nat} (T : tRx X Y R g s z a) (ht : t ≤ 40) {Q : Bool → gI → gJ → gR → Prop} (hQ : ∀ X' Y' n, n = fh_lw g z t a → tRx X' Y' R g s z (a + n) → X' 0 10 = nI n → Y' 0 0 = fh_ww g z a n → (∀ b, b ≠ 0 → X' b = X b) → (∀ j, j ≠ 6 → j ≠ 7 → j ≠ 10 → X' 0 j = X 0 j) → (∀ b, b ≠ 0 → Y' b = Y b) → X' 0 6 = (if 0 < n then X 0 6 else nI (a + n)) → Q (decide (0 < n)) X' Y' R) : wX6_wordUpTo (nI t) X Y R L S Q := by
  have hz := T.2.2.2.1
  have key : ∀ (d i : Nat) (X' : gI) (Y' : gJ), d + i = t → fh_lw g z d (a + i) + i = fh_lw g z t a → tRx X' Y' R g s z (a + i) → X' 0 10 = nI i → Y' 0 0 = fh_ww g z a i → (∀ b, b ≠ 0 → X' b = X b) → (∀ j, j ≠ 7 → j ≠ 10 → X' 0 j = X 0 j) → (∀ b, b ≠ 0 → Y' b = Y b) → wX6_wordUpTo_l10 L S Q (d + 1) (nI t) X' Y' R := by
    intro d
    induction d with
    | zero =>
      intro i X' Y' e he T' f10 fw f1 f2 f3
      rw [fh_lw, Nat.zero_add] at he
      obtain rfl : i = t := by omega
      refine br_t (by rw [f10]; exact nI_le (Nat.le_refl _) (by omega)) ?_
      unfold wX6_wordUpTo_c83
      rw [f10, T'.2.2.2.2.1]
      have E0 : 0 < nI i ↔ 0 < i := nI_ltI (a := 0) (by omega) (by omega)
      rw [E0]
      refine ⟨fun y => ?_, fun n => x_fail (btf ?_)⟩
      · have := hQ X' Y' i he T' f10 fw f1 (fun j _ j7 j10 => f2 j j7 j10) f3 (by rw [if_pos y, f2 6 (by omega) (by omega)])
        rwa [decide_eq_true y] at this
      · have := hQ (upI X' 0 6 (nI (a + i))) Y' i he ⟨T'.1, T'.2.1, by rw [upI_n (by omega)]; exact T'.2.2.1, T'.2.2.2.1, by rw [upI_s, upd_n (by omega)]; exact T'.2.2.2.2.1, T'.2.2.2.2.2⟩ (by rw [upI_s, upd_n (by omega)]; exact f10) fw (fun b hb => by rw [upI_n hb, f1 b hb]) (fun j j6 j7 j10 => by rw [upI_s, upd_n j6, f2 j j7 j10]) f3 (by rw [if_neg n, upI_s, upd_s])
        rwa [decide_eq_false n] at this
    | succ d ih =>
      intro i X' Y' e he T' f10 fw f1 f2 f3
      rw [fh_lw] at he
      have stop : fh_isw (fh_hr g z (a + i)) = false → wX6_wordUpTo_c83 L S X' Y' R Q := by
        intro hn
        rw [hn, if_neg (by decide), Nat.zero_add] at he
        unfold wX6_wordUpTo_c83
        rw [f10, T'.2.2.2.2.1]
        have E0 : 0 < nI i ↔ 0 < i := nI_ltI (a := 0) (by omega) (by omega)
        rw [E0]
        refine ⟨fun y => ?_, fun n => x_fail (btf ?_)⟩
        · have := hQ X' Y' i he T' f10 fw f1 (fun j _ j7 j10 => f2 j j7 j10) f3 (by rw [if_pos y, f2 6 (by omega) (by omega)])
          rwa [decide_eq_true y] at this
        · have := hQ (upI X' 0 6 (nI (a + i))) Y' i he ⟨T'.1, T'.2.1, by rw [upI_n (by omega)]; exact T'.2.2.1, T'.2.2.2.1, by rw [upI_s, upd_n (by omega)]; exact T'.2.2.2.2.1, T'.2.2.2.2.2⟩ (by rw [upI_s, upd_n (by omega)]; exact f10) fw (fun b hb => by rw [upI_n hb, f1 b hb]) (fun j j6 j7 j10 => by rw [upI_s, upd_n j6, f2 j j7 j10]) f3 (by rw [if_neg n, upI_s, upd_s])
          rwa [decide_eq_false n] at this
      have c60 : fh_isw (fh_hr g z (a + i)) = true → ∀ Y1 : gJ, Y1 0 0 = fh_ww g z a (i + 1) → (∀ b, b ≠ 0 → Y1 b = Y b) → wX6_wordUpTo_c60 L S (wX6_wordUpTo_l10 L S Q (d + 1)) (nI t) X' Y1 R Q := by
        intro hy Y1 y1 y2
        rw [hy, if_pos rfl] at he
        have hin := isw_in hy
        rintro I1 rfl I3 rfl
        rw [f10, upI_s, upd_n (show (7 : Nat) ≠ 10 by omega), T'.2.2.2.2.1, nI_1, nI_1]
        refine ih (i + 1) _ Y1 (by omega) (by rw [← Nat.add_assoc a i 1]; omega) ⟨T'.1, T'.2.1, by rw [upI_n (by omega), upI_n (by omega)]; exact T'.2.2.1, T'.2.2.2.1, by rw [upI_s, upd_s]; rfl, by omega, fun q hq => ?_⟩ (by rw [upI_s, upd_n (by omega), upI_s, upd_s]) y1 (fun b hb => by rw [upI_n hb, upI_n hb, f1 b hb]) (fun j j7 j10 => by rw [upI_s, upd_n j7, upI_s, upd_n j10, f2 j j7 j10]) y2
        rw [y2 (3 + s) (by omega), ← f3 (3 + s) (by omega)]
        exact T'.2.2.2.2.2.2 q hq
      have c36 : fh_isw (fh_hr g z (a + i)) = true → wX6_wordUpTo_c36 L S (wX6_wordUpTo_l10 L S Q (d + 1)) (nI t) X' Y' R Q := by
        intro hy
        unfold wX6_wordUpTo_c36
        refine x_here T' ⟨fun n => c60 hy Y' (by rw [fh_ww, if_neg n]; exact fw) f3, fun y => ?_⟩
        rintro J3 rfl
        refine c60 hy _ ?_ (fun b hb => by rw [upJ_n hb, f3 b hb])
        rw [upJ_s, upl_s, fw, f10, fh_ww, if_pos y]
      refine br_f (by rw [f10]; exact nI_ge (by omega) (by omega)) (x_here T' ⟨fun y => c36 (decide_eq_true (Or.inl y)), fun n => x_here T' ⟨fun n2 => stop (decide_eq_false (fun e => e.elim n n2)), fun y2 => c36 (decide_eq_true (Or.inr y2))⟩⟩)
  unfold wX6_wordUpTo
  rintro J1 rfl I3 rfl
  refine ⟨t + 1, key t 0 _ _ (by omega) (by rw [Nat.add_zero, Nat.add_zero]) ⟨T.1, T.2.1, by rw [upI_n (by omega)]; exact T.2.2.1, T.2.2.2.1, by rw [upI_s, upd_n (by omega)]; exact T.2.2.2.2.1, T.2.2.2.2.2.1, fun q hq => by rw [upJ_n (by omega)]; exact T.2.2.2.2.2.2 q hq⟩ (by rw [upI_s, upd_s]; rfl) (by rw [upJ_s, upl_s]; rfl) (fun b hb => by rw [upI_n hb]) (fun j _ j10 => by rw [upI_s, upd_n j10]) (fun b hb => by rw [upJ_n hb])⟩
