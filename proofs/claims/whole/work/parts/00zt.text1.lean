/-! read: what stands in a row of told bytes -/
/-- the byte there, -1 behind the end -/
def fh_hr (g : Nat → Int32) (z a : Nat) : Int32 := if a < z then g a else -1
def fh_dg (v : Int32) : Bool := decide (¬ v < 48 ∧ ¬ 57 < v)
/-- a number of at most d digits from a on: where it ends, and what it is -/
def fh_nu (g : Nat → Int32) (z : Nat) : Nat → Nat → Int32 → Nat × Int32
  | 0, a, v => (a, v)
  | d + 1, a, v => if fh_dg (fh_hr g z a) = true then fh_nu g z d (a + 1) (((10 * v) + fh_hr g z a) - 48) else (a, v)
theorem hr_dg {g : Nat → Int32} {z a : Nat} (h : fh_dg (fh_hr g z a) = true) : a < z := by
  refine Decidable.byContradiction (fun hn => ?_)
  rw [fh_hr, if_neg hn] at h
  exact absurd h (by decide)
theorem nu_ge (g : Nat → Int32) (z : Nat) : ∀ (d a : Nat) (v : Int32), a ≤ z → a ≤ (fh_nu g z d a v).1 ∧ (fh_nu g z d a v).1 ≤ z
  | 0, a, v, h => ⟨Nat.le_refl a, h⟩
  | d + 1, a, v, h => by
    rw [fh_nu]
    split
    · rename_i hd
      have := nu_ge g z d (a + 1) (((10 * v) + fh_hr g z a) - 48) (by have := hr_dg hd; omega)
      omega
    · exact ⟨Nat.le_refl a, h⟩
/-- whether a number up to most stands at a -/
def fh_nk (g : Nat → Int32) (z a : Nat) (most : Int32) : Bool := decide ((fh_nu g z 6 a 0).1 ≠ a ∧ (fh_nu g z 6 a 0).2 ≤ most)
/-- the class's reader stands at a of shelf s -/
def tRx (X : gI) (Y : gJ) (R : gR) (g : Nat → Int32) (s z a : Nat) : Prop := R 4 0 = some s ∧ s < 8 ∧ X 4 s = nI z ∧ z ≤ 160 ∧ X 0 7 = nI a ∧ a ≤ z ∧ ∀ i, i < 160 → (Y (3 + s) i).toInt32 = g i
theorem x_here {X : gI} {Y : gJ} {R : gR} {L : List Nat} {S : gS} {g : Nat → Int32} {s z a : Nat} (T : tRx X Y R g s z a) {Q : Int32 → Prop} (hQ : Q (fh_hr g z a)) : wX6_here X Y R L S Q := by
  obtain ⟨t1, t2, t3, t4, t5, t6, t7⟩ := T
  unfold wX6_here
  rw [t1, t5]
  refine ⟨fun h => absurd h (by simp), fun _ => ⟨s, rfl, t2, ?_⟩⟩
  by_cases c : a < z
  · rw [fh_hr, if_pos c, ← t7 a (by omega)] at hQ
    exact x_hasY t3 t4 c (bft (x_asInt t3 t4 c hQ))
  · rw [fh_hr, if_neg c] at hQ
    exact x_hasN t3 (Or.inr (nI_le (by omega) (by omega))) (btf hQ)
/-- of the reader's own ints, only these are others -/
def xN (X X' : gI) : Prop := (∀ a, a ≠ 0 → X' a = X a) ∧ ∀ j, (j < 6 ∨ 9 < j) → X' 0 j = X 0 j
theorem x_fail {X : gI} {Y : gJ} {R : gR} {L : List Nat} {S : gS} {v : Int32} {Q : Bool → gI → gJ → gR → Prop} (hQ : Q false (upI X 0 6 v) Y R) : wX6_fail v X Y R L S Q := by
  intro I1 hI
  rw [hI]
  exact hQ
theorem x_number {X : gI} {Y : gJ} {R : gR} {L : List Nat} {S : gS} {g : Nat → Int32} {s z a : Nat} (T : tRx X Y R g s z a) (most : Int32) {Q : Bool → gI → gJ → gR → Prop} (hQ : ∀ X', tRx X' Y R g s z (fh_nu g z 6 a 0).1 → X' 0 8 = (fh_nu g z 6 a 0).2 → xN X X' → X' 0 9 = nI a → X' 0 6 = (if fh_nk g z a most = true then X 0 6 else nI a) → Q (fh_nk g z a most) X' Y R) : wX6_numberUpTo most X Y R L S Q := by
  have hge := nu_ge g z 6 a 0 T.2.2.2.2.2.1
  have hz := T.2.2.2.1
  have ha := T.2.2.2.2.2.1
  have e7 := T.2.2.2.2.1
  have fin : ∀ X' : gI, tRx X' Y R g s z (fh_nu g z 6 a 0).1 → X' 0 8 = (fh_nu g z 6 a 0).2 → xN X X' → X' 0 9 = nI a → X' 0 6 = X 0 6 → wX6_numberUpTo_c74 L S most X' Y R Q := by
    intro X' T' f8 fN f9 f6
    have bad : fh_nk g z a most = false → wX6_numberUpTo_c93 L S X' Y R Q := by
      intro hb
      unfold wX6_numberUpTo_c93
      rw [f9]
      refine x_fail ?_
      have := hQ (upI X' 0 6 (nI a)) ⟨T'.1, T'.2.1, by rw [upI_n (by omega)]; exact T'.2.2.1, T'.2.2.2.1, by rw [upI_s, upd_n (by omega)]; exact T'.2.2.2.2.1, T'.2.2.2.2.2⟩ (by rw [upI_s, upd_n (by omega)]; exact f8) ⟨fun b hb => by rw [upI_n hb, fN.1 b hb], fun j hj => by rw [upI_s, upd_n (by omega), fN.2 j hj]⟩ (by rw [upI_s, upd_n (by omega)]; exact f9) (by rw [hb, upI_s, upd_s]; rfl)
      rw [hb] at this
      exact this
    unfold wX6_numberUpTo_c74
    rw [T'.2.2.2.2.1, f9, f8, nI_eq (by omega) (by omega)]
    refine ⟨fun y => bad (decide_eq_false (fun e => e.1 y)), fun n => ⟨fun y2 => ?_, fun n2 => bad (decide_eq_false (fun e => n2 e.2))⟩⟩
    have hk : fh_nk g z a most = true := decide_eq_true ⟨n, y2⟩
    have := hQ X' T' f8 fN f9 (by rw [hk, f6]; rfl)
    rw [hk] at this
    exact this
  have key : ∀ (d i b : Nat) (v : Int32) (X' : gI), d + i = 6 → fh_nu g z d b v = fh_nu g z 6 a 0 → tRx X' Y R g s z b → X' 0 8 = v → xN X X' → X' 0 9 = nI a → X' 0 6 = X 0 6 → wX6_numberUpTo_l15 L S Q (d + 1) most (nI i) X' Y R := by
    intro d
    induction d with
    | zero =>
      intro i b v X' e he T' f8 fN f9 f6
      obtain rfl : i = 6 := by omega
      rw [fh_nu] at he
      refine br_t (nI_le (a := 6) (b := 6) (Nat.le_refl _) (by omega)) (fin X' ?_ ?_ fN f9 f6)
      · rw [← he]
        exact T'
      · rw [← he]
        exact f8
    | succ d ih =>
      intro i b v X' e he T' f8 fN f9 f6
      rw [fh_nu] at he
      refine br_f (nI_ge (b := 6) (by omega) (by omega)) (x_here T' ?_)
      have stop : fh_dg (fh_hr g z b) = false → wX6_numberUpTo_c74 L S most X' Y R Q := by
        intro hd
        rw [hd, if_neg (by decide)] at he
        refine fin X' ?_ ?_ fN f9 f6
        · rw [← he]
          exact T'
        · rw [← he]
          exact f8
      refine ⟨fun c1 => stop (decide_eq_false (fun e => e.1 c1)), fun c1 => x_here T' ⟨fun c2 => stop (decide_eq_false (fun e => e.2 c2)), fun c2 => x_here T' ?_⟩⟩
      have hd : fh_dg (fh_hr g z b) = true := decide_eq_true ⟨c1, c2⟩
      rw [hd, if_pos rfl] at he
      have hb := hr_dg hd
      rintro I7 rfl I9 rfl
      rw [upI_s, upd_n (show (7 : Nat) ≠ 8 by omega), T'.2.2.2.2.1, f8, nI_1, nI_1]
      refine ih (i + 1) (b + 1) _ _ (by omega) he ⟨T'.1, T'.2.1, ?_, T'.2.2.2.1, ?_, by omega, T'.2.2.2.2.2.2⟩ ?_ ⟨fun c hc => by rw [upI_n hc, upI_n hc, fN.1 c hc], fun j hj => ?_⟩ ?_ ?_
      · rw [upI_n (by omega), upI_n (by omega)]
        exact T'.2.2.1
      · rw [upI_s, upd_s]
      · rw [upI_s, upd_n (by omega), upI_s, upd_s]
      · rw [upI_s, upd_n (by omega), upI_s, upd_n (by omega), fN.2 j hj]
      · rw [upI_s, upd_n (by omega), upI_s, upd_n (by omega)]
        exact f9
      · rw [upI_s, upd_n (by omega), upI_s, upd_n (by omega)]
        exact f6
  unfold wX6_numberUpTo
  rintro I1 rfl I3 rfl
  refine ⟨7, key 6 0 a 0 _ (by omega) rfl ⟨T.1, T.2.1, ?_, T.2.2.2.1, ?_, T.2.2.2.2.2.1, T.2.2.2.2.2.2⟩ ?_ ⟨fun c hc => by rw [upI_n hc, upI_n hc], fun j hj => ?_⟩ ?_ ?_⟩
  · rw [upI_n (by omega), upI_n (by omega)]
    exact T.2.2.1
  · rw [upI_s, upd_n (by omega), upI_s, upd_n (by omega)]
    exact e7
  · rw [upI_s, upd_s]
  · rw [upI_s, upd_n (by omega), upI_s, upd_n (by omega)]
  · rw [upI_s, upd_n (by omega), upI_s, upd_s]
    exact e7
  · rw [upI_s, upd_n (by omega), upI_s, upd_n (by omega)]
