/-! bitCount -/
theorem fv_tl (b : Nat) (l : List Nat) (h : b < 256) : fh_va (b :: l) / 256 = fh_va l := by
  show (b + 256 * fh_va l) / 256 = fh_va l
  omega
theorem fv_cc (a b : Nat) (l m : List Nat) : fh_va (a :: l) + fh_va (b :: m) = (a + b) + 256 * (fh_va l + fh_va m) := by
  show (a + 256 * fh_va l) + (b + 256 * fh_va m) = _
  omega
theorem x_bitCountL {I : gI} {J : gJ} {R : gR} {L : List Nat} {S : gS} {w : Nat} (hw : w < 2 ^ 64) {Q : Int32 → Prop} (hQ : Q (nI (fh_on w 64))) : wJ13_bitCount_95d88 (lN w) I J R L S Q := by
  obtain ⟨l, hl, hb, rfl, a0, a1, a2, a3, a4, a5, a6, a7, em, eo, b0, b1, b2, b3, b4, b5, b6, b7⟩ := on_64 w hw
  obtain ⟨h1, h2⟩ := va_123 hb
  have v1 := va_1 l hb
  have v2 := va_2 (l.map fh_p1) h1
  have v3 := va_3 ((l.map fh_p1).map fh_p2) h2
  rw [List.length_map, hl] at v2
  rw [List.length_map, List.length_map, hl, map3, em] at v3
  rw [hl] at v1
  have l1 := va_lt (l.map fh_p1) h1
  rw [List.length_map, hl] at l1
  have l2 := va_lt ((l.map fh_p1).map fh_p2) (fun b hb => by have := (h2 b hb).1; omega)
  rw [List.length_map, List.length_map, hl] at l2
  have c85 : (6148914691236517205 : Int64) = lN (fh_mk 85 8) := by
    rw [show fh_mk 85 8 = 6148914691236517205 by decide +kernel]
    rfl
  have c51 : (3689348814741910323 : Int64) = lN (fh_mk 51 8) := by
    rw [show fh_mk 51 8 = 3689348814741910323 by decide +kernel]
    rfl
  have c15 : (1085102592571150095 : Int64) = lN (fh_mk 15 8) := by
    rw [show fh_mk 15 8 = 1085102592571150095 by decide +kernel]
    rfl
  have sh : ∀ (k : Nat) (n : Nat), k < 64 → n < 2 ^ 64 → ((lN n).toUInt64 >>> ((nI k).toInt64.toUInt64 &&& Int64.toUInt64 63)).toInt64 = lN (n / 2 ^ k) := fun k n hk hn => wb_shr hn hk
  have s1 := sh 1
  have s2 := sh 2
  have s4 := sh 4
  have s8 := sh 8
  have s16 := sh 16
  have s32 := sh 32
  have i1 : nI 1 = 1 := rfl
  have i2 : nI 2 = 2 := rfl
  have i4 : nI 4 = 4 := rfl
  have i8 : nI 8 = 8 := rfl
  have i16 : nI 16 = 16 := rfl
  have i32 : nI 32 = 32 := rfl
  rw [i1] at s1
  rw [i2] at s2
  rw [i4] at s4
  rw [i8] at s8
  rw [i16] at s16
  rw [i32] at s32
  have le1 : (fh_va l / 2 &&& fh_mk 85 8) ≤ fh_va l := Nat.le_trans Nat.and_le_left (Nat.div_le_self _ _)
  unfold wJ13_bitCount_95d88
  rintro x1 rfl
  rw [s1 _ (by omega) hw, c85, fb_andL, lN_sub le1]
  rintro x3 e3
  rw [show fh_va l / 2 ^ 1 = fh_va l / 2 from rfl, v1, s2 _ (by omega) l1, c51, fb_andL, fb_andL, lN_add, show fh_va (l.map fh_p1) / 2 ^ 2 = fh_va (l.map fh_p1) / 4 from rfl, v2] at e3
  subst e3
  rintro x5 e5
  rw [s4 _ (by omega) l2, lN_add, c15, fb_andL, show fh_va ((l.map fh_p1).map fh_p2) / 2 ^ 4 = fh_va ((l.map fh_p1).map fh_p2) / 16 from rfl, v3] at e5
  subst e5
  have n1 : fh_va [a0, a1, a2, a3, a4, a5, a6, a7] < 256 ^ 8 := va_lt [a0, a1, a2, a3, a4, a5, a6, a7] (by
    intro b hb
    simp only [List.mem_cons, List.not_mem_nil, or_false] at hb
    omega)
  have d1 : fh_va [a0, a1, a2, a3, a4, a5, a6, a7] / 2 ^ 8 = fh_va [a1, a2, a3, a4, a5, a6, a7] := fv_tl _ _ (by omega)
  have y1 : fh_va [a0, a1, a2, a3, a4, a5, a6, a7] + fh_va [a1, a2, a3, a4, a5, a6, a7] = fh_va [a0 + a1, a1 + a2, a2 + a3, a3 + a4, a4 + a5, a5 + a6, a6 + a7, a7] := by
    simp only [fh_va]
    omega
  have n2 : fh_va [a0 + a1, a1 + a2, a2 + a3, a3 + a4, a4 + a5, a5 + a6, a6 + a7, a7] < 256 ^ 8 := va_lt [a0 + a1, a1 + a2, a2 + a3, a3 + a4, a4 + a5, a5 + a6, a6 + a7, a7] (by
    intro b hb
    simp only [List.mem_cons, List.not_mem_nil, or_false] at hb
    omega)
  have d2 : fh_va [a0 + a1, a1 + a2, a2 + a3, a3 + a4, a4 + a5, a5 + a6, a6 + a7, a7] / 2 ^ 16 = fh_va [a2 + a3, a3 + a4, a4 + a5, a5 + a6, a6 + a7, a7] := by
    rw [show (2 : Nat) ^ 16 = 256 * 256 from rfl, ← Nat.div_div_eq_div_mul, fv_tl _ _ (by omega), fv_tl _ _ (by omega)]
  have y2 : fh_va [a0 + a1, a1 + a2, a2 + a3, a3 + a4, a4 + a5, a5 + a6, a6 + a7, a7] + fh_va [a2 + a3, a3 + a4, a4 + a5, a5 + a6, a6 + a7, a7] = fh_va [a0 + a1 + (a2 + a3), a1 + a2 + (a3 + a4), a2 + a3 + (a4 + a5), a3 + a4 + (a5 + a6), a4 + a5 + (a6 + a7), a5 + a6 + a7, a6 + a7, a7] := by
    simp only [fh_va]
    omega
  have n3 : fh_va [a0 + a1 + (a2 + a3), a1 + a2 + (a3 + a4), a2 + a3 + (a4 + a5), a3 + a4 + (a5 + a6), a4 + a5 + (a6 + a7), a5 + a6 + a7, a6 + a7, a7] < 256 ^ 8 := va_lt [a0 + a1 + (a2 + a3), a1 + a2 + (a3 + a4), a2 + a3 + (a4 + a5), a3 + a4 + (a5 + a6), a4 + a5 + (a6 + a7), a5 + a6 + a7, a6 + a7, a7] (by
    intro b hb
    simp only [List.mem_cons, List.not_mem_nil, or_false] at hb
    omega)
  have d3 : fh_va [a0 + a1 + (a2 + a3), a1 + a2 + (a3 + a4), a2 + a3 + (a4 + a5), a3 + a4 + (a5 + a6), a4 + a5 + (a6 + a7), a5 + a6 + a7, a6 + a7, a7] / 2 ^ 32 = fh_va [a4 + a5 + (a6 + a7), a5 + a6 + a7, a6 + a7, a7] := by
    rw [show (2 : Nat) ^ 32 = 256 * 256 * 256 * 256 from rfl, ← Nat.div_div_eq_div_mul, ← Nat.div_div_eq_div_mul, ← Nat.div_div_eq_div_mul, fv_tl _ _ (by omega), fv_tl _ _ (by omega), fv_tl _ _ (by omega), fv_tl _ _ (by omega)]
  have y3 : fh_va [a0 + a1 + (a2 + a3), a1 + a2 + (a3 + a4), a2 + a3 + (a4 + a5), a3 + a4 + (a5 + a6), a4 + a5 + (a6 + a7), a5 + a6 + a7, a6 + a7, a7] + fh_va [a4 + a5 + (a6 + a7), a5 + a6 + a7, a6 + a7, a7] = (a0 + a1 + (a2 + a3) + (a4 + a5 + (a6 + a7))) + 256 * (fh_va [a1 + a2 + (a3 + a4), a2 + a3 + (a4 + a5), a3 + a4 + (a5 + a6), a4 + a5 + (a6 + a7), a5 + a6 + a7, a6 + a7, a7] + fh_va [a5 + a6 + a7, a6 + a7, a7]) := by
    rw [fv_cc]
  rintro x7 e7
  rw [s8 _ (by omega) n1, lN_add, d1, y1] at e7
  subst e7
  rintro x9 e9
  rw [s16 _ (by omega) n2, lN_add, d2, y2] at e9
  subst e9
  rintro x11 e11
  rw [s32 _ (by omega) n3, lN_add, d3, y3] at e11
  subst e11
  have c127 : (127 : Int32) = nI (2 ^ 7 - 1) := rfl
  rw [lN_i, c127, fa_mask]
  refine ek_v (P := Q) ?_ hQ
  congr 1
  rw [eo]
  generalize fh_va [a1 + a2 + (a3 + a4), a2 + a3 + (a4 + a5), a3 + a4 + (a5 + a6), a4 + a5 + (a6 + a7), a5 + a6 + a7, a6 + a7, a7] + fh_va [a5 + a6 + a7, a6 + a7, a7] = z
  omega
theorem x_bitCountI {I : gI} {J : gJ} {R : gR} {L : List Nat} {S : gS} {w : Nat} (hw : w < 2 ^ 31) {Q : Int32 → Prop} (hQ : Q (nI (fh_on w 32))) : wJ6_bitCount_0f7a4 (nI w) I J R L S Q := by
  obtain ⟨l, hl, hb, rfl, a0, a1, a2, a3, em, eo, b0, b1, b2, b3⟩ := on_32 w (by omega)
  obtain ⟨h1, h2⟩ := va_123 hb
  have v1 := va_1 l hb
  have v2 := va_2 (l.map fh_p1) h1
  have v3 := va_3 ((l.map fh_p1).map fh_p2) h2
  rw [List.length_map, hl] at v2
  rw [List.length_map, List.length_map, hl, map3, em] at v3
  rw [hl] at v1
  have l1 := va_lt (l.map fh_p1) h1
  rw [List.length_map, hl] at l1
  have l2 := va_lt ((l.map fh_p1).map fh_p2) (fun b hb => by have := (h2 b hb).1; omega)
  rw [List.length_map, List.length_map, hl] at l2
  have c85 : (1431655765 : Int32) = nI (fh_mk 85 4) := by
    rw [show fh_mk 85 4 = 1431655765 by decide +kernel]
    rfl
  have c51 : (858993459 : Int32) = nI (fh_mk 51 4) := by
    rw [show fh_mk 51 4 = 858993459 by decide +kernel]
    rfl
  have c15 : (252645135 : Int32) = nI (fh_mk 15 4) := by
    rw [show fh_mk 15 4 = 252645135 by decide +kernel]
    rfl
  have sh : ∀ (k : Nat) (n : Nat), k < 32 → n < 2 ^ 32 → ((nI n).toUInt32 >>> ((nI k).toUInt32 &&& Int32.toUInt32 31)).toInt32 = nI (n / 2 ^ k) := fun k n hk hn => pk_ushrN hn (nI k) k (s_u k hk)
  have s1 := sh 1
  have s2 := sh 2
  have s4 := sh 4
  have s8 := sh 8
  have s16 := sh 16
  have i1 : nI 1 = 1 := rfl
  have i2 : nI 2 = 2 := rfl
  have i4 : nI 4 = 4 := rfl
  have i8 : nI 8 = 8 := rfl
  have i16 : nI 16 = 16 := rfl
  rw [i1] at s1
  rw [i2] at s2
  rw [i4] at s4
  rw [i8] at s8
  rw [i16] at s16
  have le1 : (fh_va l / 2 &&& fh_mk 85 4) ≤ fh_va l := Nat.le_trans Nat.and_le_left (Nat.div_le_self _ _)
  unfold wJ6_bitCount_0f7a4
  rintro x1 rfl
  rw [s1 _ (by omega) (by omega), c85, fa_and, pk_sub le1]
  rintro x3 e3
  rw [show fh_va l / 2 ^ 1 = fh_va l / 2 from rfl, v1, s2 _ (by omega) l1, c51, fa_and, fa_and, nI_add, show fh_va (l.map fh_p1) / 2 ^ 2 = fh_va (l.map fh_p1) / 4 from rfl, v2] at e3
  subst e3
  rintro x5 e5
  rw [s4 _ (by omega) l2, nI_add, c15, fa_and, show fh_va ((l.map fh_p1).map fh_p2) / 2 ^ 4 = fh_va ((l.map fh_p1).map fh_p2) / 16 from rfl, v3] at e5
  subst e5
  have n1 : fh_va [a0, a1, a2, a3] < 256 ^ 4 := va_lt [a0, a1, a2, a3] (by
    intro b hb
    simp only [List.mem_cons, List.not_mem_nil, or_false] at hb
    omega)
  have d1 : fh_va [a0, a1, a2, a3] / 2 ^ 8 = fh_va [a1, a2, a3] := fv_tl _ _ (by omega)
  have y1 : fh_va [a0, a1, a2, a3] + fh_va [a1, a2, a3] = fh_va [a0 + a1, a1 + a2, a2 + a3, a3] := by
    simp only [fh_va]
    omega
  have n2 : fh_va [a0 + a1, a1 + a2, a2 + a3, a3] < 256 ^ 4 := va_lt [a0 + a1, a1 + a2, a2 + a3, a3] (by
    intro b hb
    simp only [List.mem_cons, List.not_mem_nil, or_false] at hb
    omega)
  have d2 : fh_va [a0 + a1, a1 + a2, a2 + a3, a3] / 2 ^ 16 = fh_va [a2 + a3, a3] := by
    rw [show (2 : Nat) ^ 16 = 256 * 256 from rfl, ← Nat.div_div_eq_div_mul, fv_tl _ _ (by omega), fv_tl _ _ (by omega)]
  have y2 : fh_va [a0 + a1, a1 + a2, a2 + a3, a3] + fh_va [a2 + a3, a3] = (a0 + a1 + (a2 + a3)) + 256 * (fh_va [a1 + a2, a2 + a3, a3] + fh_va [a3]) := by
    rw [fv_cc]
  rintro x7 e7
  rw [s8 _ (by omega) n1, nI_add, d1, y1] at e7
  subst e7
  rintro x9 e9
  rw [s16 _ (by omega) n2, nI_add, d2, y2] at e9
  subst e9
  have c63 : (63 : Int32) = nI (2 ^ 6 - 1) := rfl
  rw [c63, fa_mask]
  refine ek_v (P := Q) ?_ hQ
  congr 1
  rw [eo]
  generalize fh_va [a1 + a2, a2 + a3, a3] + fh_va [a3] = z
  omega
