/-! most, twice, cover -/
theorem i_shl (a : Nat) {k : Nat} (hk : k < 32) : nI a <<< (nI k &&& 31) = nI (a * 2 ^ k) := by
  apply Int32.toBitVec_inj.mp
  rw [Int32.toBitVec_shiftLeft]
  show (BitVec.ofNat 32 a) <<< ((nI k &&& 31).toBitVec.smod 32).toNat = BitVec.ofNat 32 (a * 2 ^ k)
  rw [s_l k hk]
  apply BitVec.eq_of_toNat_eq
  rw [BitVec.toNat_shiftLeft, BitVec.toNat_ofNat, BitVec.toNat_ofNat, Nat.shiftLeft_eq, Nat.mul_mod, Nat.mod_mod, ← Nat.mul_mod]
theorem i_or {a b : Nat} (ha : a < 2 ^ 32) (hb : b < 2 ^ 32) : nI a ||| nI b = nI (a ||| b) := by
  apply Int32.toBitVec_inj.mp
  rw [Int32.toBitVec_or]
  show BitVec.ofNat 32 a ||| BitVec.ofNat 32 b = BitVec.ofNat 32 (a ||| b)
  apply BitVec.eq_of_toNat_eq
  rw [BitVec.toNat_or, BitVec.toNat_ofNat, BitVec.toNat_ofNat, BitVec.toNat_ofNat, Nat.mod_eq_of_lt ha, Nat.mod_eq_of_lt hb, Nat.mod_eq_of_lt (Nat.or_lt_two_pow ha hb)]
/-- the key of a place, or of a side from it -/
def fh_kp (x y : Int) (u : Nat) : Nat := (((x + 4001) * 8192 + y + 4001) * 2 + u + 1).toNat
theorem kp_b {x y : Int} {u : Nat} (x1 : -4000 ≤ x) (x2 : x ≤ 4000) (y1 : -4000 ≤ y) (y2 : y ≤ 4000) (hu : u ≤ 1) : 0 < fh_kp x y u ∧ fh_kp x y u < 1073741824 ∧ (fh_kp x y u : Int) = ((x + 4001) * 8192 + y + 4001) * 2 + u + 1 := by
  unfold fh_kp
  omega
theorem kp_m {x y : Int} {u : Nat} (x1 : -4000 ≤ x) (x2 : x ≤ 4000) (y1 : -4000 ≤ y) (y2 : y ≤ 4000) (hu : u ≤ 1) : ((((((zI x + 4001) * 8192) + zI y) + 4001) * 2) + nI u) + 1 = nI (fh_kp x y u) := by
  rw [show (4001 : Int32) = zI 4001 from rfl, show (8192 : Int32) = zI 8192 from rfl, zI_2, zI_1, zI_n, zI_n, zI_add, zI_mul, zI_add, zI_add, zI_mul, zI_add, zI_add, (kp_b x1 x2 y1 y2 hu).2.2]
theorem x_key {X : gI} {Y : gJ} {R : gR} {L : List Nat} {S : gS} {x y : Int} {u : Nat} (x1 : -4000 ≤ x) (x2 : x ≤ 4000) (y1 : -4000 ≤ y) (y2 : y ≤ 4000) (hu : u ≤ 1) {Q : Int32 → Prop} (hQ : Q (nI (fh_kp x y u + 1556669))) : wX1_key (zL x) (zL y) (nI u) X Y R L S Q := by
  obtain ⟨a, ha⟩ : ∃ a : Nat, (a : Int) = x + 4096 := ⟨(x + 4096).toNat, by omega⟩
  obtain ⟨b, hb⟩ : ∃ b : Nat, (b : Int) = y + 4096 := ⟨(y + 4096).toNat, by omega⟩
  have e3 := (kp_b x1 x2 y1 y2 hu).2.2
  unfold wX1_key
  rw [zL_toI, zL_toI, show (4096 : Int32) = zI 4096 from rfl, zI_add, zI_add, ← ha, ← hb, ← zI_n, ← zI_n, show (13 : Int32) = nI 13 from rfl, show (1 : Int32) = nI 1 from rfl, i_shl a (by omega), i_or (by omega) (by omega), show a * 2 ^ 13 ||| b = a * 8192 + b by
    have := Nat.two_pow_add_eq_or_of_lt (i := 13) (b := b) (by omega) a
    rw [Nat.mul_comm a, ← this], i_shl _ (by omega), i_or (by omega) (by omega), show (a * 8192 + b) * 2 ^ 1 ||| u = (a * 8192 + b) * 2 + u by
    have := Nat.two_pow_add_eq_or_of_lt (i := 1) (b := u) (by omega) (a * 8192 + b)
    rw [Nat.mul_comm (a * 8192 + b), ← this]]
  rw [show fh_kp x y u + 1556669 = (a * 8192 + b) * 2 + u by omega] at hQ
  exact hQ
/-- what a place's and a side's key is -/
def fh_pk2 (cr : Nat → Nat) (w : Int) (g : Nat) : Nat := fh_kp (fh_px cr w g) (fh_py cr w g) 0
def fh_mi (a b : Int) : Int := if a ≤ b then a else b
def fh_sk (cr : Nat → Nat) (w : Int) (g : Nat) : Nat := fh_kp (fh_mi (fh_px cr w g) (fh_px cr w (g + 1))) (fh_mi (fh_py cr w g) (fh_py cr w (g + 1))) (if fh_px cr w (g + 1) = fh_px cr w g then 1 else 0)
theorem px_4 (cr : Nat → Nat) (w : Int) {g : Nat} (hg : g ≤ 4000) : -4000 ≤ fh_px cr w g ∧ fh_px cr w g ≤ 4000 ∧ -4000 ≤ fh_py cr w g ∧ fh_py cr w g ≤ 4000 := by
  have := px_bd cr w g
  omega
theorem x_placeKey {X : gI} {Y : gJ} {R : gR} {L : List Nat} {S : gS} {z g : Nat} {t : gP} {w : Int} (hb : bW 0 z t 0 0 w g X Y R) (hg : g ≤ 4000) {Q : Int32 → Prop} (hQ : Q (nI (fh_pk2 (fh_cr t) w g + 1556669))) : wX1_placeKey 0 X Y R L S Q := by
  obtain ⟨h1, h2, h3, h4, -⟩ := hb
  rw [Int.zero_add] at h3 h4
  obtain ⟨b1, b2, b3, b4⟩ := px_4 (fh_cr t) w hg
  unfold wX1_placeKey
  rw [h3, h4]
  exact x_key (u := 0) b1 b2 b3 b4 (by omega) hQ
theorem x_sideKey {X : gI} {Y : gJ} {R : gR} {L : List Nat} {S : gS} {z g : Nat} {t : gP} {w : Int} (hb : bW 0 z t 0 0 w (g + 1) X Y R) (hg : g + 1 ≤ 4000) {Q : Int32 → Prop} (hQ : Q (nI (fh_sk (fh_cr t) w g + 1556669))) : wX1_sideKey 0 X Y R L S Q := by
  obtain ⟨h1, h2, h3, h4, W, h5, h6⟩ := hb
  rw [Int.zero_add] at h3 h4
  rw [Nat.add_sub_cancel] at h6
  obtain ⟨b1, b2, b3, b4⟩ := px_4 (fh_cr t) w hg
  obtain ⟨c1, c2, c3, c4⟩ := px_4 (fh_cr t) w (show g ≤ 4000 by omega)
  unfold wX1_sideKey
  rw [h3, h4, h5, zI_a3, h6]
  unfold fh_sk fh_mi at hQ
  have E : ∀ a b : Nat, a < 4 → b < 4 → (nI a = nI b ↔ a = b) := fun a b ha hb => nI_eq (by omega) (by omega)
  have p := px_1 (fh_cr t) w g
  have q := py_1 (fh_cr t) w g
  generalize fh_px (fh_cr t) w (g + 1) = A' at *
  generalize fh_py (fh_cr t) w (g + 1) = B' at *
  generalize fh_px (fh_cr t) w g = A at *
  generalize fh_py (fh_cr t) w g = B at *
  rcases u_cases (w + fh_dr (fh_cr t) g) with ⟨e, u1, u2⟩ | ⟨e, u1, u2⟩ | ⟨e, u1, u2⟩ | ⟨e, u1, u2⟩ <;> rw [u1] at p <;> rw [u2] at q <;> rw [e]
  · refine br_t rfl ?_
    rw [show zL A' - 1 = zL A by rw [zL_1, zL_sub]; congr 1; omega, show B' = B by omega]
    rw [if_pos (by omega), if_pos (by omega), if_neg (by omega)] at hQ
    exact x_key (u := 0) c1 c2 c3 c4 (by omega) hQ
  · refine br_f (by decide) (br_t rfl ?_)
    rw [show zL B' - 1 = zL B by rw [zL_1, zL_sub]; congr 1; omega, show A' = A by omega]
    rw [if_pos (by omega), if_pos (by omega), if_pos (by omega)] at hQ
    exact x_key (u := 1) c1 c2 c3 c4 (by omega) hQ
  · refine br_f (by decide) (br_f (by decide) (br_t rfl ?_))
    rw [if_neg (by omega), if_pos (by omega), if_neg (by omega), show B = B' by omega] at hQ
    exact x_key (u := 0) b1 b2 b3 b4 (by omega) hQ
  · refine br_f (by decide) (br_f (by decide) (br_f (by decide) ?_))
    rw [if_pos (by omega), if_neg (by omega), if_pos (by omega), show A = A' by omega] at hQ
    exact x_key (u := 1) b1 b2 b3 b4 (by omega) hQ
theorem pk2_b (cr : Nat → Nat) (w : Int) {g : Nat} (hg : g ≤ 4000) : 0 < fh_pk2 cr w g ∧ fh_pk2 cr w g < 1073741824 := by
  obtain ⟨b1, b2, b3, b4⟩ := px_4 cr w hg
  have := kp_b (u := 0) b1 b2 b3 b4 (by omega)
  exact ⟨this.1, this.2.1⟩
theorem mi_b {a b : Int} (a1 : -4000 ≤ a) (a2 : a ≤ 4000) (b1 : -4000 ≤ b) (b2 : b ≤ 4000) : -4000 ≤ fh_mi a b ∧ fh_mi a b ≤ 4000 := by
  unfold fh_mi
  split <;> omega
theorem sk_b (cr : Nat → Nat) (w : Int) {g : Nat} (hg : g + 1 ≤ 4000) : 0 < fh_sk cr w g ∧ fh_sk cr w g < 1073741824 := by
  obtain ⟨b1, b2, b3, b4⟩ := px_4 cr w hg
  obtain ⟨c1, c2, c3, c4⟩ := px_4 cr w (show g ≤ 4000 by omega)
  have m1 := mi_b c1 c2 b1 b2
  have m2 := mi_b c3 c4 b3 b4
  have := kp_b (u := if fh_px cr w (g + 1) = fh_px cr w g then 1 else 0) m1.1 m1.2 m2.1 m2.2 (by split <;> omega)
  exact ⟨this.1, this.2.1⟩
def fh_kl (κ : Nat → Nat) : Nat → List Nat
  | 0 => []
  | g + 1 => κ g :: fh_kl κ g
theorem kl_len (κ : Nat → Nat) : ∀ g : Nat, (fh_kl κ g).length = g
  | 0 => rfl
  | g + 1 => by rw [fh_kl, List.length_cons, kl_len κ g]
def fh_nt (κ : Nat → Nat) (g : Nat) : Nat := (fh_kl κ g).count (κ g) + 1
theorem nt_le (κ : Nat → Nat) (g : Nat) : fh_nt κ g ≤ g + 1 := by
  have := List.count_le_length (a := κ g) (l := fh_kl κ g)
  rw [kl_len] at this
  unfold fh_nt
  omega
def fh_mo (κ : Nat → Nat) : Nat → Nat
  | 0 => 0
  | g + 1 => if fh_mo κ g < fh_nt κ g then fh_nt κ g else fh_mo κ g
theorem mo_le (κ : Nat → Nat) : ∀ g : Nat, fh_mo κ g ≤ g
  | 0 => Nat.le_refl 0
  | g + 1 => by
    have := mo_le κ g
    have := nt_le κ g
    rw [fh_mo]
    split <;> omega
def fh_co (κ : Nat → Nat) : Nat → Nat
  | 0 => 0
  | g + 1 => fh_co κ g + (if fh_nt κ g = 1 then 1 else 0)
def fh_tw (κ : Nat → Nat) : Nat → Nat
  | 0 => 0
  | g + 1 => fh_tw κ g + (if fh_nt κ g ≤ 1 then 0 else 1)
theorem mFr.mt {I I' : gI} {J : gJ} (h : ∀ a, a ≠ 0 → a ≠ 18 → a ≠ 19 → I' a = I a) (h0 : ∀ j, j ≠ 8 → I' 0 j = I 0 j) : mFr I J I' J :=
  ⟨fun a b c => h a (by omega) (by omega) (by omega), h 11 (by omega) (by omega) (by omega), h 26 (by omega) (by omega) (by omega), h 29 (by omega) (by omega) (by omega), fun j _ => h0 j (by omega), rfl, rfl, rfl⟩
theorem xFr.nt {X X' : gI} {Y : gJ} {R : gR} (h : ∀ a, a ≠ 6 → a ≠ 8 → X' a = X a) : xFr X Y R X' Y R :=
  ⟨fun k _ => h k (by omega) (by omega), fun j _ => by rw [h 0 (by omega) (by omega)], fun _ _ => rfl, fun _ _ => rfl⟩
theorem bW.nt {b z : Nat} {t : gP} {x0 y0 w0 : Int} {j : Nat} {I I' : gI} {J : gJ} {R : gR} (hb : bW b z t x0 y0 w0 j I J R) (h : ∀ a, a ≠ 6 → a ≠ 8 → I' a = I a) : bW b z t x0 y0 w0 j I' J R := by
  obtain ⟨h1, h2, h3, h4, W, h5, h6⟩ := hb
  exact ⟨h1, by rw [h 1 (by omega) (by omega)]; exact h2, h3, h4, W, by rw [h 2 (by omega) (by omega)]; exact h5, h6⟩
theorem xTb.cg {X X' : gI} {D : List Nat} (T : xTb X D) (h6 : X' 6 = X 6) (h8 : X' 8 = X 8) : xTb X' D := by
  unfold xTb
  rw [h6, h8]
  exact T

theorem m_mostL {I : gI} {J : gJ} {cr : Nat → Nat} {k : Nat} (hk : k ≤ 4000) (hw : ∀ j, j ≤ k → I 14 j = zI (fh_px cr 0 j) ∧ I 15 j = zI (fh_py cr 0 j)) (T : mTb I []) {Q : Int32 → gI → gJ → Prop} (hQ : ∀ I', mFr I J I' J → Q (nI (fh_mo (fh_pk2 cr 0) (k + 1))) I' J) : ∃ n : Nat, wM_most_l42 Q n (nI k) 0 0 I J := by
  have key : ∀ (d g : Nat) (I' : gI), d + g = k + 1 → mTb I' (fh_kl (fh_pk2 cr 0) g) → (∀ a, a ≠ 0 → a ≠ 18 → a ≠ 19 → I' a = I a) → (∀ j, j ≠ 8 → I' 0 j = I 0 j) → wM_most_l42 Q (d + 1) (nI k) (nI (fh_mo (fh_pk2 cr 0) g)) (nI g) I' J := by
    intro d
    induction d with
    | zero =>
      intro g I' e T' f1 f2
      obtain rfl : g = k + 1 := by omega
      exact br_t (nI_lt (by omega) (by omega)) (hQ I' (mFr.mt f1 f2))
    | succ d ih =>
      intro g I' e T' f1 f2
      obtain ⟨b1, b2, b3, b4⟩ := px_4 cr 0 (show g ≤ 4000 by omega)
      obtain ⟨k1, k2⟩ := pk2_b cr 0 (show g ≤ 4000 by omega)
      have hm := mo_le (fh_pk2 cr 0) g
      have hn := nt_le (fh_pk2 cr 0) g
      refine br_f (nI_nlt (by omega) (by omega)) ⟨vp_in_nI (by omega) (by decide), ?_⟩
      rw [nI_clamp (show g < 2147483648 by omega), f1 14 (by omega) (by omega) (by omega), f1 15 (by omega) (by omega) (by omega), (hw g (by omega)).1, (hw g (by omega)).2]
      refine m_meets T' (by rw [kl_len]; omega) k1 k2 (kp_m (u := 0) b1 b2 b3 b4 (by omega)) (fun I2 T2 g1 g2 _ => ?_)
      have x := ih (g + 1) I2 (by omega) T2 (fun a a1 a2 a3 => (g1 a a1 a2 a3).trans (f1 a a1 a2 a3)) (fun j hj => (g2 j hj).trans (f2 j hj))
      show (nI (fh_nt (fh_pk2 cr 0) g) ≤ _ → _) ∧ (¬ nI (fh_nt (fh_pk2 cr 0) g) ≤ _ → _)
      rw [fh_mo] at x
      rw [nI_1]
      rcases Nat.lt_or_ge (fh_mo (fh_pk2 cr 0) g) (fh_nt (fh_pk2 cr 0) g) with c | c
      · rw [if_pos c] at x
        exact br_f (nI_ge c (by omega)) x
      · rw [if_neg (by omega)] at x
        exact br_t (nI_le c (by omega)) x
  exact ⟨k + 1 + 1, key (k + 1) 0 I (by omega) T (fun _ _ _ _ => rfl) (fun _ _ => rfl)⟩
theorem m_coverL {I : gI} {J : gJ} {cr : Nat → Nat} {k : Nat} (hk : k ≤ 4000) (hw : ∀ j, j ≤ k → I 14 j = zI (fh_px cr 0 j) ∧ I 15 j = zI (fh_py cr 0 j)) (T : mTb I []) (h8 : I 0 8 = nI 0) {Q : Int32 → gI → gJ → Prop} (hQ : ∀ I', mFr I J I' J → Q (nI (fh_co (fh_pk2 cr 0) (k + 1))) I' J) : ∃ n : Nat, wM_cover_l39 Q n (nI k) 0 I J := by
  have key : ∀ (d g : Nat) (I' : gI), d + g = k + 1 → mTb I' (fh_kl (fh_pk2 cr 0) g) → (∀ a, a ≠ 0 → a ≠ 18 → a ≠ 19 → I' a = I a) → (∀ j, j ≠ 8 → I' 0 j = I 0 j) → I' 0 8 = nI (fh_co (fh_pk2 cr 0) g) → wM_cover_l39 Q (d + 1) (nI k) (nI g) I' J := by
    intro d
    induction d with
    | zero =>
      intro g I' e T' f1 f2 f3
      obtain rfl : g = k + 1 := by omega
      refine br_t (nI_lt (by omega) (by omega)) ?_
      rw [f3]
      exact hQ I' (mFr.mt f1 f2)
    | succ d ih =>
      intro g I' e T' f1 f2 f3
      obtain ⟨b1, b2, b3, b4⟩ := px_4 cr 0 (show g ≤ 4000 by omega)
      obtain ⟨k1, k2⟩ := pk2_b cr 0 (show g ≤ 4000 by omega)
      refine br_f (nI_nlt (by omega) (by omega)) ⟨vp_in_nI (by omega) (by decide), ?_⟩
      rw [nI_clamp (show g < 2147483648 by omega), f1 14 (by omega) (by omega) (by omega), f1 15 (by omega) (by omega) (by omega), (hw g (by omega)).1, (hw g (by omega)).2, nI_1]
      refine m_meets T' (by rw [kl_len]; omega) k1 k2 (kp_m (u := 0) b1 b2 b3 b4 (by omega)) (fun I2 T2 g1 g2 g3 => ?_)
      refine ih (g + 1) I2 (by omega) T2 (fun a a1 a2 a3 => (g1 a a1 a2 a3).trans (f1 a a1 a2 a3)) (fun j hj => (g2 j hj).trans (f2 j hj)) ?_
      rw [g3, f3, fh_co]
      by_cases c : (fh_kl (fh_pk2 cr 0) g).count (fh_pk2 cr 0 g) = 0
      · rw [if_pos c, if_pos (by unfold fh_nt; omega), nI_1]
      · rw [if_neg c, if_neg (by unfold fh_nt; omega), Nat.add_zero]
  exact ⟨k + 1 + 1, key (k + 1) 0 I (by omega) T (fun _ _ _ _ => rfl) (fun _ _ => rfl) h8⟩
theorem m_twiceL {I : gI} {J : gJ} {cr : Nat → Nat} {k : Nat} (hk : k ≤ 4000) (hw : ∀ j, j ≤ k → I 14 j = zI (fh_px cr 0 j) ∧ I 15 j = zI (fh_py cr 0 j)) (T : mTb I []) {Q : Int32 → gI → gJ → Prop} (hQ : ∀ I', mFr I J I' J → Q (nI (fh_tw (fh_sk cr 0) k)) I' J) : ∃ n : Nat, wM_twice_l42 Q n (nI k) 0 1 I J := by
  have key : ∀ (d g : Nat) (I' : gI), d + g = k → mTb I' (fh_kl (fh_sk cr 0) g) → (∀ a, a ≠ 0 → a ≠ 18 → a ≠ 19 → I' a = I a) → (∀ j, j ≠ 8 → I' 0 j = I 0 j) → wM_twice_l42 Q (d + 1) (nI k) (nI (fh_tw (fh_sk cr 0) g)) (nI (g + 1)) I' J := by
    intro d
    induction d with
    | zero =>
      intro g I' e T' f1 f2
      obtain rfl : g = k := by omega
      exact br_t (nI_lt (by omega) (by omega)) (hQ I' (mFr.mt f1 f2))
    | succ d ih =>
      intro g I' e T' f1 f2
      obtain ⟨b1, b2, b3, b4⟩ := px_4 cr 0 (show g + 1 ≤ 4000 by omega)
      obtain ⟨c1, c2, c3, c4⟩ := px_4 cr 0 (show g ≤ 4000 by omega)
      obtain ⟨k1, k2⟩ := sk_b cr 0 (show g + 1 ≤ 4000 by omega)
      have hn := nt_le (fh_sk cr 0) g
      have e1 : nI (g + 1) - 1 = nI g := by rw [zI_n, zI_1, zI_sub, zI_n]; congr 1; omega
      have in1 : vp_in (nI (g + 1)) 4001 := vp_in_nI (by omega) (by decide)
      have in0 : vp_in (nI g) 4001 := vp_in_nI (by omega) (by decide)
      obtain ⟨w1, w2⟩ := hw g (by omega)
      obtain ⟨w3, w4⟩ := hw (g + 1) (by omega)
      have m1 := mi_b c1 c2 b1 b2
      have m2 := mi_b c3 c4 b3 b4
      have c157 : ∀ v6 s0 : Int32, v6 = zI (fh_mi (fh_px cr 0 g) (fh_px cr 0 (g + 1))) → s0 = zI (fh_mi (fh_py cr 0 g) (fh_py cr 0 (g + 1))) → wM_twice_c126 (wM_twice_l42 Q (d + 1)) (nI k) (nI (fh_tw (fh_sk cr 0) g)) (nI (g + 1)) v6 s0 I' J Q := by
        intro v6 s0 h6 h0
        unfold wM_twice_c126
        rw [e1, nI_clamp (show g < 2147483648 by omega), nI_clamp (show g + 1 < 2147483648 by omega), f1 14 (by omega) (by omega) (by omega), w1, w3, zI_i (by omega) (by omega) (by omega) (by omega), h6, h0]
        refine ⟨in1, in0, ?_⟩
        have go : ∀ u : Nat, u ≤ 1 → u = (if fh_px cr 0 (g + 1) = fh_px cr 0 g then 1 else 0) → wM_twice_c157 (wM_twice_l42 Q (d + 1)) (nI k) (nI (fh_tw (fh_sk cr 0) g)) (nI (g + 1)) (zI (fh_mi (fh_px cr 0 g) (fh_px cr 0 (g + 1)))) (zI (fh_mi (fh_py cr 0 g) (fh_py cr 0 (g + 1)))) (nI u) I' J Q := by
          intro u hu eu
          have es : fh_sk cr 0 g = fh_kp (fh_mi (fh_px cr 0 g) (fh_px cr 0 (g + 1))) (fh_mi (fh_py cr 0 g) (fh_py cr 0 (g + 1))) u := by
            unfold fh_sk
            rw [← eu]
          unfold wM_twice_c157
          refine m_meets T' (by rw [kl_len]; omega) k1 k2 (by rw [es]; exact kp_m m1.1 m1.2 m2.1 m2.2 hu) (fun I2 T2 g1 g2 _ => ?_)
          have x := ih (g + 1) I2 (by omega) T2 (fun a a1 a2 a3 => (g1 a a1 a2 a3).trans (f1 a a1 a2 a3)) (fun j hj => (g2 j hj).trans (f2 j hj))
          show (nI (fh_nt (fh_sk cr 0) g) ≤ 1 → _) ∧ (¬ nI (fh_nt (fh_sk cr 0) g) ≤ 1 → _)
          have E1 : nI (fh_nt (fh_sk cr 0) g) ≤ 1 ↔ fh_nt (fh_sk cr 0) g ≤ 1 := nI_leI (b := 1) (by omega) (by omega)
          rw [fh_tw] at x
          rw [nI_1, nI_1, E1]
          by_cases c : fh_nt (fh_sk cr 0) g ≤ 1
          · rw [if_pos c] at x
            exact br_t c x
          · rw [if_neg c] at x
            exact br_f c x
        refine ⟨fun n1 => go 0 (by omega) (by rw [if_neg n1]), fun y1 => go 1 (by omega) (by rw [if_pos y1])⟩
      have c86 : ∀ v6 : Int32, v6 = zI (fh_mi (fh_px cr 0 g) (fh_px cr 0 (g + 1))) → wM_twice_c86 (wM_twice_l42 Q (d + 1)) (nI k) (nI (fh_tw (fh_sk cr 0) g)) (nI (g + 1)) v6 I' J Q := by
        intro v6 h6
        unfold wM_twice_c86
        rw [e1, nI_clamp (show g < 2147483648 by omega), nI_clamp (show g + 1 < 2147483648 by omega), f1 15 (by omega) (by omega) (by omega), w2, w4, zI_le (by omega) (by omega) (by omega) (by omega)]
        refine ⟨in1, in0, fun y1 => c157 _ _ h6 ?_, fun n1 => c157 _ _ h6 ?_⟩
        · rw [fh_mi, if_pos y1]
        · rw [fh_mi, if_neg n1]
      refine br_f (nI_nlt (by omega) (by omega)) ?_
      rw [e1, nI_clamp (show g < 2147483648 by omega), nI_clamp (show g + 1 < 2147483648 by omega), f1 14 (by omega) (by omega) (by omega), w1, w3, zI_le (by omega) (by omega) (by omega) (by omega)]
      refine ⟨in1, in0, fun y1 => c86 _ ?_, fun n1 => c86 _ ?_⟩
      · rw [fh_mi, if_pos y1]
      · rw [fh_mi, if_neg n1]
  exact ⟨k + 1, key k 0 I (by omega) T (fun _ _ _ _ => rfl) (fun _ _ => rfl)⟩
