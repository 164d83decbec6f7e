/-! the tables of both -/
theorem and_14 (x : Int32) : ∃ s : Nat, s < 16384 ∧ x &&& 16383 = nI s := by
  refine ⟨(x.toBitVec &&& 16383#32).toNat, ?_, ?_⟩
  · rw [BitVec.toNat_and]
    exact Nat.lt_of_le_of_lt Nat.and_le_right (by decide)
  · apply Int32.toBitVec_inj.mp
    rw [Int32.toBitVec_and]
    show _ = BitVec.ofNat 32 _
    rw [BitVec.ofNat_toNat, BitVec.setWidth_eq]
    rfl
theorem and_mod {a : Nat} (ha : a < 2147483648) : nI a &&& 16383 = nI (a % 16384) := by
  apply Int32.toBitVec_inj.mp
  rw [Int32.toBitVec_and]
  apply BitVec.eq_of_toNat_eq
  rw [BitVec.toNat_and]
  show (a % 2 ^ 32) &&& (2 ^ 14 - 1) = (a % 16384) % 2 ^ 32
  rw [Nat.and_two_pow_sub_one_eq_mod, Nat.mod_eq_of_lt (show a < 2 ^ 32 by omega), Nat.mod_eq_of_lt (show a % 16384 < 2 ^ 32 by omega)]
theorem shr_19 (x : Int32) : ∃ s : Nat, s < 8192 ∧ (x.toUInt32 >>> (((19 : Int32)).toUInt32 &&& Int32.toUInt32 31)).toInt32 = nI s := by
  have e : (x.toUInt32 >>> (((19 : Int32)).toUInt32 &&& Int32.toUInt32 31)).toNat = x.toUInt32.toNat / 2 ^ 19 := by
    rw [UInt32.toNat_shiftRight, show ((((19 : Int32)).toUInt32 &&& Int32.toUInt32 31)).toNat % 32 = 19 by decide, Nat.shiftRight_eq_div_pow]
  have b := x.toUInt32.toNat_lt
  refine ⟨x.toUInt32.toNat / 2 ^ 19, by omega, ?_⟩
  apply Int32.toBitVec_inj.mp
  apply BitVec.eq_of_toNat_eq
  show (x.toUInt32 >>> (((19 : Int32)).toUInt32 &&& Int32.toUInt32 31)).toNat = (x.toUInt32.toNat / 2 ^ 19) % 2 ^ 32
  rw [e]
  omega
def fh_hM (k : Nat) : Nat := ((((nI k * 40503).toUInt32 >>> (((7 : Int32)).toUInt32 &&& Int32.toUInt32 31)).toInt32) &&& 16383).toNatClampNeg
theorem hM_e (k : Nat) : fh_hM k < 16384 ∧ (((nI k * 40503).toUInt32 >>> (((7 : Int32)).toUInt32 &&& Int32.toUInt32 31)).toInt32) &&& 16383 = nI (fh_hM k) := by
  obtain ⟨s, h1, h2⟩ := and_14 (((nI k * 40503).toUInt32 >>> (((7 : Int32)).toUInt32 &&& Int32.toUInt32 31)).toInt32)
  unfold fh_hM
  rw [h2, nI_clamp (by omega)]
  exact ⟨h1, rfl⟩
def fh_hX (k : Nat) : Nat := ((nI (k + 1556669) * (-1640531535)).toUInt32 >>> (((19 : Int32)).toUInt32 &&& Int32.toUInt32 31)).toInt32.toNatClampNeg
theorem hX_e (k : Nat) : fh_hX k < 8192 ∧ ((nI (k + 1556669) * (-1640531535)).toUInt32 >>> (((19 : Int32)).toUInt32 &&& Int32.toUInt32 31)).toInt32 = nI (fh_hX k) := by
  obtain ⟨s, h1, h2⟩ := shr_19 (nI (k + 1556669) * (-1640531535))
  unfold fh_hX
  rw [h2, nI_clamp (by omega)]
  exact ⟨h1, rfl⟩
def upd2 (f : Nat → Nat) (s x : Nat) : Nat → Nat := fun i => if i = s then x else f i
theorem upd2_s {f : Nat → Nat} {s x : Nat} : upd2 f s x s = x := if_pos rfl
theorem upd2_n {f : Nat → Nat} {s x i : Nat} (h : i ≠ s) : upd2 f s x i = f i := if_neg h
def mTb (I : gI) (D : List Nat) : Prop := ∃ m c : Nat → Nat, tbl 16384 fh_hM D m c ∧ ∀ s, s < 16384 → I 18 s = nI (m s) ∧ I 19 s = nI (c s) ∧ m s < 1073741824
def xTb (X : gI) (D : List Nat) : Prop := ∃ m c : Nat → Nat, tbl 8192 fh_hX D m c ∧ ∀ s, s < 8192 → X 8 s = nI (c s) ∧ (m s ≠ 0 → X 6 s = nI (m s + 1556669)) ∧ m s < 1073741824
theorem tbl_c {N : Nat} {hh m c : Nat → Nat} {D : List Nat} (T : tbl N hh D m c) {s : Nat} (hs : s < N) : c s ≤ D.length ∧ (c s = 0 ↔ m s = 0) := by
  rcases T.1 s hs with h | h
  · exact ⟨by omega, ⟨fun _ => h.1, fun _ => h.2⟩⟩
  · have := List.count_le_length (a := m s) (l := D)
    exact ⟨by omega, ⟨fun e => absurd e (by omega), fun e => absurd e h.1⟩⟩
theorem m_meets {I : gI} {J : gJ} {D : List Nat} (T : mTb I D) (hD : D.length < 16384) {k : Nat} (hk : 0 < k) (hk2 : k < 1073741824) {v1 v2 v3 : Int32} (e : ((((((v1 + 4001) * 8192) + v2) + 4001) * 2) + v3) + 1 = nI k) {Q : Int32 → gI → gJ → Prop} (hQ : ∀ I', mTb I' (k :: D) → (∀ a, a ≠ 0 → a ≠ 18 → a ≠ 19 → I' a = I a) → (∀ j, j ≠ 8 → I' 0 j = I 0 j) → I' 0 8 = (if D.count k = 0 then I 0 8 + 1 else I 0 8) → Q (nI (D.count k + 1)) I' J) : wM_meets v1 v2 v3 I J Q := by
  obtain ⟨m, c, T, hm⟩ := T
  obtain ⟨o, ho, f1, f2⟩ := tbl_find T hD (show k ≠ 0 by omega)
  obtain ⟨hl, hh⟩ := hM_e k
  unfold wM_meets
  rw [e, hh]
  rintro x1 rfl
  have lt : ∀ i, (fh_hM k + i) % 16384 < 16384 := fun i => Nat.mod_lt _ (by omega)
  have key : ∀ d i : Nat, d + i = o → wM_meets_l38 Q (d + 1) (nI k) (nI ((fh_hM k + i) % 16384)) I J := by
    intro d
    induction d with
    | zero =>
      intro i ei
      obtain rfl : i = o := by omega
      have c93 : ∀ I3 : gI, (∀ a, a ≠ 0 → I3 a = I a) → (∀ j, j ≠ 8 → I3 0 j = I 0 j) → I3 0 8 = (if D.count k = 0 then I 0 8 + 1 else I 0 8) → wM_meets_c93 (nI k) (nI ((fh_hM k + i) % 16384)) I3 J Q := by
        intro I3 g1 g2 g3
        refine ⟨vp_in_nI (lt i) (by decide), ?_⟩
        rintro I2 rfl I4 rfl
        rw [nI_clamp (show (fh_hM k + i) % 16384 < 2147483648 by omega), upI_s, upd_s, upI_n (show (19 : Nat) ≠ 18 by omega), g1 19 (by omega), (hm _ (lt i)).2.1, nI_1]
        have ec : c ((fh_hM k + i) % 16384) = D.count k := by
          rcases f2 with ⟨-, a, b⟩ | ⟨-, b, -⟩ <;> omega
        rw [ec]
        refine hQ _ ⟨upd2 m ((fh_hM k + i) % 16384) k, upd2 c ((fh_hM k + i) % 16384) (c ((fh_hM k + i) % 16384) + 1), tbl_put T (by omega) (by omega) f1 f2 (if_pos rfl) (if_pos rfl) (fun s _ h => ⟨if_neg h, if_neg h⟩), fun s hs => ?_⟩ (fun a a1 a2 a3 => by rw [upI_n a3, upI_n a2, g1 a a1]) (fun j hj => by rw [upI_n (by omega), upI_n (by omega), g2 j hj]) (by rw [upI_n (by omega), upI_n (by omega), g3])
        rw [upI_n (show (18 : Nat) ≠ 19 by omega), upI_s, upI_s, g1 18 (by omega), upI_n (show (19 : Nat) ≠ 18 by omega), g1 19 (by omega)]
        by_cases es : s = (fh_hM k + i) % 16384
        · rw [es, upd_s, upd_s, upd2_s, upd2_s, ec]
          exact ⟨rfl, rfl, hk2⟩
        · rw [upd_n es, upd_n es, upd2_n es, upd2_n es]
          exact hm s hs
      have c73 : wM_meets_c73 (nI k) (nI ((fh_hM k + i) % 16384)) I J Q := by
        refine ⟨vp_in_nI (lt i) (by decide), ?_⟩
        rw [nI_clamp (show (fh_hM k + i) % 16384 < 2147483648 by omega), (hm _ (lt i)).1]
        have hb := (hm _ (lt i)).2.2
        have E0 : nI (m ((fh_hM k + i) % 16384)) = 0 ↔ m ((fh_hM k + i) % 16384) = 0 := nI_eq (b := 0) (by omega) (by omega)
        rw [E0]
        refine ⟨fun n0 => c93 I (fun _ _ => rfl) (fun _ _ => rfl) ?_, fun y0 => ?_⟩
        · rw [if_neg]
          rcases f2 with ⟨a, -, -⟩ | ⟨-, b, b2⟩ <;> omega
        · rintro I3 rfl
          refine c93 _ (fun a ha => upI_n ha) (fun j hj => by rw [upI_s, upd_n hj]) ?_
          rw [upI_s, upd_s, if_pos]
          rcases f2 with ⟨-, a, -⟩ | ⟨a, -, -⟩ <;> omega
      refine ⟨vp_in_nI (lt i) (by decide), fun _ => c73, fun n0 => ⟨fun _ => c73, fun n1 => ?_⟩⟩
      rw [nI_clamp (show (fh_hM k + i) % 16384 < 2147483648 by omega), (hm _ (lt i)).1] at n0 n1
      rcases f2 with ⟨a, -, -⟩ | ⟨a, -, -⟩
      · rw [a] at n0
        exact absurd rfl n0
      · rw [a] at n1
        exact absurd rfl n1
    | succ d ih =>
      intro i ei
      refine ⟨vp_in_nI (lt i) (by decide), ?_⟩
      obtain ⟨a1, a2⟩ := f1 i (by omega)
      have hb := (hm _ (lt i)).2.2
      have E0 : nI (m ((fh_hM k + i) % 16384)) = 0 ↔ m ((fh_hM k + i) % 16384) = 0 := nI_eq (b := 0) (by omega) (by omega)
      have E1 : nI (m ((fh_hM k + i) % 16384)) = nI k ↔ m ((fh_hM k + i) % 16384) = k := nI_eq (by omega) (by omega)
      rw [nI_clamp (show (fh_hM k + i) % 16384 < 2147483648 by omega), (hm _ (lt i)).1, E0, E1, nI_1, and_mod (by omega)]
      refine br_f a1 (br_f a2 ?_)
      rw [show ((fh_hM k + i) % 16384 + 1) % 16384 = (fh_hM k + (i + 1)) % 16384 by omega]
      exact ih (i + 1) (by omega)
  have x := key o 0 (by omega)
  rw [show (fh_hM k + 0) % 16384 = fh_hM k by omega] at x
  exact ⟨o + 1, x⟩
theorem x_slotOf {X : gI} {Y : gJ} {R : gR} {L : List Nat} {S : gS} {D : List Nat} {m c : Nat → Nat} (T : tbl 8192 fh_hX D m c) (hm : ∀ s, s < 8192 → X 8 s = nI (c s) ∧ (m s ≠ 0 → X 6 s = nI (m s + 1556669)) ∧ m s < 1073741824) (hD : D.length < 8192) {k : Nat} (hk : 0 < k) (hk2 : k < 1073741824) {Q : Int32 → Prop} (hQ : ∀ o, (∀ i, i < o → m ((fh_hX k + i) % 8192) ≠ 0 ∧ m ((fh_hX k + i) % 8192) ≠ k) → ((m ((fh_hX k + o) % 8192) = 0 ∧ D.count k = 0 ∧ c ((fh_hX k + o) % 8192) = 0) ∨ (m ((fh_hX k + o) % 8192) = k ∧ c ((fh_hX k + o) % 8192) = D.count k ∧ 0 < c ((fh_hX k + o) % 8192))) → Q (nI ((fh_hX k + o) % 8192))) : wX1_slotOf 0 (nI (k + 1556669)) X Y R L S Q := by
  obtain ⟨o, ho, f1, f2⟩ := tbl_find T hD (show k ≠ 0 by omega)
  obtain ⟨hl, hh⟩ := hX_e k
  have hq := hQ o f1 f2
  unfold wX1_slotOf
  rw [hh]
  rintro x1 rfl
  have lt : ∀ i, (fh_hX k + i) % 8192 < 8192 := fun i => Nat.mod_lt _ (by omega)
  have em : ∀ i, i < 8192 → (nI (fh_hX k) + nI i) % Int32.ofNat (lenX (8 + 0)) = nI ((fh_hX k + i) % 8192) := by
    intro i hi
    rw [nI_add]
    exact pk_iMod (b := 8192) (by omega) (by omega)
  have key : ∀ d i : Nat, d + i = o → wX1_slotOf_l10 0 X Y R L S Q (d + 1) (nI (k + 1556669)) (nI (fh_hX k)) (nI i) := by
    intro d
    induction d with
    | zero =>
      intro i ei
      obtain rfl : i = o := by omega
      refine br_f (nI_ge (b := 8192) (by omega) (by omega)) ⟨by decide, ?_⟩
      rw [em i (by omega)]
      refine ⟨vp_in_nI (lt i) (by decide), fun _ => hq, fun n0 => ⟨vp_in_nI (lt i) (by decide), fun n1 => ?_, fun _ => hq⟩⟩
      rw [nI_clamp (show (fh_hX k + i) % 8192 < 2147483648 by omega)] at n0 n1
      rcases f2 with ⟨-, -, a⟩ | ⟨a, -, -⟩
      · rw [show X (8 + 0) ((fh_hX k + i) % 8192) = nI (c ((fh_hX k + i) % 8192)) from (hm _ (lt i)).1, a] at n0
        exact absurd rfl n0
      · rw [show X (6 + 0) ((fh_hX k + i) % 8192) = nI (m ((fh_hX k + i) % 8192) + 1556669) from (hm _ (lt i)).2.1 (by omega), a] at n1
        exact absurd rfl n1
    | succ d ih =>
      intro i ei
      refine br_f (nI_ge (b := 8192) (by omega) (by omega)) ⟨by decide, ?_⟩
      rw [em i (by omega)]
      obtain ⟨a1, a2⟩ := f1 i (by omega)
      have hb := (hm _ (lt i)).2.2
      have hc := tbl_c T (lt i)
      refine ⟨vp_in_nI (lt i) (by decide), ?_⟩
      rw [nI_clamp (show (fh_hX k + i) % 8192 < 2147483648 by omega), show X (8 + 0) ((fh_hX k + i) % 8192) = nI (c ((fh_hX k + i) % 8192)) from (hm _ (lt i)).1, show X (6 + 0) ((fh_hX k + i) % 8192) = nI (m ((fh_hX k + i) % 8192) + 1556669) from (hm _ (lt i)).2.1 a1]
      have E0 : nI (c ((fh_hX k + i) % 8192)) = 0 ↔ c ((fh_hX k + i) % 8192) = 0 := nI_eq (b := 0) (by omega) (by omega)
      have E1 : nI (m ((fh_hX k + i) % 8192) + 1556669) = nI (k + 1556669) ↔ m ((fh_hX k + i) % 8192) + 1556669 = k + 1556669 := nI_eq (by omega) (by omega)
      rw [E0, E1, nI_1]
      refine br_f (fun e => a1 (hc.2.mp e)) ⟨vp_in_nI (lt i) (by decide), fun _ => ih (i + 1) (by omega), fun e => absurd e (by omega)⟩
  exact ⟨o + 1, key o 0 (by omega)⟩
theorem x_note {X : gI} {Y : gJ} {R : gR} {L : List Nat} {S : gS} {D : List Nat} (T : xTb X D) (hD : D.length < 8192) {k : Nat} (hk : 0 < k) (hk2 : k < 1073741824) {Q : Int32 → gI → gJ → gR → Prop} (hQ : ∀ X', xTb X' (k :: D) → (∀ a, a ≠ 6 → a ≠ 8 → X' a = X a) → Q (nI (D.count k + 1)) X' Y R) : wX1_note 0 (nI (k + 1556669)) X Y R L S Q := by
  obtain ⟨m, c, T, hm⟩ := T
  refine x_slotOf T hm hD hk hk2 (fun o f1 f2 => ?_)
  have lt : (fh_hX k + o) % 8192 < 8192 := Nat.mod_lt _ (by omega)
  have ec : c ((fh_hX k + o) % 8192) = D.count k := by
    rcases f2 with ⟨-, a, b⟩ | ⟨-, b, -⟩ <;> omega
  refine br_m (nI_nm1 (by omega)) ⟨vp_in_nI lt (by decide), ?_⟩
  rintro I4 rfl
  refine ⟨vp_in_nI lt (by decide), ?_⟩
  rintro I7 rfl
  rw [nI_clamp (show (fh_hX k + o) % 8192 < 2147483648 by omega)]
  show Q (upI (upI X 6 _ _) 8 _ (upI X 6 _ _ 8 _ + 1) 8 _) (upI (upI X 6 _ _) 8 _ (upI X 6 _ _ 8 _ + 1)) Y R
  rw [upI_s, upd_s, upI_n (show (8 : Nat) ≠ 6 by omega), (hm _ lt).1, nI_1, ec]
  refine hQ _ ⟨upd2 m ((fh_hX k + o) % 8192) k, upd2 c ((fh_hX k + o) % 8192) (c ((fh_hX k + o) % 8192) + 1), tbl_put T (by omega) (by omega) f1 f2 (if_pos rfl) (if_pos rfl) (fun s _ h => ⟨if_neg h, if_neg h⟩), fun s hs => ?_⟩ (fun a a1 a2 => by rw [upI_n a2, upI_n a1])
  rw [upI_s, upI_n (show (6 : Nat) ≠ 8 by omega), upI_s, upI_n (show (8 : Nat) ≠ 6 by omega)]
  by_cases es : s = (fh_hX k + o) % 8192
  · rw [es, upd_s, upd_s, upd2_s, upd2_s, ec]
    exact ⟨rfl, fun _ => rfl, hk2⟩
  · rw [upd_n es, upd_n es, upd2_n es, upd2_n es]
    exact hm s hs
theorem x_timesOf {X : gI} {Y : gJ} {R : gR} {L : List Nat} {S : gS} {D : List Nat} (T : xTb X D) (hD : D.length < 8192) {k : Nat} (hk : 0 < k) (hk2 : k < 1073741824) {Q : Int32 → Prop} (hQ : Q (nI (D.count k))) : wX1_timesOf 0 (nI (k + 1556669)) X Y R L S Q := by
  obtain ⟨m, c, T, hm⟩ := T
  refine x_slotOf T hm hD hk hk2 (fun o f1 f2 => ?_)
  have lt : (fh_hX k + o) % 8192 < 8192 := Nat.mod_lt _ (by omega)
  have ec : c ((fh_hX k + o) % 8192) = D.count k := by
    rcases f2 with ⟨-, a, b⟩ | ⟨-, b, -⟩ <;> omega
  refine br_m (nI_nm1 (by omega)) ⟨vp_in_nI lt (by decide), ?_⟩
  rw [nI_clamp (show (fh_hX k + o) % 8192 < 2147483648 by omega), show X (8 + 0) ((fh_hX k + o) % 8192) = nI (c ((fh_hX k + o) % 8192)) from (hm _ lt).1, ec]
  exact hQ
theorem m_clears {I : gI} {J : gJ} {Q : gI → gJ → Prop} (hQ : ∀ I', mTb I' [] → (∀ a, a ≠ 0 → a ≠ 18 → a ≠ 19 → I' a = I a) → (∀ j, j ≠ 8 → I' 0 j = I 0 j) → I' 0 8 = nI 0 → Q I' J) : wM_clears I J Q := by
  have key : ∀ (d g : Nat) (I' : gI), d + g = 16384 → (∀ s, s < g → I' 18 s = nI 0 ∧ I' 19 s = nI 0) → (∀ a, a ≠ 18 → a ≠ 19 → I' a = I a) → wM_clears_l2 Q (d + 1) (nI g) I' J := by
    intro d
    induction d with
    | zero =>
      intro g I' e f1 f2
      obtain rfl : g = 16384 := by omega
      refine br_t (nI_le (b := 16384) (Nat.le_refl _) (by omega)) ?_
      rintro I2 rfl
      refine hQ _ ⟨fun _ => 0, fun _ => 0, tbl_0 (fun _ _ => ⟨rfl, rfl⟩), fun s hs => ?_⟩ (fun a a1 a2 a3 => by rw [upI_n a1, f2 a a2 a3]) (fun j hj => by rw [upI_s, upd_n hj, f2 0 (by omega) (by omega)]) (by rw [upI_s, upd_s]; rfl)
      rw [upI_n (by omega), upI_n (by omega)]
      exact ⟨(f1 s hs).1, (f1 s hs).2, (by decide : 0 < 1073741824)⟩
    | succ d ih =>
      intro g I' e f1 f2
      refine br_f (nI_ge (b := 16384) (by omega) (by omega)) ⟨vp_in_nI (by omega) (by decide), ?_⟩
      rintro I5 rfl I7 rfl
      rw [nI_clamp (show g < 2147483648 by omega), nI_1]
      refine ih (g + 1) _ (by omega) (fun s hs => ?_) (fun a a1 a2 => by rw [upI_n a2, upI_n a1, f2 a a1 a2])
      rw [upI_n (show (18 : Nat) ≠ 19 by omega), upI_s, upI_s, upI_n (show (19 : Nat) ≠ 18 by omega)]
      by_cases es : s = g
      · rw [es, upd_s, upd_s]
        exact ⟨rfl, rfl⟩
      · rw [upd_n es, upd_n es]
        exact f1 s (by omega)
  exact ⟨16384 + 1, key 16384 0 I (by omega) (fun s hs => absurd hs (by omega)) (fun _ _ _ => rfl)⟩
theorem x_forget {X : gI} {Y : gJ} {R : gR} {L : List Nat} {S : gS} {Q : gI → gJ → gR → Prop} (hQ : ∀ X', xTb X' [] → (∀ a, a ≠ 8 → X' a = X a) → Q X' Y R) : wX1_forget 0 X Y R L S Q := by
  have key : ∀ (d g : Nat) (X' : gI), d + g = 8192 → (∀ s, s < g → X' 8 s = nI 0) → (∀ a, a ≠ 8 → X' a = X a) → wJ7_fill_53178_l5 (8 + 0) L S (fun I2 J3 R4 => Q I2 J3 R4) (d + 1) 0 (nI g) (Int32.ofNat (lenX (8 + 0))) X' Y R := by
    intro d
    induction d with
    | zero =>
      intro g X' e f1 f2
      obtain rfl : g = 8192 := by omega
      refine br_t (nI_le (a := 8192) (b := 8192) (Nat.le_refl _) (by omega)) (hQ _ ⟨fun _ => 0, fun _ => 0, tbl_0 (fun _ _ => ⟨rfl, rfl⟩), fun s hs => ⟨f1 s hs, fun e => absurd rfl e, (by decide : 0 < 1073741824)⟩⟩ f2)
    | succ d ih =>
      intro g X' e f1 f2
      refine br_f (nI_ge (b := 8192) (by omega) (by omega)) ⟨vp_in_nI (by show g < 8192; omega) (by decide), ?_⟩
      rintro I5 rfl
      rw [nI_clamp (show g < 2147483648 by omega), nI_1]
      refine ih (g + 1) _ (by omega) (fun s hs => ?_) (fun a a1 => by rw [upI_n (by omega), f2 a a1])
      show upI X' 8 g 0 8 s = _
      rw [upI_s]
      by_cases es : s = g
      · rw [es, upd_s]
        rfl
      · rw [upd_n es]
        exact f1 s (by omega)
  exact ⟨8192 + 1, key 8192 0 X (by omega) (fun s hs => absurd hs (by omega)) (fun _ _ => rfl)⟩
