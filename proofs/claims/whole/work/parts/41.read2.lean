/-! read: the class, item by item -/
theorem Rl.rd {n : Nat} {T : Nat → gP} {I X : gI} {J Y : gJ} {R : gR} {L : List Nat} {S : gS} (h : Rl n T I J X Y R L S) {X' : gI} {Y' : gJ} {R' : gR} (hX : ∀ a, a ≠ 0 → X' a = X a) (hX0 : ∀ j, (j < 5 ∨ 10 < j) → X' 0 j = X 0 j) (hY : ∀ k, k ≠ 0 → Y' k = Y k) (h0 : R' 0 = R 0) (h1 : R' 1 = R 1) (h2 : ∀ i q, R' 2 i = some q → q ∈ L) : Rl n T I J X' Y' R' L S := by
  obtain ⟨⟨a1, a2, a3, a4⟩, b, c, d, e, f, g, i, j, k, l⟩ := h
  refine ⟨⟨a1, a2, ?_, fun q hq => ⟨(a4 q hq).1, (a4 q hq).2.1, ?_⟩⟩, fun q hq p w hw => ?_, ?_, fun s hs => ?_, fun s hs q hq => ?_, fun q hq => ?_, ?_, ?_, j, ?_, l⟩
  · rw [hX0 0 (by omega)]; exact a3
  · rw [h0]; exact (a4 q hq).2.2
  · rcases (show q = 0 ∨ q = 1 ∨ q = 2 by omega) with eq | eq | eq
    · subst eq
      rw [h0] at hw
      exact b 0 (by omega) p w hw
    · subst eq
      rw [h1] at hw
      exact b 1 (by omega) p w hw
    · subst eq
      exact h2 p w hw
  · unfold rIm
    rw [hX0 1 (by omega), h1]
    exact c
  · unfold rSh
    rw [hX 3 (by omega), hX 4 (by omega)]
    exact d s hs
  · rw [hY (3 + s) (by omega)]; exact e s hs q hq
  · rw [hX 5 (by omega)]; exact f q hq
  · rw [hX0 2 (by omega)]; exact g
  · unfold rTr
    rw [hX0 3 (by omega), hX0 4 (by omega), hX 15 (by omega)]
    exact i
  · unfold rLX
    rw [hX0 11 (by omega), hX 12 (by omega), hX 13 (by omega), hX 14 (by omega)]
    exact k
/-- the class reads: it stands at a, and its list is n strips T -/
def xI (n0 : Nat) (T0 : Nat → gP) (I : gI) (J : gJ) (g : Nat → Int32) (s z n : Nat) (T : Nat → gP) (a : Nat) (X : gI) (Y : gJ) (R : gR) (L : List Nat) (S : gS) : Prop :=
  Rl n0 T0 I J X Y R L S ∧ tRx X Y R g s z a ∧ X 0 5 = nI n ∧ (n ≤ 8 ∧ n0 ≤ n) ∧ ∀ i, i < n → stok (T i) ∧ xS (R 2) L S i (T i)
theorem xI.mv {n0 : Nat} {T0 : Nat → gP} {I : gI} {J : gJ} {g : Nat → Int32} {s z n : Nat} {T : Nat → gP} {a b : Nat} {X : gI} {Y : gJ} {R : gR} {L : List Nat} {S : gS} (H : xI n0 T0 I J g s z n T a X Y R L S) {X' : gI} {Y' : gJ} (hX : ∀ a, a ≠ 0 → X' a = X a) (hX0 : ∀ j, (j < 6 ∨ 10 < j) → X' 0 j = X 0 j) (hY : ∀ k, k ≠ 0 → Y' k = Y k) (ht : tRx X' Y' R g s z b) : xI n0 T0 I J g s z n T b X' Y' R L S :=
  ⟨H.1.rd hX (fun j hj => hX0 j (by omega)) hY rfl rfl (H.1.2.1 2 (by omega)), ht, by rw [hX0 5 (by omega)]; exact H.2.2.1, H.2.2.2.1, H.2.2.2.2⟩
theorem xI.put {n0 : Nat} {T0 : Nat → gP} {I : gI} {J : gJ} {g : Nat → Int32} {s z n : Nat} {T : Nat → gP} {a : Nat} {X : gI} {Y : gJ} {R : gR} {L : List Nat} {S : gS} (H : xI n0 T0 I J g s z n T a X Y R L S) {q i n' : Nat} {t : gP} (hq : q ∉ L) (hn : n ≤ n') (hn8 : n' ≤ 8) (hnn : ∀ j, j < n' → j ≠ i → j < n) (ok : stok t) {X' : gI} (hX : ∀ a, a ≠ 0 → X' a = X a) (hX0 : ∀ j, j ≠ 5 → X' 0 j = X 0 j) (h5 : X' 0 5 = nI n') : xI n0 T0 I J g s z n' (fun j => if j = i then t else T j) a X' Y (upR R 2 i (some q)) (L ++ [q]) (va_up S q (xV t i)) := by
  obtain ⟨h1, ⟨t1, t2, t3, t4, t5, t6, t7⟩, h3, h4, h6⟩ := H
  refine ⟨(h1.new hq (xV t i)).rd hX (fun j hj => hX0 j (by omega)) (fun _ _ => rfl) (upR_n (by omega)) (upR_n (by omega)) (fun j p hp => ?_), ⟨?_, t2, ?_, t4, ?_, t6, t7⟩, h5, ⟨hn8, Nat.le_trans h4.2 hn⟩, fun j hj => ?_⟩
  · rw [upR_s] at hp
    by_cases e : j = i
    · subst e
      rw [va_up_s] at hp
      cases hp
      exact List.mem_append_right _ List.mem_cons_self
    · rw [va_up_n e] at hp
      exact List.mem_append_left _ (h1.2.1 2 (by omega) j p hp)
  · rw [upR_n (by omega)]; exact t1
  · rw [hX 4 (by omega)]; exact t3
  · rw [hX0 7 (by omega)]; exact t5
  · by_cases e : j = i
    · subst e
      dsimp only
      rw [if_pos rfl]
      exact ⟨ok, q, by rw [upR_s, va_up_s], List.mem_append_right _ List.mem_cons_self, va_up_s _ _ _⟩
    · dsimp only
      rw [if_neg e]
      obtain ⟨k1, k2⟩ := h6 j (hnn j hj e)
      obtain ⟨w, w1, w2, w3⟩ := k2.new hq (xV t i)
      exact ⟨k1, w, by rw [upR_s, va_up_n e]; exact w1, w2, w3⟩
theorem x_made2 {X : gI} {Y : gJ} {R : gR} {L : List Nat} {S : gS} {t : gP} (ok : stok t) {i : Nat} {Q : Nat → gI → gJ → gR → List Nat → gS → Prop} (hQ : ∀ q : Nat, q ∉ L → Q q X Y R (L ++ [q]) (va_up S q (xV t i))) : wX9_made (nI (tk t)) (nI i) (nI (ta t)) (nI (tf t)) (lN (tw t)) X Y R L S Q := by
  intro q hq
  rw [mkV_ok ok i]
  exact hQ q hq
theorem x_letI {n0 : Nat} {T0 : Nat → gP} {I : gI} {J : gJ} {g : Nat → Int32} {s z n : Nat} {T : Nat → gP} {a : Nat} {X : gI} {Y : gJ} {R : gR} {L : List Nat} {S : gS} (H : xI n0 T0 I J g s z n T a X Y R L S) {w e : Nat} (hw : w < 5) (he : tx_len.getD w 0 = e) {Q : Bool → gI → gJ → gR → Prop} (hY : fh_lts g z w e 0 a = e → ∀ X', xI n0 T0 I J g s z n T (a + e) X' Y R L S → X' 0 6 = X 0 6 → (∀ j, j ≠ 6 → j ≠ 7 → X' 0 j = X 0 j) → Q true X' Y R) (hN : fh_lts g z w e 0 a ≠ e → ∀ X', Rl n0 T0 I J X' Y R L S → X' 0 6 = nI (a + fh_lts g z w e 0 a) → a + fh_lts g z w e 0 a ≤ 160 → Q false X' Y R) : wX6_letters w X Y R L S Q := by
  subst he
  refine x_lets H.2.1 hw (fun X' m hm T1 f1 f2 f6 => ?_)
  have f2' : ∀ j, (j < 6 ∨ 10 < j) → X' 0 j = X 0 j := fun j hj => f2 j (by omega) (by omega)
  by_cases c : m = tx_len.getD w 0
  · rw [decide_eq_true c]
    rw [if_pos c] at f6
    exact hY (by rw [← hm]; exact c) X' (H.mv f1 f2' (fun _ _ => rfl) (by rw [← c]; exact T1)) f6 f2
  · rw [decide_eq_false c]
    rw [if_neg c] at f6
    have h1 := T1.2.2.2.2.2.1
    have h2 := T1.2.2.2.1
    exact hN (by rw [← hm]; exact c) X' (H.mv f1 f2' (fun _ _ => rfl) T1).1 (by rw [← hm]; exact f6) (by rw [← hm]; omega)
theorem x_blk {n0 : Nat} {T0 : Nat → gP} {I : gI} {J : gJ} {g : Nat → Int32} {s z n : Nat} {T : Nat → gP} {a : Nat} {X : gI} {Y : gJ} {R : gR} {L : List Nat} {S : gS} (H : xI n0 T0 I J g s z n T a X Y R L S) {Q : Bool → gI → gJ → gR → Prop} (hY : fh_hr g z a = 32 → ∀ X', xI n0 T0 I J g s z n T (a + 1) X' Y R L S → X' 0 6 = X 0 6 → (∀ j, j ≠ 6 → j ≠ 7 → X' 0 j = X 0 j) → Q true X' Y R) (hN : ¬ fh_hr g z a = 32 → ∀ X', Rl n0 T0 I J X' Y R L S → X' 0 6 = nI a → Q false X' Y R) : wX6_letters 1 X Y R L S Q := by
  have e := lts_1 g z a
  refine x_letI H (w := 1) (e := 1) (by omega) rfl (fun c => ?_) (fun c X' h1 h2 _ => ?_)
  · refine hY (Decidable.byContradiction (fun hn => ?_))
    rw [e, if_neg hn] at c
    omega
  · by_cases hc : fh_hr g z a = 32
    · rw [e, if_pos hc] at c
      exact absurd rfl c
    · rw [e, if_neg hc] at h2
      exact hN hc X' h1 h2
theorem x_smi {n0 : Nat} {T0 : Nat → gP} {I : gI} {J : gJ} {g : Nat → Int32} {s z n : Nat} {T : Nat → gP} {a : Nat} {X : gI} {Y : gJ} {R : gR} {L : List Nat} {S : gS} (H : xI n0 T0 I J g s z n T a X Y R L S) {Q : Bool → gI → gJ → gR → Prop} (hY : fh_hr g z a = 59 → ∀ X', xI n0 T0 I J g s z n T (a + 1) X' Y R L S → X' 0 6 = X 0 6 → Q true X' Y R) (hN : ¬ fh_hr g z a = 59 → ∀ X', Rl n0 T0 I J X' Y R L S → X' 0 6 = nI a → Q false X' Y R) : wX6_letters 4 X Y R L S Q := by
  have e := lts_4 g z a
  refine x_letI H (w := 4) (e := 1) (by omega) rfl (fun c X' h1 h2 _ => hY (Decidable.byContradiction (fun hn => ?_)) X' h1 h2) (fun c X' h1 h2 _ => ?_)
  · rw [e, if_neg hn] at c
    omega
  · by_cases hc : fh_hr g z a = 59
    · rw [e, if_pos hc] at c
      exact absurd rfl c
    · rw [e, if_neg hc] at h2
      exact hN hc X' h1 h2
theorem x_numI {n0 : Nat} {T0 : Nat → gP} {I : gI} {J : gJ} {g : Nat → Int32} {s z n : Nat} {T : Nat → gP} {a : Nat} {X : gI} {Y : gJ} {R : gR} {L : List Nat} {S : gS} (H : xI n0 T0 I J g s z n T a X Y R L S) (most : Int32) {Q : Bool → gI → gJ → gR → Prop} (hY : fh_nk g z a most = true → ∀ X', X' 0 8 = (fh_nu g z 6 a 0).2 → xI n0 T0 I J g s z n T (fh_nu g z 6 a 0).1 X' Y R L S → X' 0 6 = X 0 6 → X' 0 9 = nI a → Q true X' Y R) (hN : fh_nk g z a most = false → ∀ X', Rl n0 T0 I J X' Y R L S → X' 0 6 = nI a → Q false X' Y R) : wX6_numberUpTo most X Y R L S Q := by
  refine x_number H.2.1 most (fun X' T1 f8 fN f9 f6 => ?_)
  have h1 := H.mv fN.1 (fun j hj => fN.2 j (by omega)) (fun _ _ => rfl) T1
  cases c : fh_nk g z a most
  · rw [c] at f6
    exact hN c X' h1.1 f6
  · rw [c] at f6
    exact hY c X' f8 h1 f6 f9
theorem x_itS {n0 : Nat} {T0 : Nat → gP} {I : gI} {J : gJ} {g : Nat → Int32} {s z n : Nat} {T : Nat → gP} {a : Nat} {X : gI} {Y : gJ} {R : gR} {L : List Nat} {S : gS} (H : xI n0 T0 I J g s z n T a X Y R L S) {Q : Bool → gI → gJ → gR → List Nat → gS → Prop} (hF : ∀ p, fh_s1 g z n T a = .inl p → p ≤ 160 → ∀ X' Y' R', Rl n0 T0 I J X' Y' R' L S → X' 0 6 = nI p → Q false X' Y' R' L S) (hT : ∀ n' T' a', fh_s1 g z n T a = .inr (n', T', a') → ∀ X' Y' R' L' S', xI n0 T0 I J g s z n' T' a' X' Y' R' L' S' → X' 0 6 = X 0 6 → Q true X' Y' R' L' S') : wX6_stripItem X Y R L S Q := by
  have hz := H.2.1.2.2.2.1
  have ha := H.2.1.2.2.2.2.2.1
  have hn8 := H.2.2.2.1.1
  unfold fh_s1 at hF hT
  unfold wX6_stripItem
  refine x_letI H (w := 0) (e := 5) (by omega) rfl (fun c0 X1 H1 e1 k1 => btt ?_) (fun c0 X1 h1 e1 l1 => bff ?_)
  rotate_left
  · exact hF _ (if_neg c0) l1 X1 Y R h1 e1
  rw [if_pos c0] at hF hT
  have E5 : nI n < 8 ↔ n < 8 := nI_ltI (b := 8) (by omega) (by omega)
  rw [H1.2.2.1, E5, H.2.1.2.2.2.2.1]
  refine ⟨fun g5 => ?_, fun g5 => x_fail ?_⟩
  rotate_left
  · have en : n = 8 := by omega
    rw [if_pos en] at hF
    exact hF a rfl (by omega) _ Y R (H1.1.rd (fun a ha => upI_n ha) (fun j hj => by rw [upI_s, upd_n (by omega)]) (fun _ _ => rfl) rfl rfl (H1.1.2.1 2 (by omega))) (by rw [upI_s, upd_s])
  rw [if_neg (by omega)] at hF hT
  unfold fh_s2 at hF hT
  have h1z := H1.2.1.2.2.2.2.2.1
  refine x_blk H1 (fun c1 X2 H2 e2 k2 => bft ?_) (fun c1 X2 h2 e2 => btf ?_)
  rotate_left
  · exact hF _ (if_neg c1) (by omega) X2 Y R h2 e2
  rw [if_pos c1] at hF hT
  have h2z := H2.2.1.2.2.2.2.2.1
  refine x_numI H2 6 (fun c2 X3 v3 H3 e3 _ => btt ?_) (fun c2 X3 h3 e3 => bff ?_)
  rotate_left
  · exact hF _ (if_neg (by rw [c2]; decide)) (by omega) X3 Y R h3 e3
  rw [if_pos c2] at hF hT
  obtain ⟨k, hk, ek⟩ := nk_le (n := 6) (by omega) c2
  rw [ek, nI_clamp (show k < 2147483648 by omega)] at hF hT
  rw [ek] at v3
  generalize (fh_nu g z 6 (a + 5 + 1) 0).1 = b at *
  unfold fh_s3 at hF hT
  have h3z := H3.2.1.2.2.2.2.2.1
  refine x_blk H3 (fun c3 X4 H4 e4 k4 => bft ?_) (fun c3 X4 h4 e4 => btf ?_)
  rotate_left
  · exact hF _ (if_neg c3) (by omega) X4 Y R h4 e4
  rw [if_pos c3] at hF hT
  have h4z := H4.2.1.2.2.2.2.2.1
  refine x_numI H4 999999 (fun c4 X5 v5 H5 e5 _ => btt ?_) (fun c4 X5 h5 e5 => bff ?_)
  rotate_left
  · exact hF _ (if_neg (by rw [c4]; decide)) (by omega) X5 Y R h5 e5
  rw [if_pos c4] at hF hT
  obtain ⟨v, hv, ev⟩ := nk_le (n := 999999) (by omega) c4
  rw [ev, nI_clamp (show v < 2147483648 by omega)] at hF hT
  rw [ev] at v5
  generalize (fh_nu g z 6 (b + 1) 0).1 = c at *
  unfold fh_s4 at hF hT
  have h5z := H5.2.1.2.2.2.2.2.1
  refine x_blk H5 (fun c5 X6 H6 e6 k6 => bft ?_) (fun c5 X6 h6 e6 => btf ?_)
  rotate_left
  · exact hF _ (if_neg c5) (by omega) X6 Y R h6 e6
  rw [if_pos c5] at hF hT
  have h6z := H6.2.1.2.2.2.2.2.1
  have lev : ∀ (P : Int32 → Prop), P (nI (if k = 2 then 25 else 40)) → wX11_mostLevels (nI k) X6 Y R L S P := by
    intro P p
    have Ek : nI k = 2 ↔ k = 2 := nI_eq (b := 2) (by omega) (by omega)
    unfold wX11_mostLevels
    rw [Ek]
    refine ⟨fun e => ?_, fun e => ?_⟩
    · rw [if_neg e] at p; exact p
    · rw [if_pos e] at p; exact p
  rw [v3]
  refine lev _ ?_
  have hlv : (if k = 2 then 25 else 40) ≤ 40 := by split <;> omega
  have hl2 : k = 2 → (if k = 2 then 25 else 40) = 25 := fun e => if_pos e
  generalize (if k = 2 then 25 else 40) = t at *
  refine x_wordUpTo H6.2.1 hlv (fun X7 Y7 m hm T7 f10 fw f1 f2 f3 f6 => ?_)
  have hmt : m ≤ t := by rw [hm]; exact lw_le _ _ _ _
  rw [← hm] at hF hT
  have H7 := H6.mv f1 (fun j hj => f2 j (by omega) (by omega) (by omega)) f3 T7
  by_cases c6 : 0 < m
  rotate_left
  · rw [decide_eq_false c6]
    rw [if_neg c6] at f6
    have em : m = 0 := by omega
    rw [if_pos em] at hF
    refine bff (hF _ rfl (by omega) X7 Y7 R H7.1 ?_)
    rw [f6, em, Nat.add_zero]
  rw [decide_eq_true c6]
  rw [if_pos c6] at f6
  rw [if_neg (by omega)] at hT
  refine btt ?_
  rw [f2 5 (by omega) (by omega) (by omega), H6.2.2.1, v5, f10, fw, ww_wn g z (c + 1) m (by omega)]
  have hm25 : k = 2 → m ≤ 25 := fun e => by rw [← hl2 e]; exact hmt
  have hm40 : m ≤ 40 := Nat.le_trans hmt hlv
  have ok : stok (k, v, m, fh_wn g z (c + 1) m) := ⟨hk, hv, c6, hm40, hm25, wn_lt _ _ _ _⟩
  refine x_made2 (t := (k, v, m, fh_wn g z (c + 1) m)) ok (i := n) (fun q hq => ⟨vp_in_nI (by omega) (by decide), ?_⟩)
  rintro R8 rfl X8 rfl
  rw [nI_clamp (show n < 2147483648 by omega), H7.2.2.1, nI_1]
  refine hT _ _ _ rfl _ _ _ _ _ (H7.put hq (by omega) (by omega) (fun j hj hj2 => by omega) ok (fun a ha => upI_n ha) (fun j hj => by rw [upI_s, upd_n hj]) (by rw [upI_s, upd_s])) ?_
  rw [upI_s, upd_n (by omega), f6, e6, e5, e4, e3, e2, e1]
theorem x_itT {n0 : Nat} {T0 : Nat → gP} {I : gI} {J : gJ} {g : Nat → Int32} {s z n : Nat} {T : Nat → gP} {a : Nat} {X : gI} {Y : gJ} {R : gR} {L : List Nat} {S : gS} (H : xI n0 T0 I J g s z n T a X Y R L S) {Q : Bool → gI → gJ → gR → List Nat → gS → Prop} (hF : ∀ p, fh_t1 g z n T a = .inl p → p ≤ 160 → ∀ X' Y' R', Rl n0 T0 I J X' Y' R' L S → X' 0 6 = nI p → Q false X' Y' R' L S) (hT : ∀ n' T' a', fh_t1 g z n T a = .inr (n', T', a') → ∀ X' Y' R' L' S', xI n0 T0 I J g s z n' T' a' X' Y' R' L' S' → X' 0 6 = X 0 6 → Q true X' Y' R' L' S') : wX6_turnItem X Y R L S Q := by
  have hz := H.2.1.2.2.2.1
  have ha := H.2.1.2.2.2.2.2.1
  have hn8 := H.2.2.2.1.1
  unfold fh_t1 at hF hT
  unfold wX6_turnItem
  refine x_letI H (w := 2) (e := 5) (by omega) rfl (fun c0 X1 H1 e1 k1 => bft ?_) (fun c0 X1 h1 e1 l1 => btf ?_)
  rotate_left
  · exact hF _ (if_neg c0) l1 X1 Y R h1 e1
  rw [if_pos c0] at hF hT
  unfold wX6_numberOfStrip
  rw [H1.2.2.1]
  have h1z := H1.2.1.2.2.2.2.2.1
  refine x_numI H1 (nI n - 1) (fun c1 X2 v2 H2 e2 _ => btt ?_) (fun c1 X2 h2 e2 => bff ?_)
  rotate_left
  · exact hF _ (if_neg (by rw [c1]; decide)) (by omega) X2 Y R h2 e2
  rw [if_pos c1] at hF hT
  obtain ⟨t, ht, et⟩ := nk_lt (by omega) c1
  rw [et, nI_clamp (show t < 2147483648 by omega)] at hF hT
  rw [et] at v2
  generalize (fh_nu g z 6 (a + 5) 0).1 = b at *
  unfold fh_t3 at hF hT
  have h2z := H2.2.1.2.2.2.2.2.1
  rw [v2, nI_clamp (show t < 2147483648 by omega)]
  refine ⟨vp_in_nI (by omega) (by decide), ?_⟩
  obtain ⟨ok, w, hw1, hw2, hw3⟩ := H2.2.2.2.2 t ht
  have hf := ok.2.2.2.1
  have hf1 := ok.2.2.1
  refine x_blk H2 (fun c3 X3 H3 e3 k3 => bft ⟨w, hw1, hw2, ?_⟩) (fun c3 X3 h3 e3 => btf ?_)
  rotate_left
  · exact hF _ (if_neg c3) (by omega) X3 Y R h3 e3
  rw [if_pos c3] at hF hT
  have eK : sK (S w) = nI (tk (T t)) := by rw [hw3]; rfl
  have eA : sA (S w) = nI (ta (T t)) := by rw [hw3]; rfl
  have eL : sL (S w) = nI (tf (T t)) := by rw [hw3]; rfl
  have eW : sW (S w) = lN (tw (T t)) := by rw [hw3]; rfl
  rw [eK, eA, eL, eW]
  have h3z := H3.2.1.2.2.2.2.2.1
  refine x_numI H3 (nI (tf (T t)) - 1) (fun c4 X4 v4 H4 e4 _ => btt ?_) (fun c4 X4 h4 e4 => bff ?_)
  rotate_left
  · exact hF _ (if_neg (by rw [c4]; decide)) (by omega) X4 Y R h4 e4
  rw [if_pos c4] at hT
  obtain ⟨l, hl, el⟩ := nk_lt (by omega) c4
  rw [el, nI_clamp (show l < 2147483648 by omega)] at hT
  rw [v4, el, sh_l1 (by omega), fb_xorL]
  have ok' : stok (tk (T t), ta (T t), tf (T t), tw (T t) ^^^ 2 ^ l) := ⟨ok.1, ok.2.1, ok.2.2.1, ok.2.2.2.1, ok.2.2.2.2.1, xor_lt ok.2.2.2.2.2 hl⟩
  refine x_made2 (t := (tk (T t), ta (T t), tf (T t), tw (T t) ^^^ 2 ^ l)) ok' (i := t) (fun q hq => ?_)
  rintro R8 rfl
  refine hT _ _ _ rfl _ _ _ _ _ (H4.put hq (Nat.le_refl n) (by omega) (fun j hj _ => hj) ok' (fun _ _ => rfl) (fun _ _ => rfl) H4.2.2.1) ?_
  rw [e4, e3, e2, e1]
theorem x_itL {n0 : Nat} {T0 : Nat → gP} {I : gI} {J : gJ} {g : Nat → Int32} {s z n : Nat} {T : Nat → gP} {a : Nat} {X : gI} {Y : gJ} {R : gR} {L : List Nat} {S : gS} (H : xI n0 T0 I J g s z n T a X Y R L S) {Q : Bool → gI → gJ → gR → List Nat → gS → Prop} (hF : ∀ p, fh_l1 g z n T a = .inl p → p ≤ 160 → ∀ X' Y' R', Rl n0 T0 I J X' Y' R' L S → X' 0 6 = nI p → Q false X' Y' R' L S) (hT : ∀ n' T' a', fh_l1 g z n T a = .inr (n', T', a') → ∀ X' Y' R' L' S', xI n0 T0 I J g s z n' T' a' X' Y' R' L' S' → X' 0 6 = X 0 6 → Q true X' Y' R' L' S') : wX6_lessItem X Y R L S Q := by
  have hz := H.2.1.2.2.2.1
  have ha := H.2.1.2.2.2.2.2.1
  have hn8 := H.2.2.2.1.1
  unfold fh_l1 at hF hT
  unfold wX6_lessItem
  refine x_letI H (w := 3) (e := 5) (by omega) rfl (fun c0 X1 H1 e1 k1 => bft ?_) (fun c0 X1 h1 e1 l1 => btf ?_)
  rotate_left
  · exact hF _ (if_neg c0) l1 X1 Y R h1 e1
  rw [if_pos c0] at hF hT
  unfold wX6_numberOfStrip
  rw [H1.2.2.1]
  have h1z := H1.2.1.2.2.2.2.2.1
  refine x_numI H1 (nI n - 1) (fun c1 X2 v2 H2 e2 f9 => btt ?_) (fun c1 X2 h2 e2 => bff ?_)
  rotate_left
  · exact hF _ (if_neg (by rw [c1]; decide)) (by omega) X2 Y R h2 e2
  rw [if_pos c1] at hF hT
  obtain ⟨t, ht, et⟩ := nk_lt (by omega) c1
  rw [et, nI_clamp (show t < 2147483648 by omega)] at hF hT
  rw [et] at v2
  generalize (fh_nu g z 6 (a + 5) 0).1 = b at *
  unfold fh_l3 at hF hT
  rw [v2, nI_clamp (show t < 2147483648 by omega)]
  obtain ⟨ok, w, hw1, hw2, hw3⟩ := H2.2.2.2.2 t ht
  have hf := ok.2.2.2.1
  have hf1 := ok.2.2.1
  have eK : sK (S w) = nI (tk (T t)) := by rw [hw3]; rfl
  have eA : sA (S w) = nI (ta (T t)) := by rw [hw3]; rfl
  have eL : sL (S w) = nI (tf (T t)) := by rw [hw3]; rfl
  have eW : sW (S w) = lN (tw (T t)) := by rw [hw3]; rfl
  refine ⟨vp_in_nI (by omega) (by decide), w, hw1, hw2, ?_⟩
  rw [eK, eA, eL, eW, f9]
  have E2 : 2 ≤ nI (tf (T t)) ↔ 2 ≤ tf (T t) := nI_leI (a := 2) (by omega) (by omega)
  rw [E2]
  refine ⟨fun c => ?_, fun c => x_fail ?_⟩
  rotate_left
  · rw [if_neg c] at hF
    exact hF _ rfl (by omega) _ Y R (H2.1.rd (fun a ha => upI_n ha) (fun j hj => by rw [upI_s, upd_n (by omega)]) (fun _ _ => rfl) rfl rfl (H2.1.2.1 2 (by omega))) (by rw [upI_s, upd_s])
  rw [if_pos c] at hT
  have es : nI (tf (T t)) - 1 = nI (tf (T t) - 1) := pk_sub (b := 1) (by omega)
  have hp0 := Nat.two_pow_pos (tf (T t) - 1)
  have ew : lN (tw (T t)) &&& ((1 : Int64) <<< ((nI (tf (T t) - 1)).toInt64 &&& 63) - 1) = lN (tw (T t) % 2 ^ (tf (T t) - 1)) := by
    have e1 : (1 : Int64) = lN 1 := rfl
    rw [sh_l1 (by omega), e1, lN_sub hp0, fb_andL, Nat.and_two_pow_sub_one_eq_mod]
  rw [es, ew]
  have o1 : 1 ≤ tf (T t) - 1 := by omega
  have o2 : tf (T t) - 1 ≤ 40 := by omega
  have o3 : tk (T t) = 2 → tf (T t) - 1 ≤ 25 := fun e => by have := ok.2.2.2.2.1 e; omega
  have ok' : stok (tk (T t), ta (T t), tf (T t) - 1, tw (T t) % 2 ^ (tf (T t) - 1)) := ⟨ok.1, ok.2.1, o1, o2, o3, Nat.mod_lt _ hp0⟩
  refine x_made2 (t := (tk (T t), ta (T t), tf (T t) - 1, tw (T t) % 2 ^ (tf (T t) - 1))) ok' (i := t) (fun q hq => ?_)
  rintro R8 rfl
  refine hT _ _ _ rfl _ _ _ _ _ (H2.put hq (Nat.le_refl n) (by omega) (fun j hj _ => hj) ok' (fun _ _ => rfl) (fun _ _ => rfl) H2.2.2.1) ?_
  rw [e2, e1]
