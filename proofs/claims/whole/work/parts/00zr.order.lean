/-! orders, order -/
theorem Rl.om {n : Nat} {T : Nat → gP} {I X : gI} {J Y : gJ} {R : gR} {L : List Nat} {S : gS} (h : Rl n T I J X Y R L S) {I' : gI} (hI : ∀ a, a ≠ 0 → a ≠ 24 → a ≠ 25 → a ≠ 26 → I' a = I a) (hI0 : ∀ j, j ≠ 11 → j ≠ 12 → I' 0 j = I 0 j) (hl : rLM I') : Rl n T I' J X Y R L S := by
  obtain ⟨⟨a1, a2, a3, a4⟩, b, c, d, e, f, g, i, j, k, l⟩ := h
  refine ⟨⟨a1, ?_, a3, fun q hq => ⟨?_, (a4 q hq).2⟩⟩, b, ?_, fun s hs => ?_, e, fun q hq => ?_, ?_, ?_, fun q hq => ?_, k, hl⟩
  · rw [hI0 0 (by omega) (by omega)]; exact a2
  · have := (a4 q hq).1
    unfold mS at this ⊢
    rw [hI 2 (by omega) (by omega) (by omega) (by omega), hI 3 (by omega) (by omega) (by omega) (by omega), hI 4 (by omega) (by omega) (by omega) (by omega)]
    exact this
  · unfold rIm
    rw [hI0 14 (by omega) (by omega), hI 11 (by omega) (by omega) (by omega) (by omega)]
    exact c
  · unfold rSh
    rw [hI 5 (by omega) (by omega) (by omega) (by omega), hI 6 (by omega) (by omega) (by omega) (by omega), hI 7 (by omega) (by omega) (by omega) (by omega), hI 8 (by omega) (by omega) (by omega) (by omega)]
    exact d s hs
  · rw [hI 1 (by omega) (by omega) (by omega) (by omega)]; exact f q hq
  · rw [hI0 1 (by omega) (by omega)]; exact g
  · unfold rTr
    rw [hI0 13 (by omega) (by omega), hI 29 (by omega) (by omega) (by omega) (by omega)]
    exact i
  · rw [hI 9 (by omega) (by omega) (by omega) (by omega)]; exact j q hq
theorem Rl.ox {n : Nat} {T : Nat → gP} {I X : gI} {J Y : gJ} {R : gR} {L : List Nat} {S : gS} (h : Rl n T I J X Y R L S) {X' : gI} (hX : ∀ a, a ≠ 0 → (a < 10 ∨ 14 < a) → X' a = X a) (hX0 : ∀ j, j ≠ 11 → X' 0 j = X 0 j) (hl : rLX X') : Rl n T I J X' Y R L S := by
  obtain ⟨⟨a1, a2, a3, a4⟩, b, c, d, e, f, g, i, j, k, l⟩ := h
  refine ⟨⟨a1, a2, ?_, a4⟩, b, ?_, fun s hs => ?_, e, fun q hq => ?_, ?_, ?_, j, hl, l⟩
  · rw [hX0 0 (by omega)]; exact a3
  · unfold rIm
    rw [hX0 1 (by omega)]
    exact c
  · unfold rSh
    rw [hX 3 (by omega) (by omega), hX 4 (by omega) (by omega)]
    exact d s hs
  · rw [hX 5 (by omega) (by omega)]; exact f q hq
  · rw [hX0 2 (by omega)]; exact g
  · unfold rTr
    rw [hX0 3 (by omega), hX0 4 (by omega), hX 15 (by omega) (by omega)]
    exact i
theorem ord_l {m : Nat} (hm : m < 9) : (fh_ord m).length = [1, 1, 2, 6, 16, 50, 144, 462, 1392].getD m 0 := by
  rw [← ord_len, List.getD_eq_getElem?_getD, List.getElem?_map, List.getElem?_range hm]
  rfl
theorem ord_b {m : Nat} (h0 : 0 < m) (hm : m < 9) : 0 < (fh_ord m).length ∧ (fh_ord m).length ≤ 1392 := by
  rw [ord_l hm]
  exact (by decide : ∀ m : Nat, m < 9 → 0 < m → 0 < [1, 1, 2, 6, 16, 50, 144, 462, 1392].getD m 0 ∧ [1, 1, 2, 6, 16, 50, 144, 462, 1392].getD m 0 ≤ 1392) m hm h0
theorem sm_b (D : Nat → Bool) (h0 : D 0 = false) : fb_sm (fun m => if D m = true then (fh_ord m).length else 0) 9 ≤ 2073 := by
  have key : ∀ m, m < 9 → (if D m = true then (fh_ord m).length else 0) ≤ (if m = 0 then 0 else [1, 1, 2, 6, 16, 50, 144, 462, 1392].getD m 0) := by
    intro m hm
    by_cases c : m = 0
    · rw [c, h0, if_neg (by decide)]
      exact Nat.zero_le _
    · rw [if_neg c, ← ord_l hm]
      split
      · exact Nat.le_refl _
      · exact Nat.zero_le _
  have le : ∀ (f g : Nat → Nat) (k : Nat), (∀ m, m < k → f m ≤ g m) → fb_sm f k ≤ fb_sm g k := by
    intro f g k
    induction k with
    | zero => intro _; exact Nat.le_refl 0
    | succ k ih =>
      intro h
      have := ih (fun m hm => h m (by omega))
      have := h k (by omega)
      rw [fb_sm_succ, fb_sm_succ]
      omega
  refine Nat.le_trans (le _ _ 9 key) ?_
  decide
theorem m_finds {I : gI} {J : gJ} {n : Nat} (h0 : 0 < n) (hn : n ≤ 8) (hl : rLM I) {Q : gI → gJ → Prop} (hQ : ∀ I', rLM I' → I' 0 12 = nI (fh_ord n).length → (∀ i, i < (fh_ord n).length → ∀ p, p < n → I' 26 (8 * i + p) = nI (((fh_ord n).getD i []).getD p 0)) → (∀ a, a ≠ 0 → a ≠ 24 → a ≠ 25 → a ≠ 26 → I' a = I a) → (∀ j, j ≠ 11 → j ≠ 12 → I' 0 j = I 0 j) → Q I' J) : wM_finds (nI n) I J Q := by
  obtain ⟨m, hm, e1, e2⟩ := hl
  unfold wM_finds
  rw [e1, nI_eq (by omega) (by omega)]
  have ob := ord_b h0 (show n < 9 by omega)
  refine ⟨fun hne => ?_, fun he => ?_⟩
  · rintro I2 rfl I4 rfl
    have x := m_goes (J := J) hn n [] (upI (upI I 0 11 (nI n)) 0 12 0) 0 Q ⟨List.nodup_nil, fun x hx => absurd hx (by simp), Nat.zero_le n⟩ (by simp) ⟨fun i hi => absurd hi (by simp), fun l hl => absurd hl (by simp)⟩ (by rw [upI_s, upd_s]; rfl)
    rw [← ord_all, Nat.zero_add] at x
    have y := x ob.2 (fun I' g1 g2 g3 => by
      have r : ∀ i, i < (fh_ord n).length → ∀ p, p < n → I' 26 (8 * i + p) = nI (((fh_ord n).getD i []).getD p 0) := fun i hi p hp => by
        have := g2 i hi p hp
        rw [Nat.zero_add] at this
        exact this
      refine hQ I' ⟨n, hn, ?_, fun _ => ⟨g1, r⟩⟩ g1 r (fun a a1 a2 a3 a4 => by rw [g3.1 a a1 a2 a3 a4, upI_n a1, upI_n a1]) (fun j j1 j2 => by rw [g3.2.1 j j2, upI_s, upd_n j2, upI_s, upd_n j1])
      rw [g3.2.1 11 (by omega), upI_s, upd_n (by omega), upI_s, upd_s])
    exact ⟨n + 1, by omega, y⟩
  · subst he
    obtain ⟨c1, c2⟩ := e2 h0
    exact hQ I ⟨m, hm, e1, e2⟩ c1 c2 (fun _ _ _ _ _ => rfl) (fun _ _ _ => rfl)
/-- the class keeps the orders of n leaves from f on -/
def lKp (n f : Nat) (X : gI) : Prop := X 13 n = nI f ∧ X 14 n = nI (fh_ord n).length ∧ f + (fh_ord n).length ≤ 2073 ∧ ∀ i, i < (fh_ord n).length → X 12 (f + i) = nI (fh_pk ((fh_ord n).getD i []))
theorem x_howMany {X : gI} {Y : gJ} {R : gR} {L : List Nat} {S : gS} {n : Nat} (h0 : 0 < n) (hn : n ≤ 8) (hl : rLX X) {Q : Int32 → gI → gJ → gR → Prop} (hQ : ∀ X' f, rLX X' → lKp n f X' → (∀ a, a ≠ 0 → (a < 10 ∨ 14 < a) → X' a = X a) → (∀ j, j ≠ 11 → X' 0 j = X 0 j) → Q (nI (fh_ord n).length) X' Y R) : wX4_howMany (nI n) X Y R L S Q := by
  obtain ⟨D, e1, e2, e3⟩ := hl
  have ob := ord_b h0 (show n < 9 by omega)
  have sb := sm_b D e2
  refine br_f (show ¬ nI n < nI 1 from nI_nlt (by omega) (by omega)) (br_t (nI_lt (b := 9) (by omega) (by omega)) ⟨vp_in_nI (by omega) (by decide), ?_⟩)
  rw [nI_clamp (show n < 2147483648 by omega)]
  cases hD : D n
  · rw [(e3 n hn).1 hD]
    refine br_n rfl (x_lclear (fun X1 T1 f1 => ?_))
    rintro I9 rfl
    rw [f1 0 (by omega), e1]
    obtain ⟨u, hu⟩ : ∃ u, u = fb_sm (fun m => if D m = true then (fh_ord m).length else 0) 9 := ⟨_, rfl⟩
    have sm' : fb_sm (fun m => if (if m = n then true else D m) = true then (fh_ord m).length else 0) 9 = u + (fh_ord n).length := by
      have := fb_sm_upd (fun m => if D m = true then (fh_ord m).length else 0) (fh_ord n).length (i := n) (n := 9) (by omega)
      rw [← hu] at this
      have e0 : (if D n = true then (fh_ord n).length else 0) = 0 := by rw [hD]; rfl
      rw [show (fun m => if (if m = n then true else D m) = true then (fh_ord m).length else 0) = (fun k => if k = n then (fh_ord n).length else if D k = true then (fh_ord k).length else 0) by
        funext k
        by_cases ek : k = n
        · rw [if_pos ek, if_pos rfl, if_pos ek, ek]
        · rw [if_neg ek, if_neg ek]]
      omega
    have sb' := sm_b (fun m => if m = n then true else D m) (by show (if 0 = n then true else D 0) = false; rw [if_neg (by omega)]; exact e2)
    have sb2 : u + (fh_ord n).length ≤ 2073 := by
      rw [← sm']
      exact sb'
    rw [← hu]
    refine ⟨n + 1, by omega, ?_⟩
    have x := x_layFrom (Y := Y) (R := R) (L := L) (S := S) hn n [] (upI X1 13 n (nI u)) u (fun I12 J13 R14 => ∀ I16 : gI, I16 = upI I12 14 n ((I12 0 11) - (I12 13 n)) → Q (I16 14 n) I16 J13 R14) ⟨List.nodup_nil, fun x hx => absurd hx (by simp), Nat.zero_le n⟩ (by simp) ⟨fun i hi => absurd hi (by simp), fun l hl => by rw [upI_n (by omega)]; exact T1.2 l hl⟩ (by rw [upI_n (by omega), f1 0 (by omega), e1, hu]) sb2 (fun X2 g1 g2 g3 T2 => by
      rintro I16 rfl
      have g1' : X2 0 11 = nI (u + (fh_ord n).length) := g1
      have g2' : lRw u (fh_ord n) X2 := g2
      have x13 : X2 13 n = nI u := by rw [g3.1 13 (by omega) (by omega) (by omega) (by omega), upI_s, upd_s]
      have e14 : X2 0 11 - X2 13 n = nI (fh_ord n).length := by
        rw [g1', x13, zI_n, zI_n, zI_sub, zI_n]
        congr 1
        omega
      rw [e14]
      have kp : lKp n u (upI X2 14 n (nI (fh_ord n).length)) := ⟨by rw [upI_n (by omega)]; exact x13, by rw [upI_s, upd_s], sb2, fun i hi => by rw [upI_n (by omega)]; exact g2' i hi⟩
      have x := hQ (upI X2 14 n (nI (fh_ord n).length)) u ⟨fun m => if m = n then true else D m, by rw [upI_n (by omega), g1', sm'], by show (if 0 = n then true else D 0) = false; rw [if_neg (by omega)]; exact e2, fun m hm => ?_⟩ kp (fun a a1 a2 => by rw [upI_n (by omega), g3.1 a a1 (by omega) (by omega) (by omega), upI_n (by omega), f1 a (by omega)]) (fun j hj => by rw [upI_n (by omega), g3.2.1 j hj, upI_n (by omega), f1 0 (by omega)])
      · rw [upI_s, upd_s]
        exact x
      · by_cases em : m = n
        · subst em
          refine ⟨fun h => ?_, fun _ => ⟨u, kp.1, kp.2.1, ?_, kp.2.2.2⟩⟩
          · have : (if m = m then true else D m) = false := h
            rw [if_pos rfl] at this
            exact Bool.noConfusion this
          · rw [sm']
            exact Nat.le_refl _
        · have e4 : (if m = n then true else D m) = D m := if_neg em
          refine ⟨fun h => ?_, fun h => ?_⟩
          · have h' : D m = false := e4.symm.trans h
            rw [upI_s, upd_n em, g3.1 14 (by omega) (by omega) (by omega) (by omega), upI_n (by omega), f1 14 (by omega)]
            exact (e3 m hm).1 h'
          · have h' : D m = true := e4.symm.trans h
            obtain ⟨f, c1, c2, c3, c4⟩ := (e3 m hm).2 h'
            refine ⟨f, ?_, ?_, by rw [sm']; omega, fun i hi => ?_⟩
            · rw [upI_n (by omega), g3.1 13 (by omega) (by omega) (by omega) (by omega), upI_s, upd_n em, f1 13 (by omega)]
              exact c1
            · rw [upI_s, upd_n em, g3.1 14 (by omega) (by omega) (by omega) (by omega), upI_n (by omega), f1 14 (by omega)]
              exact c2
            · rw [upI_n (by omega), g3.2.2 (f + i) (by omega), upI_n (by omega), f1 12 (by omega)]
              exact c4 i hi)
    exact x
  · obtain ⟨f, c1, c2, c3, c4⟩ := (e3 n hn).2 hD
    rw [c2]
    refine br_m (by rw [show (0 : Int32) = nI 0 from rfl, nI_eq (by omega) (by omega)]; omega) ?_
    exact hQ X f ⟨D, e1, e2, e3⟩ ⟨c1, c2, by omega, c4⟩ (fun _ _ _ => rfl) (fun _ _ => rfl)
theorem pc_orders {n : Nat} {T : Nat → gP} {I X : gI} {J Y : gJ} {R : gR} {L : List Nat} {S : gS} (h : Rl n T I J X Y R L S) (v1 : Int32) : wX11_orders v1 X Y R L S (fun r X' Y' R' => wM_orders v1 I J (fun r' I' J' => qE L S r r' I' J' X' Y' R')) := by
  rcases Decidable.em (v1 < 1) with c | c
  · exact br_t c (both_no6 h (fun Q q => br_t c q))
  refine br_f c ?_
  rcases Decidable.em (v1 ≤ 8) with d | d
  · obtain ⟨k, hk, rfl⟩ := nI_of2 (M := 8) (n := 8) rfl (fun e => c (by
      rw [Int32.lt_iff_toInt_lt] at e ⊢
      have : (0 : Int32).toInt = 0 := rfl
      have : (1 : Int32).toInt = 1 := rfl
      omega)) d
    have k0 : 0 < k := by
      rcases Nat.eq_zero_or_pos k with e | e
      · rw [e] at c
        exact absurd (by decide) c
      · exact e
    refine br_t d (x_howMany k0 hk h.2.2.2.2.2.2.2.2.2.1 (fun X1 f l1 kp g1 g2 => ?_))
    refine br_f c (br_t d (m_finds k0 hk h.2.2.2.2.2.2.2.2.2.2 (fun I1 l2 e12 _ f1 f2 => ?_)))
    exact qE.of ((h.om f1 f2 l2).ox g1 g2 l1) e12.symm
  · exact br_f d (both_no6 h (fun Q q => br_f c (br_f d q)))
