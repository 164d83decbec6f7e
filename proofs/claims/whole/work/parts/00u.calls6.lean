/-! drop, image, restore -/
/-- shelves that held strips from n' on hold nothing -/
def xCl (n' : Nat) (X X' : gI) (s : Nat) : Prop := (∀ j : Nat, j < 8 → n' ≤ j → X 3 s = nI j → X' 3 s = -1 ∧ X' 4 s = nI 0) ∧ (((X 3 s = -1) ∨ (∃ j : Nat, j < n' ∧ j < 8 ∧ X 3 s = nI j) ∨ ∃ o : Nat, o ≤ 3 ∧ X 3 s = nI (100 + o)) → X' 3 s = X 3 s ∧ X' 4 s = X 4 s)
theorem x_clear {X : gI} {Y : gJ} {R : gR} {L : List Nat} {S : gS} {n' : Nat} (hn : n' ≤ 8) (e0 : X 0 0 = nI n') (hs : ∀ s, s < 8 → (X 3 s = -1) ∨ (∃ j : Nat, j < 8 ∧ X 3 s = nI j) ∨ ∃ o : Nat, o ≤ 3 ∧ X 3 s = nI (100 + o)) {Q : gI → gJ → gR → Prop} (hQ : ∀ X', (∀ k, k ≠ 3 → k ≠ 4 → X' k = X k) → (∀ s, s < 8 → xCl n' X X' s) → Q X' Y R) : wX11_clearShelvesOfLostStrips X Y R L S Q := by
  have key : ∀ (g c : Nat) (X' : gI), g + c = 8 → (∀ k, k ≠ 3 → k ≠ 4 → X' k = X k) → (∀ s, s < c → xCl n' X X' s) → (∀ s, c ≤ s → X' 3 s = X 3 s ∧ X' 4 s = X 4 s) → wX11_clearShelvesOfLostStrips_l2 L S Q (g + 1) (nI c) X' Y R := by
    intro g
    induction g with
    | zero =>
      intro c X' e h1 h2 h3
      obtain rfl : c = 8 := by omega
      exact br_t (nI_le (a := 8) (b := 8) (by omega) (by omega)) (hQ X' h1 h2)
    | succ g ih =>
      intro c X' e h1 h2 h3
      have keep : ((X 3 c = -1) ∨ (∃ j : Nat, j < n' ∧ j < 8 ∧ X 3 c = nI j) ∨ ∃ o : Nat, o ≤ 3 ∧ X 3 c = nI (100 + o)) → wX11_clearShelvesOfLostStrips_l2 L S Q (g + 1) (nI c + 1) X' Y R := by
        intro hk
        rw [nI_1]
        refine ih (c + 1) X' (by omega) h1 (fun s hs' => ?_) (fun s hs' => h3 s (by omega))
        by_cases es : s = c
        · subst es
          refine ⟨fun j hj hj2 ej => ?_, fun _ => h3 s (Nat.le_refl _)⟩
          exfalso
          rcases hk with hk | ⟨i, hi, hi2, hk⟩ | ⟨o, ho, hk⟩ <;> rw [hk] at ej
          · exact nI_nm1 (j := j) (by omega) ej.symm
          · have := (nI_eq (by omega) (by omega)).mp ej; omega
          · have := (nI_eq (by omega) (by omega)).mp ej; omega
        · exact h2 s (by omega)
      have e3 := (h3 c (Nat.le_refl _)).1
      refine br_f (nI_ge (a := c) (b := 8) (by omega) (by omega)) ⟨vp_in_nI (by omega) (by decide), ?_⟩
      rw [nI_clamp (by omega), h1 0 (by omega) (by omega), e0]
      rcases hs c (by omega) with hk | ⟨j, hj, hk⟩ | ⟨o, ho, hk⟩
      · exact x_hs0 (Or.inl (e3.trans hk)) (btf (keep (Or.inl hk)))
      rotate_left
      · exact x_hs0 (Or.inr ⟨o, ho, e3.trans hk⟩) (btf (keep (Or.inr (Or.inr ⟨o, ho, hk⟩))))
      refine x_hs1 hj (e3.trans hk) (bft ?_)
      rw [e3, hk]
      rcases Nat.lt_or_ge j n' with c1 | c1
      · exact br_t (nI_lt c1 (by omega)) (keep (Or.inr (Or.inl ⟨j, c1, hj, hk⟩)))
      refine br_f (nI_nlt c1 (by omega)) ?_
      unfold wX8_hold
      rintro X1 rfl X3 rfl
      rw [nI_1]
      refine ih (c + 1) _ (by omega) (fun k a b => ?_) (fun s hs' => ?_) (fun s hs' => ?_)
      · rw [upI_n b, upI_n a]
        exact h1 k a b
      · by_cases es : s = c
        · subst es
          refine ⟨fun _ _ _ _ => ⟨?_, ?_⟩, fun hk2 => ?_⟩
          · rw [upI_n (by omega), upI_s, upd_s]
          · rw [upI_s, upd_s]; rfl
          · exfalso
            rw [hk] at hk2
            rcases hk2 with hk2 | ⟨i, hi, hi2, hk2⟩ | ⟨o, ho, hk2⟩
            · exact nI_nm1 (j := j) (by omega) hk2
            · have := (nI_eq (by omega) (by omega)).mp hk2; omega
            · have := (nI_eq (by omega) (by omega)).mp hk2; omega
        · have := h2 s (by omega)
          unfold xCl
          rw [upI_at, if_neg (by omega), upI_at, if_neg (by omega), upI_at, if_neg (by omega), upI_at, if_neg (by omega)]
          exact this
      · rw [upI_at, if_neg (by omega), upI_at, if_neg (by omega), upI_at, if_neg (by omega), upI_at, if_neg (by omega)]
        exact h3 s (by omega)
  exact ⟨9, key 8 0 X (by omega) (fun _ _ _ => rfl) (fun s hs' => absurd hs' (by omega)) (fun _ _ => ⟨rfl, rfl⟩)⟩
/-- the reference clears its shelves: what held a strip from n' on holds nothing -/
def mCl (n' : Nat) (I I' : gI) (s : Nat) : Prop := (I 5 s = nI 2 → (∀ j : Nat, I 8 s = nI j → j < 8 → (n' ≤ j → I' 5 s = nI 0) ∧ (j < n' → I' 5 s = I 5 s))) ∧ (¬ I 5 s = nI 2 → I' 5 s = I 5 s)
theorem sh_cl {n n' : Nat} {I I' X X' : gI} {s : Nat} (hn : n ≤ 8) (h : rSh n I X s) (hm : mCl n' I I' s) (hx : xCl n' X X' s) (h6 : I' 6 = I 6) (h7 : I' 7 = I 7) (h8 : I' 8 = I 8) : rSh n' I' X' s := by
  unfold rSh
  rw [h6, h7, h8]
  rcases h with ⟨e1, e2, e3⟩ | ⟨e1, o, m, ho, hm', e2, e3, e4, e5⟩ | ⟨e1, e2, j, hj, e3, e4⟩
  · obtain ⟨x1, x2⟩ := hx.2 (Or.inl e2)
    have m1 := hm.2 (by rw [e1]; decide)
    exact Or.inl ⟨m1.trans e1, x1.trans e2, x2.trans e3⟩
  · obtain ⟨x1, x2⟩ := hx.2 (Or.inr (Or.inr ⟨o, ho, e3⟩))
    have m1 := hm.2 (by rw [e1]; decide)
    exact Or.inr (Or.inl ⟨m1.trans e1, o, m, ho, hm', e2, x1.trans e3, e4, x2.trans e5⟩)
  · rcases Nat.lt_or_ge j n' with c | c
    · obtain ⟨x1, x2⟩ := hx.2 (Or.inr (Or.inl ⟨j, c, by omega, e4⟩))
      have m1 := (hm.1 e1 j e3 (by omega)).2 c
      exact Or.inr (Or.inr ⟨m1.trans e1, x2.trans e2, j, c, e3, x1.trans e4⟩)
    · obtain ⟨x1, x2⟩ := hx.1 j (by omega) c e4
      have m1 := (hm.1 e1 j e3 (by omega)).1 c
      exact Or.inl ⟨m1, x1, x2⟩
theorem m_clearD {I : gI} {J : gJ} {n' : Nat} (hn : n' < 8) (e0 : I 0 0 = nI n') (hs : ∀ s, s < 8 → (I 5 s = nI 2 → ∃ j : Nat, j ≤ n' ∧ I 8 s = nI j)) {Q : Int32 → gI → gJ → Prop} (hQ : ∀ I', (∀ k, k ≠ 5 → I' k = I k) → (∀ s, s < 8 → mCl n' I I' s) → Q (nI n') I' J) : ∃ m : Nat, wM_drop_l26 Q m 0 I J := by
  have key : ∀ (g c : Nat) (I' : gI), g + c = 8 → (∀ k, k ≠ 5 → I' k = I k) → (∀ s, s < c → mCl n' I I' s) → (∀ s, c ≤ s → I' 5 s = I 5 s) → wM_drop_l26 Q (g + 1) (nI c) I' J := by
    intro g
    induction g with
    | zero =>
      intro c I' e h1 h2 h3
      obtain rfl : c = 8 := by omega
      show wM_drop_b26 _ _ _ _ Q
      unfold wM_drop_b26
      rw [h1 0 (by omega), e0]
      exact br_t (nI_le (a := 8) (b := 8) (by omega) (by omega)) (hQ I' h1 h2)
    | succ g ih =>
      intro c I' e h1 h2 h3
      have e5 := h3 c (Nat.le_refl _)
      have keep : mCl n' I I' c → wM_drop_l26 Q (g + 1) (nI c + 1) I' J := by
        intro hk
        rw [nI_1]
        refine ih (c + 1) I' (by omega) h1 (fun s hs' => ?_) (fun s hs' => h3 s (by omega))
        by_cases es : s = c
        · subst es; exact hk
        · exact h2 s (by omega)
      show wM_drop_b26 _ _ _ _ Q
      unfold wM_drop_b26
      rw [nI_clamp (by omega), h1 0 (by omega), h1 8 (by omega), e0, e5]
      refine br_f (nI_ge (a := c) (b := 8) (by omega) (by omega)) ⟨vp_in_nI (by omega) (by decide), fun hne => keep ⟨fun e => absurd e hne, fun _ => e5⟩, fun he => ?_⟩
      obtain ⟨j, hj, e8⟩ := hs c (by omega) he
      rw [e8, nI_eq (by omega) (by omega)]
      refine ⟨fun hne => keep ⟨fun _ i hi hi2 => ?_, fun h => absurd he h⟩, fun hje => ?_⟩
      · rw [e8] at hi
        have := (nI_eq (by omega) (by omega)).mp hi
        exact ⟨fun _ => by omega, fun _ => e5⟩
      · rintro I5 rfl
        rw [nI_1]
        refine ih (c + 1) _ (by omega) (fun k a => ?_) (fun s hs' => ?_) (fun s hs' => ?_)
        · rw [upI_n a]
          exact h1 k a
        · by_cases es : s = c
          · subst es
            refine ⟨fun _ i hi hi2 => ?_, fun h => absurd he h⟩
            rw [e8] at hi
            have := (nI_eq (by omega) (by omega)).mp hi
            refine ⟨fun _ => ?_, fun _ => by omega⟩
            rw [upI_s, upd_s]; rfl
          · have := h2 s (by omega)
            unfold mCl
            rw [upI_at, if_neg (by omega)]
            exact this
        · rw [upI_at, if_neg (by omega)]
          exact h3 s (by omega)
  exact ⟨9, key 8 0 I (by omega) (fun _ _ => rfl) (fun s hs' => absurd hs' (by omega)) (fun _ _ => rfl)⟩
theorem m_clearR {I : gI} {J : gJ} {n' : Nat} (hn : n' ≤ 8) (e0 : I 0 0 = nI n') (hs : ∀ s, s < 8 → (I 5 s = nI 2 → ∃ j : Nat, j < 8 ∧ I 8 s = nI j)) {Q : Int32 → gI → gJ → Prop} (hQ : ∀ I', (∀ k, k ≠ 5 → I' k = I k) → (∀ s, s < 8 → mCl n' I I' s) → Q (nI n') I' J) : ∃ m : Nat, wM_restore_l29 Q m 0 I J := by
  have key : ∀ (g c : Nat) (I' : gI), g + c = 8 → (∀ k, k ≠ 5 → I' k = I k) → (∀ s, s < c → mCl n' I I' s) → (∀ s, c ≤ s → I' 5 s = I 5 s) → wM_restore_l29 Q (g + 1) (nI c) I' J := by
    intro g
    induction g with
    | zero =>
      intro c I' e h1 h2 h3
      obtain rfl : c = 8 := by omega
      show wM_restore_b29 _ _ _ _ Q
      unfold wM_restore_b29
      rw [h1 0 (by omega), e0]
      exact br_t (nI_le (a := 8) (b := 8) (by omega) (by omega)) (hQ I' h1 h2)
    | succ g ih =>
      intro c I' e h1 h2 h3
      have e5 := h3 c (Nat.le_refl _)
      have keep : mCl n' I I' c → wM_restore_l29 Q (g + 1) (nI c + 1) I' J := by
        intro hk
        rw [nI_1]
        refine ih (c + 1) I' (by omega) h1 (fun s hs' => ?_) (fun s hs' => h3 s (by omega))
        by_cases es : s = c
        · subst es; exact hk
        · exact h2 s (by omega)
      show wM_restore_b29 _ _ _ _ Q
      unfold wM_restore_b29
      rw [nI_clamp (by omega), h1 0 (by omega), h1 8 (by omega), e0, e5]
      refine br_f (nI_ge (a := c) (b := 8) (by omega) (by omega)) ⟨vp_in_nI (by omega) (by decide), fun hne => keep ⟨fun e => absurd e hne, fun _ => e5⟩, fun he => ?_⟩
      obtain ⟨j, hj, e8⟩ := hs c (by omega) he
      rw [e8, nI_ltI (by omega) (by omega)]
      refine ⟨fun hlt => keep ⟨fun _ i hi hi2 => ?_, fun h => absurd he h⟩, fun hje => ?_⟩
      · rw [e8] at hi
        have := (nI_eq (by omega) (by omega)).mp hi
        exact ⟨fun _ => by omega, fun _ => e5⟩
      · rintro I5 rfl
        rw [nI_1]
        refine ih (c + 1) _ (by omega) (fun k a => ?_) (fun s hs' => ?_) (fun s hs' => ?_)
        · rw [upI_n a]
          exact h1 k a
        · by_cases es : s = c
          · subst es
            refine ⟨fun _ i hi hi2 => ?_, fun h => absurd he h⟩
            rw [e8] at hi
            have := (nI_eq (by omega) (by omega)).mp hi
            refine ⟨fun _ => ?_, fun _ => by omega⟩
            rw [upI_s, upd_s]; rfl
          · have := h2 s (by omega)
            unfold mCl
            rw [upI_at, if_neg (by omega)]
            exact this
        · rw [upI_at, if_neg (by omega)]
          exact h3 s (by omega)
  exact ⟨9, key 8 0 I (by omega) (fun _ _ => rfl) (fun s hs' => absurd hs' (by omega)) (fun _ _ => rfl)⟩
theorem Rl.hold {n : Nat} {T : Nat → gP} {I X : gI} {J Y : gJ} {R : gR} {L : List Nat} {S : gS} (h : Rl n T I J X Y R L S) : ∀ s, s < 8 → (X 3 s = -1) ∨ (∃ j : Nat, j < 8 ∧ X 3 s = nI j) ∨ ∃ o : Nat, o ≤ 3 ∧ X 3 s = nI (100 + o) := by
  intro s hs
  have hn := h.1.1
  rcases h.2.2.2.1 s hs with ⟨e1, e2, e3⟩ | ⟨e1, o, m, ho, hm', e2, e3, e4, e5⟩ | ⟨e1, e2, j, hj, e3, e4⟩
  · exact Or.inl e2
  · exact Or.inr (Or.inr ⟨o, ho, e3⟩)
  · exact Or.inr (Or.inl ⟨j, by omega, e4⟩)
theorem Rl.shown {n : Nat} {T : Nat → gP} {I X : gI} {J Y : gJ} {R : gR} {L : List Nat} {S : gS} (h : Rl n T I J X Y R L S) : ∀ s, s < 8 → (I 5 s = nI 2 → ∃ j : Nat, j < n ∧ I 8 s = nI j) := by
  intro s hs e
  rcases h.2.2.2.1 s hs with ⟨e1, e2, e3⟩ | ⟨e1, o, m, ho, hm', e2, e3, e4, e5⟩ | ⟨e1, e2, j, hj, e3, e4⟩
  · rw [e1] at e; exact absurd e (by decide)
  · rw [e1] at e; exact absurd e (by decide)
  · exact ⟨j, hj, e3⟩
theorem pc_drop {n : Nat} {T : Nat → gP} {I X : gI} {J Y : gJ} {R : gR} {L : List Nat} {S : gS} (h : Rl n T I J X Y R L S) : wX11_drop X Y R L S (fun r X' Y' R' => wM_drop I J (fun r' I' J' => qE L S r r' I' J' X' Y' R')) := by
  have hn := h.1.1
  have E0 : (0 : Int32) < nI n ↔ 0 < n := nI_ltI (a := 0) (by omega) (by omega)
  have E1 : nI n = 0 ↔ n = 0 := nI_eq (b := 0) (by omega) (by omega)
  unfold wX11_drop
  rw [h.1.2.2.1]
  rcases Nat.eq_zero_or_pos n with c | c
  · refine br_f (fun e => by have := E0.mp e; omega) (both_no6 h (fun Q q => ?_))
    unfold wM_drop
    rw [h.1.2.1]
    exact br_n (E1.mpr c) q
  have es : nI n - 1 = nI (n - 1) := pk_sub (b := 1) c
  refine br_t (E0.mpr c) ?_
  rintro X2 rfl
  rw [es, upI_s, upd_s]
  refine ⟨vp_in_nI (by omega) (by decide), ?_⟩
  rintro R5 rfl
  rw [nI_clamp (by omega)]
  refine x_clear (n' := n - 1) (by omega) (by rw [upI_s, upd_s]) (fun s hs => by rw [upI_n (by omega)]; exact h.hold s hs) (fun X' x1 x2 => ?_)
  rw [x1 0 (by omega) (by omega), upI_s, upd_s]
  unfold wM_drop
  rw [h.1.2.1]
  refine br_m (fun e => by have := E1.mp e; omega) ?_
  rintro I2 rfl
  rw [es]
  refine m_clearD (n' := n - 1) (by omega) (by rw [upI_s, upd_s]) (fun s hs e => ?_) (fun I' i1 i2 => ?_)
  · rw [upI_n (by omega)] at e ⊢
    obtain ⟨j, hj, e8⟩ := h.shown s hs e
    exact ⟨j, by omega, e8⟩
  refine ⟨rfl, n - 1, T, h.strips (by omega) (fun k hk => ?_) (fun j hj => ?_) (fun k hk => ?_) (fun j hj => ?_) rfl rfl (fun _ _ => rfl) (upR_n (by omega)) (fun k hk i q hq => ?_) ?_ ?_ (fun i hi => ?_) (fun s hs => ?_)⟩
  · rw [i1 k (by omega), upI_n (by omega)]
  · rw [i1 0 (by omega), upI_at, if_neg (by omega)]
  · rw [x1 k (by omega) (by omega), upI_n (by omega)]
  · rw [x1 0 (by omega) (by omega), upI_at, if_neg (by omega)]
  · by_cases ek : k = 0
    · subst ek
      rw [upR_s] at hq
      by_cases ei : i = n - 1
      · subst ei
        rw [va_up_s] at hq
        cases hq
      · rw [va_up_n ei] at hq
        exact h.2.1 0 (by omega) i q hq
    · rw [upR_n ek] at hq
      exact h.2.1 k hk i q hq
  · rw [i1 0 (by omega), upI_s, upd_s]
  · rw [x1 0 (by omega) (by omega), upI_s, upd_s]
  · obtain ⟨a1, a2, z2, a3, a4, a5⟩ := h.st (show i < n by omega)
    refine ⟨?_, a2, z2, ?_, a4, a5⟩
    · unfold mS
      rw [i1 2 (by omega), i1 3 (by omega), i1 4 (by omega), upI_n (by omega), upI_n (by omega), upI_n (by omega)]
      exact a1
    · rw [upR_s, va_up_n (by omega)]
      exact a3
  · refine sh_cl hn (h.2.2.2.1 s hs) ?_ ?_ (by rw [i1 6 (by omega), upI_n (by omega)]) (by rw [i1 7 (by omega), upI_n (by omega)]) (by rw [i1 8 (by omega), upI_n (by omega)]) (n' := n - 1)
    · have := i2 s hs
      unfold mCl at this ⊢
      rw [upI_n (by omega), upI_n (by omega)] at this
      exact this
    · have := x2 s hs
      unfold xCl at this ⊢
      rw [upI_n (by omega), upI_n (by omega)] at this
      exact this
theorem x_copyStrips {X : gI} {Y : gJ} {R : gR} {L : List Nat} {S : gS} {k0 k1 : Nat} (hne : k0 ≠ k1) (hL : ∀ i q, R k0 i = some q → q ∈ L) {Q : gI → gJ → gR → Prop} (hQ : ∀ R', (∀ i, i < 8 → R' k1 i = R k0 i) → (∀ i, 8 ≤ i → R' k1 i = R k1 i) → (∀ k, k ≠ k1 → R' k = R k) → Q X Y R') : wX11_copyStrips k0 k1 X Y R L S Q := by
  have key : ∀ (g c : Nat) (R' : gR), g + c = 8 → (∀ i, i < c → R' k1 i = R k0 i) → (∀ i, c ≤ i → R' k1 i = R k1 i) → (∀ k, k ≠ k1 → R' k = R k) → wX11_copyStrips_l2 k0 k1 L S Q (g + 1) (nI c) X Y R' := by
    intro g
    induction g with
    | zero =>
      intro c R' e h1 h2 h3
      obtain rfl : c = 8 := by omega
      exact br_t (nI_le (a := 8) (b := 8) (by omega) (by omega)) (hQ R' h1 h2 h3)
    | succ g ih =>
      intro c R' e h1 h2 h3
      have hge : ¬ (8 : Int32) ≤ nI c := nI_ge (a := c) (b := 8) (by omega) (by omega)
      refine br_f hge (br_f hge ⟨vp_in_nI (by omega) (by decide), ?_⟩)
      rw [nI_clamp (by omega), h3 k0 hne]
      refine ⟨hL c, ?_⟩
      rintro R5 rfl
      rw [nI_1]
      refine ih (c + 1) _ (by omega) (fun i hi => ?_) (fun i hi => ?_) (fun k hk => ?_)
      · rw [upR_s]
        by_cases ei : i = c
        · subst ei; rw [va_up_s]
        · rw [va_up_n ei]; exact h1 i (by omega)
      · rw [upR_s, va_up_n (by omega)]; exact h2 i (by omega)
      · rw [upR_n hk]; exact h3 k hk
  exact ⟨9, key 8 0 R (by omega) (fun i hi => absurd hi (by omega)) (fun _ _ => rfl) (fun _ _ => rfl)⟩
theorem m_allSave {I : gI} {J : gJ} {k1 k2 : Nat} (h1 : k1 = 10 ∨ k1 = 11) (h2 : k2 = 4 ∨ k2 = 5) {Q : gI → gJ → Prop} (hQ : ∀ I' J', (∀ i, i < 8 → I' k1 i = I 2 i ∧ I' k1 (8 + i) = I 3 i ∧ I' k1 (16 + i) = I 4 i ∧ J' k2 i = J 1 i) → I' k1 24 = I 0 0 → (∀ k, k ≠ k1 → I' k = I k) → (∀ k, k ≠ k2 → J' k = J k) → Q I' J') : wM_all k1 k2 0 I J Q := by
  have l1 : lenM k1 = 25 := by rcases h1 with e | e <;> rw [e] <;> rfl
  have l2 : lenMJ k2 = 8 := by rcases h2 with e | e <;> rw [e] <;> rfl
  have key : ∀ (g c : Nat) (I' : gI) (J' : gJ), g + c = 8 → (∀ i, i < c → I' k1 i = I 2 i ∧ I' k1 (8 + i) = I 3 i ∧ I' k1 (16 + i) = I 4 i ∧ J' k2 i = J 1 i) → (∀ k, k ≠ k1 → I' k = I k) → (∀ k, k ≠ k2 → J' k = J k) → wM_all_l3 k1 k2 Q (g + 1) 0 (nI c) I' J' := by
    intro g
    induction g with
    | zero =>
      intro c I' J' e a1 a2 a3
      obtain rfl : c = 8 := by omega
      show wM_all_b3 _ _ _ _ _ _ _ Q
      unfold wM_all_b3
      rw [l1, a2 0 (by omega)]
      refine br_t (nI_le (a := 8) (b := 8) (by omega) (by omega)) (br_t rfl ⟨vp_in_nI (n := 24) (by omega) (by decide), ?_⟩)
      rintro I4 rfl
      have ec : ((24 : Int32)).toNatClampNeg = 24 := rfl
      rw [ec]
      refine hQ _ _ (fun i hi => ?_) ?_ (fun k hk => ?_) a3
      · rw [upI_at, if_neg (by omega), upI_at, if_neg (by omega), upI_at, if_neg (by omega)]
        exact a1 i hi
      · rw [upI_s, upd_s]
      · rw [upI_n hk]; exact a2 k hk
    | succ g ih =>
      intro c I' J' e a1 a2 a3
      have e8 : (8 : Int32) + nI c = nI (8 + c) := nI_add 8 c
      have e16 : (16 : Int32) + nI c = nI (16 + c) := nI_add 16 c
      show wM_all_b3 _ _ _ _ _ _ _ Q
      unfold wM_all_b3
      rw [l1, l2, e8, e16, nI_clamp (show c < 2147483648 by omega), nI_clamp (show 8 + c < 2147483648 by omega), nI_clamp (show 16 + c < 2147483648 by omega), nI_1]
      refine br_f (nI_ge (a := c) (b := 8) (by omega) (by omega)) (br_t rfl ⟨vp_in_nI (by omega) (by decide), vp_in_nI (by omega) (by decide), ?_⟩)
      rintro I12 rfl
      refine ⟨vp_in_nI (by omega) (by decide), ?_⟩
      rintro I15 rfl
      refine ⟨vp_in_nI (by omega) (by decide), ?_⟩
      rintro I18 rfl
      refine ⟨vp_in_nI (by omega) (by decide), ?_⟩
      rintro J21 rfl
      refine ih (c + 1) _ _ (by omega) (fun i hi => ?_) (fun k hk => ?_) (fun k hk => ?_)
      · by_cases ei : i = c
        · subst ei
          refine ⟨?_, ?_, ?_, ?_⟩
          · rw [upI_at, if_neg (by omega), upI_at, if_neg (by omega), upI_at, if_pos ⟨rfl, rfl⟩, a2 2 (by omega)]
          · rw [upI_at, if_neg (by omega), upI_at, if_pos ⟨rfl, rfl⟩, upI_n (by omega), a2 3 (by omega)]
          · rw [upI_at, if_pos ⟨rfl, rfl⟩, upI_n (by omega), upI_n (by omega), a2 4 (by omega)]
          · rw [upJ_s, upl_s, a3 1 (by omega)]
        · obtain ⟨b1, b2, b3, b4⟩ := a1 i (by omega)
          refine ⟨?_, ?_, ?_, ?_⟩
          · rw [upI_at, if_neg (by omega), upI_at, if_neg (by omega), upI_at, if_neg (by omega)]; exact b1
          · rw [upI_at, if_neg (by omega), upI_at, if_neg (by omega), upI_at, if_neg (by omega)]; exact b2
          · rw [upI_at, if_neg (by omega), upI_at, if_neg (by omega), upI_at, if_neg (by omega)]; exact b3
          · rw [upJ_s, upl_n ei]; exact b4
      · rw [upI_n hk, upI_n hk, upI_n hk]; exact a2 k hk
      · rw [upJ_n hk]; exact a3 k hk
  exact ⟨9, key 8 0 I J (by omega) (fun i hi => absurd hi (by omega)) (fun _ _ => rfl) (fun _ _ => rfl)⟩
theorem m_allBack {I : gI} {J : gJ} {k1 k2 : Nat} {b : Int32} (hb : ¬ b = 0) (h1 : k1 = 10 ∨ k1 = 11) (h2 : k2 = 4 ∨ k2 = 5) {Q : gI → gJ → Prop} (hQ : ∀ I' J', (∀ i, i < 8 → I' 2 i = I k1 i ∧ I' 3 i = I k1 (8 + i) ∧ I' 4 i = I k1 (16 + i) ∧ J' 1 i = J k2 i) → I' 0 0 = I k1 24 → (∀ k, k ≠ 0 → k ≠ 2 → k ≠ 3 → k ≠ 4 → I' k = I k) → (∀ j, j ≠ 0 → I' 0 j = I 0 j) → (∀ k, k ≠ 1 → J' k = J k) → Q I' J') : wM_all k1 k2 b I J Q := by
  have l1 : lenM k1 = 25 := by rcases h1 with e | e <;> rw [e] <;> rfl
  have l2 : lenMJ k2 = 8 := by rcases h2 with e | e <;> rw [e] <;> rfl
  have key : ∀ (g c : Nat) (I' : gI) (J' : gJ), g + c = 8 → (∀ i, i < c → I' 2 i = I k1 i ∧ I' 3 i = I k1 (8 + i) ∧ I' 4 i = I k1 (16 + i) ∧ J' 1 i = J k2 i) → (∀ k, k ≠ 2 → k ≠ 3 → k ≠ 4 → I' k = I k) → (∀ k, k ≠ 1 → J' k = J k) → wM_all_l3 k1 k2 Q (g + 1) b (nI c) I' J' := by
    intro g
    induction g with
    | zero =>
      intro c I' J' e a1 a2 a3
      obtain rfl : c = 8 := by omega
      show wM_all_b3 _ _ _ _ _ _ _ Q
      unfold wM_all_b3
      rw [l1, a2 k1 (by omega) (by omega) (by omega)]
      refine br_t (nI_le (a := 8) (b := 8) (by omega) (by omega)) (br_f hb ⟨vp_in_nI (n := 24) (by omega) (by decide), ?_⟩)
      rintro I4 rfl
      have ec : ((24 : Int32)).toNatClampNeg = 24 := rfl
      rw [ec]
      refine hQ _ _ (fun i hi => ?_) ?_ (fun k b1 b2 b3 b4 => ?_) (fun j hj => ?_) a3
      · rw [upI_n (by omega), upI_n (by omega), upI_n (by omega)]
        exact a1 i hi
      · rw [upI_s, upd_s]
      · rw [upI_n b1]; exact a2 k b2 b3 b4
      · rw [upI_s, upd_n hj, a2 0 (by omega) (by omega) (by omega)]
    | succ g ih =>
      intro c I' J' e a1 a2 a3
      have e8 : (8 : Int32) + nI c = nI (8 + c) := nI_add 8 c
      have e16 : (16 : Int32) + nI c = nI (16 + c) := nI_add 16 c
      show wM_all_b3 _ _ _ _ _ _ _ Q
      unfold wM_all_b3
      rw [l1, l2, e8, e16, nI_clamp (show c < 2147483648 by omega), nI_clamp (show 8 + c < 2147483648 by omega), nI_clamp (show 16 + c < 2147483648 by omega), nI_1]
      refine br_f (nI_ge (a := c) (b := 8) (by omega) (by omega)) (br_f hb ⟨vp_in_nI (by omega) (by decide), vp_in_nI (by omega) (by decide), ?_⟩)
      rintro I12 rfl
      refine ⟨vp_in_nI (by omega) (by decide), ?_⟩
      rintro I15 rfl
      refine ⟨vp_in_nI (by omega) (by decide), ?_⟩
      rintro I18 rfl
      refine ⟨vp_in_nI (by omega) (by decide), ?_⟩
      rintro J21 rfl
      have ek := a2 k1 (by omega) (by omega) (by omega)
      refine ih (c + 1) _ _ (by omega) (fun i hi => ?_) (fun k b1 b2 b3 => ?_) (fun k hk => ?_)
      · by_cases ei : i = c
        · subst ei
          refine ⟨?_, ?_, ?_, ?_⟩
          · rw [upI_n (by omega), upI_n (by omega), upI_s, upd_s, ek]
          · rw [upI_n (by omega), upI_s, upd_s, upI_n (by omega), ek]
          · rw [upI_s, upd_s, upI_n (by omega), upI_n (by omega), ek]
          · rw [upJ_s, upl_s, a3 k2 (by omega)]
        · obtain ⟨b1, b2, b3, b4⟩ := a1 i (by omega)
          refine ⟨?_, ?_, ?_, ?_⟩
          · rw [upI_n (by omega), upI_n (by omega), upI_s, upd_n ei]; exact b1
          · rw [upI_n (by omega), upI_s, upd_n ei, upI_n (by omega)]; exact b2
          · rw [upI_s, upd_n ei, upI_n (by omega), upI_n (by omega)]; exact b3
          · rw [upJ_s, upl_n ei]; exact b4
      · rw [upI_n b3, upI_n b2, upI_n b1]; exact a2 k b1 b2 b3
      · rw [upJ_n hk]; exact a3 k hk
  exact ⟨9, key 8 0 I J (by omega) (fun i hi => absurd hi (by omega)) (fun _ _ _ _ => rfl) (fun _ _ => rfl)⟩
theorem pc_image {n : Nat} {T : Nat → gP} {I X : gI} {J Y : gJ} {R : gR} {L : List Nat} {S : gS} (h : Rl n T I J X Y R L S) : wX11_image X Y R L S (fun r X' Y' R' => wM_image I J (fun r' I' J' => qE L S r r' I' J' X' Y' R')) := by
  have hn := h.1.1
  refine x_copyStrips (by omega) (h.2.1 0 (by omega)) (fun R' r1 r2 r3 => ?_)
  rintro X5 rfl
  rw [upI_at, if_neg (by omega), h.1.2.2.1]
  unfold wM_image
  rintro I1 rfl
  have eb : bI true = nI 1 := rfl
  rw [eb]
  refine m_allSave (Or.inr rfl) (Or.inr rfl) (fun I' J' a1 a2 a3 a4 => ?_)
  rw [a3 0 (by omega), upI_at, if_neg (by omega), h.1.2.1]
  rw [upI_at, if_neg (by omega), h.1.2.1] at a2
  obtain ⟨⟨b1, b2, b3, b4⟩, b, c, d, e, f, g, i, j, k, l⟩ := h
  have i0 : ∀ q, q ≠ 14 → I' 0 q = I 0 q := fun q hq => by rw [a3 0 (by omega), upI_at, if_neg (by omega)]
  have ik : ∀ q, q ≠ 0 → q ≠ 11 → I' q = I q := fun q h1 h2 => by rw [a3 q h2, upI_n h1]
  have x0 : ∀ q, q ≠ 1 → upI X 0 1 (nI n) 0 q = X 0 q := fun q hq => by rw [upI_at, if_neg (by omega)]
  have xk : ∀ q, q ≠ 0 → upI X 0 1 (nI n) q = X q := fun q h1 => upI_n h1
  have ia : ∀ q, q < 8 → I' 11 q = I 2 q ∧ I' 11 (8 + q) = I 3 q ∧ I' 11 (16 + q) = I 4 q ∧ J' 5 q = J 1 q := by
    intro q hq
    have := a1 q hq
    rw [upI_n (by omega), upI_n (by omega), upI_n (by omega)] at this
    exact this
  refine ⟨rfl, n, T, ⟨b1, by rw [i0 0 (by omega)]; exact b2, by rw [x0 0 (by omega)]; exact b3, fun q hq => ⟨?_, (b4 q hq).2.1, ?_⟩⟩, fun q hq p z hz => ?_, Or.inr ⟨?_, n, T, b1, a2, ?_, fun q hq => ?_⟩, fun s hs => ?_, fun s hs q hq => ?_, fun q hq => ?_, ?_, ?_, fun q hq => ?_, ?_, ?_⟩
  · have := (b4 q hq).1
    unfold mS
    rw [ik 2 (by omega) (by omega), ik 3 (by omega) (by omega), ik 4 (by omega) (by omega), a4 1 (by omega)]
    exact this
  · rw [r3 0 (by omega)]; exact (b4 q hq).2.2
  · by_cases e1 : q = 1
    · subst e1
      rcases Nat.lt_or_ge p 8 with hp | hp
      · rw [r1 p hp] at hz; exact b 0 (by omega) p z hz
      · rw [r2 p hp] at hz; exact b 1 (by omega) p z hz
    · rw [r3 q e1] at hz; exact b q hq p z hz
  · rw [a3 0 (by omega), upI_at, if_pos ⟨rfl, rfl⟩]
  · rw [upI_at, if_pos ⟨rfl, rfl⟩]
  · obtain ⟨c1, c2, c3, c4⟩ := ia q (by omega)
    obtain ⟨d1, d2, d3⟩ := b4 q hq
    refine ⟨c1.trans d1.1, c2.trans d1.2.1, c3.trans d1.2.2.1, c4.trans d1.2.2.2, d2, ?_⟩
    obtain ⟨z, z1, z2, z3⟩ := d3
    exact ⟨z, (r1 q (by omega)).trans z1, z2, z3⟩
  · have := d s hs
    unfold rSh
    rw [ik 5 (by omega) (by omega), ik 6 (by omega) (by omega), ik 7 (by omega) (by omega), ik 8 (by omega) (by omega), xk 3 (by omega), xk 4 (by omega)]
    exact this
  · rw [a4 2 (by omega)]; exact e s hs q hq
  · rw [ik 1 (by omega) (by omega), xk 5 (by omega)]; exact f q hq
  · rw [i0 1 (by omega), x0 2 (by omega)]; exact g
  · unfold rTr
    rw [i0 13 (by omega), x0 3 (by omega), x0 4 (by omega), ik 29 (by omega) (by omega), xk 15 (by omega)]
    exact i
  · rw [ik 9 (by omega) (by omega)]; exact j q hq
  · unfold rLX
    rw [x0 11 (by omega), xk 12 (by omega), xk 13 (by omega), xk 14 (by omega)]
    exact k
  · unfold rLM
    rw [i0 11 (by omega), i0 12 (by omega), ik 26 (by omega) (by omega)]
    exact l
theorem pc_restore {n : Nat} {T : Nat → gP} {I X : gI} {J Y : gJ} {R : gR} {L : List Nat} {S : gS} (h : Rl n T I J X Y R L S) : wX11_restore X Y R L S (fun r X' Y' R' => wM_restore I J (fun r' I' J' => qE L S r r' I' J' X' Y' R')) := by
  have hn := h.1.1
  unfold wX11_restore
  rcases h.2.2.1 with ⟨e1, e2⟩ | ⟨e1, m, T', hm, e2, e3, e4⟩
  · rw [e2]
    refine br_n rfl (both_no6 h (fun Q q => ?_))
    unfold wM_restore
    rw [e1]
    exact br_n rfl q
  rw [e3]
  refine br_m (nI_nm1 (by omega)) (x_copyStrips (by omega) (h.2.1 1 (by omega)) (fun R' r1 r2 r3 => ?_))
  rintro X6 rfl
  refine x_clear (n' := m) hm (by rw [upI_s, upd_s]; exact e3) (fun s hs => by rw [upI_n (by omega)]; exact h.hold s hs) (fun X' x1 x2 => ?_)
  rw [x1 0 (by omega) (by omega), upI_s, upd_s]
  unfold wM_restore
  rw [e1]
  refine br_m (by decide) (m_allBack (by decide) (Or.inr rfl) (Or.inr rfl) (fun I' J' a1 a2 a3 a4 a5 => ?_))
  refine m_clearR (n' := m) hm (a2.trans e2) (fun s hs e => ?_) (fun I'' i1 i2 => ?_)
  · rw [a3 5 (by omega) (by omega) (by omega) (by omega)] at e
    rw [a3 8 (by omega) (by omega) (by omega) (by omega)]
    obtain ⟨j, hj, e8⟩ := h.shown s hs e
    exact ⟨j, by omega, e8⟩
  refine ⟨e3, m, T', h.strips hm (fun k hk => ?_) (fun j hj => ?_) (fun k hk => ?_) (fun j hj => ?_) (a5 2 (by omega)) (a5 5 (by omega)) (fun _ _ => rfl) (r3 1 (by omega)) (fun k hk i q hq => ?_) ?_ ?_ (fun i hi => ?_) (fun s hs => ?_)⟩
  · rw [i1 k (by omega), a3 k (by omega) (by omega) (by omega) (by omega)]
  · rw [i1 0 (by omega), a4 j (by omega)]
  · rw [x1 k (by omega) (by omega), upI_n (by omega)]
  · rw [x1 0 (by omega) (by omega), upI_at, if_neg (by omega)]
  · by_cases ek : k = 0
    · subst ek
      rcases Nat.lt_or_ge i 8 with hp | hp
      · rw [r1 i hp] at hq; exact h.2.1 1 (by omega) i q hq
      · rw [r2 i hp] at hq; exact h.2.1 0 (by omega) i q hq
    · rw [r3 k ek] at hq
      exact h.2.1 k hk i q hq
  · rw [i1 0 (by omega)]; exact a2.trans e2
  · rw [x1 0 (by omega) (by omega), upI_s, upd_s]; exact e3
  · obtain ⟨d1, d2, d3, d4, d5, z, z1, z2, z3⟩ := e4 i hi
    obtain ⟨c1, c2, c3, c4⟩ := a1 i (by omega)
    refine ⟨⟨?_, ?_, ?_, ?_⟩, d5, z, (r1 i (by omega)).trans z1, z2, z3⟩
    · rw [i1 2 (by omega)]; exact c1.trans d1
    · rw [i1 3 (by omega)]; exact c2.trans d2
    · rw [i1 4 (by omega)]; exact c3.trans d3
    · exact c4.trans d4
  · refine sh_cl hn (h.2.2.2.1 s hs) ?_ ?_ (by rw [i1 6 (by omega), a3 6 (by omega) (by omega) (by omega) (by omega)]) (by rw [i1 7 (by omega), a3 7 (by omega) (by omega) (by omega) (by omega)]) (by rw [i1 8 (by omega), a3 8 (by omega) (by omega) (by omega) (by omega)]) (n' := m)
    · have := i2 s hs
      unfold mCl at this ⊢
      rw [a3 5 (by omega) (by omega) (by omega) (by omega), a3 8 (by omega) (by omega) (by omega) (by omega)] at this
      exact this
    · have := x2 s hs
      unfold xCl at this ⊢
      rw [upI_n (by omega), upI_n (by omega)] at this
      exact this
