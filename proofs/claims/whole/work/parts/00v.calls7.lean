/-! status, says -/
def fh_sI (f : Nat → Int32) : Nat → Int32
  | 0 => 0
  | k + 1 => fh_sI f k + f k
theorem pc_status {n : Nat} {T : Nat → gP} {I X : gI} {J Y : gJ} {R : gR} {L : List Nat} {S : gS} (h : Rl n T I J X Y R L S) (v : Int32) : wX11_status v X Y R L S (fun r => wM_status v I J (fun r' => r = r')) := by
  have hn := h.1.1
  have e11 : ∀ v : Int32, v < 11 ↔ v ≤ 10 := by
    intro v
    rw [Int32.lt_iff_toInt_lt, Int32.le_iff_toInt_le]
    have a : (10 : Int32).toInt = 10 := rfl
    have b : (11 : Int32).toInt = 11 := rfl
    omega
  have small : ∀ Q : Int32 → Prop, v ≤ 10 → wM_status_c22 I J v Q → wM_status v I J Q := by
    intro Q hv q
    unfold wM_status
    exact br_t ((e11 v).mpr hv) q
  unfold wX11_status
  rcases Decidable.em (v = 0) with v0 | v0
  · subst v0
    refine br_n rfl (small _ (by decide) (br_t rfl ?_))
    rw [h.1.2.1, h.1.2.2.1]
  refine br_m v0 ?_
  rcases Decidable.em (v = 1) with v1 | v1
  · subst v1
    refine br_n rfl ?_
    have keyM : ∀ P : Int32 → Prop, P (fh_sI (fun i => nI (tf (T i))) n) → ∀ g c : Nat, g + c = n → wM_status_l63 I J P (g + 1) (fh_sI (fun i => nI (tf (T i))) c) (nI c) := by
      intro P p g
      induction g with
      | zero =>
        intro c e
        obtain rfl : c = n := by omega
        show wM_status_b63 I J _ _ _ P
        unfold wM_status_b63
        rw [h.1.2.1]
        exact br_t (nI_le (Nat.le_refl _) (by omega)) p
      | succ g ih =>
        intro c e
        show wM_status_b63 I J _ _ _ P
        unfold wM_status_b63
        rw [h.1.2.1]
        refine br_f (nI_ge (by omega) (by omega)) ⟨vp_in_nI (by omega) (by decide), ?_⟩
        rw [nI_clamp (by omega), (h.st (show c < n by omega)).1.2.2.1, nI_1]
        exact ih (c + 1) (by omega)
    have keyX : ∀ P : Int32 → Prop, P (fh_sI (fun i => nI (tf (T i))) n) → ∀ g c : Nat, g + c = n → wX11_levelsOfAll_l4 X Y R L S P (g + 1) (fh_sI (fun i => nI (tf (T i))) c) (nI c) := by
      intro P p g
      induction g with
      | zero =>
        intro c e
        obtain rfl : c = n := by omega
        show wX11_levelsOfAll_b4 X Y R L S _ _ _ P
        unfold wX11_levelsOfAll_b4
        rw [h.1.2.2.1]
        exact br_t (nI_le (Nat.le_refl _) (by omega)) p
      | succ g ih =>
        intro c e
        obtain ⟨hm, ok, z, hz, hL, hS⟩ := h.st (show c < n by omega)
        have eL : sL (S z) = nI (tf (T c)) := by rw [hS]; rfl
        show wX11_levelsOfAll_b4 X Y R L S _ _ _ P
        unfold wX11_levelsOfAll_b4
        rw [h.1.2.2.1, nI_clamp (by omega)]
        refine br_f (nI_ge (by omega) (by omega)) ⟨vp_in_nI (by omega) (by decide), z, hz, hL, ?_⟩
        rw [eL, nI_1]
        exact ih (c + 1) (by omega)
    exact ⟨n + 1, keyX _ (small _ (by decide) (br_f (by decide) (br_t rfl ⟨n + 1, keyM _ rfl n 0 (by omega)⟩))) n 0 (by omega)⟩
  refine br_m v1 ?_
  rcases Decidable.em (v = 2) with v2 | v2
  · subst v2
    refine br_n rfl ?_
    have hon : ∀ c, c < n → fh_on (tw (T c)) 64 = fh_on (tw (T c)) (tf (T c)) := by
      intro c hc
      obtain ⟨hm, ok, -⟩ := h.st hc
      have hf := ok.2.2.2.1
      have e := on_ext ok.2.2.2.2.2 (64 - tf (T c))
      rw [show tf (T c) + (64 - tf (T c)) = 64 by omega] at e
      exact e
    have keyM : ∀ P : Int32 → Prop, P (fh_sI (fun i => nI (fh_on (tw (T i)) (tf (T i)))) n) → ∀ g c : Nat, g + c = n → wM_status_l90 I J P (g + 1) (fh_sI (fun i => nI (fh_on (tw (T i)) (tf (T i)))) c) (nI c) := by
      intro P p g
      induction g with
      | zero =>
        intro c e
        obtain rfl : c = n := by omega
        show wM_status_b90 I J _ _ _ P
        unfold wM_status_b90
        rw [h.1.2.1]
        exact br_t (nI_le (Nat.le_refl _) (by omega)) p
      | succ g ih =>
        intro c e
        obtain ⟨hm, ok, -⟩ := h.st (show c < n by omega)
        have hf := ok.2.2.2.1
        show wM_status_b90 I J _ _ _ P
        unfold wM_status_b90
        rw [h.1.2.1]
        refine br_f (nI_ge (by omega) (by omega)) ⟨tf (T c) + 1, ?_⟩
        have inner : ∀ d k : Nat, d + k = tf (T c) → wM_status_l101 I J (wM_status_l90 I J P (g + 1)) P (d + 1) (fh_sI (fun i => nI (fh_on (tw (T i)) (tf (T i)))) c + nI (fh_on (tw (T c)) k)) (nI c) (nI k) := by
          intro d
          induction d with
          | zero =>
            intro k ek
            obtain rfl : k = tf (T c) := by omega
            show wM_status_b101 I J _ _ _ _ _ P
            unfold wM_status_b101
            rw [nI_clamp (by omega), hm.2.2.1]
            refine ⟨vp_in_nI (by omega) (by decide), br_t (nI_le (Nat.le_refl _) (by omega)) ?_⟩
            rw [nI_1]
            exact ih (c + 1) (by omega)
          | succ d ihd =>
            intro k ek
            show wM_status_b101 I J _ _ _ _ _ P
            unfold wM_status_b101
            rw [nI_clamp (by omega), hm.2.2.1]
            refine ⟨vp_in_nI (by omega) (by decide), br_f (nI_ge (by omega) (by omega)) (m_letter (by omega) hm ok (by omega) ?_)⟩
            rw [nI_1, Int32.add_assoc, nI_add]
            exact ihd (k + 1) (by omega)
        have i0 := inner (tf (T c)) 0 (by omega)
        have e0 : fh_sI (fun i => nI (fh_on (tw (T i)) (tf (T i)))) c + nI (fh_on (tw (T c)) 0) = fh_sI (fun i => nI (fh_on (tw (T i)) (tf (T i)))) c := by
          show _ + (0 : Int32) = _
          rw [Int32.add_zero]
        rw [e0] at i0
        exact i0
    have keyX : ∀ P : Int32 → Prop, P (fh_sI (fun i => nI (fh_on (tw (T i)) (tf (T i)))) n) → ∀ g c : Nat, g + c = n → wX11_onesOfAll_l4 X Y R L S P (g + 1) (fh_sI (fun i => nI (fh_on (tw (T i)) (tf (T i)))) c) (nI c) := by
      intro P p g
      induction g with
      | zero =>
        intro c e
        obtain rfl : c = n := by omega
        show wX11_onesOfAll_b4 X Y R L S _ _ _ P
        unfold wX11_onesOfAll_b4
        rw [h.1.2.2.1]
        exact br_t (nI_le (Nat.le_refl _) (by omega)) p
      | succ g ih =>
        intro c e
        obtain ⟨hm, ok, z, hz, hL, hS⟩ := h.st (show c < n by omega)
        have eW : sW (S z) = lN (tw (T c)) := by rw [hS]; rfl
        have hw := tw_b ok
        show wX11_onesOfAll_b4 X Y R L S _ _ _ P
        unfold wX11_onesOfAll_b4
        rw [h.1.2.2.1, nI_clamp (by omega)]
        refine br_f (nI_ge (by omega) (by omega)) ⟨vp_in_nI (by omega) (by decide), z, hz, hL, ?_⟩
        rw [eW]
        refine x_bitCountL (by omega) ?_
        rw [nI_1, hon c (by omega)]
        exact ih (c + 1) (by omega)
    exact ⟨n + 1, keyX _ (small _ (by decide) (br_f (by decide) (br_f (by decide) (br_t rfl ⟨n + 1, keyM _ rfl n 0 (by omega)⟩)))) n 0 (by omega)⟩
  refine br_m v2 ?_
  obtain ⟨m, hm, t1, t2, t3, t4⟩ := h.2.2.2.2.2.2.2.1
  rcases Decidable.em (v = 3) with v3 | v3
  · subst v3
    refine br_n rfl (small _ (by decide) (br_f (by decide) (br_f (by decide) (br_f (by decide) (br_t rfl ?_)))))
    rw [t1, t2]
  refine br_m v3 ?_
  have none : v ≤ 10 → wM_status v I J (fun r' => (-1 : Int32) = r') := fun hv => small _ hv (br_f v0 (br_f v1 (br_f v2 (br_f v3 rfl))))
  rcases Decidable.em (v ≤ 10) with c | c
  · exact br_t c (none c)
  refine br_f c ?_
  have c' : ¬ v < 11 := fun e => c ((e11 v).mp e)
  obtain ⟨k, hk, hk2, rfl⟩ := lt_i (c := 11) (by omega) (fun e => c' (neg_lt (c := 11) (by omega) e)) c'
  have es : nI k - 10 = nI (k - 10) := pk_sub (b := 10) (by omega)
  have E17 : (17 : Int32) < nI k ↔ 17 < k := nI_ltI (a := 17) (by omega) (by omega)
  have E8 : (8 : Int32) ≤ nI (k - 10) ↔ 8 ≤ k - 10 := nI_leI (a := 8) (by omega) (by omega)
  unfold wM_status
  rw [es, E8]
  rcases Nat.lt_or_ge 17 k with c1 | c1
  · exact br_t (by omega) (br_f c' (br_t (E17.mpr c1) (br_f v0 (br_f v1 (br_f v2 (br_f v3 rfl))))))
  · refine br_f (by omega) ⟨vp_in_nI (by omega) (by decide), br_f c' (br_f (fun e => by have := E17.mp e; omega) ⟨vp_in_nI (by omega) (by decide), ?_⟩)⟩
    rw [nI_clamp (by omega)]
    exact h.2.2.2.2.2.1 (k - 10) (by omega)
/-- whether a kind is one, or stands under it -/
def fh_un (k w : Nat) : Bool := w == 0 || w == k || (w == 3 && k == 4) || (w == 5 && k == 6)
theorem x_under {X : gI} {Y : gJ} {R : gR} {L : List Nat} {S : gS} {k w : Nat} (hk : k ≤ 6) (hw : w ≤ 6) {Q : Bool → Prop} (hQ : Q (fh_un k w)) : wX11_isUnder (nI k) (nI w) X Y R L S Q := by
  have step : ∀ (g c a : Nat), c < 7 → a ≤ 6 → (a = w → Q true) → (¬ a = w → wX11_isUnder_l4 X Y R L S Q g (nI w) (kaF a) (nI (c + 1))) → wX11_isUnder_l4 X Y R L S Q (g + 1) (nI w) (nI a) (nI c) := by
    intro g c a hc ha h1 h2
    have E7 : (7 : Int32) ≤ nI a ↔ 7 ≤ a := nI_leI (a := 7) (by omega) (by omega)
    refine br_f (nI_ge (a := c) (b := 7) (by omega) (by omega)) (br_f (nI_pos (by omega)) (br_f (fun e => by have := E7.mp e; omega) ?_))
    rw [nI_eq (by omega) (by omega), nI_clamp (by omega), nI_1]
    exact ⟨fun hne => ⟨vp_in_nI (by omega) (by decide), h2 hne⟩, fun he => h1 he⟩
  have last : ∀ (g c : Nat), c < 7 → Q false → wX11_isUnder_l4 X Y R L S Q (g + 1) (nI w) (-1) (nI c) := by
    intro g c hc q
    exact br_f (nI_ge (a := c) (b := 7) (by omega) (by omega)) (br_t (by decide) q)
  have k0 : kaF 0 = -1 := rfl
  have k1 : kaF 1 = nI 0 := rfl
  have k2 : kaF 2 = nI 0 := rfl
  have k3 : kaF 3 = nI 0 := rfl
  have k4 : kaF 4 = nI 3 := rfl
  have k5 : kaF 5 = nI 0 := rfl
  have k6 : kaF 6 = nI 5 := rfl
  have z : ∀ (g c : Nat), c < 6 → (0 = w → Q true) → (¬ 0 = w → Q false) → wX11_isUnder_l4 X Y R L S Q (g + 2) (nI w) (nI 0) (nI c) := fun g c hc a b => step (g + 1) c 0 (by omega) (by omega) a (fun hne => by rw [k0]; exact last g (c + 1) (by omega) (b hne))
  have one : ∀ (g c a : Nat), c < 5 → a ≤ 6 → kaF a = nI 0 → (a = w → Q true) → (¬ a = w → 0 = w → Q true) → (¬ a = w → ¬ 0 = w → Q false) → wX11_isUnder_l4 X Y R L S Q (g + 3) (nI w) (nI a) (nI c) := fun g c a hc ha ea b1 b2 b3 => step (g + 2) c a (by omega) ha b1 (fun hne => by rw [ea]; exact z g (c + 1) (by omega) (b2 hne) (b3 hne))
  refine ⟨4, ?_⟩
  show wX11_isUnder_l4 X Y R L S Q 4 (nI w) (nI k) (nI 0)
  have yes : fh_un k w = true → Q true := fun e => by rw [e] at hQ; exact hQ
  have no : fh_un k w = false → Q false := fun e => by rw [e] at hQ; exact hQ
  unfold fh_un at yes no
  rcases (show k = 0 ∨ k = 1 ∨ k = 2 ∨ k = 3 ∨ k = 4 ∨ k = 5 ∨ k = 6 by omega) with rfl | rfl | rfl | rfl | rfl | rfl | rfl
  · exact z 2 0 (by omega) (fun e => yes (by subst e; rfl)) (fun e => no (by simp; omega))
  · exact one 1 0 1 (by omega) (by omega) k1 (fun e => yes (by subst e; rfl)) (fun _ e => yes (by subst e; rfl)) (fun e e2 => no (by simp; omega))
  · exact one 1 0 2 (by omega) (by omega) k2 (fun e => yes (by subst e; rfl)) (fun _ e => yes (by subst e; rfl)) (fun e e2 => no (by simp; omega))
  · exact one 1 0 3 (by omega) (by omega) k3 (fun e => yes (by subst e; rfl)) (fun _ e => yes (by subst e; rfl)) (fun e e2 => no (by simp; omega))
  · refine step 3 0 4 (by omega) (by omega) (fun e => yes (by subst e; rfl)) (fun e4 => ?_)
    rw [k4]
    exact one 0 1 3 (by omega) (by omega) k3 (fun e => yes (by subst e; rfl)) (fun _ e => yes (by subst e; rfl)) (fun e e2 => no (by simp; omega))
  · exact one 1 0 5 (by omega) (by omega) k5 (fun e => yes (by subst e; rfl)) (fun _ e => yes (by subst e; rfl)) (fun e e2 => no (by simp; omega))
  · refine step 3 0 6 (by omega) (by omega) (fun e => yes (by subst e; rfl)) (fun e4 => ?_)
    rw [k6]
    exact one 0 1 5 (by omega) (by omega) k5 (fun e => yes (by subst e; rfl)) (fun _ e => yes (by subst e; rfl)) (fun e e2 => no (by simp; omega))
theorem pc_says {n : Nat} {T : Nat → gP} {I X : gI} {J Y : gJ} {R : gR} {L : List Nat} {S : gS} (h : Rl n T I J X Y R L S) (v1 v2 : Int32) : wX11_says v1 v2 X Y R L S (fun r X' Y' R' => wM_says v1 v2 I J (fun r' I' J' => qE L S r r' I' J' X' Y' R')) := by
  have hn := h.1.1
  rcases ix_shelf v1 with h1 | ⟨s, hs, rfl⟩
  · exact x_shelfN h1 (btf (both_no1 h (fun Q q => m_shelfN h1 (btf q))))
  have ec : (nI s).toNatClampNeg = s := nI_clamp (by omega)
  have hin : vp_in (nI s) 8 := vp_in_nI hs (by decide)
  refine x_shelfY hs (bft ?_)
  rcases Decidable.em (v2 < 0) with g | g
  · exact br_t g (both_no1 h (fun Q q => m_shelfY hs (bft (br_t g q))))
  obtain ⟨w, hw, rfl⟩ := nI_of g
  refine br_f g ?_
  have E7 : nI w < 7 ↔ w < 7 := nI_ltI (b := 7) (by omega) (by omega)
  have E6 : nI w ≤ 6 ↔ w ≤ 6 := nI_leI (b := 6) (by omega) (by omega)
  rcases Nat.lt_or_ge 6 w with c | c
  · exact br_f (fun e => by have := E7.mp e; omega) (both_no1 h (fun Q q => m_shelfY hs (bft (br_f g (br_f (fun e => by have := E6.mp e; omega) q)))))
  have mk : ∀ Q : Int32 → gI → gJ → Prop, ((¬ I 5 s = 1 → (¬ I 5 s = 0 → vp_in (I 8 s) 8 ∧ (nI w = 0 → wM_says_c112 (nI w) (I 8 s) I J Q) ∧ (¬ nI w = 0 → (nI w = I 2 (I 8 s).toNatClampNeg → wM_says_c112 (nI w) (I 8 s) I J Q) ∧ (¬ nI w = I 2 (I 8 s).toNatClampNeg → (¬ nI w = 3 → wM_says_c93 (nI w) (I 8 s) (I 2 (I 8 s).toNatClampNeg) I J Q) ∧ (nI w = 3 → (I 2 (I 8 s).toNatClampNeg = 4 → wM_says_c112 (nI w) (I 8 s) I J Q) ∧ (¬ I 2 (I 8 s).toNatClampNeg = 4 → wM_says_c93 (nI w) (I 8 s) (I 2 (I 8 s).toNatClampNeg) I J Q))))) ∧ (I 5 s = 0 → wM_no (-3) I J (fun r13 I14 J15 => Q r13 I14 J15))) ∧ (I 5 s = 1 → wM_no (-2) I J (fun r16 I17 J18 => Q r16 I17 J18))) → wM_says (nI s) (nI w) I J Q := by
    intro Q q
    refine m_shelfY hs (bft (br_f g (br_t (E6.mpr c) ⟨hin, ?_⟩)))
    rw [ec]
    exact q
  refine br_t (E7.mpr (by omega)) ⟨hin, ?_⟩
  rw [ec]
  rcases h.2.2.2.1 s hs with ⟨e1, e2, e3⟩ | ⟨e1, o, m, ho, hm, e2, e3, e4, e5⟩ | ⟨e1, e2, j, hj, e3, e4⟩
  · rw [e1] at mk
    rw [e2]
    exact br_n rfl (both_no3 h (fun Q q => mk Q (br_m (by decide) (br_n rfl q))))
  · rw [e1] at mk
    rw [e3]
    refine br_m (nI_nm1 (by omega)) (x_stripN h.1.2.2.1 hn (Or.inr (nI_le (by omega) (by omega))) (btf (both_no2 h (fun Q q => mk Q (br_n rfl q)))))
  obtain ⟨hm, ok, z, hz, hL, hS⟩ := h.st hj
  have hk6 := ok.1
  have hf := ok.2.2.2.1
  have ha := ok.2.1
  have ej : (nI j).toNatClampNeg = j := nI_clamp (by omega)
  have hinj : vp_in (nI j) 8 := vp_in_nI (by omega) (by decide)
  have eK : sK (S z) = nI (tk (T j)) := by rw [hS]; rfl
  have eA : sA (S z) = nI (ta (T j)) := by rw [hS]; rfl
  have eL : sL (S z) = nI (tf (T j)) := by rw [hS]; rfl
  rw [e1, e3, ej, hm.1] at mk
  rw [e4]
  refine br_m (nI_nm1 (by omega)) (x_stripY h.1.2.2.1 hn hj (bft ⟨hinj, z, by rw [ej]; exact hz, hL, ?_⟩))
  rw [eK]
  refine x_under hk6 (by omega) ?_
  have E : ∀ a b : Nat, a < 100 → b < 100 → (nI a = nI b ↔ a = b) := fun a b ha hb => nI_eq (by omega) (by omega)
  have Ew : ∀ b : Nat, b < 100 → (nI w = nI b ↔ w = b) := fun b hb => nI_eq (by omega) (by omega)
  have Ek : ∀ b : Nat, b < 100 → (nI (tk (T j)) = nI b ↔ tk (T j) = b) := fun b hb => nI_eq (by omega) (by omega)
  cases hu : fh_un (tk (T j)) w
  · refine bff (both_no2 h (fun Q q => mk Q (br_m (by decide) (br_m (by decide) ⟨hinj, ?_⟩))))
    have hu' : ¬ (w = 0) ∧ ¬ (w = tk (T j)) ∧ ¬ (w = 3 ∧ tk (T j) = 4) ∧ ¬ (w = 5 ∧ tk (T j) = 6) := by
      unfold fh_un at hu
      simp at hu
      omega
    refine br_f (fun e => hu'.1 ((Ew 0 (by omega)).mp e)) (br_f (fun e => hu'.2.1 ((E w (tk (T j)) (by omega) (by omega)).mp e)) ?_)
    have c93 : wM_says_c93 (nI w) (nI j) (nI (tk (T j))) I J Q := by
      refine ⟨fun _ => q, fun e5 => br_f (fun e6 => hu'.2.2.2 ⟨(Ew 5 (by omega)).mp e5, (Ek 6 (by omega)).mp e6⟩) q⟩
    exact ⟨fun _ => c93, fun e3' => br_f (fun e4' => hu'.2.2.1 ⟨(Ew 3 (by omega)).mp e3', (Ek 4 (by omega)).mp e4'⟩) c93⟩
  · refine btt ?_
    have hu' : w = 0 ∨ w = tk (T j) ∨ (w = 3 ∧ tk (T j) = 4) ∨ (w = 5 ∧ tk (T j) = 6) := by
      unfold fh_un at hu
      simp at hu
      omega
    have go : ∀ Q : Int32 → gI → gJ → Prop, wM_says_c112 (nI w) (nI j) I J Q → wM_says (nI s) (nI w) I J Q := by
      intro Q q
      refine mk Q (br_m (by decide) (br_m (by decide) ⟨hinj, fun _ => q, fun n0 => ⟨fun _ => q, fun nk => ⟨fun n3 => ?_, fun y3 => ⟨fun _ => q, fun n4 => ?_⟩⟩⟩⟩))
      · refine ⟨fun n5 => ?_, fun y5 => ⟨fun _ => q, fun n6 => ?_⟩⟩
        · exfalso
          rcases hu' with a | a | a | a
          · exact n0 ((Ew 0 (by omega)).mpr a)
          · exact nk ((E w (tk (T j)) (by omega) (by omega)).mpr a)
          · exact n3 ((Ew 3 (by omega)).mpr a.1)
          · exact n5 ((Ew 5 (by omega)).mpr a.1)
        · exfalso
          rcases hu' with a | a | a | a
          · exact n0 ((Ew 0 (by omega)).mpr a)
          · exact nk ((E w (tk (T j)) (by omega) (by omega)).mpr a)
          · exact n3 ((Ew 3 (by omega)).mpr a.1)
          · exact n6 ((Ek 6 (by omega)).mpr a.2)
      · exfalso
        have w3 := (Ew 3 (by omega)).mp y3
        rcases hu' with a | a | a | a
        · omega
        · exact nk ((E w (tk (T j)) (by omega) (by omega)).mpr a)
        · exact n4 ((Ek 4 (by omega)).mpr a.2)
        · omega
    have mod3 : ∀ m : Nat, m < 1099511627776 → (lN m % 1000).toInt32 = nI (m % 1000) := by
      intro m hm
      have e : lN m % 1000 = lN (m % 1000) := pk_lMod (b := 1000) (by omega) (by omega)
      rw [e, lN_i]
    have hcs := cs_ge ok
    have hcu := cu_lt ok
    have hwh := wh_ge ok
    have fin : ∀ r : Int32, (w = 0 → r = nI (tf (T j))) → (w = 1 → r = nI (ta (T j)) % 2) → (w = 2 → r = nI (fh_cs (T j) % 1000)) → (w = 3 ∨ w = 4 → r = nI (fh_cu (T j) % 1000)) → (w = 5 ∨ w = 6 → r = nI (fh_cr (T j) 1)) → wM_says (nI s) (nI w) I J (fun r' I' J' => qE L S r r' I' J' X Y R) := by
      intro r f0 f1 f2 f3 f5
      refine go _ ⟨fun y0 => ⟨hinj, ?_⟩, fun n0 => ⟨fun y1 => ⟨hinj, ?_⟩, fun n1 => ⟨fun y2 => m_creasesOf (by omega) hm ok ?_, fun n2 => ⟨fun y3 => m_cutOf (by omega) hm ok ?_, fun n3 => ⟨fun y4 => m_cutOf (by omega) hm ok ?_, fun n4 => m_creaseOf (n := 1) (by omega) hm ok (by omega) (by omega) (qE.of h (f5 ?_))⟩⟩⟩⟩⟩
      · rw [ej, hm.2.2.1]
        exact qE.of h (f0 ((Ew 0 (by omega)).mp y0))
      · rw [ej, hm.2.1]
        exact qE.of h (f1 ((Ew 1 (by omega)).mp y1))
      · rw [mod3 _ (by omega)]
        exact qE.of h (f2 ((Ew 2 (by omega)).mp y2))
      · rw [mod3 _ (by omega)]
        exact qE.of h (f3 (Or.inl ((Ew 3 (by omega)).mp y3)))
      · rw [mod3 _ (by omega)]
        exact qE.of h (f3 (Or.inr ((Ew 4 (by omega)).mp y4)))
      · have a0 : w ≠ 0 := fun e => n0 ((Ew 0 (by omega)).mpr e)
        have a1 : w ≠ 1 := fun e => n1 ((Ew 1 (by omega)).mpr e)
        have a2 : w ≠ 2 := fun e => n2 ((Ew 2 (by omega)).mpr e)
        have a3 : w ≠ 3 := fun e => n3 ((Ew 3 (by omega)).mpr e)
        have a4 : w ≠ 4 := fun e => n4 ((Ew 4 (by omega)).mpr e)
        omega
    unfold wX11_saysAs
    rw [eL, eA]
    refine ⟨fun y0 => ?_, fun n0 => ⟨fun y1 => ?_, fun n1 => ⟨fun y2 => x_count hS ok ?_, fun n2 => ⟨fun y3 => x_cutOff hS ok ?_, fun n3 => ⟨fun y4 => x_cutOff hS ok ?_, fun n4 => x_crease (n := 1) hS ok (by omega) (by omega) ?_⟩⟩⟩⟩⟩
    · have := (Ew 0 (by omega)).mp y0
      exact fin _ (fun _ => rfl) (fun _ => by omega) (fun _ => by omega) (fun _ => by omega) (fun _ => by omega)
    · have := (Ew 1 (by omega)).mp y1
      exact fin _ (fun _ => by omega) (fun _ => rfl) (fun _ => by omega) (fun _ => by omega) (fun _ => by omega)
    · have := (Ew 2 (by omega)).mp y2
      rw [mod3 _ (by omega)]
      exact fin _ (fun _ => by omega) (fun _ => by omega) (fun _ => rfl) (fun _ => by omega) (fun _ => by omega)
    · have := (Ew 3 (by omega)).mp y3
      rw [mod3 _ (by omega)]
      exact fin _ (fun _ => by omega) (fun _ => by omega) (fun _ => by omega) (fun _ => rfl) (fun _ => by omega)
    · have := (Ew 4 (by omega)).mp y4
      rw [mod3 _ (by omega)]
      exact fin _ (fun _ => by omega) (fun _ => by omega) (fun _ => by omega) (fun _ => rfl) (fun _ => by omega)
    · have a0 : w ≠ 0 := fun e => n0 ((Ew 0 (by omega)).mpr e)
      have a1 : w ≠ 1 := fun e => n1 ((Ew 1 (by omega)).mpr e)
      have a2 : w ≠ 2 := fun e => n2 ((Ew 2 (by omega)).mpr e)
      have a3 : w ≠ 3 := fun e => n3 ((Ew 3 (by omega)).mpr e)
      have a4 : w ≠ 4 := fun e => n4 ((Ew 4 (by omega)).mpr e)
      exact fin _ (fun _ => by omega) (fun _ => by omega) (fun _ => by omega) (fun _ => by omega) (fun _ => rfl)
