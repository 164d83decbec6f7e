/-! most, twice, cover: the class, and both -/
theorem x_mostL {X : gI} {Y : gJ} {R : gR} {L : List Nat} {S : gS} {z i : Nat} {t : gP} (hS : S z = xV t i) (ok : stok t) (hz : z ∈ L) {k : Nat} (hk : k ≤ 4000) (hc : k ≤ fh_cs t + 1) (T : xTb X []) (hb : bW 0 z t 0 0 0 0 X Y R) {Q : Int32 → gI → gJ → gR → Prop} (hQ : ∀ X' Y' R', xFr X Y R X' Y' R' → Q (nI (fh_mo (fh_pk2 (fh_cr t) 0) (k + 1))) X' Y' R') : ∃ n : Nat, wX11_most_l49 L S Q n (nI k) 0 0 X Y R := by
  have key : ∀ (d g : Nat) (X' : gI) (Y' : gJ) (R' : gR), d + g = k + 1 → xTb X' (fh_kl (fh_pk2 (fh_cr t) 0) g) → (g ≤ k → bW 0 z t 0 0 0 g X' Y' R') → xFr X Y R X' Y' R' → wX11_most_l49 L S Q (d + 1) (nI k) (nI (fh_mo (fh_pk2 (fh_cr t) 0) g)) (nI g) X' Y' R' := by
    intro d
    induction d with
    | zero =>
      intro g X' Y' R' e T' _ fr
      obtain rfl : g = k + 1 := by omega
      exact br_t (nI_lt (by omega) (by omega)) (hQ X' Y' R' fr)
    | succ d ih =>
      intro g X' Y' R' e T' hb fr
      obtain ⟨k1, k2⟩ := pk2_b (fh_cr t) 0 (show g ≤ 4000 by omega)
      have hm := mo_le (fh_pk2 (fh_cr t) 0) g
      have hn := nt_le (fh_pk2 (fh_cr t) 0) g
      refine br_f (nI_nlt (by omega) (by omega)) (x_placeKey (hb (by omega)) (by omega) (x_note T' (by rw [kl_len]; omega) k1 k2 (fun X1 T1 f1 => ?_)))
      refine x_stepA hS ok hz ((hb (by omega)).nt f1) (by omega) (by omega) (fun X2 Y2 R2 b2 f2 => ?_)
      have x := ih (g + 1) X2 Y2 R2 (by omega) (T1.cg (f2.1 6 (by omega) (by omega)) (f2.1 8 (by omega) (by omega))) (fun e => b2 (by omega)) ((fr.tr (xFr.nt f1)).tr f2.xFr)
      rw [nI_1]
      rw [fh_mo] at x
      show wX11_most_l49 L S Q (d + 1) (nI k) (if nI (fh_mo (fh_pk2 (fh_cr t) 0) g) < nI (fh_nt (fh_pk2 (fh_cr t) 0) g) then nI (fh_nt (fh_pk2 (fh_cr t) 0) g) else nI (fh_mo (fh_pk2 (fh_cr t) 0) g)) (nI (g + 1)) X2 Y2 R2
      rcases Nat.lt_or_ge (fh_mo (fh_pk2 (fh_cr t) 0) g) (fh_nt (fh_pk2 (fh_cr t) 0) g) with c | c
      · rw [if_pos c] at x
        rw [if_pos (nI_lt c (by omega))]
        exact x
      · rw [if_neg (by omega)] at x
        rw [if_neg (nI_nlt c (by omega))]
        exact x
  exact ⟨k + 1 + 1, key (k + 1) 0 X Y R (by omega) T (fun _ => hb) xFr.rf⟩
theorem x_coverL {X : gI} {Y : gJ} {R : gR} {L : List Nat} {S : gS} {z i : Nat} {t : gP} (hS : S z = xV t i) (ok : stok t) (hz : z ∈ L) {k : Nat} (hk : k ≤ 4000) (hc : k ≤ fh_cs t + 1) (T : xTb X []) (hb : bW 0 z t 0 0 0 0 X Y R) {Q : Int32 → gI → gJ → gR → Prop} (hQ : ∀ X' Y' R', xFr X Y R X' Y' R' → Q (nI (fh_co (fh_pk2 (fh_cr t) 0) (k + 1))) X' Y' R') : ∃ n : Nat, wX11_cover_l49 L S Q n (nI k) 0 0 X Y R := by
  have key : ∀ (d g : Nat) (X' : gI) (Y' : gJ) (R' : gR), d + g = k + 1 → xTb X' (fh_kl (fh_pk2 (fh_cr t) 0) g) → (g ≤ k → bW 0 z t 0 0 0 g X' Y' R') → xFr X Y R X' Y' R' → wX11_cover_l49 L S Q (d + 1) (nI k) (nI (fh_co (fh_pk2 (fh_cr t) 0) g)) (nI g) X' Y' R' := by
    intro d
    induction d with
    | zero =>
      intro g X' Y' R' e T' _ fr
      obtain rfl : g = k + 1 := by omega
      exact br_t (nI_lt (by omega) (by omega)) (hQ X' Y' R' fr)
    | succ d ih =>
      intro g X' Y' R' e T' hb fr
      obtain ⟨k1, k2⟩ := pk2_b (fh_cr t) 0 (show g ≤ 4000 by omega)
      have hn := nt_le (fh_pk2 (fh_cr t) 0) g
      refine br_f (nI_nlt (by omega) (by omega)) (x_placeKey (hb (by omega)) (by omega) (x_note T' (by rw [kl_len]; omega) k1 k2 (fun X1 T1 f1 => ?_)))
      have go : ∀ v : Int32, v = nI (fh_co (fh_pk2 (fh_cr t) 0) (g + 1)) → wX11_cover_c76 L S (wX11_cover_l49 L S Q (d + 1)) (nI k) v (nI g) X1 Y' R' Q := by
        intro v hv
        rw [hv]
        unfold wX11_cover_c76
        refine x_stepA hS ok hz ((hb (by omega)).nt f1) (by omega) (by omega) (fun X2 Y2 R2 b2 f2 => ?_)
        rw [nI_1]
        exact ih (g + 1) X2 Y2 R2 (by omega) (T1.cg (f2.1 6 (by omega) (by omega)) (f2.1 8 (by omega) (by omega))) (fun e => b2 (by omega)) ((fr.tr (xFr.nt f1)).tr f2.xFr)
      show (¬ nI (fh_nt (fh_pk2 (fh_cr t) 0) g) = 1 → _) ∧ (nI (fh_nt (fh_pk2 (fh_cr t) 0) g) = 1 → _)
      have E1 : nI (fh_nt (fh_pk2 (fh_cr t) 0) g) = 1 ↔ fh_nt (fh_pk2 (fh_cr t) 0) g = 1 := nI_eq (b := 1) (by omega) (by omega)
      rw [E1]
      refine ⟨fun n1 => go _ ?_, fun y1 => go _ ?_⟩
      · rw [fh_co, if_neg n1, Nat.add_zero]
      · rw [fh_co, if_pos y1, nI_1]
  exact ⟨k + 1 + 1, key (k + 1) 0 X Y R (by omega) T (fun _ => hb) xFr.rf⟩
theorem x_twiceL {X : gI} {Y : gJ} {R : gR} {L : List Nat} {S : gS} {z i : Nat} {t : gP} (hS : S z = xV t i) (ok : stok t) (hz : z ∈ L) {k : Nat} (hk : k ≤ 4000) (hc : k ≤ fh_cs t + 1) (T : xTb X []) (hb : bW 0 z t 0 0 0 0 X Y R) {Q : Int32 → gI → gJ → gR → Prop} (hQ : ∀ X' Y' R', xFr X Y R X' Y' R' → Q (nI (fh_tw (fh_sk (fh_cr t) 0) k)) X' Y' R') : ∃ n : Nat, wX11_twice_l49 L S Q n (nI k) 0 0 X Y R := by
  have key : ∀ (d g : Nat) (X' : gI) (Y' : gJ) (R' : gR), d + g = k → xTb X' (fh_kl (fh_sk (fh_cr t) 0) g) → bW 0 z t 0 0 0 g X' Y' R' → xFr X Y R X' Y' R' → wX11_twice_l49 L S Q (d + 1) (nI k) (nI (fh_tw (fh_sk (fh_cr t) 0) g)) (nI g) X' Y' R' := by
    intro d
    induction d with
    | zero =>
      intro g X' Y' R' e T' _ fr
      obtain rfl : g = k := by omega
      exact br_t (nI_le (Nat.le_refl _) (by omega)) (hQ X' Y' R' fr)
    | succ d ih =>
      intro g X' Y' R' e T' hb fr
      obtain ⟨k1, k2⟩ := sk_b (fh_cr t) 0 (show g + 1 ≤ 4000 by omega)
      have hn := nt_le (fh_sk (fh_cr t) 0) g
      refine br_f (nI_ge (by omega) (by omega)) (x_step hS ok hz hb (by omega) (by omega) (fun X2 Y2 R2 b2 f2 => ?_))
      refine x_sideKey b2 (by omega) (x_note (T'.cg (f2.1 6 (by omega) (by omega)) (f2.1 8 (by omega) (by omega))) (by rw [kl_len]; omega) k1 k2 (fun X1 T1 f1 => ?_))
      have x := ih (g + 1) X1 Y2 R2 (by omega) T1 (b2.nt f1) ((fr.tr f2.xFr).tr (xFr.nt f1))
      show (nI (fh_nt (fh_sk (fh_cr t) 0) g) ≤ 1 → _) ∧ (¬ nI (fh_nt (fh_sk (fh_cr t) 0) g) ≤ 1 → _)
      have E1 : nI (fh_nt (fh_sk (fh_cr t) 0) g) ≤ 1 ↔ fh_nt (fh_sk (fh_cr t) 0) g ≤ 1 := nI_leI (b := 1) (by omega) (by omega)
      rw [fh_tw] at x
      rw [nI_1, nI_1, E1]
      by_cases c : fh_nt (fh_sk (fh_cr t) 0) g ≤ 1
      · rw [if_pos c] at x
        exact br_t c x
      · rw [if_neg c] at x
        exact br_f c x
  exact ⟨k + 1, key k 0 X Y R (by omega) T hb xFr.rf⟩
theorem xFr.fg {X X' : gI} {Y : gJ} {R : gR} (h : ∀ a, a ≠ 8 → X' a = X a) : xFr X Y R X' Y R := xFr.nt (fun a _ a2 => h a a2)
theorem pc_most {n : Nat} {T : Nat → gP} {I X : gI} {J Y : gJ} {R : gR} {L : List Nat} {S : gS} (h : Rl n T I J X Y R L S) (v1 v2 : Int32) : wX11_most v1 v2 X Y R L S (fun r X' Y' R' => wM_most v1 v2 I J (fun r' I' J' => qE L S r r' I' J' X' Y' R')) := by
  refine pc_walk h v1 v2 (F := fun Q => wX11_most v1 v2 X Y R L S Q) (M := fun Q => wM_most v1 v2 I J Q) (fun Q q => q) (fun Q q => q) ?_
  rintro j k hj rfl rfl h1 h2 toM
  obtain ⟨hms, ok, zz, hzz, hL, hS⟩ := h.st hj
  have hn := h.1.1
  have ej : (nI j).toNatClampNeg = j := nI_clamp (by omega)
  refine x_forget (fun X0 T0 f0 => ⟨vp_in_nI (by omega) (by decide), zz, by rw [ej]; exact hzz, hL, ?_⟩)
  rw [zL_0, zI_0]
  refine x_setOut (T j) (fun X1 Y1 R1 b1 f1 => ?_)
  refine x_mostL hS ok hL h2 h1 (T0.cg (f1.1 6 (by omega) (by omega)) (f1.1 8 (by omega) (by omega))) b1 (fun X2 Y2 R2 fr => ?_)
  refine toM _ (m_walk1 (by omega) hms ok h1 h2 (fun I1 w1 w2 => m_clears (fun I2 T2 g1 g2 _ => ?_)))
  refine m_mostL h2 (fun i hi => by rw [g1 14 (by omega) (by omega) (by omega), g1 15 (by omega) (by omega) (by omega)]; exact w1 i hi) T2 (fun I3 f3 => ?_)
  exact qE.of (h.fr (((mFr.wk (by omega) w2).tr (mFr.mt g1 g2)).tr f3) (((xFr.fg f0).tr f1.xFr).tr fr)) rfl
theorem pc_cover {n : Nat} {T : Nat → gP} {I X : gI} {J Y : gJ} {R : gR} {L : List Nat} {S : gS} (h : Rl n T I J X Y R L S) (v1 v2 : Int32) : wX11_cover v1 v2 X Y R L S (fun r X' Y' R' => wM_cover v1 v2 I J (fun r' I' J' => qE L S r r' I' J' X' Y' R')) := by
  refine pc_walk h v1 v2 (F := fun Q => wX11_cover v1 v2 X Y R L S Q) (M := fun Q => wM_cover v1 v2 I J Q) (fun Q q => q) (fun Q q => q) ?_
  rintro j k hj rfl rfl h1 h2 toM
  obtain ⟨hms, ok, zz, hzz, hL, hS⟩ := h.st hj
  have hn := h.1.1
  have ej : (nI j).toNatClampNeg = j := nI_clamp (by omega)
  refine x_forget (fun X0 T0 f0 => ⟨vp_in_nI (by omega) (by decide), zz, by rw [ej]; exact hzz, hL, ?_⟩)
  rw [zL_0, zI_0]
  refine x_setOut (T j) (fun X1 Y1 R1 b1 f1 => ?_)
  refine x_coverL hS ok hL h2 h1 (T0.cg (f1.1 6 (by omega) (by omega)) (f1.1 8 (by omega) (by omega))) b1 (fun X2 Y2 R2 fr => ?_)
  refine toM _ (m_walk1 (by omega) hms ok h1 h2 (fun I1 w1 w2 => m_clears (fun I2 T2 g1 g2 g3 => ?_)))
  refine m_coverL h2 (fun i hi => by rw [g1 14 (by omega) (by omega) (by omega), g1 15 (by omega) (by omega) (by omega)]; exact w1 i hi) T2 g3 (fun I3 f3 => ?_)
  exact qE.of (h.fr (((mFr.wk (by omega) w2).tr (mFr.mt g1 g2)).tr f3) (((xFr.fg f0).tr f1.xFr).tr fr)) rfl
theorem pc_twice {n : Nat} {T : Nat → gP} {I X : gI} {J Y : gJ} {R : gR} {L : List Nat} {S : gS} (h : Rl n T I J X Y R L S) (v1 v2 : Int32) : wX11_twice v1 v2 X Y R L S (fun r X' Y' R' => wM_twice v1 v2 I J (fun r' I' J' => qE L S r r' I' J' X' Y' R')) := by
  refine pc_walk h v1 v2 (F := fun Q => wX11_twice v1 v2 X Y R L S Q) (M := fun Q => wM_twice v1 v2 I J Q) (fun Q q => q) (fun Q q => q) ?_
  rintro j k hj rfl rfl h1 h2 toM
  obtain ⟨hms, ok, zz, hzz, hL, hS⟩ := h.st hj
  have hn := h.1.1
  have ej : (nI j).toNatClampNeg = j := nI_clamp (by omega)
  refine x_forget (fun X0 T0 f0 => ⟨vp_in_nI (by omega) (by decide), zz, by rw [ej]; exact hzz, hL, ?_⟩)
  rw [zL_0, zI_0]
  refine x_setOut (T j) (fun X1 Y1 R1 b1 f1 => ?_)
  refine x_twiceL hS ok hL h2 h1 (T0.cg (f1.1 6 (by omega) (by omega)) (f1.1 8 (by omega) (by omega))) b1 (fun X2 Y2 R2 fr => ?_)
  refine toM _ (m_walk1 (by omega) hms ok h1 h2 (fun I1 w1 w2 => m_clears (fun I2 T2 g1 g2 _ => ?_)))
  refine m_twiceL h2 (fun i hi => by rw [g1 14 (by omega) (by omega) (by omega), g1 15 (by omega) (by omega) (by omega)]; exact w1 i hi) T2 (fun I3 f3 => ?_)
  exact qE.of (h.fr (((mFr.wk (by omega) w2).tr (mFr.mt g1 g2)).tr f3) (((xFr.fg f0).tr f1.xFr).tr fr)) rfl
