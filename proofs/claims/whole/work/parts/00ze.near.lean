/-! near -/
theorem x_nw {n : Nat} {T : Nat → gP} {I X : gI} {J Y : gJ} {R : gR} {L : List Nat} {S : gS} (h : Rl n T I J X Y R L S) {j : Nat} (hj : j < n) (v2 : Int32) {Q : Int32 → Prop} (q : (v2.toInt64 ≤ lN (fh_cs (T j) + 1) → (v2 < 0 → Q (-6)) ∧ (¬ v2 < 0 → (v2 ≤ 4000 → Q 0) ∧ (¬ v2 ≤ 4000 → Q (-6)))) ∧ (¬ v2.toInt64 ≤ lN (fh_cs (T j) + 1) → Q (-5))) : wX11_noWalk (nI j) v2 4000 X Y R L S Q := by
  have hn := h.1.1
  obtain ⟨hms, ok, zz, hzz, hL, hS⟩ := h.st hj
  have ej : (nI j).toNatClampNeg = j := nI_clamp (by omega)
  exact x_stripY h.1.2.2.1 hn hj (btt ⟨vp_in_nI (by omega) (by decide), zz, by rw [ej]; exact hzz, hL, x_sides hS ok q⟩)
theorem x_nwA {n : Nat} {T : Nat → gP} {I X : gI} {J Y : gJ} {R : gR} {L : List Nat} {S : gS} (h : Rl n T I J X Y R L S) {j : Nat} (hj : j < n) (v2 : Int32) {Q : Int32 → Prop} (q : ∀ r : Int32, r = -5 ∨ r = -6 ∨ r = 0 → Q r) : wX11_noWalk (nI j) v2 4000 X Y R L S Q := by
  refine x_nw h hj v2 ⟨fun _ => ⟨fun _ => q _ (Or.inr (Or.inl rfl)), fun _ => ⟨fun _ => q _ (Or.inr (Or.inr rfl)), fun _ => q _ (Or.inr (Or.inl rfl))⟩⟩, fun _ => q _ (Or.inl rfl)⟩
theorem x_nwN {n : Nat} {T : Nat → gP} {I X : gI} {J Y : gJ} {R : gR} {L : List Nat} {S : gS} (h : Rl n T I J X Y R L S) (v1 v2 : Int32) {Q : Int32 → Prop} (q : ∀ r : Int32, Q r) : wX11_noWalk v1 v2 4000 X Y R L S Q := by
  rcases walk_cases h v1 v2 with ⟨b, hb, hx, hm⟩ | ⟨j, k, hj, e1, e2, h1, h2, hx, hm⟩
  · exact hx _ (q _)
  · exact hx _ (q _)
theorem bW.keep {b c z : Nat} {t : gP} {x0 y0 w0 : Int} {j : Nat} {I I' : gI} {J J' : gJ} {R R' : gR} (hb : bW c z t x0 y0 w0 j I J R) (hf : bF b I J R I' J' R') (hc : c ≠ b) : bW c z t x0 y0 w0 j I' J' R' := by
  obtain ⟨h1, h2, h3, h4, W, h5, h6⟩ := hb
  obtain ⟨f1, f2, f3, f4, f5⟩ := hf.2.2.2 c hc
  exact ⟨by rw [f5]; exact h1, by rw [f1]; exact h2, by rw [f3]; exact h3, by rw [f4]; exact h4, W, by rw [f2]; exact h5, h6⟩
theorem sq_b {u : Int} (h1 : -8100 ≤ u) (h2 : u ≤ 8100) : 0 ≤ u * u ∧ u * u ≤ 65610000 := by
  rw [← Int.natAbs_mul_self]
  have h : u.natAbs ≤ 8100 := by omega
  have := Nat.mul_le_mul h h
  omega
def fh_nm (A : Nat → Int) : Nat → Int × Nat
  | 0 => (0, 0)
  | g + 1 => if g = 0 ∨ A g < (fh_nm A g).1 then (A g, g) else fh_nm A g
theorem nm_b (A : Nat → Int) (k : Nat) (hA : ∀ g, g ≤ k → 0 ≤ A g ∧ A g ≤ 131220000) : ∀ g : Nat, g ≤ k + 1 → 0 ≤ (fh_nm A g).1 ∧ (fh_nm A g).1 ≤ 131220000 ∧ (fh_nm A g).2 ≤ g
  | 0, _ => by
    rw [fh_nm]
    decide
  | g + 1, h => by
    have := nm_b A k hA g (by omega)
    have := hA g (by omega)
    rw [fh_nm]
    split
    · show 0 ≤ A g ∧ A g ≤ 131220000 ∧ g ≤ g + 1
      omega
    · omega
/-- how far two walks are apart, squared -/
def fh_ap (cr cr' : Nat → Nat) (dx dy : Int) (g : Nat) : Int := (fh_px cr' 0 g + dx - fh_px cr 0 g) * (fh_px cr' 0 g + dx - fh_px cr 0 g) + (fh_py cr' 0 g + dy - fh_py cr 0 g) * (fh_py cr' 0 g + dy - fh_py cr 0 g)
theorem ap_b (cr cr' : Nat → Nat) {dx dy : Int} (d1 : -100 ≤ dx) (d2 : dx ≤ 100) (d3 : -100 ≤ dy) (d4 : dy ≤ 100) {g : Nat} (hg : g ≤ 4000) : 0 ≤ fh_ap cr cr' dx dy g ∧ fh_ap cr cr' dx dy g ≤ 131220000 := by
  have b1 := px_bd cr 0 g
  have b2 := px_bd cr' 0 g
  have s1 := sq_b (u := fh_px cr' 0 g + dx - fh_px cr 0 g) (by omega) (by omega)
  have s2 := sq_b (u := fh_py cr' 0 g + dy - fh_py cr 0 g) (by omega) (by omega)
  unfold fh_ap
  omega
theorem m_nearL {I : gI} {J : gJ} {cr cr' : Nat → Nat} {dx dy : Int} (d1 : -100 ≤ dx) (d2 : dx ≤ 100) (d3 : -100 ≤ dy) (d4 : dy ≤ 100) {k : Nat} (hk : k ≤ 4000) (v6 : Int32) (hw : ∀ j, j ≤ k → I 14 j = zI (fh_px cr 0 j) ∧ I 15 j = zI (fh_py cr 0 j)) (hw' : ∀ j, j ≤ k → I 16 j = zI (fh_px cr' 0 j) ∧ I 17 j = zI (fh_py cr' 0 j)) {Q : Int32 → gI → gJ → Prop} (hQ : (¬ v6 = 0 → Q (nI (fh_nm (fh_ap cr cr' dx dy) (k + 1)).2) I J) ∧ (v6 = 0 → Q (zI (fh_nm (fh_ap cr cr' dx dy) (k + 1)).1) I J)) : ∃ n : Nat, wM_near_l151 Q n (nI k) (zI dx) (zI dy) v6 0 0 0 I J := by
  have hA : ∀ g, g ≤ k → 0 ≤ fh_ap cr cr' dx dy g ∧ fh_ap cr cr' dx dy g ≤ 131220000 := fun g hg => ap_b cr cr' d1 d2 d3 d4 (by omega)
  have key : ∀ d g : Nat, d + g = k + 1 → wM_near_l151 Q (d + 1) (nI k) (zI dx) (zI dy) v6 (nI (fh_nm (fh_ap cr cr' dx dy) g).2) (zI (fh_nm (fh_ap cr cr' dx dy) g).1) (nI g) I J := by
    intro d
    induction d with
    | zero =>
      intro g e
      obtain rfl : g = k + 1 := by omega
      exact br_t (nI_lt (by omega) (by omega)) hQ
    | succ d ih =>
      intro g e
      refine br_f (nI_nlt (by omega) (by omega)) ⟨vp_in_nI (by omega) (by decide), ?_⟩
      have x1 := ih (g + 1) (by omega)
      have b1 := hA g (by omega)
      have b2 := nm_b _ k hA g (by omega)
      rw [nI_clamp (show g < 2147483648 by omega), (hw g (by omega)).1, (hw g (by omega)).2, (hw' g (by omega)).1, (hw' g (by omega)).2, zI_add, zI_add, zI_sub, zI_sub, zI_mul, zI_mul, zI_add, nI_1]
      intro x4 hx
      rw [show x4 = zI (fh_ap cr cr' dx dy g) from hx, zI_lt (by omega) (by omega) (by omega) (by omega)]
      have E0 : nI g ≤ 0 ↔ g ≤ 0 := nI_leI (b := 0) (by omega) (by omega)
      rw [E0]
      refine ⟨fun y0 => ?_, fun n0 => ⟨fun y1 => ?_, fun n1 => ?_⟩⟩
      · rw [fh_nm, if_pos (Or.inl (by omega))] at x1
        exact x1
      · rw [fh_nm, if_pos (Or.inr y1)] at x1
        exact x1
      · rw [fh_nm, if_neg (fun e => e.elim (fun e => n0 (by omega)) n1)] at x1
        exact x1
  exact ⟨k + 1 + 1, key (k + 1) 0 (by omega)⟩
theorem x_nearL {X : gI} {Y : gJ} {R : gR} {L : List Nat} {S : gS} {z z' i i' : Nat} {t t' : gP} (hS : S z = xV t i) (ok : stok t) (hS' : S z' = xV t' i') (ok' : stok t') (hz : z ∈ L) (hz' : z' ∈ L) {dx dy : Int} (d1 : -100 ≤ dx) (d2 : dx ≤ 100) (d3 : -100 ≤ dy) (d4 : dy ≤ 100) {k : Nat} (hk : k ≤ 4000) (hc : k ≤ fh_cs t + 1) (hc' : k ≤ fh_cs t' + 1) (v6 : Int32) (hb : bW 0 z t 0 0 0 0 X Y R) (hb' : bW 1 z' t' dx dy 0 0 X Y R) {Q : Int32 → gI → gJ → gR → Prop} (hQ : ∀ X' Y' R', xFr X Y R X' Y' R' → (¬ v6 = 0 → Q (nI (fh_nm (fh_ap (fh_cr t) (fh_cr t') dx dy) (k + 1)).2) X' Y' R') ∧ (v6 = 0 → Q (zI (fh_nm (fh_ap (fh_cr t) (fh_cr t') dx dy) (k + 1)).1) X' Y' R')) : ∃ n : Nat, wX11_near_l74 L S Q n (nI k) v6 (-1) 0 0 X Y R := by
  have hA : ∀ g, g ≤ k → 0 ≤ fh_ap (fh_cr t) (fh_cr t') dx dy g ∧ fh_ap (fh_cr t) (fh_cr t') dx dy g ≤ 131220000 := fun g hg => ap_b _ _ d1 d2 d3 d4 (by omega)
  have key : ∀ (d g : Nat) (v8 : Int64) (X' : gI) (Y' : gJ) (R' : gR), d + g = k + 1 → (0 < g → v8 = zL (fh_nm (fh_ap (fh_cr t) (fh_cr t') dx dy) g).1) → (g ≤ k → bW 0 z t 0 0 0 g X' Y' R' ∧ bW 1 z' t' dx dy 0 g X' Y' R') → xFr X Y R X' Y' R' → wX11_near_l74 L S Q (d + 1) (nI k) v6 v8 (nI (fh_nm (fh_ap (fh_cr t) (fh_cr t') dx dy) g).2) (nI g) X' Y' R' := by
    intro d
    induction d with
    | zero =>
      intro g v8 X' Y' R' e hv _ fr
      obtain rfl : g = k + 1 := by omega
      rw [hv (by omega)]
      refine br_t (nI_lt (by omega) (by omega)) ?_
      rw [zL_toI]
      exact hQ X' Y' R' fr
    | succ d ih =>
      intro g v8 X' Y' R' e hv hbb fr
      obtain ⟨p1, p2⟩ := hbb (by omega)
      have b1 := hA g (by omega)
      have b2 := nm_b _ k hA g (by omega)
      refine br_f (nI_nlt (by omega) (by omega)) ?_
      have e3 : (Y' 1 0 - Y' 1 1) * (Y' 1 0 - Y' 1 1) + (Y' 2 0 - Y' 2 1) * (Y' 2 0 - Y' 2 1) = zL (fh_ap (fh_cr t) (fh_cr t') dx dy g) := by
        rw [p1.2.2.1, p1.2.2.2.1, p2.2.2.1, p2.2.2.2.1, zL_sub, zL_sub, zL_mul, zL_mul, zL_add, fh_ap, show 0 + fh_px (fh_cr t) 0 g - (dx + fh_px (fh_cr t') 0 g) = -(fh_px (fh_cr t') 0 g + dx - fh_px (fh_cr t) 0 g) by omega, show 0 + fh_py (fh_cr t) 0 g - (dy + fh_py (fh_cr t') 0 g) = -(fh_py (fh_cr t') 0 g + dy - fh_py (fh_cr t) 0 g) by omega, Int.neg_mul_neg, Int.neg_mul_neg]
      unfold wX1_apartSquared
      rw [e3]
      have go : ∀ (v8' : Int64) (v10 : Int32), v8' = zL (fh_nm (fh_ap (fh_cr t) (fh_cr t') dx dy) (g + 1)).1 → v10 = nI (fh_nm (fh_ap (fh_cr t) (fh_cr t') dx dy) (g + 1)).2 → wX11_near_c114 L S (wX11_near_l74 L S Q (d + 1)) (nI k) v6 v8' v10 (nI g) X' Y' R' Q := by
        intro v8' v10 e8 e10
        rw [e10]
        unfold wX11_near_c114
        refine x_stepA hS ok hz p1 (by omega) (by omega) (fun X1 Y1 R1 q1 f1 => ?_)
        refine x_stepA hS' ok' hz' (p2.keep f1 (by omega)) (by omega) (by omega) (fun X2 Y2 R2 q2 f2 => ?_)
        rw [nI_1]
        exact ih (g + 1) v8' X2 Y2 R2 (by omega) (fun _ => e8) (fun e => ⟨(q1 (by omega)).keep f2 (by omega), q2 (by omega)⟩) ((fr.tr f1.xFr).tr f2.xFr)
      have E0 : nI g = 0 ↔ g = 0 := nI_eq (b := 0) (by omega) (by omega)
      refine ⟨fun y0 => go _ _ ?_ ?_, fun n0 => ?_⟩
      · rw [fh_nm, if_pos (Or.inl (E0.mp y0))]
      · rw [fh_nm, if_pos (Or.inl (E0.mp y0))]
      · have g0 : ¬ g = 0 := fun e => n0 (E0.mpr e)
        have e8 := hv (by omega)
        rw [e8, zL_le (by omega) (by omega) (by omega) (by omega)]
        refine ⟨fun y1 => go _ _ ?_ ?_, fun n1 => go _ _ ?_ ?_⟩
        · rw [fh_nm, if_neg (fun e => e.elim g0 (fun e => by omega))]
        · rw [fh_nm, if_neg (fun e => e.elim g0 (fun e => by omega))]
        · rw [fh_nm, if_pos (Or.inr (by omega))]
        · rw [fh_nm, if_pos (Or.inr (by omega))]
  exact ⟨k + 1 + 1, key (k + 1) 0 (-1) X Y R (by omega) (fun e => absurd e (by omega)) (fun _ => ⟨hb, hb'⟩) xFr.rf⟩
theorem far_n {v : Int32} : ¬ v < -100 → v ≤ 100 → ∃ d : Int, v = zI d ∧ -100 ≤ d ∧ d ≤ 100 := by
  intro h1 h2
  rw [Int32.lt_iff_toInt_lt] at h1
  rw [Int32.le_iff_toInt_le] at h2
  have : (-100 : Int32).toInt = -100 := rfl
  have : (100 : Int32).toInt = 100 := rfl
  exact ⟨v.toInt, zI_of v, by omega, by omega⟩
theorem pc_near {n : Nat} {T : Nat → gP} {I X : gI} {J Y : gJ} {R : gR} {L : List Nat} {S : gS} (h : Rl n T I J X Y R L S) (v1 v2 v3 v4 v5 v6 : Int32) : wX11_near v1 v2 v3 v4 v5 v6 X Y R L S (fun r X' Y' R' => wM_near v1 v2 v3 v4 v5 v6 I J (fun r' I' J' => qE L S r r' I' J' X' Y' R')) := by
  have hn := h.1.1
  have no : ∀ b : Nat, 1 ≤ b → b < 8 → (∀ Q : Int32 → gI → gJ → Prop, wM_no (-nI b) I J Q → wM_near v1 v2 v3 v4 v5 v6 I J Q) → wX11_refuse (-nI b) X Y R L S (fun r X' Y' R' => wM_near v1 v2 v3 v4 v5 v6 I J (fun r' I' J' => qE L S r r' I' J' X' Y' R')) := fun b h1 h2 hq => both_no h b h2 h1 hq
  unfold wX11_near wX11_noNear
  rcases ix_strip v1 hn with g | ⟨j, hj, rfl⟩
  · refine x_stripN h.1.2.2.1 hn g (bff ?_)
    refine x_nwN h v2 v3 (fun r => ?_)
    exact br_t rfl (br_f (by decide) (no 1 (by omega) (by omega) (fun Q q => m_stripN h.1.2.1 g (btf q))))
  rcases ix_strip v2 hn with g | ⟨j', hj', rfl⟩
  · refine x_nwA h hj v3 (fun r hr => ?_)
    refine x_stripN h.1.2.2.1 hn g (bff ?_)
    exact br_f (by rcases hr with e | e | e <;> rw [e] <;> decide) (br_n rfl (br_f (by decide) (no 1 (by omega) (by omega) (fun Q q => m_stripY h.1.2.1 hn hj (bft (m_stripN h.1.2.1 g (bff q)))))))
  obtain ⟨hms, ok, zz, hzz, hL, hS⟩ := h.st hj
  obtain ⟨hms', ok', zz', hzz', hL', hS'⟩ := h.st hj'
  have hcs := cs_ge ok
  have hcs' := cs_ge ok'
  have ej : (nI j).toNatClampNeg = j := nI_clamp (by omega)
  have ej' : (nI j').toNatClampNeg = j' := nI_clamp (by omega)
  have lt1 : lN (fh_cs (T j) + 1) < v3.toInt64 ↔ ¬ v3.toInt64 ≤ lN (fh_cs (T j) + 1) := by
    rw [Int64.lt_iff_toInt_lt, Int64.le_iff_toInt_le]
    omega
  have lt2 : lN (fh_cs (T j') + 1) < v3.toInt64 ↔ ¬ v3.toInt64 ≤ lN (fh_cs (T j') + 1) := by
    rw [Int64.lt_iff_toInt_lt, Int64.le_iff_toInt_le]
    omega
  rcases Decidable.em (v3.toInt64 ≤ lN (fh_cs (T j) + 1)) with a1 | a1
  rotate_left
  · refine x_nw h hj v3 (br_f a1 ?_)
    refine x_nwA h hj' v3 (fun r hr => ?_)
    refine br_f (by decide) (br_m (by rcases hr with e | e | e <;> rw [e] <;> decide) (br_t rfl (br_f (by decide) (no 5 (by omega) (by omega) (fun Q q => m_stripY h.1.2.1 hn hj (bft (m_stripY h.1.2.1 hn hj' (btt (m_creasesOf (by omega) hms ok ?_)))))))))
    rw [show lN (fh_cs (T j)) + 1 = lN (fh_cs (T j) + 1) from lN_add _ 1]
    exact br_t (lt1.mpr a1) q
  rcases Decidable.em (v3.toInt64 ≤ lN (fh_cs (T j') + 1)) with a2 | a2
  rotate_left
  · refine x_nwA h hj v3 (fun r hr => ?_)
    refine x_nw h hj' v3 (br_f a2 ?_)
    have q5 : ∀ Q : Int32 → gI → gJ → Prop, wM_no (-nI 5) I J Q → wM_near (nI j) (nI j') v3 v4 v5 v6 I J Q := by
      intro Q q
      refine m_stripY h.1.2.1 hn hj (bft (m_stripY h.1.2.1 hn hj' (btt (m_creasesOf (by omega) hms ok ?_))))
      rw [show lN (fh_cs (T j)) + 1 = lN (fh_cs (T j) + 1) from lN_add _ 1]
      refine br_f (fun e => (lt1.mp e) a1) (m_creasesOf (by omega) hms' ok' ?_)
      rw [show lN (fh_cs (T j')) + 1 = lN (fh_cs (T j') + 1) from lN_add _ 1]
      exact br_t (lt2.mpr a2) q
    refine br_f (by rcases hr with e | e | e <;> rw [e] <;> decide) (br_m (by decide) ⟨fun _ => br_f (by decide) (no 5 (by omega) (by omega) q5), fun _ => br_t rfl (br_f (by decide) (no 5 (by omega) (by omega) q5))⟩)
  -- what is asked
  have toM : ∀ Q : Int32 → gI → gJ → Prop, ((v6 < 0 → wM_no (-5) I J (fun r1 I2 J3 => Q r1 I2 J3)) ∧ (¬ v6 < 0 → (v6 ≤ 1 → (v3 < 0 → wM_near_c105 I J Q) ∧ (¬ v3 < 0 → (4000 < v3 → wM_near_c105 I J Q) ∧ (¬ 4000 < v3 → (v4 < (-100) → wM_near_c105 I J Q) ∧ (¬ v4 < (-100) → (100 < v4 → wM_near_c105 I J Q) ∧ (¬ 100 < v4 → (v5 < (-100) → wM_near_c105 I J Q) ∧ (¬ v5 < (-100) → (v5 ≤ 100 → wM_walked 14 15 (nI j) v3 0 I J (fun I18 J19 => wM_walked 16 17 (nI j') v3 0 I18 J19 (fun I21 J22 => ∃ n : Nat, wM_near_l151 Q n v3 v4 v5 v6 0 0 0 I21 J22))) ∧ (¬ v5 ≤ 100 → wM_near_c105 I J Q))))))) ∧ (¬ v6 ≤ 1 → wM_no (-5) I J (fun r1 I2 J3 => Q r1 I2 J3)))) → wM_near (nI j) (nI j') v3 v4 v5 v6 I J Q := by
    intro Q q
    refine m_stripY h.1.2.1 hn hj (bft (m_stripY h.1.2.1 hn hj' (btt (m_creasesOf (by omega) hms ok ?_))))
    rw [show lN (fh_cs (T j)) + 1 = lN (fh_cs (T j) + 1) from lN_add _ 1]
    refine br_f (fun e => (lt1.mp e) a1) (m_creasesOf (by omega) hms' ok' ?_)
    rw [show lN (fh_cs (T j')) + 1 = lN (fh_cs (T j') + 1) from lN_add _ 1]
    exact br_f (fun e => (lt2.mp e) a2) q
  have lt3 : 4000 < v3 ↔ ¬ v3 ≤ 4000 := by
    rw [Int32.lt_iff_toInt_lt, Int32.le_iff_toInt_le]
    omega
  have lt4 : 100 < v4 ↔ ¬ v4 ≤ 100 := by
    rw [Int32.lt_iff_toInt_lt, Int32.le_iff_toInt_le]
    omega
  have lt5 : v4 ≤ 100 → ¬ 100 < v4 := fun e1 e2 => (lt4.mp e2) e1
  have w5 : ¬ v6 = 0 → ¬ v6 = 1 → wX11_refuse (-5) X Y R L S (fun r X' Y' R' => wM_near (nI j) (nI j') v3 v4 v5 v6 I J (fun r' I' J' => qE L S r r' I' J' X' Y' R')) := by
    intro n0 n1
    refine no 5 (by omega) (by omega) (fun Q q => toM Q ?_)
    rcases Decidable.em (v6 < 0) with c | c
    · exact br_t c q
    refine br_f c (br_f (fun l => ?_) q)
    obtain ⟨u, hu, rfl⟩ := nI_of2 (M := 1) (n := 1) rfl c l
    rcases (show u = 0 ∨ u = 1 by omega) with e | e <;> subst e
    · exact n0 rfl
    · exact n1 rfl
  have in6 : v6 = 0 ∨ v6 = 1 → ¬ v6 < 0 ∧ v6 ≤ 1 := fun e => by
    rcases e with e | e <;> subst e <;> decide
  -- a number of sides that is wrong
  have w6 : (v3 < 0 ∨ ¬ v3 ≤ 4000) → (v6 = 0 ∨ v6 = 1) → wX11_refuse (-6) X Y R L S (fun r X' Y' R' => wM_near (nI j) (nI j') v3 v4 v5 v6 I J (fun r' I' J' => qE L S r r' I' J' X' Y' R')) := by
    intro hb h6
    refine no 6 (by omega) (by omega) (fun Q q => toM Q (br_f (in6 h6).1 (br_t (in6 h6).2 ?_)))
    rcases Decidable.em (v3 < 0) with c | c
    · exact br_t c q
    · exact br_f c (br_t (lt3.mpr (hb.resolve_left c)) q)
  have bad : (v3 < 0 ∨ ¬ v3 ≤ 4000) → wX11_near (nI j) (nI j') v3 v4 v5 v6 X Y R L S (fun r X' Y' R' => wM_near (nI j) (nI j') v3 v4 v5 v6 I J (fun r' I' J' => qE L S r r' I' J' X' Y' R')) := by
    intro hb
    unfold wX11_near wX11_noNear
    have nw : ∀ (i : Nat), i < n → v3.toInt64 ≤ lN (fh_cs (T i) + 1) → ∀ Q : Int32 → Prop, Q (-6) → wX11_noWalk (nI i) v3 4000 X Y R L S Q := by
      intro i hi a Q q
      rcases Decidable.em (v3 < 0) with c | c
      · exact x_nw h hi v3 (br_t a (br_t c q))
      · exact x_nw h hi v3 (br_t a (br_f c (br_f (hb.resolve_left c) q)))
    refine nw j hj a1 _ ?_
    refine nw j' hj' a2 _ ?_
    refine br_f (by decide) (br_m (by decide) (br_f (by decide) (br_f (by decide) ⟨fun y0 => ?_, fun n0 => ⟨fun y1 => ?_, fun n1 => ?_⟩⟩)))
    · exact br_t rfl (br_f (by decide) (br_f (by decide) (w6 hb (Or.inl y0))))
    · exact br_t rfl (br_f (by decide) (br_f (by decide) (w6 hb (Or.inr y1))))
    · exact br_f (by decide) (w5 n0 n1)
  rcases Decidable.em (v3 < 0) with b | b
  · exact bad (Or.inl b)
  rcases Decidable.em (v3 ≤ 4000) with c | c
  rotate_left
  · exact bad (Or.inr c)
  -- the right number of sides
  have c3 : ¬ 4000 < v3 := fun e => (lt3.mp e) c
  have far : (v6 = 0 ∨ v6 = 1) → (∀ Q : Int32 → gI → gJ → Prop, wM_near_c105 I J Q → (v4 < (-100) → wM_near_c105 I J Q) ∧ (¬ v4 < (-100) → (100 < v4 → wM_near_c105 I J Q) ∧ (¬ 100 < v4 → (v5 < (-100) → wM_near_c105 I J Q) ∧ (¬ v5 < (-100) → (v5 ≤ 100 → wM_walked 14 15 (nI j) v3 0 I J (fun I18 J19 => wM_walked 16 17 (nI j') v3 0 I18 J19 (fun I21 J22 => ∃ n : Nat, wM_near_l151 Q n v3 v4 v5 v6 0 0 0 I21 J22))) ∧ (¬ v5 ≤ 100 → wM_near_c105 I J Q))))) → wX11_refuse (-6) X Y R L S (fun r X' Y' R' => wM_near (nI j) (nI j') v3 v4 v5 v6 I J (fun r' I' J' => qE L S r r' I' J' X' Y' R')) := by
    intro h6 hq
    exact no 6 (by omega) (by omega) (fun Q q => toM Q (br_f (in6 h6).1 (br_t (in6 h6).2 (br_f b (br_f c3 (hq Q q))))))
  have c64 : (v6 = 0 ∨ v6 = 1) → wX11_noNear_c64 X Y R L S v4 v5 0 (fun r1 => (r1 = 0 → vp_in (nI j) 8 ∧ ∃ z4 : Nat, R 0 (nI j).toNatClampNeg = some z4 ∧ z4 ∈ L ∧ wX1_setOut 0 z4 0 0 0 X Y R L S (fun I8 J9 R10 => vp_in (nI j') 8 ∧ ∃ z12 : Nat, R10 0 (nI j').toNatClampNeg = some z12 ∧ z12 ∈ L ∧ wX1_setOut 1 z12 v4.toInt64 v5.toInt64 0 I8 J9 R10 L S (fun I16 J17 R18 => ∃ n : Nat, wX11_near_l74 L S (fun r X' Y' R' => wM_near (nI j) (nI j') v3 v4 v5 v6 I J (fun r' I' J' => qE L S r r' I' J' X' Y' R')) n v3 v6 (-1) 0 0 I16 J17 R18))) ∧ (¬ r1 = 0 → wX11_refuse r1 X Y R L S (fun r X' Y' R' => wM_near (nI j) (nI j') v3 v4 v5 v6 I J (fun r' I' J' => qE L S r r' I' J' X' Y' R')))) := by
    intro h6
    refine br_f (by decide) ?_
    rcases Decidable.em (v4 < -100) with d1 | d1
    · exact br_t d1 (btt (br_f (by decide) (br_f (by decide) (far h6 (fun Q q => br_t d1 q)))))
    rcases Decidable.em (v4 ≤ 100) with d2 | d2
    rotate_left
    · exact br_f d1 (br_f d2 (btt (br_f (by decide) (br_f (by decide) (far h6 (fun Q q => br_f d1 (br_t (lt4.mpr d2) q)))))))
    refine br_f d1 (br_t d2 (bff ?_))
    rcases Decidable.em (v5 < -100) with d3 | d3
    · exact br_t d3 (bft (br_f (by decide) (br_f (by decide) (far h6 (fun Q q => br_f d1 (br_f (lt5 d2) (br_t d3 q)))))))
    rcases Decidable.em (v5 ≤ 100) with d4 | d4
    rotate_left
    · exact br_f d3 (br_f d4 (bft (br_f (by decide) (br_f (by decide) (far h6 (fun Q q => br_f d1 (br_f (lt5 d2) (br_f d3 (br_f d4 q)))))))))
    refine br_f d3 (br_t d4 (btf (br_t rfl (br_t rfl ⟨vp_in_nI (by omega) (by decide), zz, by rw [ej]; exact hzz, hL, ?_⟩))))
    obtain ⟨dx, rfl, x1, x2⟩ := far_n d1 d2
    obtain ⟨dy, rfl, y1, y2⟩ := far_n d3 d4
    obtain ⟨k, hk, rfl⟩ := nI_of2 (M := 4000) (n := 4000) rfl b c
    rw [nI_l (by omega), pk_lLE (by omega) (by omega)] at a1 a2
    rw [zL_0, zI_0, zI_l (by omega) (by omega), zI_l (by omega) (by omega)]
    refine x_setOut (T j) (fun X0 Y0 R0 b0 f0 => ⟨vp_in_nI (by omega) (by decide), zz', by rw [ej', f0.2.2.1 0 (by omega)]; exact hzz', hL', ?_⟩)
    refine x_setOut (T j') (fun X1 Y1 R1 b1 f1 => ?_)
    refine x_nearL hS ok hS' ok' hL hL' x1 x2 y1 y2 hk a1 a2 v6 (b0.keep f1 (by omega)) b1 (fun X' Y' R' fr => ?_)
    have fr2 := (f0.xFr.tr f1.xFr).tr fr
    have fin : ∀ v : Int32, ((¬ v6 = 0 → v = nI (fh_nm (fh_ap (fh_cr (T j)) (fh_cr (T j')) dx dy) (k + 1)).2) ∧ (v6 = 0 → v = zI (fh_nm (fh_ap (fh_cr (T j)) (fh_cr (T j')) dx dy) (k + 1)).1)) → wM_near (nI j) (nI j') (nI k) (zI dx) (zI dy) v6 I J (fun r' I' J' => qE L S v r' I' J' X' Y' R') := by
      intro v hv
      refine toM _ (br_f (in6 h6).1 (br_t (in6 h6).2 (br_f b (br_f c3 (br_f d1 (br_f (lt5 d2) (br_f d3 (br_t d4 ?_))))))))
      refine m_walk1 (by omega) hms ok a1 hk (fun I1 w1 w2 => ?_)
      have m1 := mFr.wk (J := J) (by omega) w2
      refine m_walk2 (by omega) (hms'.fr m1) ok' a2 hk (fun I2 u1 u2 => ?_)
      have m2 := mFr.wk (J := J) (by omega) u2
      refine m_nearL x1 x2 y1 y2 hk v6 (fun i hi => by rw [u2 14 (by omega) (by omega), u2 15 (by omega) (by omega)]; exact w1 i hi) u1 ⟨fun n0 => ?_, fun y0 => ?_⟩
      · exact qE.of (h.fr (m1.tr m2) fr2) (hv.1 n0)
      · exact qE.of (h.fr (m1.tr m2) fr2) (hv.2 y0)
    exact ⟨fun n0 => fin _ ⟨fun _ => rfl, fun y0 => absurd y0 n0⟩, fun y0 => fin _ ⟨fun n0 => absurd y0 n0, fun _ => rfl⟩⟩
  refine x_nw h hj v3 (br_t a1 (br_f b (br_t c ?_)))
  refine x_nw h hj' v3 (br_t a2 (br_f b (br_t c ?_)))
  refine br_f (by decide) (br_m (by decide) (br_f (by decide) (br_f (by decide) ⟨fun y0 => ?_, fun n0 => ⟨fun y1 => ?_, fun n1 => ?_⟩⟩)))
  · exact c64 (Or.inl y0)
  · exact c64 (Or.inr y1)
  · exact br_f (by decide) (w5 n0 n1)
