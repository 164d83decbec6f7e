/-! walks -/
theorem px_bd (cr : Nat → Nat) (w : Int) : ∀ m : Nat, -(m : Int) ≤ fh_px cr w m + fh_py cr w m ∧ fh_px cr w m + fh_py cr w m ≤ m ∧ -(m : Int) ≤ fh_px cr w m - fh_py cr w m ∧ fh_px cr w m - fh_py cr w m ≤ m
  | 0 => by
    show -(0 : Int) ≤ 0 + 0 ∧ (0 : Int) + 0 ≤ 0 ∧ -(0 : Int) ≤ 0 - 0 ∧ (0 : Int) - 0 ≤ 0
    decide
  | m + 1 => by
    have h := px_bd cr w m
    rw [px_1, py_1]
    generalize fh_px cr w m = A at *
    generalize fh_py cr w m = B at *
    rcases u_cases (w + fh_dr cr m) with ⟨_, h1, h2⟩ | ⟨_, h1, h2⟩ | ⟨_, h1, h2⟩ | ⟨_, h1, h2⟩ <;> rw [h1, h2] <;> omega
theorem e_atx (v : Int32) {a : Int} (h1 : -2147483648 ≤ a) (h2 : a < 2147483648) : zL a = v.toInt64 ↔ zI a = v := by
  have b1 := v.le_toInt
  have b2 := v.toInt_lt
  rw [show v.toInt64 = zL v.toInt by rw [← zI_l b1 b2, ← zI_of], show (zI a = v ↔ zI a = zI v.toInt) by rw [← zI_of], zI_i (by omega) (by omega) b1 b2, zL_i (by omega) (by omega) (by omega) (by omega)]
theorem mFr.wk {I I' : gI} {J : gJ} {k : Nat} (hk : 12 ≤ k ∧ k ≤ 24) (h : ∀ a, a ≠ k → a ≠ k + 1 → I' a = I a) : mFr I J I' J :=
  ⟨fun a b c => h a (by omega) (by omega), h 11 (by omega) (by omega), h 26 (by omega) (by omega), h 29 (by omega) (by omega), fun j _ => by rw [h 0 (by omega) (by omega)], rfl, rfl, rfl⟩
theorem m_walked {I : gI} {J : gJ} {i : Nat} {t : gP} (hi : i < 8) (h : mS I J i t) (ok : stok t) {k n : Nat} (hk : k = 14 ∨ k = 16) {w : Int} (hn : n ≤ fh_cs t + 1) (h4 : n ≤ 4000) {Q : gI → gJ → Prop} (hQ : ∀ I', (∀ j, j ≤ n → I' k j = zI (fh_px (fh_cr t) w j) ∧ I' (k + 1) j = zI (fh_py (fh_cr t) w j)) → (∀ a, a ≠ k → a ≠ k + 1 → I' a = I a) → Q I' J) : wM_walked k (k + 1) (nI i) (nI n) (zI w) I J Q := by
  have l1 : lenM k = 4001 := by rcases hk with e | e <;> subst e <;> rfl
  have l2 : lenM (k + 1) = 4001 := by rcases hk with e | e <;> subst e <;> rfl
  have key : ∀ (d g : Nat) (W : Int) (I' : gI), d + g = n → (g < n → W = w + fh_dr (fh_cr t) g) → (∀ j, j ≤ g → I' k j = zI (fh_px (fh_cr t) w j) ∧ I' (k + 1) j = zI (fh_py (fh_cr t) w j)) → (∀ a, a ≠ k → a ≠ k + 1 → I' a = I a) → wM_walked_l16 k (k + 1) Q (d + 1) (nI i) (nI n) (zI W) (nI (g + 1)) I' J := by
    intro d
    induction d with
    | zero =>
      intro g W I' e f1 f2 f3
      obtain rfl : g = n := by omega
      exact br_t (nI_lt (by omega) (by omega)) (hQ I' f2 f3)
    | succ d ih =>
      intro g W I' e f1 f2 f3
      obtain rfl := f1 (by omega)
      have e1 : nI (g + 1) - 1 = nI g := by rw [zI_n, zI_1, zI_sub, zI_n]; congr 1; omega
      refine br_f (nI_nlt (by omega) (by omega)) ?_
      rw [e1, l1, l2]
      refine ⟨vp_in_nI (by omega) (by decide), ?_⟩
      rw [zL_1, zL_0]
      refine m_turnX ⟨vp_in_nI (by omega) (by decide), ?_⟩
      rintro I5 rfl
      refine ⟨vp_in_nI (by omega) (by decide), m_turnY ⟨vp_in_nI (by omega) (by decide), ?_⟩⟩
      rintro I10 rfl
      rw [nI_clamp (show g < 2147483648 by omega), nI_clamp (show g + 1 < 2147483648 by omega), upI_n (show k + 1 ≠ k by omega), (f2 g (Nat.le_refl g)).1, (f2 g (Nat.le_refl g)).2, zL_toI, zL_toI, zI_add, zI_add, Int.mul_one, Int.mul_one, Int.mul_zero, Int.mul_zero, Int.sub_zero, Int.add_zero, ← px_1, ← py_1, nI_1]
      have g2 : ∀ j, j ≤ g + 1 → upI (upI I' k (g + 1) (zI (fh_px (fh_cr t) w (g + 1)))) (k + 1) (g + 1) (zI (fh_py (fh_cr t) w (g + 1))) k j = zI (fh_px (fh_cr t) w j) ∧ upI (upI I' k (g + 1) (zI (fh_px (fh_cr t) w (g + 1)))) (k + 1) (g + 1) (zI (fh_py (fh_cr t) w (g + 1))) (k + 1) j = zI (fh_py (fh_cr t) w j) := by
        intro j hj
        rw [upI_n (show k ≠ k + 1 by omega), upI_s, upI_s, upI_n (show k + 1 ≠ k by omega)]
        by_cases ej : j = g + 1
        · rw [ej, upd_s, upd_s]
          exact ⟨rfl, rfl⟩
        · rw [upd_n ej, upd_n ej]
          exact f2 j (by omega)
      have g3 : ∀ a, a ≠ k → a ≠ k + 1 → upI (upI I' k (g + 1) (zI (fh_px (fh_cr t) w (g + 1)))) (k + 1) (g + 1) (zI (fh_py (fh_cr t) w (g + 1))) a = I a := by
        intro a a1 a2
        rw [upI_n a2, upI_n a1, f3 a a1 a2]
      by_cases c : n ≤ g + 1
      · exact br_t (nI_le c (by omega)) (ih (g + 1) _ _ (by omega) (fun e => absurd e (by omega)) g2 g3)
      · refine br_f (nI_ge (by omega) (by omega)) ?_
        rw [nI_l (by omega)]
        refine m_creaseOf hi (h.fr (mFr.wk (by omega) g3)) ok (by omega) (by omega) ?_
        have hc := cr_le t (g + 1)
        have ec : nI (fh_cr t (g + 1)) = 1 ↔ fh_cr t (g + 1) = 1 := nI_eq (b := 1) (by omega) (by omega)
        have ed : fh_dr (fh_cr t) (g + 1) = fh_dr (fh_cr t) g + fh_sg (fh_cr t (g + 1)) := rfl
        rw [ec, zI_m1, zI_add, zI_1, zI_add]
        refine ⟨fun hne => ?_, fun he => ?_⟩
        · exact ih (g + 1) _ _ (by omega) (fun _ => by rw [ed, fh_sg, if_neg hne, Int.add_assoc]) g2 g3
        · exact ih (g + 1) _ _ (by omega) (fun _ => by rw [ed, fh_sg, if_pos he, Int.add_assoc]) g2 g3
  refine ⟨by rw [l1]; exact (vp_in_nI (by omega) (by decide) : vp_in (nI 0) 4001), ?_⟩
  rintro I2 rfl
  refine ⟨by rw [l2]; exact (vp_in_nI (by omega) (by decide) : vp_in (nI 0) 4001), ?_⟩
  rintro I5 rfl
  refine ⟨n + 1, key n 0 w _ (by omega) (fun _ => by show w = w + 0; omega) (fun j hj => ?_) (fun a a1 a2 => by rw [upI_n a2, upI_n a1])⟩
  obtain rfl : j = 0 := by omega
  rw [upI_n (show k ≠ k + 1 by omega), upI_s, upI_s]
  exact ⟨upd_s _ _ _, upd_s _ _ _⟩
theorem m_walk1 {I : gI} {J : gJ} {i : Nat} {t : gP} (hi : i < 8) (h : mS I J i t) (ok : stok t) {n : Nat} (hn : n ≤ fh_cs t + 1) (h4 : n ≤ 4000) {Q : gI → gJ → Prop} (hQ : ∀ I', (∀ j, j ≤ n → I' 14 j = zI (fh_px (fh_cr t) 0 j) ∧ I' 15 j = zI (fh_py (fh_cr t) 0 j)) → (∀ a, a ≠ 14 → a ≠ 15 → I' a = I a) → Q I' J) : wM_walked 14 15 (nI i) (nI n) 0 I J Q := m_walked (w := 0) hi h ok (Or.inl rfl) hn h4 hQ
theorem m_walk2 {I : gI} {J : gJ} {i : Nat} {t : gP} (hi : i < 8) (h : mS I J i t) (ok : stok t) {n : Nat} (hn : n ≤ fh_cs t + 1) (h4 : n ≤ 4000) {Q : gI → gJ → Prop} (hQ : ∀ I', (∀ j, j ≤ n → I' 16 j = zI (fh_px (fh_cr t) 0 j) ∧ I' 17 j = zI (fh_py (fh_cr t) 0 j)) → (∀ a, a ≠ 16 → a ≠ 17 → I' a = I a) → Q I' J) : wM_walked 16 17 (nI i) (nI n) 0 I J Q := m_walked (w := 0) hi h ok (Or.inr rfl) hn h4 hQ
/-- a step, also behind the last side -/
theorem x_stepA {I : gI} {J : gJ} {R : gR} {L : List Nat} {S : gS} {z i : Nat} {t : gP} (hS : S z = xV t i) (ok : stok t) (hz : z ∈ L) {b j : Nat} {x0 y0 w0 : Int} (hb : bW b z t x0 y0 w0 j I J R) (hj : j ≤ fh_cs t + 1) (hj2 : j < 2147483647) {Q : gI → gJ → gR → Prop} (hQ : ∀ I' J' R', (j < fh_cs t + 1 → bW b z t x0 y0 w0 (j + 1) I' J' R') → bF b I J R I' J' R' → Q I' J' R') : wX1_step b I J R L S Q := by
  rcases Nat.lt_or_ge j (fh_cs t + 1) with c | c
  · exact x_step hS ok hz hb c hj2 (fun I' J' R' h1 h2 => hQ I' J' R' (fun _ => h1) h2)
  · exact x_step_end hS ok hz hb (by omega) hj2 (hQ I J R (fun e => absurd e (by omega)) bF.rf)
theorem walk_cases {n : Nat} {T : Nat → gP} {I X : gI} {J Y : gJ} {R : gR} {L : List Nat} {S : gS} (h : Rl n T I J X Y R L S) (v1 v2 : Int32) : (∃ b : Nat, (b = 1 ∨ b = 5 ∨ b = 6) ∧ (∀ Q : Int32 → Prop, Q (-nI b) → wX11_noWalk v1 v2 4000 X Y R L S Q) ∧ (∀ Q : Int32 → Prop, Q (-nI b) → wM_walks v1 v2 I J Q)) ∨ (∃ j k : Nat, j < n ∧ v1 = nI j ∧ v2 = nI k ∧ k ≤ fh_cs (T j) + 1 ∧ k ≤ 4000 ∧ (∀ Q : Int32 → Prop, Q 0 → wX11_noWalk v1 v2 4000 X Y R L S Q) ∧ (∀ Q : Int32 → Prop, Q 0 → wM_walks v1 v2 I J Q)) := by
  have hn := h.1.1
  rcases ix_strip v1 hn with g | ⟨j, hj, rfl⟩
  · exact Or.inl ⟨1, Or.inl rfl, fun Q q => x_stripN h.1.2.2.1 hn g (bff q), fun Q q => m_stripN h.1.2.1 g (bff q)⟩
  obtain ⟨hms, ok, zz, hzz, hL, hS⟩ := h.st hj
  have ej : (nI j).toNatClampNeg = j := nI_clamp (by omega)
  have hin : vp_in (nI j) 8 := vp_in_nI (by omega) (by decide)
  have hcs := cs_ge ok
  have goX : ∀ Q : Int32 → Prop, ((v2.toInt64 ≤ lN (fh_cs (T j) + 1) → (v2 < 0 → Q (-6)) ∧ (¬ v2 < 0 → (v2 ≤ 4000 → Q 0) ∧ (¬ v2 ≤ 4000 → Q (-6)))) ∧ (¬ v2.toInt64 ≤ lN (fh_cs (T j) + 1) → Q (-5))) → wX11_noWalk (nI j) v2 4000 X Y R L S Q := fun Q q => x_stripY h.1.2.2.1 hn hj (btt ⟨hin, zz, by rw [ej]; exact hzz, hL, x_sides hS ok q⟩)
  have goM : ∀ Q : Int32 → Prop, ((v2.toInt64 ≤ lN (fh_cs (T j) + 1) → (v2 < 0 → Q (-6)) ∧ (¬ v2 < 0 → (v2 ≤ 4000 → Q 0) ∧ (¬ v2 ≤ 4000 → Q (-6)))) ∧ (¬ v2.toInt64 ≤ lN (fh_cs (T j) + 1) → Q (-5))) → wM_walks (nI j) v2 I J Q := fun Q q => m_stripY h.1.2.1 hn hj (btt (m_creasesOf (by omega) hms ok (by rw [show lN (fh_cs (T j)) + 1 = lN (fh_cs (T j) + 1) from lN_add _ 1]; exact q)))
  rcases Decidable.em (v2.toInt64 ≤ lN (fh_cs (T j) + 1)) with a | a
  · rcases Decidable.em (v2 < 0) with b | b
    · exact Or.inl ⟨6, Or.inr (Or.inr rfl), fun Q q => goX Q (br_t a (br_t b q)), fun Q q => goM Q (br_t a (br_t b q))⟩
    · rcases Decidable.em (v2 ≤ 4000) with c | c
      · obtain ⟨k, hk, rfl⟩ := nI_of2 (M := 4000) (n := 4000) rfl b c
        refine Or.inr ⟨j, k, hj, rfl, rfl, ?_, hk, fun Q q => goX Q (br_t a (br_f b (br_t c q))), fun Q q => goM Q (br_t a (br_f b (br_t c q)))⟩
        rw [nI_l (by omega), pk_lLE (by omega) (by omega)] at a
        exact a
      · exact Or.inl ⟨6, Or.inr (Or.inr rfl), fun Q q => goX Q (br_t a (br_f b (br_f c q))), fun Q q => goM Q (br_t a (br_f b (br_f c q)))⟩
  · exact Or.inl ⟨5, Or.inr (Or.inl rfl), fun Q q => goX Q (br_f a q), fun Q q => goM Q (br_f a q)⟩

/-- a walk of both is refused, or it goes on -/
theorem pc_walk {n : Nat} {T : Nat → gP} {I X : gI} {J Y : gJ} {R : gR} {L : List Nat} {S : gS} (h : Rl n T I J X Y R L S) (v1 v2 : Int32) {F : (Int32 → gI → gJ → gR → Prop) → Prop} {M : (Int32 → gI → gJ → Prop) → Prop}
  {FX : (Int32 → gI → gJ → gR → Prop) → Prop} {FM : (Int32 → gI → gJ → Prop) → Prop}
  (hF : ∀ Q, wX11_noWalk v1 v2 4000 X Y R L S (fun r1 => (r1 = 0 → FX Q) ∧ (¬ r1 = 0 → wX11_refuse r1 X Y R L S (fun r11 I12 J13 R14 => Q r11 I12 J13 R14))) → F Q)
  (hM : ∀ Q, wM_walks v1 v2 I J (fun r1 => (r1 = 0 → FM Q) ∧ (¬ r1 = 0 → wM_no r1 I J (fun r6 I7 J8 => Q r6 I7 J8))) → M Q)
  (go : ∀ j k : Nat, j < n → v1 = nI j → v2 = nI k → k ≤ fh_cs (T j) + 1 → k ≤ 4000 → (∀ Q, FM Q → M Q) → FX (fun r X' Y' R' => M (fun r' I' J' => qE L S r r' I' J' X' Y' R'))) :
  F (fun r X' Y' R' => M (fun r' I' J' => qE L S r r' I' J' X' Y' R')) := by
  rcases walk_cases h v1 v2 with ⟨b, hb, hx, hm⟩ | ⟨j, k, hj, e1, e2, h1, h2, hx, hm⟩
  · exact hF _ (hx _ (br_f (neg_ne0 (by omega) (by omega)) (both_no h b (by omega) (by omega) (fun Q q => hM Q (hm _ (br_f (neg_ne0 (by omega) (by omega)) q))))))
  · exact hF _ (hx _ (br_t rfl (go j k hj e1 e2 h1 h2 (fun Q q => hM Q (hm _ (br_t rfl q))))))
def fh_at (cr : Nat → Nat) (x y : Int32) (i : Nat) : Bool := decide (zI (fh_px cr 0 (i - 1)) = x ∧ zI (fh_py cr 0 (i - 1)) = y)
theorem x_isAt {X : gI} {Y : gJ} {R : gR} {L : List Nat} {S : gS} {b z g : Nat} {t : gP} (hb : bW b z t 0 0 0 g X Y R) (hg : g < 2147483648) (x y : Int32) {Q : Bool → Prop} (hQ : Q (fh_at (fh_cr t) x y (g + 1))) : wX1_isAt b x y X Y R L S Q := by
  obtain ⟨h1, h2, h3, h4, -⟩ := hb
  have bd := px_bd (fh_cr t) 0 g
  rw [Int.zero_add] at h3 h4
  unfold wX1_isAt
  rw [h3, h4, e_atx x (by omega) (by omega), e_atx y (by omega) (by omega)]
  refine ⟨fun n1 => ?_, fun y1 => ⟨fun n2 => ?_, fun y2 => ?_⟩⟩
  · rwa [show fh_at (fh_cr t) x y (g + 1) = false from decide_eq_false (fun e => n1 e.1)] at hQ
  · rwa [show fh_at (fh_cr t) x y (g + 1) = false from decide_eq_false (fun e => n2 e.2)] at hQ
  · rwa [show fh_at (fh_cr t) x y (g + 1) = true from decide_eq_true ⟨y1, y2⟩] at hQ
theorem pn_f {p : Nat → Bool} {m : Nat} (h : p (m + 1) = false) : fh_pn p (m + 1) = fh_pn p m := by
  rw [fh_pn, h]
  rfl
theorem pn_t {p : Nat → Bool} {m : Nat} (h : p (m + 1) = true) : fh_pn p (m + 1) = fh_pn p m + 1 := by
  rw [fh_pn, h]
  rfl
theorem m_passedL {I : gI} {J : gJ} {cr : Nat → Nat} {k : Nat} (hk : k ≤ 4000) (x y : Int32) (hw : ∀ j, j ≤ k → I 14 j = zI (fh_px cr 0 j) ∧ I 15 j = zI (fh_py cr 0 j)) {Q : Int32 → gI → gJ → Prop} (hQ : Q (nI (fh_pn (fh_at cr x y) (k + 1))) I J) : ∃ n : Nat, wM_passed_l41 Q n (nI k) x y 0 0 I J := by
  have key : ∀ d g : Nat, d + g = k + 1 → wM_passed_l41 Q (d + 1) (nI k) x y (nI (fh_pn (fh_at cr x y) g)) (nI g) I J := by
    intro d
    induction d with
    | zero =>
      intro g e
      obtain rfl : g = k + 1 := by omega
      exact br_t (nI_lt (by omega) (by omega)) hQ
    | succ d ih =>
      intro g e
      refine br_f (nI_nlt (by omega) (by omega)) ⟨vp_in_nI (by omega) (by decide), ?_⟩
      have x1 := ih (g + 1) (by omega)
      rw [nI_clamp (show g < 2147483648 by omega), (hw g (by omega)).1, (hw g (by omega)).2, nI_1, nI_1]
      refine ⟨fun n1 => ?_, fun y1 => ⟨fun n2 => ?_, fun y2 => ?_⟩⟩
      · rw [pn_f (p := fh_at cr x y) (m := g) (decide_eq_false (fun e => n1 e.1))] at x1
        exact x1
      · rw [pn_f (p := fh_at cr x y) (m := g) (decide_eq_false (fun e => n2 e.2))] at x1
        exact x1
      · rw [pn_t (p := fh_at cr x y) (m := g) (decide_eq_true ⟨y1, y2⟩)] at x1
        exact x1
  exact ⟨k + 1 + 1, key (k + 1) 0 (by omega)⟩
theorem pc_passed {n : Nat} {T : Nat → gP} {I X : gI} {J Y : gJ} {R : gR} {L : List Nat} {S : gS} (h : Rl n T I J X Y R L S) (v1 v2 v3 v4 : Int32) : wX11_passed v1 v2 v3 v4 X Y R L S (fun r X' Y' R' => wM_passed v1 v2 v3 v4 I J (fun r' I' J' => qE L S r r' I' J' X' Y' R')) := by
  refine pc_walk h v1 v2 (F := fun Q => wX11_passed v1 v2 v3 v4 X Y R L S Q) (M := fun Q => wM_passed v1 v2 v3 v4 I J Q) (fun Q q => q) (fun Q q => q) ?_
  rintro j k hj rfl rfl h1 h2 toM
  obtain ⟨hms, ok, zz, hzz, hL, hS⟩ := h.st hj
  have hn := h.1.1
  have ej : (nI j).toNatClampNeg = j := nI_clamp (by omega)
  refine ⟨vp_in_nI (by omega) (by decide), zz, by rw [ej]; exact hzz, hL, ?_⟩
  rw [zL_0, zI_0]
  refine x_setOut (T j) (fun X0 Y0 R0 b0 f0 => ?_)
  have key : ∀ (d g : Nat) (X' : gI) (Y' : gJ) (R' : gR), d + g = k + 1 → (g ≤ k → bW 0 zz (T j) 0 0 0 g X' Y' R') → bF 0 X Y R X' Y' R' → wX11_passed_l45 L S (fun r X' Y' R' => wM_passed (nI j) (nI k) v3 v4 I J (fun r' I' J' => qE L S r r' I' J' X' Y' R')) (d + 1) (nI k) v3 v4 (nI (fh_pn (fh_at (fh_cr (T j)) v3 v4) g)) (nI g) X' Y' R' := by
    intro d
    induction d with
    | zero =>
      intro g X' Y' R' e _ fr
      obtain rfl : g = k + 1 := by omega
      refine br_t (nI_lt (by omega) (by omega)) (toM _ (m_walk1 (by omega) hms ok h1 h2 (fun I' w1 w2 => ?_)))
      exact m_passedL h2 v3 v4 w1 (qE.of (h.fr (mFr.wk (by omega) w2) fr.xFr) rfl)
    | succ d ih =>
      intro g X' Y' R' e hb fr
      refine br_f (nI_nlt (by omega) (by omega)) (x_isAt (hb (by omega)) (by omega) v3 v4 ?_)
      have go : ∀ v : Int32, v = nI (fh_pn (fh_at (fh_cr (T j)) v3 v4) (g + 1)) → wX11_passed_c67 L S (wX11_passed_l45 L S (fun r X' Y' R' => wM_passed (nI j) (nI k) v3 v4 I J (fun r' I' J' => qE L S r r' I' J' X' Y' R')) (d + 1)) (nI k) v3 v4 v (nI g) X' Y' R' (fun r X' Y' R' => wM_passed (nI j) (nI k) v3 v4 I J (fun r' I' J' => qE L S r r' I' J' X' Y' R')) := by
        intro v hv
        rw [hv]
        unfold wX11_passed_c67
        refine x_stepA hS ok hL (hb (by omega)) (by omega) (by omega) (fun X1 Y1 R1 b1 f1 => ?_)
        rw [nI_1]
        exact ih (g + 1) X1 Y1 R1 (by omega) (fun e => b1 (by omega)) (fr.tr f1)
      refine ⟨fun n1 => go _ ?_, fun y1 => go _ ?_⟩
      · rw [pn_f n1]
      · rw [pn_t y1, nI_1]
  exact ⟨k + 1 + 1, key (k + 1) 0 X0 Y0 R0 (by omega) (fun _ => b0) f0⟩

/-! when -/
def fh_wf (p : Nat → Bool) : Nat → Nat → Nat → Int32
  | 0, _, _ => -1
  | d + 1, g, r => if p (g + 1) = true then (if r = 0 then nI g else fh_wf p d (g + 1) (r - 1)) else fh_wf p d (g + 1) r
theorem m_whenL {I : gI} {J : gJ} {cr : Nat → Nat} {k q : Nat} (hk : k ≤ 4000) (hq : q < 2147483648) (x y : Int32) (hw : ∀ j, j ≤ k → I 14 j = zI (fh_px cr 0 j) ∧ I 15 j = zI (fh_py cr 0 j)) {Q : Int32 → gI → gJ → Prop} (hQ : Q (fh_wf (fh_at cr x y) (k + 1) 0 q) I J) : ∃ n : Nat, wM_when_l56 Q n x y (nI k) (nI q) 0 I J := by
  have key : ∀ d g r : Nat, d + g = k + 1 → r < 2147483648 → fh_wf (fh_at cr x y) d g r = fh_wf (fh_at cr x y) (k + 1) 0 q → wM_when_l56 Q (d + 1) x y (nI k) (nI r) (nI g) I J := by
    intro d
    induction d with
    | zero =>
      intro g r e hr he
      rw [← he] at hQ
      exact br_t (nI_lt (by omega) (by omega)) hQ
    | succ d ih =>
      intro g r e hr he
      refine br_f (nI_nlt (by omega) (by omega)) ⟨vp_in_nI (by omega) (by decide), ?_⟩
      rw [nI_clamp (show g < 2147483648 by omega), (hw g (by omega)).1, (hw g (by omega)).2, nI_1]
      rw [fh_wf] at he
      have E0 : nI r = 0 ↔ r = 0 := nI_eq (b := 0) (by omega) (by omega)
      refine ⟨fun n1 => ?_, fun y1 => ⟨fun y2 => ⟨fun n3 => ?_, fun y3 => ?_⟩, fun n2 => ?_⟩⟩
      · rw [show fh_at cr x y (g + 1) = false from decide_eq_false (fun e => n1 e.1)] at he
        exact ih (g + 1) r (by omega) hr he
      · have nr : ¬ r = 0 := fun e => n3 (E0.mpr e)
        rw [show fh_at cr x y (g + 1) = true from decide_eq_true ⟨y1, y2⟩, if_pos rfl, if_neg nr] at he
        rw [show nI r + (-1) = nI (r - 1) by rw [zI_n, zI_m1, zI_add, zI_n]; congr 1; omega]
        exact ih (g + 1) (r - 1) (by omega) (by omega) he
      · rw [show fh_at cr x y (g + 1) = true from decide_eq_true ⟨y1, y2⟩, if_pos rfl, if_pos (E0.mp y3)] at he
        rw [he]
        exact hQ
      · rw [show fh_at cr x y (g + 1) = false from decide_eq_false (fun e => n2 e.2)] at he
        exact ih (g + 1) r (by omega) hr he
  exact ⟨k + 1 + 1, key (k + 1) 0 q (by omega) hq rfl⟩
theorem both_ten1 {n : Nat} {T : Nat → gP} {I X : gI} {J Y : gJ} {R : gR} {L : List Nat} {S : gS} (h : Rl n T I J X Y R L S) {M : (Int32 → gI → gJ → Prop) → Prop} (b : Nat) (hb : b < 8) (h0 : 0 < b) (hM : ∀ Q : Int32 → gI → gJ → Prop, wM_noTen (-nI b) I J Q → M Q) : wX11_refuse (-nI b) X Y R L S (fun r X' Y' R' => M (fun r' I' J' => qE L S (r + -10) r' I' J' X' Y' R')) :=
  x_refuse b hb h0 (hM _ (m_noTen b hb (qE.rf h b hb)))
theorem pc_when {n : Nat} {T : Nat → gP} {I X : gI} {J Y : gJ} {R : gR} {L : List Nat} {S : gS} (h : Rl n T I J X Y R L S) (v1 v2 v3 v4 : Int32) : wX11_when v1 v2 v3 v4 X Y R L S (fun r X' Y' R' => wM_when v1 v2 v3 v4 I J (fun r' I' J' => qE L S r r' I' J' X' Y' R')) := by
  have hn := h.1.1
  rcases ix_strip v1 hn with g | ⟨j, hj, rfl⟩
  · exact x_stripN h.1.2.2.1 hn g (bff (both_ten1 h 1 (by omega) (by omega) (fun Q q => m_stripN h.1.2.1 g (bff q))))
  refine x_stripY h.1.2.2.1 hn hj (btt ?_)
  rcases Decidable.em (0 ≤ v4) with c | c
  · obtain ⟨q, hq, rfl⟩ : ∃ q : Nat, q < 2147483648 ∧ v4 = nI q := by
      have b2 := v4.toInt_lt
      rw [Int32.le_iff_toInt_le] at c
      have : (0 : Int32).toInt = 0 := rfl
      exact ⟨v4.toInt.toNat, by omega, by
        rw [zI_n, Int.toNat_of_nonneg (by omega)]
        exact zI_of v4⟩
    obtain ⟨hms, ok, zz, hzz, hL, hS⟩ := h.st hj
    have hcs := cs_ge ok
    have ej : (nI j).toNatClampNeg = j := nI_clamp (by omega)
    refine br_t c ⟨vp_in_nI (by omega) (by decide), zz, by rw [ej]; exact hzz, hL, x_sides hS ok ?_⟩
    obtain ⟨k, hk⟩ : ∃ k, k = (if fh_cs (T j) + 1 < 4000 then fh_cs (T j) + 1 else 4000) := ⟨_, rfl⟩
    have hk4 : k ≤ 4000 ∧ k ≤ fh_cs (T j) + 1 := by
      rw [hk]
      split <;> omega
    have El : lN (fh_cs (T j) + 1) < 4000 ↔ fh_cs (T j) + 1 < 4000 := pk_lLT (b := 4000) (by omega) (by omega)
    have El2 : 4000 ≤ lN (fh_cs (T j) + 1) ↔ 4000 ≤ fh_cs (T j) + 1 := pk_lLE (a := 4000) (by omega) (by omega)
    have ek : (if lN (fh_cs (T j) + 1) < 4000 then lN (fh_cs (T j) + 1) else 4000).toInt32 = nI k := by
      rw [hk]
      by_cases cc : fh_cs (T j) + 1 < 4000
      · rw [if_pos cc, if_pos (El.mpr cc), lN_i]
      · rw [if_neg cc, if_neg (fun e => cc (El.mp e))]
        rfl
    rw [ek]
    have toM : ∀ Q, wM_walked 14 15 (nI j) (nI k) 0 I J (fun I6 J7 => ∃ n : Nat, wM_when_l56 Q n v2 v3 (nI k) (nI q) 0 I6 J7) → wM_when (nI j) v2 v3 (nI q) I J Q := by
      intro Q hQ
      refine m_stripY h.1.2.1 hn hj (btt (br_t c (m_creasesOf (by omega) hms ok ?_)))
      rw [show lN (fh_cs (T j)) + 1 = lN (fh_cs (T j) + 1) from lN_add _ 1]
      refine ⟨fun e => ?_, fun e => ?_⟩
      · have : k = 4000 := by rw [hk, if_neg (by have := El2.mp e; omega)]
        rw [this] at hQ
        exact hQ
      · have : k = fh_cs (T j) + 1 := by rw [hk, if_pos (by have := mt El2.mpr e; omega)]
        rw [this] at hQ
        rw [lN_i]
        exact hQ
    rw [zL_0, zI_0]
    refine x_setOut (T j) (fun X0 Y0 R0 b0 f0 => ?_)
    have key : ∀ (d g u : Nat) (X' : gI) (Y' : gJ) (R' : gR), d + g = k + 1 → u ≤ q → (g ≤ k → bW 0 zz (T j) 0 0 0 g X' Y' R') → bF 0 X Y R X' Y' R' → fh_wf (fh_at (fh_cr (T j)) v2 v3) d g (q - u) = fh_wf (fh_at (fh_cr (T j)) v2 v3) (k + 1) 0 q → wX11_when_l72 L S (fun r X' Y' R' => wM_when (nI j) v2 v3 (nI q) I J (fun r' I' J' => qE L S r r' I' J' X' Y' R')) (d + 1) v2 v3 (nI q) (nI k) (nI u) (nI g) X' Y' R' := by
      have fin : ∀ (v : Int32) (X' : gI) (Y' : gJ) (R' : gR), v = fh_wf (fh_at (fh_cr (T j)) v2 v3) (k + 1) 0 q → bF 0 X Y R X' Y' R' → wM_when (nI j) v2 v3 (nI q) I J (fun r' I' J' => qE L S v r' I' J' X' Y' R') := fun v X' Y' R' hv fr =>
        toM _ (m_walk1 (by omega) hms ok hk4.2 hk4.1 (fun I' w1 w2 => m_whenL hk4.1 hq v2 v3 w1 (qE.of (h.fr (mFr.wk (by omega) w2) fr.xFr) hv)))
      intro d
      induction d with
      | zero =>
        intro g u X' Y' R' e hu _ fr he
        exact br_t (nI_lt (by omega) (by omega)) (fin _ _ _ _ he fr)
      | succ d ih =>
        intro g u X' Y' R' e hu hb fr he
        refine br_f (nI_nlt (by omega) (by omega)) (x_isAt (hb (by omega)) (by omega) v2 v3 ?_)
        rw [fh_wf] at he
        have go : ∀ (v : Int32) (u' : Nat), v = nI u' → u' ≤ q → fh_wf (fh_at (fh_cr (T j)) v2 v3) d (g + 1) (q - u') = fh_wf (fh_at (fh_cr (T j)) v2 v3) (k + 1) 0 q → wX11_when_c104 L S (wX11_when_l72 L S (fun r X' Y' R' => wM_when (nI j) v2 v3 (nI q) I J (fun r' I' J' => qE L S r r' I' J' X' Y' R')) (d + 1)) v2 v3 (nI q) (nI k) v (nI g) X' Y' R' (fun r X' Y' R' => wM_when (nI j) v2 v3 (nI q) I J (fun r' I' J' => qE L S r r' I' J' X' Y' R')) := by
          intro v u' hv hu' he'
          rw [hv]
          unfold wX11_when_c104
          refine x_stepA hS ok hL (hb (by omega)) (by omega) (by omega) (fun X1 Y1 R1 b1 f1 => ?_)
          rw [nI_1]
          exact ih (g + 1) u' X1 Y1 R1 (by omega) hu' (fun e => b1 (by omega)) (fr.tr f1) he'
        have E0 : nI u = nI q ↔ u = q := nI_eq (by omega) (by omega)
        refine ⟨fun n1 => ?_, fun y1 => ⟨fun n3 => ?_, fun y3 => ?_⟩⟩
        · rw [n1, if_neg (show ¬ false = true by decide)] at he
          exact go _ u rfl hu he
        · have nr : ¬ u = q := fun e => n3 (E0.mpr e)
          rw [y1, if_pos rfl, if_neg (by omega)] at he
          exact go _ (u + 1) (nI_1 u) (by omega) (by rw [show q - (u + 1) = q - u - 1 by omega]; exact he)
        · rw [y1, if_pos rfl, if_pos (by have := E0.mp y3; omega)] at he
          exact fin _ _ _ _ he fr
    exact ⟨k + 1 + 1, key (k + 1) 0 0 X0 Y0 R0 (by omega) (by omega) (fun _ => b0) f0 rfl⟩
  · exact br_f c (both_ten1 h 5 (by omega) (by omega) (fun Q q => m_stripY h.1.2.1 hn hj (btt (br_f c q))))
