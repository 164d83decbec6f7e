/-! four: the class -/
theorem kp_inj {x y x' y' : Int} {u u' : Nat} (x1 : -4000 ≤ x) (x2 : x ≤ 4000) (y1 : -4000 ≤ y) (y2 : y ≤ 4000) (hu : u ≤ 1) (x1' : -4000 ≤ x') (x2' : x' ≤ 4000) (y1' : -4000 ≤ y') (y2' : y' ≤ 4000) (hu' : u' ≤ 1) (e : fh_kp x y u = fh_kp x' y' u') : x = x' ∧ y = y' ∧ u = u' := by
  have e1 := (kp_b x1 x2 y1 y2 hu).2.2
  have e2 := (kp_b x1' x2' y1' y2' hu').2.2
  rw [e] at e1
  omega
def fh_D4 (cr : Nat → Nat) (n : Nat) : Nat → List Nat
  | 0 => []
  | w + 1 => fh_kl (fh_sk cr (w : Int)) n ++ fh_D4 cr n w
theorem D4_len (cr : Nat → Nat) (n : Nat) : ∀ w : Nat, (fh_D4 cr n w).length = n * w
  | 0 => rfl
  | w + 1 => by rw [fh_D4, List.length_append, kl_len, D4_len cr n w, Nat.mul_succ, Nat.add_comm]
def fh_okc (D : List Nat) (r a b : Nat) : Bool := decide ((a = 2 * r ∨ D.count (fh_kp ((a : Int) - r) ((b : Int) - r) 0) = 1) ∧ (b = 2 * r ∨ D.count (fh_kp ((a : Int) - r) ((b : Int) - r) 1) = 1))
def fh_al (D : List Nat) (r : Nat) : Bool := decide (∀ a, a < 2 * r + 1 → ∀ b, b < 2 * r + 1 → fh_okc D r a b = true)
theorem al_f {D : List Nat} {r a b : Nat} (ha : a < 2 * r + 1) (hb : b < 2 * r + 1) (h : fh_okc D r a b = false) : fh_al D r = false :=
  decide_eq_false (fun e => by
    have := e a ha b hb
    rw [h] at this
    exact Bool.noConfusion this)
def fh_rc (D : List Nat) : Nat → Nat → Nat
  | 0, v => v
  | f + 1, v => if fh_al D (v + 1) = true then fh_rc D f (v + 1) else v
theorem x_once {X : gI} {Y : gJ} {R : gR} {L : List Nat} {S : gS} {D : List Nat} (T : xTb X D) (hD : D.length < 8192) {r : Nat} (hr : r ≤ 30) {Q : Bool → Prop} (hQ : Q (fh_al D r)) : wX1_wentOnceAlongAll 0 (nI r) X Y R L S Q := by
  have cl : ∀ k, D.count k ≤ D.length := fun k => List.count_le_length
  have outer : ∀ d a : Nat, d + a = 2 * r + 1 → (∀ a', a' < a → ∀ b, b < 2 * r + 1 → fh_okc D r a' b = true) → wX1_wentOnceAlongAll_l3 0 X Y R L S Q (d + 1) (nI r) (zI ((a : Int) - r)) := by
    intro d
    induction d with
    | zero =>
      intro a e ha
      obtain rfl : a = 2 * r + 1 := by omega
      refine br_t ?_ ?_
      · rw [zI_n, zI_lt (by omega) (by omega) (by omega) (by omega)]
        omega
      · rwa [show fh_al D r = true from decide_eq_true ha] at hQ
    | succ d ih =>
      intro a e ha
      have inner : ∀ f b : Nat, f + b = 2 * r + 1 → (∀ b', b' < b → fh_okc D r a b' = true) → wX1_wentOnceAlongAll_l11 0 X Y R L S (wX1_wentOnceAlongAll_l3 0 X Y R L S Q (d + 1)) Q (f + 1) (nI r) (zI ((a : Int) - r)) (zI ((b : Int) - r)) := by
        intro f
        induction f with
        | zero =>
          intro b e' hb
          obtain rfl : b = 2 * r + 1 := by omega
          refine br_t ?_ ?_
          · rw [zI_n, zI_lt (by omega) (by omega) (by omega) (by omega)]
            omega
          · rw [zI_1, zI_add, show ((a : Int) - r + 1) = ((a + 1 : Nat) : Int) - r by omega]
            refine ih (a + 1) (by omega) (fun a' h1 => ?_)
            by_cases ea : a' = a
            · rw [ea]
              exact hb
            · exact ha a' (by omega)
        | succ f ih' =>
          intro b e' hb
          obtain ⟨p1, p2, -⟩ := kp_b (x := (a : Int) - r) (y := (b : Int) - r) (u := 0) (by omega) (by omega) (by omega) (by omega) (by omega)
          obtain ⟨p3, p4, -⟩ := kp_b (x := (a : Int) - r) (y := (b : Int) - r) (u := 1) (by omega) (by omega) (by omega) (by omega) (by omega)
          have c0 := cl (fh_kp ((a : Int) - r) ((b : Int) - r) 0)
          have c1 := cl (fh_kp ((a : Int) - r) ((b : Int) - r) 1)
          have E0 : nI (D.count (fh_kp ((a : Int) - r) ((b : Int) - r) 0)) = 1 ↔ D.count (fh_kp ((a : Int) - r) ((b : Int) - r) 0) = 1 := nI_eq (b := 1) (by omega) (by omega)
          have E1 : nI (D.count (fh_kp ((a : Int) - r) ((b : Int) - r) 1)) = 1 ↔ D.count (fh_kp ((a : Int) - r) ((b : Int) - r) 1) = 1 := nI_eq (b := 1) (by omega) (by omega)
          have Ea : zI ((a : Int) - r) = nI r ↔ a = 2 * r := by
            rw [zI_n, zI_i (by omega) (by omega) (by omega) (by omega)]
            omega
          have Eb : zI ((b : Int) - r) = nI r ↔ b = 2 * r := by
            rw [zI_n, zI_i (by omega) (by omega) (by omega) (by omega)]
            omega
          have bad : fh_okc D r a b = false → Q false := fun h => by
            rwa [al_f (by omega) (by omega) h] at hQ
          have c70 : ∀ u v : Bool, (u = true ↔ (a = 2 * r ∨ D.count (fh_kp ((a : Int) - r) ((b : Int) - r) 0) = 1)) → (v = true ↔ (b = 2 * r ∨ D.count (fh_kp ((a : Int) - r) ((b : Int) - r) 1) = 1)) → wX1_wentOnceAlongAll_c70 0 X Y R L S (wX1_wentOnceAlongAll_l3 0 X Y R L S Q (d + 1)) (wX1_wentOnceAlongAll_l11 0 X Y R L S (wX1_wentOnceAlongAll_l3 0 X Y R L S Q (d + 1)) Q (f + 1)) (nI r) (zI ((a : Int) - r)) (zI ((b : Int) - r)) (bI u) (bI v) Q := by
            intro u v hu hv
            cases u
            · exact br_t rfl (bad (decide_eq_false (fun e => Bool.noConfusion (hu.mpr e.1))))
            cases v
            · exact br_f (by decide) (br_n rfl (bad (decide_eq_false (fun e => Bool.noConfusion (hv.mpr e.2)))))
            · refine br_f (by decide) (br_m (by decide) ?_)
              rw [zI_1, zI_add, show ((b : Int) - r + 1) = ((b + 1 : Nat) : Int) - r by omega]
              refine ih' (b + 1) (by omega) (fun b' h1 => ?_)
              by_cases eb : b' = b
              · rw [eb]
                exact decide_eq_true ⟨hu.mp rfl, hv.mp rfl⟩
              · exact hb b' (by omega)
          have c42 : ∀ u : Bool, (u = true ↔ (a = 2 * r ∨ D.count (fh_kp ((a : Int) - r) ((b : Int) - r) 0) = 1)) → wX1_wentOnceAlongAll_c42 0 X Y R L S (wX1_wentOnceAlongAll_l3 0 X Y R L S Q (d + 1)) (wX1_wentOnceAlongAll_l11 0 X Y R L S (wX1_wentOnceAlongAll_l3 0 X Y R L S Q (d + 1)) Q (f + 1)) (nI r) (zI ((a : Int) - r)) (zI ((b : Int) - r)) (bI u) Q := by
            intro u hu
            unfold wX1_wentOnceAlongAll_c42
            rw [Eb]
            refine ⟨fun y => c70 u true hu ⟨fun _ => Or.inl y, fun _ => rfl⟩, fun n => ?_⟩
            rw [zI_l (by omega) (by omega), zI_l (by omega) (by omega)]
            refine x_key (u := 1) (by omega) (by omega) (by omega) (by omega) (by omega) (x_timesOf T hD p3 p4 ?_)
            rw [E1]
            exact ⟨fun n1 => c70 u false hu ⟨fun e => Bool.noConfusion e, fun e => absurd e (fun e => e.elim n n1)⟩, fun y1 => c70 u true hu ⟨fun _ => Or.inr y1, fun _ => rfl⟩⟩
          refine br_f ?_ ?_
          · rw [zI_n, zI_lt (by omega) (by omega) (by omega) (by omega)]
            omega
          rw [Ea]
          refine ⟨fun y => c42 true ⟨fun _ => Or.inl y, fun _ => rfl⟩, fun n => ?_⟩
          rw [zI_l (by omega) (by omega), zI_l (by omega) (by omega)]
          refine x_key (u := 0) (by omega) (by omega) (by omega) (by omega) (by omega) (x_timesOf T hD p1 p2 ?_)
          rw [E0]
          exact ⟨fun n1 => c42 false ⟨fun e => Bool.noConfusion e, fun e => absurd e (fun e => e.elim n n1)⟩, fun y1 => c42 true ⟨fun _ => Or.inr y1, fun _ => rfl⟩⟩
      refine br_f ?_ ⟨2 * r + 1 + 1, ?_⟩
      · rw [zI_n, zI_lt (by omega) (by omega) (by omega) (by omega)]
        omega
      · have x := inner (2 * r + 1) 0 (by omega) (fun b' h1 => absurd h1 (by omega))
        rw [show (((0 : Nat) : Int) - r) = -(r : Int) by omega, ← zI_neg, ← zI_n] at x
        exact x
  have x := outer (2 * r + 1) 0 (by omega) (fun a' h1 => absurd h1 (by omega))
  rw [show (((0 : Nat) : Int) - r) = -(r : Int) by omega, ← zI_neg, ← zI_n] at x
  exact ⟨2 * r + 1 + 1, x⟩
theorem x_reach {X : gI} {Y : gJ} {R : gR} {L : List Nat} {S : gS} {D : List Nat} (T : xTb X D) (hD : D.length < 8192) {Q : Int32 → gI → gJ → gR → Prop} (hQ : Q (nI (fh_rc D 30 0)) X Y R) : ∃ n : Nat, wX11_four_l99 L S Q n 0 X Y R := by
  have key : ∀ f v : Nat, f + v = 30 → fh_rc D f v = fh_rc D 30 0 → wX11_four_l99 L S Q (f + 1) (nI v) X Y R := by
    intro f
    induction f with
    | zero =>
      intro v e h
      obtain rfl : v = 30 := by omega
      rw [fh_rc] at h
      rw [← h] at hQ
      exact br_t (nI_le (a := 30) (Nat.le_refl _) (by omega)) hQ
    | succ f ih =>
      intro v e h
      refine br_f (nI_ge (b := 30) (by omega) (by omega)) ?_
      rw [nI_1]
      refine x_once T hD (by omega) ?_
      rw [fh_rc] at h
      refine ⟨fun n => ?_, fun y => ?_⟩
      · rw [n, if_neg (by decide)] at h
        rw [h]
        exact hQ
      · rw [y, if_pos rfl] at h
        exact ih (v + 1) (by omega) h
  exact ⟨31, key 30 0 (by omega) rfl⟩
theorem x_fourL {X : gI} {Y : gJ} {R : gR} {L : List Nat} {S : gS} {j z i : Nat} {t : gP} (hj : j < 8) (hz : R 0 j = some z) (hS : S z = xV t i) (ok : stok t) (hL : z ∈ L) {k : Nat} (hk : k ≤ 1000) (hc : k ≤ fh_cs t + 1) (T : xTb X []) {Q : Int32 → gI → gJ → gR → Prop} (hQ : ∀ X' Y' R', xFr X Y R X' Y' R' → Q (nI (fh_rc (fh_D4 (fh_cr t) k 4) 30 0)) X' Y' R') : ∃ n : Nat, wX11_four_l30 L S Q n (nI j) (nI k) 0 X Y R := by
  have ej : (nI j).toNatClampNeg = j := nI_clamp (by omega)
  have key : ∀ (d w : Nat) (X' : gI) (Y' : gJ) (R' : gR), d + w = 4 → xTb X' (fh_D4 (fh_cr t) k w) → xFr X Y R X' Y' R' → wX11_four_l30 L S Q (d + 1) (nI j) (nI k) (nI w) X' Y' R' := by
    intro d
    induction d with
    | zero =>
      intro w X' Y' R' e T' fr
      obtain rfl : w = 4 := by omega
      refine br_t (nI_le (a := 4) (b := 4) (Nat.le_refl _) (by omega)) (x_reach T' (by rw [D4_len]; omega) (hQ X' Y' R' fr))
    | succ d ih =>
      intro w X' Y' R' e T' fr
      refine br_f (nI_ge (b := 4) (by omega) (by omega)) ⟨vp_in_nI hj (by decide), z, by rw [ej, fr.2.2.2 0 (by omega)]; exact hz, hL, ?_⟩
      rw [zL_0, zI_n w]
      refine x_setOut t (fun X1 Y1 R1 b1 f1 => ?_)
      have lw : (fh_D4 (fh_cr t) k w).length ≤ 3000 := by
        rw [D4_len]
        have := Nat.mul_le_mul hk (show w ≤ 3 by omega)
        omega
      have inner : ∀ (f g : Nat) (X' : gI) (Y' : gJ) (R' : gR), f + g = k → xTb X' (fh_kl (fh_sk (fh_cr t) (w : Int)) g ++ fh_D4 (fh_cr t) k w) → bW 0 z t 0 0 (w : Int) g X' Y' R' → xFr X Y R X' Y' R' → wX11_four_l56 L S (wX11_four_l30 L S Q (d + 1)) Q (f + 1) (nI j) (nI k) (zI (w : Int)) (nI g) X' Y' R' := by
        intro f
        induction f with
        | zero =>
          intro g X' Y' R' e' T' _ fr
          obtain rfl : g = k := by omega
          refine br_t (nI_le (Nat.le_refl _) (by omega)) ?_
          rw [← zI_n, nI_1]
          exact ih (w + 1) X' Y' R' (by omega) T' fr
        | succ f ih' =>
          intro g X' Y' R' e' T' hb fr
          obtain ⟨k1, k2⟩ := sk_b (fh_cr t) (w : Int) (show g + 1 ≤ 4000 by omega)
          refine br_f (nI_ge (by omega) (by omega)) (x_step hS ok hL hb (by omega) (by omega) (fun X2 Y2 R2 b2 f2 => ?_))
          refine x_sideKey b2 (by omega) (x_note (T'.cg (f2.1 6 (by omega) (by omega)) (f2.1 8 (by omega) (by omega))) (by rw [List.length_append, kl_len]; omega) k1 k2 (fun X3 T3 f3 => ?_))
          rw [nI_1]
          exact ih' (g + 1) X3 Y2 R2 (by omega) T3 (b2.nt f3) ((fr.tr f2.xFr).tr (xFr.nt f3))
      exact ⟨k + 1, inner k 0 X1 Y1 R1 (by omega) (T'.cg (f1.1 6 (by omega) (by omega)) (f1.1 8 (by omega) (by omega))) b1 (fr.tr f1.xFr)⟩
  exact ⟨5, key 4 0 X Y R (by omega) T xFr.rf⟩
