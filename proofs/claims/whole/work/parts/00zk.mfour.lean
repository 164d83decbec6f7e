/-! four: the reference, and both -/
def fh_cl (x y : Int) : Nat := (61 * (y + 30) + x + 30).toNat
theorem cl_b {x y : Int} (x1 : -30 ≤ x) (x2 : x ≤ 30) (y1 : -30 ≤ y) (y2 : y ≤ 30) : fh_cl x y < 3721 ∧ (fh_cl x y : Int) = 61 * (y + 30) + x + 30 := by
  unfold fh_cl
  omega
theorem cl_e {x y : Int} (x1 : -30 ≤ x) (x2 : x ≤ 30) (y1 : -30 ≤ y) (y2 : y ≤ 30) : ((61 * (zI y + 30)) + zI x) + 30 = nI (fh_cl x y) := by
  rw [show (61 : Int32) = zI 61 from rfl, show (30 : Int32) = zI 30 from rfl, zI_add, zI_mul, zI_add, zI_add, zI_n, (cl_b x1 x2 y1 y2).2]
def gMd (I : gI) (D : List Nat) : Prop :=
  (∀ x y : Int, -30 ≤ x → x ≤ 29 → -30 ≤ y → y ≤ 30 → I 20 (fh_cl x y) = nI (D.count (fh_kp x y 0))) ∧
  (∀ x y : Int, -30 ≤ x → x ≤ 30 → -30 ≤ y → y ≤ 29 → I 21 (fh_cl x y) = nI (D.count (fh_kp x y 1)))
theorem m_once {I : gI} {J : gJ} {D : List Nat} (G : gMd I D) (hD : D.length < 8192) {r : Nat} (hr : r ≤ 30) {Q : Bool → Prop} (hQ : Q (fh_al D r)) : wM_isOnce (nI r) I J Q := by
  have cl : ∀ k, D.count k ≤ D.length := fun k => List.count_le_length
  have outer : ∀ d b : Nat, d + b = 2 * r + 1 → (∀ b', b' < b → ∀ a, a < 2 * r + 1 → fh_okc D r a b' = true) → wM_isOnce_l3 I J Q (d + 1) (nI r) (zI ((b : Int) - r)) := by
    intro d
    induction d with
    | zero =>
      intro b e hb
      obtain rfl : b = 2 * r + 1 := by omega
      refine br_t ?_ ?_
      · rw [zI_n, zI_lt (by omega) (by omega) (by omega) (by omega)]
        omega
      · rwa [show fh_al D r = true from decide_eq_true (fun a ha b hb' => hb b hb' a ha)] at hQ
    | succ d ih =>
      intro b e hb
      have inner : ∀ f a : Nat, f + a = 2 * r + 1 → (∀ a', a' < a → fh_okc D r a' b = true) → wM_isOnce_l11 I J (wM_isOnce_l3 I J Q (d + 1)) Q (f + 1) (nI r) (zI ((b : Int) - r)) (zI ((a : Int) - r)) := by
        intro f
        induction f with
        | zero =>
          intro a e' ha
          obtain rfl : a = 2 * r + 1 := by omega
          refine br_t ?_ ?_
          · rw [zI_n, zI_lt (by omega) (by omega) (by omega) (by omega)]
            omega
          · rw [zI_1, zI_add, show ((b : Int) - r + 1) = ((b + 1 : Nat) : Int) - r by omega]
            refine ih (b + 1) (by omega) (fun b' h1 => ?_)
            by_cases eb : b' = b
            · rw [eb]
              exact ha
            · exact hb b' (by omega)
        | succ f ih' =>
          intro a e' ha
          have c0 := cl (fh_kp ((a : Int) - r) ((b : Int) - r) 0)
          have c1 := cl (fh_kp ((a : Int) - r) ((b : Int) - r) 1)
          have E0 : nI (D.count (fh_kp ((a : Int) - r) ((b : Int) - r) 0)) = 1 ↔ D.count (fh_kp ((a : Int) - r) ((b : Int) - r) 0) = 1 := nI_eq (b := 1) (by omega) (by omega)
          have E1 : nI (D.count (fh_kp ((a : Int) - r) ((b : Int) - r) 1)) = 1 ↔ D.count (fh_kp ((a : Int) - r) ((b : Int) - r) 1) = 1 := nI_eq (b := 1) (by omega) (by omega)
          have Ea : nI r ≤ zI ((a : Int) - r) ↔ a = 2 * r := by
            rw [zI_n, zI_le (by omega) (by omega) (by omega) (by omega)]
            omega
          have Eb : nI r ≤ zI ((b : Int) - r) ↔ b = 2 * r := by
            rw [zI_n, zI_le (by omega) (by omega) (by omega) (by omega)]
            omega
          have bc := (cl_b (x := (a : Int) - r) (y := (b : Int) - r) (by omega) (by omega) (by omega) (by omega)).1
          have bad : fh_okc D r a b = false → Q false := fun h => by
            rwa [al_f (by omega) (by omega) h] at hQ
          have next : (a = 2 * r ∨ D.count (fh_kp ((a : Int) - r) ((b : Int) - r) 0) = 1) → (b = 2 * r ∨ D.count (fh_kp ((a : Int) - r) ((b : Int) - r) 1) = 1) → wM_isOnce_l11 I J (wM_isOnce_l3 I J Q (d + 1)) Q (f + 1) (nI r) (zI ((b : Int) - r)) (zI ((a : Int) - r) + 1) := by
            intro h1 h2
            rw [zI_1, zI_add, show ((a : Int) - r + 1) = ((a + 1 : Nat) : Int) - r by omega]
            refine ih' (a + 1) (by omega) (fun a' h3 => ?_)
            by_cases ea : a' = a
            · rw [ea]
              exact decide_eq_true ⟨h1, h2⟩
            · exact ha a' (by omega)
          have c46 : (a = 2 * r ∨ D.count (fh_kp ((a : Int) - r) ((b : Int) - r) 0) = 1) → wM_isOnce_c46 I J (wM_isOnce_l3 I J Q (d + 1)) (wM_isOnce_l11 I J (wM_isOnce_l3 I J Q (d + 1)) Q (f + 1)) (nI r) (zI ((b : Int) - r)) (zI ((a : Int) - r)) (nI (fh_cl ((a : Int) - r) ((b : Int) - r))) Q := by
            intro h1
            unfold wM_isOnce_c46
            rw [Eb]
            refine ⟨fun y => next h1 (Or.inl y), fun n => ⟨vp_in_nI bc (by decide), ?_⟩⟩
            rw [nI_clamp (by omega), G.2 _ _ (by omega) (by omega) (by omega) (by omega), E1]
            exact ⟨fun y => next h1 (Or.inr y), fun n1 => bad (decide_eq_false (fun e => e.2.elim n n1))⟩
          refine br_f ?_ ?_
          · rw [zI_n, zI_lt (by omega) (by omega) (by omega) (by omega)]
            omega
          rw [Ea, cl_e (by omega) (by omega) (by omega) (by omega)]
          refine ⟨fun y => c46 (Or.inl y), fun n => ⟨vp_in_nI bc (by decide), ?_⟩⟩
          rw [nI_clamp (by omega), G.1 _ _ (by omega) (by omega) (by omega) (by omega), E0]
          exact ⟨fun n1 => bad (decide_eq_false (fun e => e.1.elim n n1)), fun y => c46 (Or.inr y)⟩
      refine br_f ?_ ⟨2 * r + 1 + 1, ?_⟩
      · rw [zI_n, zI_lt (by omega) (by omega) (by omega) (by omega)]
        omega
      · have x := inner (2 * r + 1) 0 (by omega) (fun b' h1 => absurd h1 (by omega))
        rw [show (((0 : Nat) : Int) - r) = -(r : Int) by omega, ← zI_neg, ← zI_n] at x
        exact x
  have x := outer (2 * r + 1) 0 (by omega) (fun a' h1 => absurd h1 (by omega))
  rw [show (((0 : Nat) : Int) - r) = -(r : Int) by omega, ← zI_neg, ← zI_n] at x
  exact ⟨2 * r + 1 + 1, x⟩
theorem m_reach {I : gI} {J : gJ} {D : List Nat} (G : gMd I D) (hD : D.length < 8192) {Q : Int32 → gI → gJ → Prop} (hQ : Q (nI (fh_rc D 30 0)) I J) : ∃ n : Nat, wM_four_l323 Q n 0 I J := by
  have key : ∀ f v : Nat, f + v = 30 → fh_rc D f v = fh_rc D 30 0 → wM_four_l323 Q (f + 1) (nI v) I J := by
    intro f
    induction f with
    | zero =>
      intro v e h
      obtain rfl : v = 30 := by omega
      rw [fh_rc] at h
      rw [← h] at hQ
      exact br_t (nI_le (a := 30) (Nat.le_refl _) (by omega)) hQ
    | succ f ih =>
      intro v e h
      refine br_f (nI_ge (b := 30) (by omega) (by omega)) ?_
      rw [nI_1]
      refine m_once G hD (by omega) ?_
      rw [fh_rc] at h
      refine ⟨fun n => ?_, fun y => ?_⟩
      · rw [n, if_neg (by decide)] at h
        rw [h]
        exact hQ
      · rw [y, if_pos rfl] at h
        exact ih (v + 1) (by omega) h
  exact ⟨31, key 30 0 (by omega) rfl⟩
theorem m_within {I : gI} {J : gJ} {x y : Int} (x1 : -4000 ≤ x) (x2 : x ≤ 4000) (y1 : -4000 ≤ y) (y2 : y ≤ 4000) {Q : Bool → Prop} (hT : (-30 ≤ x ∧ x ≤ 30 ∧ -30 ≤ y ∧ y ≤ 30) → Q true) (hF : ¬ (-30 ≤ x ∧ x ≤ 30 ∧ -30 ≤ y ∧ y ≤ 30) → Q false) : wM_isWithin (zI x) (zI y) I J Q := by
  unfold wM_isWithin
  rw [show (-30 : Int32) = zI (-30) from rfl, show (30 : Int32) = zI 30 from rfl, zI_lt (by omega) (by omega) (by omega) (by omega), zI_lt (by omega) (by omega) (by omega) (by omega), zI_lt (by omega) (by omega) (by omega) (by omega), zI_lt (by omega) (by omega) (by omega) (by omega)]
  refine ⟨fun h => hF (by omega), fun h => ⟨fun h => hF (by omega), fun h => ⟨fun h => hF (by omega), fun h => ⟨fun h => hF (by omega), fun h => hT (by omega)⟩⟩⟩⟩
theorem cl_inj {x y x' y' : Int} (x1 : -30 ≤ x) (x2 : x ≤ 30) (y1 : -30 ≤ y) (y2 : y ≤ 30) (x1' : -30 ≤ x') (x2' : x' ≤ 30) (y1' : -30 ≤ y') (y2' : y' ≤ 30) (e : fh_cl x y = fh_cl x' y') : x = x' ∧ y = y' := by
  have e1 := (cl_b x1 x2 y1 y2).2
  have e2 := (cl_b x1' x2' y1' y2').2
  rw [e] at e1
  omega
/-- a side not within the grid counts nowhere in it -/
theorem gMd_out {I : gI} {D : List Nat} (G : gMd I D) {k : Nat} (h : ∀ x y : Int, ∀ u : Nat, u ≤ 1 → -30 ≤ x → x ≤ 30 → -30 ≤ y → y ≤ 30 → (u = 0 → x ≤ 29) → (u = 1 → y ≤ 29) → k ≠ fh_kp x y u) : gMd I (k :: D) :=
  ⟨fun x y x1 x2 y1 y2 => by
    rw [List.count_cons_of_ne (h x y 0 (by omega) x1 (by omega) y1 y2 (by omega) (by omega))]
    exact G.1 x y x1 x2 y1 y2, fun x y x1 x2 y1 y2 => by
    rw [List.count_cons_of_ne (h x y 1 (by omega) x1 x2 y1 (by omega) (by omega) (by omega))]
    exact G.2 x y x1 x2 y1 y2⟩
theorem gMd_0 {I : gI} {D : List Nat} (G : gMd I D) {x y : Int} (x1 : -30 ≤ x) (x2 : x ≤ 29) (y1 : -30 ≤ y) (y2 : y ≤ 30) : gMd (upI I 20 (fh_cl x y) (I 20 (fh_cl x y) + 1)) (fh_kp x y 0 :: D) := by
  refine ⟨fun x' y' x1' x2' y1' y2' => ?_, fun x' y' x1' x2' y1' y2' => ?_⟩
  · rw [upI_s]
    by_cases e : fh_cl x' y' = fh_cl x y
    · obtain ⟨e1, e2⟩ := cl_inj x1' (by omega) y1' y2' x1 (by omega) y1 y2 e
      rw [e1, e2, upd_s, List.count_cons_self, G.1 x y x1 x2 y1 y2, nI_1]
    · rw [upd_n e, List.count_cons_of_ne (fun ek => e (by
        obtain ⟨e1, e2, -⟩ := kp_inj (by omega) (by omega) (by omega) (by omega) (by omega) (by omega) (by omega) (by omega) (by omega) (by omega) ek
        rw [e1, e2]))]
      exact G.1 x' y' x1' x2' y1' y2'
  · rw [upI_n (by omega), List.count_cons_of_ne (fun ek => by
      obtain ⟨-, -, e3⟩ := kp_inj (by omega) (by omega) (by omega) (by omega) (by omega) (by omega) (by omega) (by omega) (by omega) (by omega) ek
      omega)]
    exact G.2 x' y' x1' x2' y1' y2'
theorem gMd_1 {I : gI} {D : List Nat} (G : gMd I D) {x y : Int} (x1 : -30 ≤ x) (x2 : x ≤ 30) (y1 : -30 ≤ y) (y2 : y ≤ 29) : gMd (upI I 21 (fh_cl x y) (I 21 (fh_cl x y) + 1)) (fh_kp x y 1 :: D) := by
  refine ⟨fun x' y' x1' x2' y1' y2' => ?_, fun x' y' x1' x2' y1' y2' => ?_⟩
  · rw [upI_n (by omega), List.count_cons_of_ne (fun ek => by
      obtain ⟨-, -, e3⟩ := kp_inj (by omega) (by omega) (by omega) (by omega) (by omega) (by omega) (by omega) (by omega) (by omega) (by omega) ek
      omega)]
    exact G.1 x' y' x1' x2' y1' y2'
  · rw [upI_s]
    by_cases e : fh_cl x' y' = fh_cl x y
    · obtain ⟨e1, e2⟩ := cl_inj x1' x2' y1' (by omega) x1 x2 y1 (by omega) e
      rw [e1, e2, upd_s, List.count_cons_self, G.2 x y x1 x2 y1 y2, nI_1]
    · rw [upd_n e, List.count_cons_of_ne (fun ek => e (by
        obtain ⟨e1, e2, -⟩ := kp_inj (by omega) (by omega) (by omega) (by omega) (by omega) (by omega) (by omega) (by omega) (by omega) (by omega) ek
        rw [e1, e2]))]
      exact G.2 x' y' x1' x2' y1' y2'
theorem m_four106 {I : gI} {J : gJ} {cr : Nat → Nat} {w : Int} {k : Nat} {D : List Nat} (hk : k ≤ 1000) (hw : ∀ j, j ≤ k → I 14 j = zI (fh_px cr w j) ∧ I 15 j = zI (fh_py cr w j)) (G : gMd I D) {B83 : Int32 → Int32 → Int32 → gI → gJ → Prop} {v1 v3 : Int32} {Q : Int32 → gI → gJ → Prop} (hB : ∀ I', gMd I' (fh_kl (fh_sk cr w) k ++ D) → (∀ a, a ≠ 20 → a ≠ 21 → I' a = I a) → B83 v1 (nI k) (v3 + 1) I' J) : ∃ n : Nat, wM_four_l106 B83 Q n v1 (nI k) v3 1 I J := by
  have key : ∀ (d g : Nat) (I' : gI), d + g = k → gMd I' (fh_kl (fh_sk cr w) g ++ D) → (∀ a, a ≠ 20 → a ≠ 21 → I' a = I a) → wM_four_l106 B83 Q (d + 1) v1 (nI k) v3 (nI (g + 1)) I' J := by
    intro d
    induction d with
    | zero =>
      intro g I' e G' f1
      obtain rfl : g = k := by omega
      exact br_t (nI_lt (by omega) (by omega)) (hB I' G' f1)
    | succ d ih =>
      intro g I' e G' f1
      obtain ⟨b1, b2, b3, b4⟩ := px_4 cr w (show g + 1 ≤ 4000 by omega)
      obtain ⟨c1, c2, c3, c4⟩ := px_4 cr w (show g ≤ 4000 by omega)
      have e1 : nI (g + 1) - 1 = nI g := by rw [zI_n, zI_1, zI_sub, zI_n]; congr 1; omega
      have in1 : vp_in (nI (g + 1)) 4001 := vp_in_nI (by omega) (by decide)
      have in0 : vp_in (nI g) 4001 := vp_in_nI (by omega) (by decide)
      obtain ⟨w1, w2⟩ := hw g (by omega)
      obtain ⟨w3, w4⟩ := hw (g + 1) (by omega)
      have p := px_1 cr w g
      have q := py_1 cr w g
      have next : ∀ I2 : gI, gMd I2 (fh_sk cr w g :: (fh_kl (fh_sk cr w) g ++ D)) → (∀ a, a ≠ 20 → a ≠ 21 → I2 a = I a) → wM_four_l106 B83 Q (d + 1) v1 (nI k) v3 (nI (g + 1) + 1) I2 J := by
        intro I2 G2 g2
        rw [nI_1]
        exact ih (g + 1) I2 (by omega) G2 g2
      have es : fh_sk cr w g = fh_kp (fh_mi (fh_px cr w g) (fh_px cr w (g + 1))) (fh_mi (fh_py cr w g) (fh_py cr w (g + 1))) (if fh_px cr w (g + 1) = fh_px cr w g then 1 else 0) := rfl
      rw [es] at next
      -- which way it goes
      have way : (fh_py cr w (g + 1) = fh_py cr w g ∧ (fh_px cr w (g + 1) = fh_px cr w g + 1 ∨ fh_px cr w (g + 1) = fh_px cr w g - 1)) ∨ (fh_px cr w (g + 1) = fh_px cr w g ∧ (fh_py cr w (g + 1) = fh_py cr w g + 1 ∨ fh_py cr w (g + 1) = fh_py cr w g - 1)) := by
        rcases u_cases (w + fh_dr cr g) with ⟨_, u1, u2⟩ | ⟨_, u1, u2⟩ | ⟨_, u1, u2⟩ | ⟨_, u1, u2⟩ <;> rw [u1] at p <;> rw [u2] at q <;> omega
      clear p q
      generalize fh_px cr w (g + 1) = A' at *
      generalize fh_py cr w (g + 1) = B' at *
      generalize fh_px cr w g = A at *
      generalize fh_py cr w g = B at *
      have out : ¬ ((-30 ≤ A ∧ A ≤ 30 ∧ -30 ≤ B ∧ B ≤ 30) ∧ (-30 ≤ A' ∧ A' ≤ 30 ∧ -30 ≤ B' ∧ B' ≤ 30)) → wM_four_l106 B83 Q (d + 1) v1 (nI k) v3 (nI (g + 1) + 1) I' J := by
        intro ho
        refine next I' (gMd_out G' (fun x y u hu x1 x2 y1 y2 h0 h1 ek => ?_)) f1
        have m1 := mi_b c1 c2 b1 b2
        have m2 := mi_b c3 c4 b3 b4
        obtain ⟨q1, q2, q3⟩ := kp_inj m1.1 m1.2 m2.1 m2.2 (by split <;> omega) (by omega) (by omega) (by omega) (by omega) hu ek
        unfold fh_mi at q1 q2
        rcases way with ⟨a1, a2⟩ | ⟨a1, a2⟩
        · rw [if_neg (by omega)] at q3
          have := h0 q3.symm
          split at q1 <;> split at q2 <;> omega
        · rw [if_pos a1] at q3
          have := h1 q3.symm
          split at q1 <;> split at q2 <;> omega
      refine br_f (nI_nlt (by omega) (by omega)) ⟨in1, ?_⟩
      have s14 : I' 14 = I 14 := f1 14 (by omega) (by omega)
      have s15 : I' 15 = I 15 := f1 15 (by omega) (by omega)
      rw [e1, nI_clamp (show g < 2147483648 by omega), nI_clamp (show g + 1 < 2147483648 by omega), s14, s15, w1, w2, w3, w4]
      refine m_within b1 b2 b3 b4 (fun t1 => bft ⟨in0, m_within c1 c2 c3 c4 (fun t2 => btt ?_) (fun t2 => bff (out (fun e => t2 e.1)))⟩) (fun t1 => btf (out (fun e => t1 e.2)))
      have mx : ∀ s0 : Int32, s0 = zI (fh_mi A A') → wM_four_c199 B83 (wM_four_l106 B83 Q (d + 1)) v1 (nI k) v3 (nI (g + 1)) s0 I' J Q := by
        intro s0 h0
        have my : ∀ v5 : Int32, v5 = zI (fh_mi B B') → wM_four_c239 B83 (wM_four_l106 B83 Q (d + 1)) v1 (nI k) v3 (nI (g + 1)) s0 v5 I' J Q := by
          intro v5 h5
          unfold wM_four_c239
          rw [e1, nI_clamp (show g < 2147483648 by omega), nI_clamp (show g + 1 < 2147483648 by omega), s15, w2, w4, zI_i (by omega) (by omega) (by omega) (by omega), h0, h5]
          have mb : -30 ≤ fh_mi A A' ∧ fh_mi A A' ≤ 30 ∧ -30 ≤ fh_mi B B' ∧ fh_mi B B' ≤ 30 := by
            unfold fh_mi
            split <;> split <;> omega
          refine ⟨in1, in0, ?_⟩
          have cb := (cl_b mb.1 mb.2.1 mb.2.2.1 mb.2.2.2).1
          rw [cl_e mb.1 mb.2.1 mb.2.2.1 mb.2.2.2]
          refine ⟨fun n1 => ⟨vp_in_nI cb (by decide), ?_⟩, fun y1 => ⟨vp_in_nI cb (by decide), ?_⟩⟩
          · rintro I5 rfl
            rw [nI_clamp (show fh_cl (fh_mi A A') (fh_mi B B') < 2147483648 by omega)]
            rw [if_pos (show A' = A by omega)] at next
            refine next _ (gMd_1 G' mb.1 mb.2.1 mb.2.2.1 ?_) (fun a a1 a2 => by rw [upI_n a2, f1 a a1 a2])
            unfold fh_mi
            split <;> omega
          · rintro I8 rfl
            rw [nI_clamp (show fh_cl (fh_mi A A') (fh_mi B B') < 2147483648 by omega)]
            rw [if_neg (show ¬ A' = A by omega)] at next
            refine next _ (gMd_0 G' mb.1 ?_ mb.2.2.1 mb.2.2.2) (fun a a1 a2 => by rw [upI_n a1, f1 a a1 a2])
            unfold fh_mi
            split <;> omega
        unfold wM_four_c199
        rw [e1, nI_clamp (show g < 2147483648 by omega), nI_clamp (show g + 1 < 2147483648 by omega), s15, w2, w4, zI_le (by omega) (by omega) (by omega) (by omega)]
        refine ⟨in1, in0, fun y1 => my _ ?_, fun n1 => my _ ?_⟩
        · rw [fh_mi, if_pos y1]
        · rw [fh_mi, if_neg n1]
      rw [zI_le (by omega) (by omega) (by omega) (by omega)]
      refine ⟨fun y1 => mx _ ?_, fun n1 => mx _ ?_⟩
      · rw [fh_mi, if_pos y1]
      · rw [fh_mi, if_neg n1]
  exact ⟨k + 1, key k 0 I (by omega) G (fun _ _ _ => rfl)⟩

theorem m_fourL {I : gI} {J : gJ} {i k : Nat} {t : gP} (hi : i < 8) (h : mS I J i t) (ok : stok t) (hk : k ≤ 1000) (hc : k ≤ fh_cs t + 1) {Q : Int32 → gI → gJ → Prop} (hQ : ∀ I', mFr I J I' J → Q (nI (fh_rc (fh_D4 (fh_cr t) k 4) 30 0)) I' J) : ∃ n : Nat, wM_four_l54 Q n (nI i) (nI k) 0 I J := by
  have fr : ∀ {I' : gI}, (∀ a, a ≠ 14 → a ≠ 15 → a ≠ 20 → a ≠ 21 → I' a = I a) → mFr I J I' J := fun g => ⟨fun a b c => g a (by omega) (by omega) (by omega) (by omega), g 11 (by omega) (by omega) (by omega) (by omega), g 26 (by omega) (by omega) (by omega) (by omega), g 29 (by omega) (by omega) (by omega) (by omega), fun j _ => by rw [g 0 (by omega) (by omega) (by omega) (by omega)], rfl, rfl, rfl⟩
  have ways : ∀ (d w : Nat) (I' : gI), d + w = 4 → gMd I' (fh_D4 (fh_cr t) k w) → (∀ a, a ≠ 14 → a ≠ 15 → a ≠ 20 → a ≠ 21 → I' a = I a) → wM_four_l83 Q (d + 1) (nI i) (nI k) (nI w) I' J := by
    intro d
    induction d with
    | zero =>
      intro w I' e G f1
      obtain rfl : w = 4 := by omega
      exact br_t (nI_le (a := 4) (b := 4) (Nat.le_refl _) (by omega)) (m_reach G (by rw [D4_len]; omega) (hQ I' (fr f1)))
    | succ d ih =>
      intro w I' e G f1
      refine br_f (nI_ge (b := 4) (by omega) (by omega)) ?_
      have hms := h.fr (fr f1)
      have x := m_walked hi hms ok (k := 14) (n := k) (w := (w : Int)) (Or.inl rfl) hc (by omega) (Q := fun I3 J4 => ∃ n : Nat, wM_four_l106 (wM_four_l83 Q (d + 1)) Q n (nI i) (nI k) (nI w) 1 I3 J4) (fun I3 w1 w2 => by
        refine m_four106 hk w1 (D := fh_D4 (fh_cr t) k w) ?_ (fun I4 G4 f4 => ?_)
        · unfold gMd
          rw [w2 20 (by omega) (by omega), w2 21 (by omega) (by omega)]
          exact G
        · rw [nI_1]
          exact ih (w + 1) I4 (by omega) G4 (fun a a1 a2 a3 a4 => by rw [f4 a a3 a4, w2 a a1 a2, f1 a a1 a2 a3 a4]))
      rw [← zI_n] at x
      exact x
  have clear : ∀ (d g : Nat) (I' : gI), d + g = 3721 → (∀ s, s < g → I' 20 s = nI 0 ∧ I' 21 s = nI 0) → (∀ a, a ≠ 14 → a ≠ 15 → a ≠ 20 → a ≠ 21 → I' a = I a) → wM_four_l54 Q (d + 1) (nI i) (nI k) (nI g) I' J := by
    intro d
    induction d with
    | zero =>
      intro g I' e f1 f2
      obtain rfl : g = 3721 := by omega
      refine br_t (nI_le (a := 3721) (b := 3721) (Nat.le_refl _) (by omega)) ⟨5, ways 4 0 I' (by omega) ⟨fun x y x1 x2 y1 y2 => ?_, fun x y x1 x2 y1 y2 => ?_⟩ f2⟩
      · exact (f1 _ (cl_b x1 (by omega) y1 y2).1).1
      · exact (f1 _ (cl_b x1 x2 y1 (by omega)).1).2
    | succ d ih =>
      intro g I' e f1 f2
      refine br_f (nI_ge (b := 3721) (by omega) (by omega)) ⟨vp_in_nI (by omega) (by decide), ?_⟩
      rintro I3 rfl I5 rfl
      rw [nI_clamp (show g < 2147483648 by omega), nI_1]
      refine ih (g + 1) _ (by omega) (fun s hs => ?_) (fun a a1 a2 a3 a4 => by rw [upI_n a4, upI_n a3, f2 a a1 a2 a3 a4])
      rw [upI_n (show (20 : Nat) ≠ 21 by omega), upI_s, upI_s, upI_n (show (21 : Nat) ≠ 20 by omega)]
      by_cases es : s = g
      · rw [es, upd_s, upd_s]
        exact ⟨rfl, rfl⟩
      · rw [upd_n es, upd_n es]
        exact f1 s (by omega)
  exact ⟨3722, clear 3721 0 I (by omega) (fun s hs => absurd hs (by omega)) (fun _ _ _ _ _ => rfl)⟩
theorem pc_four {n : Nat} {T : Nat → gP} {I X : gI} {J Y : gJ} {R : gR} {L : List Nat} {S : gS} (h : Rl n T I J X Y R L S) (v1 v2 : Int32) : wX11_four v1 v2 X Y R L S (fun r X' Y' R' => wM_four v1 v2 I J (fun r' I' J' => qE L S r r' I' J' X' Y' R')) := by
  have hn := h.1.1
  unfold wX11_four
  rcases ix_strip v1 hn with g | ⟨j, hj, rfl⟩
  · refine x_stripN h.1.2.2.1 hn g (bff ?_)
    exact br_f (by decide) (both_no1 h (fun Q q => m_stripN h.1.2.1 g (bff q)))
  obtain ⟨hms, ok, zz, hzz, hL, hS⟩ := h.st hj
  have ej : (nI j).toNatClampNeg = j := nI_clamp (by omega)
  have hcs := cs_ge ok
  have toM : ∀ Q : Int32 → gI → gJ → Prop, ((v2.toInt64 ≤ lN (fh_cs (T j) + 1) → (v2 < 0 → wM_four_c45 I J Q) ∧ (¬ v2 < 0 → (v2 ≤ 1000 → ∃ n : Nat, wM_four_l54 Q n (nI j) v2 0 I J) ∧ (¬ v2 ≤ 1000 → wM_four_c45 I J Q))) ∧ (¬ v2.toInt64 ≤ lN (fh_cs (T j) + 1) → wM_no (-5) I J (fun r7 I8 J9 => Q r7 I8 J9))) → wM_four (nI j) v2 I J Q := by
    intro Q q
    refine m_stripY h.1.2.1 hn hj (btt (m_creasesOf (by omega) hms ok ?_))
    rw [show lN (fh_cs (T j)) + 1 = lN (fh_cs (T j) + 1) from lN_add _ 1]
    exact q
  refine x_stripY h.1.2.2.1 hn hj (btt ⟨vp_in_nI (by omega) (by decide), zz, by rw [ej]; exact hzz, hL, x_sides hS ok ?_⟩)
  rcases Decidable.em (v2.toInt64 ≤ lN (fh_cs (T j) + 1)) with a | a
  rotate_left
  · exact br_f a (br_f (by decide) (both_no5 h (fun Q q => toM Q (br_f a q))))
  rcases Decidable.em (v2 < 0) with b | b
  · exact br_t a (br_t b (br_f (by decide) (both_no6 h (fun Q q => toM Q (br_t a (br_t b q))))))
  rcases Decidable.em (v2 ≤ 1000) with c | c
  rotate_left
  · exact br_t a (br_f b (br_f c (br_f (by decide) (both_no6 h (fun Q q => toM Q (br_t a (br_f b (br_f c q))))))))
  refine br_t a (br_f b (br_t c (br_t rfl ?_)))
  have toM2 : ∀ Q : Int32 → gI → gJ → Prop, (∃ n : Nat, wM_four_l54 Q n (nI j) v2 0 I J) → wM_four (nI j) v2 I J Q := fun Q q => toM Q (br_t a (br_f b (br_t c q)))
  obtain ⟨k, hk, rfl⟩ := nI_of2 (M := 1000) (n := 1000) rfl b c
  rw [nI_l (by omega), pk_lLE (by omega) (by omega)] at a
  refine x_forget (fun X0 T0 f0 => ?_)
  refine x_fourL (by omega) hzz hS ok hL hk a T0 (fun X2 Y2 R2 fr => ?_)
  exact toM2 _ (m_fourL (by omega) hms ok hk a (fun I3 f3 => qE.of (h.fr f3 ((xFr.fg f0).tr fr)) rfl))
