/-! calls on one strip -/
theorem Rl.st {n : Nat} {T : Nat → gP} {I X : gI} {J Y : gJ} {R : gR} {L : List Nat} {S : gS} (h : Rl n T I J X Y R L S) {j : Nat} (hj : j < n) : mS I J j (T j) ∧ stok (T j) ∧ ∃ z, R 0 j = some z ∧ z ∈ L ∧ S z = xV (T j) j := h.1.2.2.2 j hj
theorem lt_i {v : Int32} {c : Nat} (hc : c < 2147483648) (h0 : ¬ v < 0) (h : ¬ v < nI c) : ∃ k : Nat, c ≤ k ∧ k < 2147483648 ∧ v = nI k := by
  obtain ⟨k, hk, rfl⟩ := nI_of h0
  refine ⟨k, ?_, hk, rfl⟩
  rw [nI_ltI (by omega) (by omega)] at h
  omega
theorem neg_lt {v : Int32} {c : Nat} (hc : c < 2147483648) (h : v < 0) : v < nI c := by
  rw [Int32.lt_iff_toInt_lt] at h ⊢
  rw [nI_toInt (by omega)]
  have : (0 : Int32).toInt = 0 := rfl
  omega
theorem pc_stripOf {n : Nat} {T : Nat → gP} {I X : gI} {J Y : gJ} {R : gR} {L : List Nat} {S : gS} (h : Rl n T I J X Y R L S) (v1 v2 : Int32) : wX11_stripOf v1 v2 X Y R L S (fun r X' Y' R' => wM_stripOf v1 v2 I J (fun r' I' J' => qE L S r r' I' J' X' Y' R')) := by
  have hn := h.1.1
  rcases ix_strip v1 hn with h1 | ⟨j, hj, rfl⟩
  · exact x_stripN h.1.2.2.1 hn h1 (btf (both_no5 h (fun Q q => m_stripN h.1.2.1 h1 (bff q))))
  obtain ⟨hm, ok, z, hz, hL, hS⟩ := h.st hj
  have ec : (nI j).toNatClampNeg = j := nI_clamp (by omega)
  have hin : vp_in (nI j) 8 := vp_in_nI (by omega) (by decide)
  have hf := ok.2.2.2.1
  have eK : sK (S z) = nI (tk (T j)) := by rw [hS]; rfl
  have eA : sA (S z) = nI (ta (T j)) := by rw [hS]; rfl
  have eL : sL (S z) = nI (tf (T j)) := by rw [hS]; rfl
  have mk : ∀ Q : Int32 → gI → gJ → Prop, ((¬ v2 = 0 → (¬ v2 = 1 → (¬ v2 = 2 → (v2 < 10 → wM_stripOf_c81 I J Q) ∧ (¬ v2 < 10 → vp_in (nI j) 8 ∧ ((10 + nI (tf (T j))) ≤ v2 → wM_stripOf_c81 I J Q) ∧ (¬ (10 + nI (tf (T j))) ≤ v2 → wM_letter (nI j) (v2 - 10) I J (fun r9 => Q r9 I J)))) ∧ (v2 = 2 → vp_in (nI j) 8 ∧ Q (nI (tf (T j))) I J)) ∧ (v2 = 1 → vp_in (nI j) 8 ∧ Q (nI (ta (T j))) I J)) ∧ (v2 = 0 → vp_in (nI j) 8 ∧ Q (nI (tk (T j))) I J)) → wM_stripOf (nI j) v2 I J Q := by
    intro Q q
    refine m_stripY h.1.2.1 hn hj (btt ?_)
    rw [ec, hm.1, hm.2.1, hm.2.2.1]
    exact q
  refine x_stripY h.1.2.2.1 hn hj (bft ⟨hin, ?_⟩)
  rw [ec]
  rcases Decidable.em (v2 = 0) with e0 | e0
  · subst e0
    exact br_n rfl ⟨z, hz, hL, mk _ (br_n rfl ⟨hin, qE.of h eK⟩)⟩
  refine br_m e0 ?_
  rcases Decidable.em (v2 = 1) with e1 | e1
  · subst e1
    exact br_n rfl ⟨z, hz, hL, mk _ (br_m e0 (br_n rfl ⟨hin, qE.of h eA⟩))⟩
  refine br_m e1 ?_
  rcases Decidable.em (v2 = 2) with e2 | e2
  · subst e2
    exact br_n rfl ⟨z, hz, hL, mk _ (br_m e0 (br_m e1 (br_n rfl ⟨hin, qE.of h eL⟩)))⟩
  refine br_m e2 ?_
  have pre : ∀ Q : Int32 → gI → gJ → Prop, ((v2 < 10 → wM_stripOf_c81 I J Q) ∧ (¬ v2 < 10 → vp_in (nI j) 8 ∧ ((10 + nI (tf (T j))) ≤ v2 → wM_stripOf_c81 I J Q) ∧ (¬ (10 + nI (tf (T j))) ≤ v2 → wM_letter (nI j) (v2 - 10) I J (fun r9 => Q r9 I J)))) → wM_stripOf (nI j) v2 I J Q := fun Q q => mk Q (br_m e0 (br_m e1 (br_m e2 q)))
  rcases Decidable.em (v2 < 10) with e3 | e3
  · exact br_t e3 (both_no5 h (fun Q q => pre Q (br_t e3 q)))
  obtain ⟨k, hk, hk2, rfl⟩ := lt_i (c := 10) (by omega) (fun e => e3 (neg_lt (c := 10) (by omega) e)) e3
  have es : nI k - 10 = nI (k - 10) := pk_sub (b := 10) hk
  have ea : (10 : Int32) + nI (tf (T j)) = nI (10 + tf (T j)) := nI_add 10 _
  refine br_f e3 ⟨z, hz, hL, ?_⟩
  rw [eL, es]
  rw [ea, es] at pre
  rcases Nat.lt_or_ge (k - 10) (tf (T j)) with g | g
  · refine br_f (nI_ge g (by omega)) (v_same (x_letter hS ok (by omega) (pre _ (br_f e3 ⟨hin, br_f (nI_ge (by omega) (by omega)) (m_letter (by omega) hm ok (by omega) (qE.of h rfl))⟩))))
  · exact br_t (nI_le g (by omega)) (both_no5 h (fun Q q => pre Q (br_f e3 ⟨hin, br_t (nI_le (by omega) (by omega)) q⟩)))
theorem pc_creases {n : Nat} {T : Nat → gP} {I X : gI} {J Y : gJ} {R : gR} {L : List Nat} {S : gS} (h : Rl n T I J X Y R L S) (v1 : Int32) : wX11_creases v1 X Y R L S (fun r X' Y' R' => wM_creases v1 I J (fun r' I' J' => qE L S r r' I' J' X' Y' R')) := by
  have hn := h.1.1
  rcases ix_strip v1 hn with h1 | ⟨j, hj, rfl⟩
  · exact x_stripN h.1.2.2.1 hn h1 (btf (x_refuse 1 (by omega) (by omega) (m_stripN h.1.2.1 h1 (btf (m_no 1 (by omega) (qE.rf h 1 (by omega)))))))
  obtain ⟨hm, ok, z, hz, hL, hS⟩ := h.st hj
  refine x_stripY h.1.2.2.1 hn hj (bft ⟨vp_in_nI (by omega) (by decide), z, ?_, hL, x_count hS ok (m_stripY h.1.2.1 hn hj (bft (m_creasesOf (by omega) hm ok (qE.of h rfl))))⟩)
  rw [nI_clamp (by omega)]
  exact hz
/-- a long above 0 and no more than this -/
theorem pos_lN {v : Int64} (h : ¬ v < 1) : ∃ m : Nat, 0 < m ∧ m < 2 ^ 63 ∧ v = lN m := by
  obtain ⟨m, hm, rfl⟩ := pk_lOf (x := v) (fun e => h (by
    rw [Int64.lt_iff_toInt_lt] at e ⊢
    have : (0 : Int64).toInt = 0 := rfl
    have : (1 : Int64).toInt = 1 := rfl
    omega))
  refine ⟨m, ?_, hm, rfl⟩
  rcases Nat.eq_zero_or_pos m with e | e
  · subst e
    exact absurd (by decide) h
  · exact e
theorem pc_crease {n : Nat} {T : Nat → gP} {I X : gI} {J Y : gJ} {R : gR} {L : List Nat} {S : gS} (h : Rl n T I J X Y R L S) (v1 : Int32) (v2 : Int64) : wX11_crease v1 v2 X Y R L S (fun r X' Y' R' => wM_crease v1 v2 I J (fun r' I' J' => qE L S r r' I' J' X' Y' R')) := by
  have hn := h.1.1
  rcases ix_strip v1 hn with h1 | ⟨j, hj, rfl⟩
  · exact x_stripN h.1.2.2.1 hn h1 (bff (both_no1 h (fun Q q => m_stripN h.1.2.1 h1 (bff q))))
  obtain ⟨hm, ok, z, hz, hL, hS⟩ := h.st hj
  have ec : (nI j).toNatClampNeg = j := nI_clamp (by omega)
  have hcs := cs_ge ok
  refine x_stripY h.1.2.2.1 hn hj (btt ?_)
  rcases Decidable.em (v2 < 1) with g | g
  · exact br_t g (both_no5 h (fun Q q => m_stripY h.1.2.1 hn hj (btt (br_t g q))))
  refine br_f g ⟨vp_in_nI (by omega) (by decide), z, by rw [ec]; exact hz, hL, x_count hS ok ?_⟩
  obtain ⟨m, h0, hm2, rfl⟩ := pos_lN g
  rw [pk_lLE hm2 (by omega)]
  rcases Nat.lt_or_ge (fh_cs (T j)) m with c | c
  · refine br_f (by omega) (both_no5 h (fun Q q => m_stripY h.1.2.1 hn hj (btt (br_f g (m_creasesOf (by omega) hm ok ?_)))))
    rw [pk_lLT (by omega) hm2]
    exact br_t c q
  · refine br_t c (x_crease hS ok h0 c (m_stripY h.1.2.1 hn hj (btt (br_f g (m_creasesOf (by omega) hm ok ?_)))))
    rw [pk_lLT (by omega) hm2]
    exact br_f (by omega) (m_creaseOf (by omega) hm ok h0 c (qE.of h rfl))
theorem pc_way {n : Nat} {T : Nat → gP} {I X : gI} {J Y : gJ} {R : gR} {L : List Nat} {S : gS} (h : Rl n T I J X Y R L S) (v1 : Int32) (v2 : Int64) : wX11_way v1 v2 X Y R L S (fun r X' Y' R' => wM_way v1 v2 I J (fun r' I' J' => qE L S r r' I' J' X' Y' R')) := by
  have hn := h.1.1
  rcases ix_strip v1 hn with h1 | ⟨j, hj, rfl⟩
  · exact x_stripN h.1.2.2.1 hn h1 (bff (both_no1 h (fun Q q => m_stripN h.1.2.1 h1 (bff q))))
  obtain ⟨hm, ok, z, hz, hL, hS⟩ := h.st hj
  have ec : (nI j).toNatClampNeg = j := nI_clamp (by omega)
  have hcs := cs_ge ok
  refine x_stripY h.1.2.2.1 hn hj (btt ?_)
  rcases Decidable.em (v2 < 1) with g | g
  · exact br_t g (both_no5 h (fun Q q => m_stripY h.1.2.1 hn hj (btt (br_t g q))))
  refine br_f g ⟨vp_in_nI (by omega) (by decide), z, by rw [ec]; exact hz, hL, x_sides hS ok ?_⟩
  obtain ⟨m, h0, hm2, rfl⟩ := pos_lN g
  have e1 : lN m - 1 = lN (m - 1) := lN_sub (b := 1) h0
  rw [pk_lLE hm2 (by omega)]
  rcases Nat.lt_or_ge (fh_cs (T j) + 1) m with c | c
  · refine br_f (by omega) (both_no5 h (fun Q q => m_stripY h.1.2.1 hn hj (btt (br_f g (m_creasesOf (by omega) hm ok ?_)))))
    rw [lN_1, pk_lLT (by omega) hm2]
    exact br_t c q
  · rw [e1]
    refine br_t c (x_way hS ok (by omega) (m_stripY h.1.2.1 hn hj (btt (br_f g (m_creasesOf (by omega) hm ok ?_)))))
    rw [lN_1, pk_lLT (by omega) hm2, e1]
    exact br_f (by omega) (m_round (by omega) hm ok (by omega) (qE.of h rfl))
theorem pc_place {n : Nat} {T : Nat → gP} {I X : gI} {J Y : gJ} {R : gR} {L : List Nat} {S : gS} (h : Rl n T I J X Y R L S) (v1 : Int32) (v2 : Int64) (v4 : Int32) : wX11_place v1 v2 v4 X Y R L S (fun r X' Y' R' => wM_place v1 v2 v4 I J (fun r' I' J' => qE L S r r' I' J' X' Y' R')) := by
  have hn := h.1.1
  have no : ∀ (b : Nat), 1 ≤ b → b < 8 → ∀ M : (Int64 → gI → gJ → Prop) → Prop, (∀ Q : Int64 → gI → gJ → Prop, wM_no (-nI b) I J (fun r1 I2 J3 => Q ((-2000000000000000) + r1.toInt64) I2 J3) → M Q) → wX11_place_c81 L S v1 v2 v4 (-nI b) X Y R (fun r X' Y' R' => M (fun r' I' J' => qE L S r r' I' J' X' Y' R')) := by
    intro b h1 h2 M hM
    refine br_f (neg_ne0 h1 h2) (x_refuse b h2 h1 (hM _ (m_no b h2 (qE.rf h b h2))))
  rcases ix_strip v1 hn with h1 | ⟨j, hj, rfl⟩
  · exact x_stripN h.1.2.2.1 hn h1 (bff (no 1 (by omega) (by omega) _ (fun Q q => m_stripN h.1.2.1 h1 (bff q))))
  obtain ⟨hm, ok, z, hz, hL, hS⟩ := h.st hj
  have ec : (nI j).toNatClampNeg = j := nI_clamp (by omega)
  have hin : vp_in (nI j) 8 := vp_in_nI (by omega) (by decide)
  have hcs := cs_ge ok
  have hk6 := ok.1
  refine x_stripY h.1.2.2.1 hn hj (btt ?_)
  rcases Decidable.em (v2 < 0) with g | g
  · exact br_t g (no 5 (by omega) (by omega) _ (fun Q q => m_stripY h.1.2.1 hn hj (btt (br_t g q))))
  refine br_f g ⟨hin, z, by rw [ec]; exact hz, hL, x_sides hS ok ?_⟩
  obtain ⟨m, hm2, rfl⟩ := pk_lOf g
  have mk : ∀ Q : Int64 → gI → gJ → Prop, ((fh_cs (T j) + 1 < m → wM_place_c48 I J Q) ∧ (¬ fh_cs (T j) + 1 < m → (v4 < 0 → wM_place_c48 I J Q) ∧ (¬ v4 < 0 → (v4 ≤ 1 → vp_in (nI j) 8 ∧ (¬ nI (tk (T j)) = 6 → wM_place_c91 (nI j) (lN m) v4 I J Q) ∧ (nI (tk (T j)) = 6 → (lN m ≤ 100000 → wM_place_c91 (nI j) (lN m) v4 I J Q) ∧ (¬ lN m ≤ 100000 → wM_no (-7) I J (fun r11 I12 J13 => Q ((-2000000000000000) + r11.toInt64) I12 J13)))) ∧ (¬ v4 ≤ 1 → wM_place_c48 I J Q)))) → wM_place (nI j) (lN m) v4 I J Q := by
    intro Q q
    refine m_stripY h.1.2.1 hn hj (btt (br_f g (m_creasesOf (by omega) hm ok ?_)))
    rw [lN_1, pk_lLT (by omega) hm2, ec, hm.1]
    exact q
  rw [pk_lLT (by omega) hm2]
  rcases Nat.lt_or_ge (fh_cs (T j) + 1) m with c | c
  · exact br_t c (no 5 (by omega) (by omega) _ (fun Q q => mk Q (br_t c q)))
  have c' : ¬ fh_cs (T j) + 1 < m := by omega
  refine br_f c' ?_
  have eK : sK (S z) = nI (tk (T j)) := by rw [hS]; rfl
  have E6 : nI (tk (T j)) = 6 ↔ tk (T j) = 6 := nI_eq (b := 6) (by omega) (by omega)
  have E5 : lN m ≤ 100000 ↔ m ≤ 100000 := pk_lLE (b := 100000) hm2 (by omega)
  have good : (v4 = 0 ∨ v4 = 1) → wX11_place_c55 L S (nI j) (lN m) v4 0 X Y R (fun r X' Y' R' => wM_place (nI j) (lN m) v4 I J (fun r' I' J' => qE L S r r' I' J' X' Y' R')) := by
    intro h4
    have n4 : ¬ v4 < 0 := by rcases h4 with e | e <;> rw [e] <;> decide
    have l4 : v4 ≤ 1 := by rcases h4 with e | e <;> rw [e] <;> decide
    have mk2 : ∀ Q : Int64 → gI → gJ → Prop, ((¬ nI (tk (T j)) = 6 → wM_place_c91 (nI j) (lN m) v4 I J Q) ∧ (nI (tk (T j)) = 6 → (lN m ≤ 100000 → wM_place_c91 (nI j) (lN m) v4 I J Q) ∧ (¬ lN m ≤ 100000 → wM_no (-7) I J (fun r11 I12 J13 => Q ((-2000000000000000) + r11.toInt64) I12 J13)))) → wM_place (nI j) (lN m) v4 I J Q := fun Q q => mk Q (br_f c' (br_f n4 (br_t l4 ⟨hin, q⟩)))
    have go : (tk (T j) = 6 → m ≤ 100000) → (∀ Q : Int64 → gI → gJ → Prop, wM_place_c91 (nI j) (lN m) v4 I J Q → wM_place (nI j) (lN m) v4 I J Q) → wX11_place_c81 L S (nI j) (lN m) v4 0 X Y R (fun r X' Y' R' => wM_place (nI j) (lN m) v4 I J (fun r' I' J' => qE L S r r' I' J' X' Y' R')) := by
      intro h6 toM
      refine br_t rfl ⟨hin, z, by rw [ec]; exact hz, hL, x_lead hS ok hL c (fun X' Y' R' y1 y2 bf => ?_)⟩
      have fin : ∀ (r : Int64), ((¬ v4 = 0 → r = Y' 2 0) ∧ (v4 = 0 → r = Y' 1 0)) → wM_place (nI j) (lN m) v4 I J (fun r' I' J' => qE L S r r' I' J' X' Y' R') := by
        intro r hr
        refine toM _ (m_placeOf (by omega) hm ok c h6 (fun I' J' j1 j2 mf => ⟨fun e => ?_, fun e => ?_⟩))
        · refine qE.of (h.fr mf bf.xFr) ?_
          rw [hr.1 e, y2, j2]
        · refine qE.of (h.fr mf bf.xFr) ?_
          rw [hr.2 e, y1, j1]
      exact ⟨fun e => fin _ ⟨fun _ => rfl, fun e' => absurd e' e⟩, fun e => fin _ ⟨fun e' => absurd e e', fun _ => rfl⟩⟩
    refine ⟨hin, z, by rw [ec]; exact hz, hL, ?_⟩
    rw [eK]
    rcases Decidable.em (tk (T j) = 6) with k6 | k6
    · refine br_n (E6.mpr k6) ?_
      rcases Decidable.em (m ≤ 100000) with k5 | k5
      · exact br_t (E5.mpr k5) (go (fun _ => k5) (fun Q q => mk2 Q (br_n (E6.mpr k6) (br_t (E5.mpr k5) q))))
      · exact br_f (fun e => k5 (E5.mp e)) (no 7 (by omega) (by omega) _ (fun Q q => mk2 Q (br_n (E6.mpr k6) (br_f (fun e => k5 (E5.mp e)) q))))
    · exact br_m (fun e => k6 (E6.mp e)) (go (fun e => absurd e k6) (fun Q q => mk2 Q (br_m (fun e => k6 (E6.mp e)) q)))
  rcases Decidable.em (v4 = 0) with e0 | e0
  · exact br_t e0 (good (Or.inl e0))
  refine br_f e0 ?_
  rcases Decidable.em (v4 = 1) with e1 | e1
  · exact br_t e1 (good (Or.inr e1))
  refine br_f e1 (no 5 (by omega) (by omega) _ (fun Q q => mk Q (br_f c' ?_)))
  rcases Decidable.em (v4 < 0) with n4 | n4
  · exact br_t n4 q
  refine br_f n4 (br_f ?_ q)
  intro l4
  obtain ⟨k, hk, rfl⟩ := nI_of2 (M := 1) (n := 1) rfl n4 l4
  rcases (show k = 0 ∨ k = 1 by omega) with e | e <;> subst e
  · exact e0 rfl
  · exact e1 rfl
