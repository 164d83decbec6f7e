/-! order -/
theorem i_shr {a k : Nat} (ha : a < 2147483648) (hk : k < 32) : nI a >>> (nI k &&& 31) = nI (a / 2 ^ k) := by
  have hd : a / 2 ^ k ≤ a := Nat.div_le_self _ _
  apply Int32.toInt_inj.mp
  have e : (nI a >>> (nI k &&& 31)).toInt = (nI a).toInt >>> k := by
    have s := s_l k hk
    have : (nI a >>> (nI k &&& 31)).toInt = (nI a).toInt >>> ((nI k &&& 31).toBitVec.smod 32).toNat := BitVec.toInt_sshiftRight ..
    rw [this, s]
  have eq : ∀ q : Nat, q < 2147483648 → (nI q).toInt = q := fun q hq => by rw [zI_n, zI_t (by omega) (by omega)]
  rw [e, Int.shiftRight_eq_div_pow, eq a ha, eq (a / 2 ^ k) (by omega)]
  rfl
theorem and_7 {a : Nat} (ha : a < 2147483648) : nI a &&& 7 = nI (a % 8) := by
  apply Int32.toBitVec_inj.mp
  rw [Int32.toBitVec_and]
  apply BitVec.eq_of_toNat_eq
  rw [BitVec.toNat_and]
  show (a % 2 ^ 32) &&& (2 ^ 3 - 1) = (a % 8) % 2 ^ 32
  rw [Nat.and_two_pow_sub_one_eq_mod, Nat.mod_eq_of_lt (show a < 2 ^ 32 by omega), Nat.mod_eq_of_lt (show a % 8 < 2 ^ 32 by omega)]
theorem pkl_get : ∀ (p : List Nat) (i : Nat), (∀ x, x ∈ p → x < 8) → i < p.length → fh_pk p / 8 ^ i % 8 = p.getD i 0
  | [], i, _, h => absurd h (by simp)
  | a :: p, 0, hl, _ => by
    have := hl a List.mem_cons_self
    rw [fh_pk, List.getD_cons_zero, Nat.pow_zero, Nat.div_one]
    omega
  | a :: p, i + 1, hl, h => by
    have := hl a List.mem_cons_self
    rw [List.length_cons] at h
    rw [fh_pk, List.getD_cons_succ, Nat.pow_succ, Nat.mul_comm (8 ^ i) 8, ← Nat.div_div_eq_div_mul, show (a + 8 * fh_pk p) / 8 = fh_pk p by omega]
    exact pkl_get p i (fun x hx => hl x (List.mem_cons_of_mem _ hx)) (by omega)
theorem ord_row {n i : Nat} (hi : i < (fh_ord n).length) : ((fh_ord n).getD i []).length = n ∧ ∀ x, x ∈ (fh_ord n).getD i [] → x < n := by
  have hm : (fh_ord n).getD i [] ∈ fh_ord n := by
    rw [List.getD_eq_getElem?_getD, List.getElem?_eq_getElem hi]
    exact List.getElem_mem hi
  rw [ord_all, List.mem_filter, ← ord_all] at hm
  obtain ⟨h1, h2⟩ := all_pm n n [] _ ⟨List.nodup_nil, fun x hx => absurd hx (by simp), Nat.zero_le n⟩ (by simp) hm.1
  exact ⟨h1.1, h2⟩
theorem x_leafOf {X : gI} {Y : gJ} {R : gR} {L : List Nat} {S : gS} {n i q : Nat} (h0 : 0 < n) (hn : n ≤ 8) (hl : rLX X) (hi : i < (fh_ord n).length) (hq : q < n) {Q : Int32 → gI → gJ → gR → Prop} (hQ : ∀ X', rLX X' → (∀ a, a ≠ 0 → (a < 10 ∨ 14 < a) → X' a = X a) → (∀ j, j ≠ 11 → X' 0 j = X 0 j) → Q (nI (((fh_ord n).getD i []).getD q 0)) X' Y R) : wX4_leafOf (nI n) (nI i) (nI q) X Y R L S Q := by
  have ob := ord_b h0 (show n < 9 by omega)
  refine br_f (show ¬ nI i < nI 0 from nI_nlt (by omega) (by omega)) (x_howMany h0 hn hl (fun X1 f l1 kp g1 g2 => ?_))
  obtain ⟨k1, k2, k3, k4⟩ := kp
  refine br_f (nI_ge (by omega) (by omega)) (br_f (show ¬ nI q < nI 0 from nI_nlt (by omega) (by omega)) (br_f (nI_ge (by omega) (by omega)) ⟨vp_in_nI (by omega) (by decide), ?_⟩))
  rw [nI_clamp (show n < 2147483648 by omega), k1, nI_add]
  refine br_t (nI_lt (b := 2073) (by omega) (by omega)) ⟨vp_in_nI (by omega) (by decide), ?_⟩
  obtain ⟨r1, r2⟩ := ord_row hi
  have hlt := pkl_lt ((fh_ord n).getD i []) (fun x hx => by have := r2 x hx; omega)
  rw [r1] at hlt
  have p8 : 8 ^ n ≤ 16777216 := (by decide : ∀ i : Nat, i < 9 → 8 ^ i ≤ 16777216) n (by omega)
  have hd := Nat.div_le_self (fh_pk ((fh_ord n).getD i [])) (8 ^ q)
  rw [nI_clamp (show f + i < 2147483648 by omega), k4 i hi, show (3 : Int32) * nI q = nI (3 * q) by
    rw [zI_3, zI_n, zI_mul, zI_n]
    congr 1, i_shr (by omega) (by omega), show (2 : Nat) ^ (3 * q) = 8 ^ q by rw [Nat.pow_mul], and_7 (by omega), pkl_get _ q (fun x hx => by have := r2 x hx; omega) (by omega)]
  exact hQ X1 l1 g1 g2
theorem pc_order {n : Nat} {T : Nat → gP} {I X : gI} {J Y : gJ} {R : gR} {L : List Nat} {S : gS} (h : Rl n T I J X Y R L S) (v1 v2 v3 : Int32) : wX11_order v1 v2 v3 X Y R L S (fun r X' Y' R' => wM_order v1 v2 v3 I J (fun r' I' J' => qE L S r r' I' J' X' Y' R')) := by
  have ge : ∀ v : Int32, 0 ≤ v ↔ ¬ v < 0 := fun v => by
    rw [Int32.le_iff_toInt_le, Int32.lt_iff_toInt_lt]
    omega
  have out : (v1 < 1 ∨ ¬ v1 ≤ 8) → ∀ Q : Int32 → gI → gJ → Prop, wM_order_c11 v2 v3 I J Q → wM_order v1 v2 v3 I J Q := by
    intro ho Q q
    rcases Decidable.em (v1 < 1) with c | c
    · exact br_t c q
    · exact br_f c (br_f (ho.resolve_left c) q)
  have rg : ¬ (v1 < 1 ∨ ¬ v1 ≤ 8) → ∃ k : Nat, 0 < k ∧ k ≤ 8 ∧ v1 = nI k ∧ ¬ nI k < 1 ∧ nI k ≤ 8 := by
    intro ho
    have c : ¬ v1 < 1 := fun e => ho (Or.inl e)
    have d : v1 ≤ 8 := Decidable.byContradiction (fun e => ho (Or.inr e))
    obtain ⟨k, hk, rfl⟩ := nI_of2 (M := 8) (n := 8) rfl (fun e => c (by
      rw [Int32.lt_iff_toInt_lt] at e ⊢
      have : (0 : Int32).toInt = 0 := rfl
      have : (1 : Int32).toInt = 1 := rfl
      omega)) d
    refine ⟨k, ?_, hk, rfl, c, d⟩
    rcases Nat.eq_zero_or_pos k with e | e
    · rw [e] at c
      exact absurd (by decide) c
    · exact e
  -- beyond, with nothing asked of the class
  have no5 : (v2 < 0 ∨ v3 < 0 ∨ (¬ (v1 < 1 ∨ ¬ v1 ≤ 8) ∧ v1 ≤ v3)) → wX11_refuse (-5) X Y R L S (fun r X' Y' R' => wM_order v1 v2 v3 I J (fun r' I' J' => qE L S r r' I' J' X' Y' R')) := by
    intro hb
    refine x_refuse 5 (by omega) (by omega) ?_
    rcases Decidable.em (v1 < 1 ∨ ¬ v1 ≤ 8) with ho | ho
    · refine out ho _ ?_
      have q : wM_no (-5) I J (fun r' I' J' => qE L S (-nI 5) r' I' J' (upI X 5 5 (X 5 5 + 1)) Y R) := m_no 5 (by omega) (qE.rf h 5 (by omega))
      rcases Decidable.em (v3 < 0) with c | c
      · exact br_t c q
      · refine br_f c (br_f (fun e => ?_) q)
        rcases hb with hb | hb | hb
        · exact (ge v2).mp e hb
        · exact c hb
        · exact hb.1 ho
    · obtain ⟨k, k0, hk, rfl, c, d⟩ := rg ho
      refine br_f c (br_t d (m_finds k0 hk h.2.2.2.2.2.2.2.2.2.2 (fun I1 l2 e12 _ f1 f2 => ?_)))
      have q : wM_order_c71 I1 J (fun r' I' J' => qE L S (-nI 5) r' I' J' (upI X 5 5 (X 5 5 + 1)) Y R) := m_no 5 (by omega) (qE.rf (h.om f1 f2 l2) 5 (by omega))
      rcases Decidable.em (v2 < 0) with a | a
      · exact br_t a q
      refine br_f a ?_
      rcases Decidable.em (I1 0 12 ≤ v2) with b | b
      · exact br_t b q
      refine br_f b ?_
      rcases Decidable.em (v3 < 0) with a3 | a3
      · exact br_t a3 q
      refine br_f a3 (br_t ?_ q)
      rcases hb with hb | hb | hb
      · exact absurd hb a
      · exact absurd hb a3
      · exact hb.2
  have no6 : (v1 < 1 ∨ ¬ v1 ≤ 8) → ¬ v2 < 0 → ¬ v3 < 0 → wX11_refuse (-6) X Y R L S (fun r X' Y' R' => wM_order v1 v2 v3 I J (fun r' I' J' => qE L S r r' I' J' X' Y' R')) := fun ho n2 n3 => both_no6 h (fun Q q => out ho Q (br_f n3 (br_t ((ge v2).mpr n2) q)))
  rcases Decidable.em (v2 < 0) with n2 | n2
  · exact br_t n2 (no5 (Or.inl n2))
  refine br_f n2 ?_
  rcases Decidable.em (v3 < 0) with n3 | n3
  · exact br_f (fun e => (ge v3).mp e n3) (no5 (Or.inr (Or.inl n3)))
  refine br_t ((ge v3).mpr n3) ?_
  rcases Decidable.em (v1 < 1) with c | c
  · exact br_t c (no6 (Or.inl c) n2 n3)
  refine br_f c ?_
  rcases Decidable.em (v1 ≤ 8) with d | d
  rotate_left
  · exact br_f d (no6 (Or.inr d) n2 n3)
  refine br_t d ?_
  have ho : ¬ (v1 < 1 ∨ ¬ v1 ≤ 8) := fun e => e.elim c (fun e => e d)
  rcases Decidable.em (v1 ≤ v3) with l | l
  · exact br_t l (no5 (Or.inr (Or.inr ⟨ho, l⟩)))
  refine br_f l ?_
  obtain ⟨k, k0, hk, rfl, -, -⟩ := rg ho
  have ob := ord_b k0 (show k < 9 by omega)
  have toM : ∀ Q : Int32 → gI → gJ → Prop, (∀ I1, rLM I1 → I1 0 12 = nI (fh_ord k).length → (∀ i, i < (fh_ord k).length → ∀ p, p < k → I1 26 (8 * i + p) = nI (((fh_ord k).getD i []).getD p 0)) → (∀ a, a ≠ 0 → a ≠ 24 → a ≠ 25 → a ≠ 26 → I1 a = I a) → (∀ j, j ≠ 11 → j ≠ 12 → I1 0 j = I 0 j) → (nI (fh_ord k).length ≤ v2 → wM_order_c71 I1 J Q) ∧ (¬ nI (fh_ord k).length ≤ v2 → vp_in ((8 * v2) + v3) 11136 ∧ Q (I1 26 ((8 * v2) + v3).toNatClampNeg) I1 J)) → wM_order (nI k) v2 v3 I J Q := by
    intro Q q
    refine br_f c (br_t d (m_finds k0 hk h.2.2.2.2.2.2.2.2.2.2 (fun I1 l2 e12 r f1 f2 => ?_)))
    obtain ⟨q1, q2⟩ := q I1 l2 e12 r f1 f2
    rw [e12]
    exact br_f n2 ⟨q1, fun b => br_f n3 (br_f l (q2 b))⟩
  refine x_howMany k0 hk h.2.2.2.2.2.2.2.2.2.1 (fun X1 f l1 kp g1 g2 => ?_)
  have h1 := h.ox g1 g2 l1
  have lt : v2 < nI (fh_ord k).length ↔ ¬ nI (fh_ord k).length ≤ v2 := by
    rw [Int32.le_iff_toInt_le, Int32.lt_iff_toInt_lt]
    omega
  rcases Decidable.em (v2 < nI (fh_ord k).length) with b | b
  · have b' := lt.mp b
    refine br_t b ?_
    obtain ⟨i, hi, rfl⟩ : ∃ i : Nat, i < (fh_ord k).length ∧ v2 = nI i := by
      rw [Int32.lt_iff_toInt_lt, zI_n, zI_t (by omega) (by omega)] at b
      rw [Int32.lt_iff_toInt_lt] at n2
      have : (0 : Int32).toInt = 0 := rfl
      exact ⟨v2.toInt.toNat, by omega, by rw [zI_n, Int.toNat_of_nonneg (by omega)]; exact zI_of v2⟩
    obtain ⟨q, hq, rfl⟩ : ∃ q : Nat, q < k ∧ v3 = nI q := by
      rw [Int32.le_iff_toInt_le, zI_n, zI_t (by omega) (by omega)] at l
      rw [Int32.lt_iff_toInt_lt] at n3
      have : (0 : Int32).toInt = 0 := rfl
      exact ⟨v3.toInt.toNat, by omega, by rw [zI_n, Int.toNat_of_nonneg (by omega)]; exact zI_of v3⟩
    refine x_leafOf k0 hk l1 hi hq (fun X2 l2 g3 g4 => toM _ (fun I1 m1 e12 r f1 f2 => br_f b' ?_))
    rw [show (8 : Int32) * nI i + nI q = nI (8 * i + q) by
      rw [show (8 : Int32) = zI 8 from rfl, zI_n, zI_n, zI_mul, zI_add, zI_n]
      congr 1, nI_clamp (show 8 * i + q < 2147483648 by omega), r i hi q hq]
    exact ⟨vp_in_nI (by omega) (by decide), qE.of ((h1.om f1 f2 m1).ox g3 g4 l2) rfl⟩
  · refine br_f b (x_refuse 5 (by omega) (by omega) (toM _ (fun I1 m1 e12 r f1 f2 => br_t (Decidable.byContradiction (fun e => b (lt.mpr e))) ?_)))
    exact m_no 5 (by omega) (qE.rf (h1.om f1 f2 m1) 5 (by omega))
