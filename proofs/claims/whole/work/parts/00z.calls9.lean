/-! mend, judge, piece -/
def fh_mn (g : Nat → Int32) (n : Nat) : Nat → Nat
  | 0 => 0
  | k + 1 => fh_mn g n k + (if fh_cn g 1 k n ≤ fh_cn g 0 k n then fh_cn g 1 k n else fh_cn g 0 k n)
theorem mn_le (g : Nat → Int32) (n : Nat) : ∀ k, fh_mn g n k ≤ k * n
  | 0 => Nat.zero_le _
  | k + 1 => by
    have ih := mn_le g n k
    have h0 := cn_le g 0 k n
    have h1 := cn_le g 1 k n
    rw [fh_mn, Nat.succ_mul]
    split <;> omega
theorem lv_k : ∀ k, k < 6 → ∀ q, q < 32 → 2 ^ k * (2 * q + 1) < 64 → fh_lv (2 ^ k * (2 * q + 1)) = k := by decide +kernel
theorem lv_gap : ∀ k, k < 6 → ∀ q, q < 32 → ∀ j, j < 64 → (0 < j ∧ j < 2 ^ (k + 1) ∧ 2 ^ k * (2 * q + 1) + j < 64) → fh_lv (2 ^ k * (2 * q + 1) + j) ≠ k := by decide +kernel
theorem cn_gap (g : Nat → Int32) (c : Nat) {k q : Nat} (hk : k < 6) (hq : q < 32) : ∀ j, j < 2 ^ (k + 1) → 2 ^ k * (2 * q + 1) + j < 64 → fh_cn g c k (2 ^ k * (2 * q + 1) + j) = fh_cn g c k (2 ^ k * (2 * q + 1))
  | 0, _, _ => rfl
  | j + 1, h, h2 => by
    have ih := cn_gap g c hk hq j (by omega) (by omega)
    have hp : 2 ^ (k + 1) ≤ 2 ^ 6 := Nat.pow_le_pow_right (by omega) (by omega)
    have hg := lv_gap k hk q hq (j + 1) (by omega) ⟨by omega, h, by omega⟩
    rw [← Nat.add_assoc] at hg ⊢
    rw [cn_s, if_neg (fun e => hg e.2), ih, Nat.add_zero]
theorem pc_mend {n : Nat} {T : Nat → gP} {I X : gI} {J Y : gJ} {R : gR} {L : List Nat} {S : gS} (h : Rl n T I J X Y R L S) (v1 v2 : Int32) : wX11_mend v1 v2 X Y R L S (fun r X' Y' R' => wM_mend v1 v2 I J (fun r' I' J' => qE L S r r' I' J' X' Y' R')) := by
  rcases told_cases h v1 v2 with ⟨c, c1, c2, hx, hm⟩ | ⟨s, z, n', hs, rfl, hz, hkz, rfl, e5, hm, ⟨hk, hx⟩ | ⟨hk, hx⟩⟩
  · exact hx _ (br_f (neg_ne0 c1 (by omega)) (both_no h c (by omega) c1 (fun Q q => hm _ (br_f (neg_ne0 c1 (by omega)) q))))
  · have E : nI n' ≤ 63 ↔ n' ≤ 63 := nI_leI (b := 63) (by omega) (by omega)
    exact hx _ (br_f (by decide) (both_no h 6 (by omega) (by omega) (fun Q q => hm _ (br_t rfl (br_f (fun e => by have := E.mp e; omega) q)))))
  have E : nI n' ≤ 63 ↔ n' ≤ 63 := nI_leI (b := 63) (by omega) (by omega)
  have bl : ∀ n : Nat, n < 64 → fh_bl n ≤ 6 ∧ n < 2 ^ fh_bl n ∧ ∀ k, k < fh_bl n → 2 ^ k ≤ n := by decide +kernel
  obtain ⟨b1, b2, b3⟩ := bl n' (by omega)
  have fin : wM_mend (nI s) (nI n') I J (fun r' I' J' => qE L S (nI (fh_mn (sG J s) n' (fh_bl n'))) r' I' J' X Y R) := by
    refine hm _ (br_t rfl (br_t (E.mpr hk) (m_seen hs hk (fun I' hs' hf => ⟨fh_bl n' + 1, ?_⟩))))
    have cnt : ∀ g b : Nat, g + b = fh_bl n' → wM_mend_l42 (fun r' I'' J'' => qE L S (nI (fh_mn (sG J s) n' (fh_bl n'))) r' I'' J'' X Y R) (g + 1) (nI (fh_mn (sG J s) n' b)) (nI b) I' J := by
      intro g
      induction g with
      | zero =>
        intro b e
        obtain rfl : b = fh_bl n' := by omega
        refine br_t ?_ (qE.of (h.fr hf xFr.rf) rfl)
        rw [hs'.1]
        exact nI_le (Nat.le_refl _) (by omega)
      | succ g ih =>
        intro b e
        obtain ⟨a1, a2⟩ := hs'.2.1 b (by omega)
        have l0 := cn_le (sG J s) 0 b n'
        have l1 := cn_le (sG J s) 1 b n'
        have next := ih (b + 1) (by omega)
        rw [fh_mn] at next
        refine br_f ?_ ⟨vp_in_nI (by omega) (by decide), ?_⟩
        · rw [hs'.1]
          exact nI_ge (by omega) (by omega)
        · rw [nI_clamp (by omega), a1, a2, nI_leI (by omega) (by omega), nI_1, nI_add, nI_add]
          refine ⟨fun hy => ?_, fun hn => ?_⟩
          · rw [if_pos hy] at next
            exact next
          · rw [if_neg hn] at next
            exact next
    exact cnt (fh_bl n') 0 (by omega)
  have hmn : ∀ k, k ≤ 6 → fh_mn (sG J s) n' k ≤ 378 := by
    intro k hk6
    have h1 := mn_le (sG J s) n' k
    have h2 : k * n' ≤ 6 * 63 := Nat.mul_le_mul hk6 hk
    omega
  generalize hQ : (fun r X' Y' R' => wM_mend (nI s) (nI n') I J (fun r' I' J' => qE L S r r' I' J' X' Y' R') : Int32 → gI → gJ → gR → Prop) = Q
  have finQ : Q (nI (fh_mn (sG J s) n' (fh_bl n'))) X Y R := by rw [← hQ]; exact fin
  refine hx _ (br_t rfl ⟨fh_bl n' + 1, ?_⟩)
  have outer : ∀ g k : Nat, g + k = fh_bl n' → wX11_mend_l23 L S Q (g + 1) (nI s) (nI n') (nI (fh_mn (sG J s) n' k)) (nI (2 ^ k)) X Y R := by
    intro g
    induction g with
    | zero =>
      intro k e
      obtain rfl : k = fh_bl n' := by omega
      have hp : 2 ^ fh_bl n' ≤ 2 ^ 6 := Nat.pow_le_pow_right (by omega) (by omega)
      exact br_t (nI_lt b2 (by omega)) finQ
    | succ g ih =>
      intro k e
      have hp : 2 ^ k ≤ 2 ^ 6 := Nat.pow_le_pow_right (by omega) (by omega)
      have hp0 := Nat.two_pow_pos k
      have hle := b3 k (by omega)
      have hmk := hmn k (by omega)
      have ep : 2 ^ (k + 1) = 2 * 2 ^ k := Nat.pow_succ'
      have e2 : (2 : Int32) * nI (2 ^ k) = nI (2 ^ (k + 1)) := by
        rw [ep]
        exact pk_mul 2 (2 ^ k)
      have e3 : nI (2 ^ k) * 2 = nI (2 ^ (k + 1)) := by
        rw [Nat.pow_succ]
        exact pk_mul (2 ^ k) 2
      refine br_f (nI_nlt hle (by omega)) ⟨n' + 1, ?_⟩
      -- the creases of this level
      have inner : ∀ d q : Nat, n' < 2 ^ k * (2 * q + 1) + d * 2 ^ (k + 1) → q ≤ 32 → 2 ^ k * (2 * q + 1) ≤ n' + 2 ^ (k + 1) → wX11_mend_l39 L S (wX11_mend_l23 L S Q (g + 1)) Q (d + 1) (nI s) (nI n') (nI (fh_mn (sG J s) n' k)) (nI (2 ^ k)) (nI (fh_cn (sG J s) 1 k (min (2 ^ k * (2 * q + 1) - 1) n'))) (nI (fh_cn (sG J s) 0 k (min (2 ^ k * (2 * q + 1) - 1) n'))) (nI (2 ^ k * (2 * q + 1))) X Y R := by
        intro d
        have stop : ∀ (d q : Nat), n' < 2 ^ k * (2 * q + 1) → 2 ^ k * (2 * q + 1) ≤ n' + 2 ^ (k + 1) → wX11_mend_l39 L S (wX11_mend_l23 L S Q (g + 1)) Q (d + 1) (nI s) (nI n') (nI (fh_mn (sG J s) n' k)) (nI (2 ^ k)) (nI (fh_cn (sG J s) 1 k (min (2 ^ k * (2 * q + 1) - 1) n'))) (nI (fh_cn (sG J s) 0 k (min (2 ^ k * (2 * q + 1) - 1) n'))) (nI (2 ^ k * (2 * q + 1))) X Y R := by
          intro d q hlt hub
          rw [show min (2 ^ k * (2 * q + 1) - 1) n' = n' by omega]
          have l0 := cn_le (sG J s) 0 k n'
          have l1 := cn_le (sG J s) 1 k n'
          refine br_t (nI_lt hlt (by omega)) ?_
          have next := ih (k + 1) (by omega)
          rw [fh_mn] at next
          have em : (if nI (fh_cn (sG J s) 0 k n') < nI (fh_cn (sG J s) 1 k n') then nI (fh_cn (sG J s) 0 k n') else nI (fh_cn (sG J s) 1 k n')) = nI (if fh_cn (sG J s) 1 k n' ≤ fh_cn (sG J s) 0 k n' then fh_cn (sG J s) 1 k n' else fh_cn (sG J s) 0 k n') := by
            have El : nI (fh_cn (sG J s) 0 k n') < nI (fh_cn (sG J s) 1 k n') ↔ fh_cn (sG J s) 0 k n' < fh_cn (sG J s) 1 k n' := nI_ltI (by omega) (by omega)
            by_cases c : fh_cn (sG J s) 1 k n' ≤ fh_cn (sG J s) 0 k n'
            · rw [if_pos c, if_neg (fun e => by have := El.mp e; omega)]
            · rw [if_neg c, if_pos (El.mpr (by omega))]
          rw [em, nI_add, e3]
          exact next
        induction d with
        | zero =>
          intro q h1 h2 h3
          rw [Nat.zero_mul, Nat.add_zero] at h1
          exact stop 0 q h1 h3
        | succ d ihd =>
          intro q h1 h2 h3
          rcases Nat.lt_or_ge n' (2 ^ k * (2 * q + 1)) with c | c
          · exact stop (d + 1) q c h3
          have hq32 : q < 32 := by
            rcases Nat.lt_or_ge q 32 with z | z
            · exact z
            · exfalso
              have : 2 ^ k * (2 * q + 1) ≥ 1 * (2 * q + 1) := Nat.mul_le_mul_right _ hp0
              omega
          have hi0 : 0 < 2 ^ k * (2 * q + 1) := Nat.mul_pos hp0 (by omega)
          have hlv := lv_k k (by omega) q hq32 (by omega)
          have enext : 2 ^ k * (2 * (q + 1) + 1) = 2 ^ k * (2 * q + 1) + 2 ^ (k + 1) := by
            rw [ep, show 2 * (q + 1) + 1 = (2 * q + 1) + 2 by omega, Nat.mul_add, Nat.mul_comm (2 ^ k) 2]
          have e9 : (d + 1) * 2 ^ (k + 1) = d * 2 ^ (k + 1) + 2 ^ (k + 1) := Nat.succ_mul d _
          have hnext := ihd (q + 1) (by rw [enext]; omega) (by omega) (by rw [enext]; omega)
          have cn : ∀ c, fh_cn (sG J s) c k (min (2 ^ k * (2 * (q + 1) + 1) - 1) n') = fh_cn (sG J s) c k (2 ^ k * (2 * q + 1) - 1) + (if fh_as (sG J s (2 ^ k * (2 * q + 1) - 1)) (2 ^ k * (2 * q + 1)) = c then 1 else 0) := by
            intro c
            obtain ⟨j, hj, hj2⟩ : ∃ j, min (2 ^ k * (2 * (q + 1) + 1) - 1) n' = 2 ^ k * (2 * q + 1) + j ∧ j < 2 ^ (k + 1) := ⟨min (2 ^ k * (2 * (q + 1) + 1) - 1) n' - 2 ^ k * (2 * q + 1), by omega, by omega⟩
            rw [hj, cn_gap (sG J s) c (by omega) hq32 j hj2 (by omega)]
            obtain ⟨i, hi⟩ : ∃ i, 2 ^ k * (2 * q + 1) = i + 1 := ⟨2 ^ k * (2 * q + 1) - 1, by omega⟩
            rw [hi] at hlv ⊢
            rw [cn_s, Nat.add_sub_cancel, hlv]
            by_cases ca : fh_as (sG J s i) (i + 1) = c
            · rw [if_pos ⟨ca, rfl⟩, if_pos ca]
            · rw [if_neg (fun e => ca e.1), if_neg ca]
          rw [cn 0, cn 1] at hnext
          rw [show min (2 ^ k * (2 * q + 1) - 1) n' = 2 ^ k * (2 * q + 1) - 1 by omega]
          refine br_f (nI_nlt c (by omega)) ⟨vp_in_nI hs (by decide), ?_⟩
          rw [nI_clamp (show s < 2147483648 by omega)]
          refine x_asked h hs hz e5 (i := 2 ^ k * (2 * q + 1)) hi0 (by omega) (by omega) ?_
          have l0 := cn_le (sG J s) 0 k (2 ^ k * (2 * q + 1) - 1)
          have l1 := cn_le (sG J s) 1 k (2 ^ k * (2 * q + 1) - 1)
          have q1 := @as_q (sG J s (2 ^ k * (2 * q + 1) - 1)) (2 ^ k * (2 * q + 1)) 1 (by omega)
          have q0 := @as_q (sG J s (2 ^ k * (2 * q + 1) - 1)) (2 ^ k * (2 * q + 1)) 0 (by omega)
          have q1' : (if fh_as (sG J s (2 ^ k * (2 * q + 1) - 1)) (2 ^ k * (2 * q + 1)) = 2 then (-1 : Int32) else nI (fh_as (sG J s (2 ^ k * (2 * q + 1) - 1)) (2 ^ k * (2 * q + 1)))) = 1 ↔ _ := q1
          have q0' : (if fh_as (sG J s (2 ^ k * (2 * q + 1) - 1)) (2 ^ k * (2 * q + 1)) = 2 then (-1 : Int32) else nI (fh_as (sG J s (2 ^ k * (2 * q + 1) - 1)) (2 ^ k * (2 * q + 1)))) = 0 ↔ _ := q0
          unfold wX11_mend_c71 wX11_mend_c86
          rw [q1', q0', e2, nI_add, ← enext]
          have a0 : ∀ m : Nat, nI m + 0 = nI m := fun m => nI_add m 0
          have a1 : ∀ m : Nat, nI m + 1 = nI (m + 1) := fun m => nI_add m 1
          rw [a0, a1, a0, a1]
          refine ⟨fun n1 => ⟨fun n0 => ?_, fun y0 => ?_⟩, fun y1 => ⟨fun n0 => ?_, fun y0 => ?_⟩⟩
          · rw [if_neg n0, if_neg n1] at hnext
            exact hnext
          · rw [if_pos y0, if_neg n1] at hnext
            exact hnext
          · rw [if_neg n0, if_pos y1] at hnext
            exact hnext
          · omega
      have i0 := inner n' 0 (by
        rw [Nat.mul_zero, Nat.zero_add, Nat.mul_one]
        have : n' * 1 ≤ n' * 2 ^ (k + 1) := Nat.mul_le_mul_left _ (Nat.two_pow_pos _)
        omega) (by omega) (by rw [Nat.mul_zero, Nat.zero_add, Nat.mul_one]; omega)
      rw [Nat.mul_zero, Nat.zero_add, Nat.mul_one] at i0
      have z : ∀ c, fh_cn (sG J s) c k (min (2 ^ k - 1) n') = 0 := by
        intro c
        unfold fh_cn
        rw [fb_ct_zero]
        intro i hi
        have D : ∀ k, k < 6 → ∀ i, i < 2 ^ k - 1 → fh_lv (i + 1) ≠ k := by decide +kernel
        have := D k (by omega) i (by omega)
        have h2 : (fh_lv (i + 1) == k) = false := by simpa using this
        rw [h2, Bool.and_false]
      rw [z, z] at i0
      exact i0
  exact outer (fh_bl n') 0 (by omega)
theorem x_tells {n : Nat} {T : Nat → gP} {I X : gI} {J Y : gJ} {R : gR} {L : List Nat} {S : gS} (h : Rl n T I J X Y R L S) {s z : Nat} (hs : s < 8) (hz : z ≤ 160) (e5 : X 4 s = nI z) {k : Nat} (hk : k < z) {c : Nat} {Q : Bool → Prop} (h1 : (sG J s k = nI c ∨ (¬ sG J s k = 0 ∧ ¬ sG J s k = 1)) → Q true) (h0 : ¬ (sG J s k = nI c ∨ (¬ sG J s k = 0 ∧ ¬ sG J s k = 1)) → Q false) : wX8_tells s (nI k) (nI c) X Y R L S Q := by
  have hc := h.2.2.2.2.1 s hs k (by omega)
  refine x_asInt e5 hz hk ?_
  rw [hc]
  have eg : (J 2 (160 * s + k)).toInt32 = sG J s k := rfl
  rw [eg]
  exact ⟨fun e => h1 (Or.inl e), fun ne => ⟨fun e => h0 (fun o => o.elim ne (fun o => o.1 e)), fun n0 => ⟨fun e => h0 (fun o => o.elim ne (fun o => o.2 e)), fun n1 => h1 (Or.inr ⟨n0, n1⟩)⟩⟩⟩
theorem pc_judge {n : Nat} {T : Nat → gP} {I X : gI} {J Y : gJ} {R : gR} {L : List Nat} {S : gS} (h : Rl n T I J X Y R L S) (v1 v2 v3 : Int32) : wX11_judge v1 v2 v3 X Y R L S (fun r X' Y' R' => wM_judge v1 v2 v3 I J (fun r' I' J' => qE L S r r' I' J' X' Y' R')) := by
  have hn := h.1.1
  have ten : ∀ (c : Nat), 1 ≤ c → c < 8 → (∀ Q : Int32 → gI → gJ → Prop, wM_noTen (-nI c) I J Q → wM_judge v1 v2 v3 I J Q) → wX11_judge_c59 L S v1 v2 v3 (-nI c) X Y R (fun r X' Y' R' => wM_judge v1 v2 v3 I J (fun r' I' J' => qE L S r r' I' J' X' Y' R')) := fun c h1 h2 hq => br_f (neg_ne0 h1 h2) (both_ten h c h2 h1 hq)
  have ten2 : ∀ (c : Nat), 1 ≤ c → c < 8 → (∀ Q : Int32 → gI → gJ → Prop, wM_noTen (-nI c) I J Q → wM_judge v1 v2 v3 I J Q) → wX11_judge_c18 L S v1 v2 v3 (-nI c) X Y R (fun r X' Y' R' => wM_judge v1 v2 v3 I J (fun r' I' J' => qE L S r r' I' J' X' Y' R')) := fun c h1 h2 hq => br_m (neg_ne0 h1 h2) (br_m (neg_ne0 h1 h2) (ten c h1 h2 hq))
  rcases ix_strip v1 hn with g | ⟨j, hj, rfl⟩
  · exact x_stripN h.1.2.2.1 hn g (btf (ten2 1 (by omega) (by omega) (fun Q q => m_stripN h.1.2.1 g (bff q))))
  obtain ⟨hms, ok, zz, hzz, hL, hS⟩ := h.st hj
  have ej : (nI j).toNatClampNeg = j := nI_clamp (by omega)
  have hin : vp_in (nI j) 8 := vp_in_nI (by omega) (by decide)
  have hcs := cs_ge ok
  refine x_stripY h.1.2.2.1 hn hj (bft ?_)
  have toM : ∀ Q : Int32 → gI → gJ → Prop, wM_bars v2 v3 I J (fun r3 => (¬ r3 = 0 → wM_judge_c42 (nI j) v2 v3 r3 I J Q) ∧ (r3 = 0 → wM_creasesOf (nI j) I J (fun r5 => (v3.toInt64 ≤ r5 → wM_judge_c42 (nI j) v2 v3 r3 I J Q) ∧ (¬ v3.toInt64 ≤ r5 → wM_judge_c42 (nI j) v2 v3 (-5) I J Q)))) → wM_judge (nI j) v2 v3 I J Q := fun Q q => m_stripY h.1.2.1 hn hj (btt q)
  rcases bar_cases h v2 v3 with ⟨c, c1, c2, hx, hm⟩ | ⟨s, o, z, k, hs, rfl, ho, hz, hkz, rfl, e1, e2, e3, e4, e5, hx, hm⟩
  · exact hx _ (ten2 c c1 (by omega) (fun Q q => toM Q (hm _ (br_m (neg_ne0 c1 (by omega)) (br_f (neg_ne0 c1 (by omega)) q)))))
  have El : (nI k).toInt64 ≤ lN (fh_cs (T j)) ↔ k ≤ fh_cs (T j) := by
    rw [nI_l (by omega), pk_lLE (by omega) (by omega)]
  have toM2 : ∀ Q : Int32 → gI → gJ → Prop, ((k ≤ fh_cs (T j) → wM_judge_c42 (nI j) (nI s) (nI k) 0 I J Q) ∧ (¬ k ≤ fh_cs (T j) → wM_judge_c42 (nI j) (nI s) (nI k) (-5) I J Q)) → wM_judge (nI j) (nI s) (nI k) I J Q := by
    intro Q q
    refine toM Q (hm _ (br_n rfl (m_creasesOf (by omega) hms ok ?_)))
    rw [El]
    exact q
  refine hx _ (br_n rfl ⟨hin, zz, by rw [ej]; exact hzz, hL, x_count hS ok ?_⟩)
  rw [El]
  rcases Nat.lt_or_ge (fh_cs (T j)) k with c | c
  · exact br_f (by omega) (br_m (by decide) (ten 5 (by omega) (by omega) (fun Q q => toM2 Q (br_f (by omega) (br_f (by decide) q)))))
  refine br_t c ?_
  have E63 : nI k ≤ 63 ↔ k ≤ 63 := nI_leI (b := 63) (by omega) (by omega)
  rcases Nat.lt_or_ge 63 k with c2 | c2
  · exact br_n rfl (br_f (fun e => by have := E63.mp e; omega) (ten 6 (by omega) (by omega) (fun Q q => toM2 Q (br_t c (br_t rfl (br_f (fun e => by have := E63.mp e; omega) q))))))
  refine br_n rfl (br_t (E63.mpr c2) (br_t rfl ⟨k + 1, ?_⟩))
  -- both go along
  have good : ∀ i : Nat, Decidable (sG J s i = nI (fh_cr (T j) (i + 1)) ∨ (¬ sG J s i = 0 ∧ ¬ sG J s i = 1)) := fun i => inferInstance
  have mgo : ∀ (r : Int32) (Q : Int32 → gI → gJ → Prop), ∀ g i : Nat, g + i = k → (∀ i', i' < i → (sG J s i' = nI (fh_cr (T j) (i' + 1)) ∨ (¬ sG J s i' = 0 ∧ ¬ sG J s i' = 1))) → ((∀ i', i' < k → (sG J s i' = nI (fh_cr (T j) (i' + 1)) ∨ (¬ sG J s i' = 0 ∧ ¬ sG J s i' = 1))) → Q (-1) I J) → (∀ i', i ≤ i' → i' < k → (∀ i'', i'' < i' → (sG J s i'' = nI (fh_cr (T j) (i'' + 1)) ∨ (¬ sG J s i'' = 0 ∧ ¬ sG J s i'' = 1))) → ¬ (sG J s i' = nI (fh_cr (T j) (i' + 1)) ∨ (¬ sG J s i' = 0 ∧ ¬ sG J s i' = 1)) → Q (nI (i' + 1)) I J) → wM_judge_l70 Q (g + 1) (nI j) (nI s) (nI k) (nI (i + 1)) I J := by
    intro r Q g
    induction g with
    | zero =>
      intro i e h1 h2 h3
      obtain rfl : i = k := by omega
      exact br_t (nI_lt (by omega) (by omega)) (h2 h1)
    | succ g ih =>
      intro i e h1 h2 h3
      have es : nI (i + 1) - 1 = nI i := nI_pred i
      have next : (sG J s i = nI (fh_cr (T j) (i + 1)) ∨ (¬ sG J s i = 0 ∧ ¬ sG J s i = 1)) → wM_judge_l70 Q (g + 1) (nI j) (nI s) (nI k) (nI (i + 1) + 1) I J := by
        intro hg
        rw [nI_1]
        refine ih (i + 1) (by omega) (fun i' hi' => ?_) h2 (fun i' a b => h3 i' (by omega) b)
        by_cases ei : i' = i
        · subst ei; exact hg
        · exact h1 i' (by omega)
      show wM_judge_b70 _ _ _ _ _ _ _ Q
      unfold wM_judge_b70
      rw [es]
      refine br_f (nI_nlt (by omega) (by omega)) (m_intAt hs (by omega) ?_)
      have c98 : ∀ v : Int32, v = sG J s i → (v = 0 ∨ v = 1) → wM_judge_c98 (wM_judge_l70 Q (g + 1)) (nI j) (nI s) (nI k) (nI (i + 1)) v I J Q := by
        intro v hv hv01
        unfold wM_judge_c98
        rw [nI_l (by omega)]
        refine m_creaseOf (by omega) hms ok (by omega) (by omega) ⟨fun e => next (Or.inl (by rw [← hv]; exact e)), fun ne => h3 i (Nat.le_refl _) (by omega) h1 (fun o => ?_)⟩
        rw [← hv] at o
        exact o.elim ne (fun o => hv01.elim o.1 o.2)
      exact ⟨fun e0 => c98 _ rfl (Or.inl e0), fun n0 => ⟨fun n1 => next (Or.inr ⟨n0, n1⟩), fun e1 => c98 _ rfl (Or.inr e1)⟩⟩
  have toM3 : ∀ Q : Int32 → gI → gJ → Prop, (∃ n : Nat, wM_judge_l70 Q n (nI j) (nI s) (nI k) 1 I J) → wM_judge (nI j) (nI s) (nI k) I J Q := fun Q q => toM2 Q (br_t c (br_t rfl (br_t (E63.mpr c2) q)))
  have xgo : ∀ g i : Nat, g + i = k → (∀ i', i' < i → (sG J s i' = nI (fh_cr (T j) (i' + 1)) ∨ (¬ sG J s i' = 0 ∧ ¬ sG J s i' = 1))) → wX11_judge_l77 L S (fun r X' Y' R' => wM_judge (nI j) (nI s) (nI k) I J (fun r' I' J' => qE L S r r' I' J' X' Y' R')) (g + 1) (nI j) (nI s) (nI k) (nI (i + 1)) X Y R := by
    intro g
    induction g with
    | zero =>
      intro i e h1
      obtain rfl : i = k := by omega
      refine br_t (nI_lt (by omega) (by omega)) (toM3 _ ⟨i + 1, mgo 0 _ i 0 (by omega) (fun _ hi => absurd hi (by omega)) (fun _ => qE.of h rfl) (fun i' _ b c d => absurd (h1 i' b) d)⟩)
    | succ g ih =>
      intro i e h1
      have es : nI (i + 1) - 1 = nI i := nI_pred i
      refine br_f (nI_nlt (by omega) (by omega)) ⟨vp_in_nI hs (by decide), hin, zz, by rw [ej]; exact hzz, hL, ?_⟩
      rw [nI_l (by omega), es, nI_clamp (show s < 2147483648 by omega)]
      refine x_crease hS ok (by omega) (by omega) (x_tells h hs hz e5 (by omega) (fun hg => btt ?_) (fun hb => bff ?_))
      · rw [nI_1]
        refine ih (i + 1) (by omega) (fun i' hi' => ?_)
        by_cases ei : i' = i
        · subst ei; exact hg
        · exact h1 i' (by omega)
      · refine toM3 _ ⟨k + 1, mgo 0 _ k 0 (by omega) (fun _ hi => absurd hi (by omega)) (fun ha => absurd (ha i (by omega)) hb) (fun i' _ b c d => ?_)⟩
        rcases (show i' < i ∨ i' = i ∨ i < i' by omega) with x | x | x
        · exact absurd (h1 i' x) d
        · subst x; exact qE.of h rfl
        · exact absurd (c i x) hb
  exact xgo k 0 (by omega) (fun _ hi => absurd hi (by omega))
