/-! piece -/
def fh_tk (g : Nat → Int32) (c : Nat → Nat) (f i : Nat) : Bool := decide (g i = nI (c (f + i)) ∨ (¬ g i = 0 ∧ ¬ g i = 1))
/-- whether told ones stand from crease f on -/
def fh_pb (g : Nat → Int32) (c : Nat → Nat) (f : Nat) : Nat → Bool
  | 0 => true
  | k + 1 => fh_pb g c f k && fh_tk g c f k
def fh_pn (p : Nat → Bool) : Nat → Nat
  | 0 => 0
  | m + 1 => fh_pn p m + (if p (m + 1) = true then 1 else 0)
def fh_pf (p : Nat → Bool) : Nat → Nat
  | 0 => 0
  | m + 1 => if fh_pf p m = 0 then (if p (m + 1) = true then m + 1 else 0) else fh_pf p m
theorem pn_le (p : Nat → Bool) : ∀ m, fh_pn p m ≤ m
  | 0 => Nat.le_refl 0
  | m + 1 => by
    have := pn_le p m
    rw [fh_pn]
    split <;> omega
theorem pf_le (p : Nat → Bool) : ∀ m, fh_pf p m ≤ m
  | 0 => Nat.le_refl 0
  | m + 1 => by
    have := pf_le p m
    rw [fh_pf]
    split
    · split <;> omega
    · omega
theorem pf_stay (p : Nat → Bool) {m : Nat} (hne : fh_pf p m ≠ 0) : ∀ j, fh_pf p (m + j) = fh_pf p m
  | 0 => rfl
  | j + 1 => by
    rw [← Nat.add_assoc, fh_pf, pf_stay p hne j, if_neg hne]
theorem pb_no (g : Nat → Int32) (c : Nat → Nat) (f : Nat) {k : Nat} (h : fh_pb g c f k = false) : ∀ j, fh_pb g c f (k + j) = false
  | 0 => h
  | j + 1 => by
    rw [← Nat.add_assoc, fh_pb, pb_no g c f h j, Bool.false_and]
theorem x_standsFrom {n : Nat} {T : Nat → gP} {I X : gI} {J Y : gJ} {R : gR} {L : List Nat} {S : gS} (h : Rl n T I J X Y R L S) {s z : Nat} (hs : s < 8) (hz : z ≤ 160) (e5 : X 4 s = nI z) {t : gP} {zz j k f : Nat} (hS : S zz = xV t j) (ok : stok t) (hk : k ≤ z) (h0 : 0 < f) (hf : f + k ≤ fh_cs t + 1) (h4 : f + k ≤ 4001) {Q : Bool → Prop} (hQ : Q (fh_pb (sG J s) (fh_cr t) f k)) : wX11_standsFrom zz s (nI k) (nI f) X Y R L S Q := by
  have key : ∀ d i : Nat, d + i = k → fh_pb (sG J s) (fh_cr t) f i = true → wX11_standsFrom_l3 zz s X Y R L S Q (d + 1) (nI k) (nI f) (nI i) := by
    intro d
    induction d with
    | zero =>
      intro i e hp
      obtain rfl : i = k := by omega
      rw [hp] at hQ
      exact br_t (nI_le (Nat.le_refl _) (by omega)) hQ
    | succ d ih =>
      intro i e hp
      refine br_f (nI_ge (by omega) (by omega)) ?_
      rw [nI_add, nI_l (by omega)]
      refine x_crease hS ok (by omega) (by omega) (x_tells h hs hz e5 (by omega) (fun hg => btt ?_) (fun hb => bff ?_))
      · rw [nI_1]
        refine ih (i + 1) (by omega) ?_
        rw [fh_pb, hp, Bool.true_and]
        exact decide_eq_true hg
      · have hn : fh_pb (sG J s) (fh_cr t) f (i + 1) = false := by
          rw [fh_pb, hp, Bool.true_and]
          exact decide_eq_false hb
        have := pb_no (sG J s) (fh_cr t) f hn (k - (i + 1))
        rw [show i + 1 + (k - (i + 1)) = k by omega] at this
        rw [this] at hQ
        exact hQ
  exact ⟨k + 1, key k 0 (by omega) rfl⟩
theorem piece_s (Q : Int32 → gI → gJ → Prop) (B : Int32 → Int32 → Int32 → Int32 → Int32 → Int32 → Int32 → gI → gJ → Prop) (g : Nat) (v2 v3 v4 v6 v7 v8 v9 v10 v11 : Int32) (I : gI) (J : gJ) : wM_piece_l155 B Q (g + 1) v2 v3 v4 v6 v7 v8 v9 v10 v11 I J = wM_piece_b155 B (wM_piece_l155 B Q g) v2 v3 v4 v6 v7 v8 v9 v10 v11 I J Q := rfl
theorem m_pieceL {I : gI} {J : gJ} {s k most : Nat} (hs : s < 8) (hk : k ≤ 40) (hk1 : 1 ≤ k) (hm : most ≤ 4000) {c : Nat → Nat} (hx : ∀ i, 1 ≤ i → i ≤ most → I 14 i = nI (c i)) (v4 : Int32) {Q : Int32 → gI → gJ → Prop} (hQ : (¬ v4 = 0 → (fh_pf (fun f => fh_pb (sG J s) c f k) (most + 1 - k) ≠ 0 → Q (nI (fh_pf (fun f => fh_pb (sG J s) c f k) (most + 1 - k))) I J) ∧ (fh_pf (fun f => fh_pb (sG J s) c f k) (most + 1 - k) = 0 → wM_no (-5) I J (fun r4 I5 J6 => Q r4 I5 J6))) ∧ (v4 = 0 → Q (nI (fh_pn (fun f => fh_pb (sG J s) c f k) (most + 1 - k))) I J)) : ∃ n : Nat, wM_piece_l138 Q n (nI s) (nI k) v4 (nI most) 0 (-1) 1 I J := by
  have key : ∀ g m : Nat, g + m = most + 1 - k → wM_piece_l138 Q (g + 1) (nI s) (nI k) v4 (nI most) (nI (fh_pn (fun f => fh_pb (sG J s) c f k) m)) (if fh_pf (fun f => fh_pb (sG J s) c f k) m = 0 then -1 else nI (fh_pf (fun f => fh_pb (sG J s) c f k) m)) (nI (m + 1)) I J := by
    intro g
    induction g with
    | zero =>
      intro m e
      have el := pf_le (fun f => fh_pb (sG J s) c f k) m
      have es : nI (m + 1) + nI k - 1 = nI (m + k) := by
        rw [nI_add]
        have := pk_sub (a := m + 1 + k) (b := 1) (by omega)
        rw [show m + 1 + k - 1 = m + k by omega] at this
        exact this
      show wM_piece_b138 _ _ _ _ _ _ _ _ _ _ Q
      unfold wM_piece_b138
      rw [es]
      refine br_t (nI_lt (by omega) (by omega)) ?_
      obtain rfl : m = most + 1 - k := by omega
      refine ⟨fun n4 => ?_, fun e4 => hQ.2 e4⟩
      by_cases cz : fh_pf (fun f => fh_pb (sG J s) c f k) (most + 1 - k) = 0
      · rw [if_pos cz]
        exact br_n rfl ((hQ.1 n4).2 cz)
      · rw [if_neg cz]
        exact br_m (nI_nm1 (by omega)) ((hQ.1 n4).1 cz)
    | succ g ih =>
      intro m e
      have el := pf_le (fun f => fh_pb (sG J s) c f k) m
      have es : nI (m + 1) + nI k - 1 = nI (m + k) := by
        rw [nI_add]
        have := pk_sub (a := m + 1 + k) (b := 1) (by omega)
        rw [show m + 1 + k - 1 = m + k by omega] at this
        exact this
      have next := ih (m + 1) (by omega)
      rw [fh_pn, fh_pf] at next
      show wM_piece_b138 _ _ _ _ _ _ _ _ _ _ Q
      unfold wM_piece_b138
      rw [es]
      refine br_f (nI_nlt (by omega) (by omega)) ⟨k + 1, ?_⟩
      -- what comes behind the comparison
      have c220 : wM_piece_c220 (wM_piece_l138 Q (g + 1)) (nI s) (nI k) v4 (nI most) (nI (fh_pn (fun f => fh_pb (sG J s) c f k) m)) (if fh_pf (fun f => fh_pb (sG J s) c f k) m = 0 then -1 else nI (fh_pf (fun f => fh_pb (sG J s) c f k) m)) (nI (m + 1)) (bI (fh_pb (sG J s) c (m + 1) k)) I J Q := by
        unfold wM_piece_c220
        cases hp : fh_pb (sG J s) c (m + 1) k
        · refine br_n rfl ?_
          rw [hp] at next
          simp only [Bool.false_eq_true, if_false, Nat.add_zero] at next
          rw [nI_1]
          by_cases cz : fh_pf (fun f => fh_pb (sG J s) c f k) m = 0
          · rw [if_pos cz]
            rw [if_pos cz, if_pos rfl] at next
            exact next
          · rw [if_neg cz]
            rw [if_neg cz, if_neg cz] at next
            exact next
        · refine br_m (by decide) ?_
          rw [hp] at next
          simp only [if_true] at next
          rw [nI_1, nI_1]
          by_cases cz : fh_pf (fun f => fh_pb (sG J s) c f k) m = 0
          · rw [if_pos cz]
            rw [if_pos cz, if_neg (by omega)] at next
            exact br_n rfl next
          · rw [if_neg cz]
            rw [if_neg cz, if_neg cz] at next
            exact br_m (nI_nm1 (by omega)) next
      have inner : ∀ d i : Nat, d + i = k → wM_piece_l155 (wM_piece_l138 Q (g + 1)) Q (d + 1) (nI s) (nI k) v4 (nI most) (nI (fh_pn (fun f => fh_pb (sG J s) c f k) m)) (if fh_pf (fun f => fh_pb (sG J s) c f k) m = 0 then -1 else nI (fh_pf (fun f => fh_pb (sG J s) c f k) m)) (nI (m + 1)) (bI (fh_pb (sG J s) c (m + 1) i)) (nI i) I J := by
        intro d
        induction d with
        | zero =>
          intro i ei
          obtain rfl : i = k := by omega
          rw [piece_s]
          unfold wM_piece_b155
          exact br_t (nI_le (Nat.le_refl _) (by omega)) c220
        | succ d ihd =>
          intro i ei
          have nx := ihd (i + 1) (by omega)
          rw [fh_pb] at nx
          rw [piece_s]
          unfold wM_piece_b155
          refine br_f (nI_ge (by omega) (by omega)) ?_
          cases hp : fh_pb (sG J s) c (m + 1) i
          · refine br_t rfl ?_
            have := pb_no (sG J s) c (m + 1) hp (k - i)
            rw [show i + (k - i) = k by omega] at this
            rw [this] at c220
            exact c220
          · rw [hp, Bool.true_and] at nx
            refine br_f (by decide) (m_intAt hs (by omega) ?_)
            rw [nI_add, nI_clamp (show m + 1 + i < 2147483648 by omega), hx (m + 1 + i) (by omega) (by omega), nI_1]
            have t1 : fh_tk (sG J s) c (m + 1) i = true → wM_piece_l155 (wM_piece_l138 Q (g + 1)) Q (d + 1) (nI s) (nI k) v4 (nI most) (nI (fh_pn (fun f => fh_pb (sG J s) c f k) m)) (if fh_pf (fun f => fh_pb (sG J s) c f k) m = 0 then -1 else nI (fh_pf (fun f => fh_pb (sG J s) c f k) m)) (nI (m + 1)) 1 (nI (i + 1)) I J := by
              intro e
              rw [e] at nx
              exact nx
            have t0 : fh_tk (sG J s) c (m + 1) i = false → wM_piece_l155 (wM_piece_l138 Q (g + 1)) Q (d + 1) (nI s) (nI k) v4 (nI most) (nI (fh_pn (fun f => fh_pb (sG J s) c f k) m)) (if fh_pf (fun f => fh_pb (sG J s) c f k) m = 0 then -1 else nI (fh_pf (fun f => fh_pb (sG J s) c f k) m)) (nI (m + 1)) 0 (nI (i + 1)) I J := by
              intro e
              rw [e] at nx
              exact nx
            unfold fh_tk at t1 t0
            refine ⟨vp_in_nI (by omega) (by decide), fun he => t1 (decide_eq_true (Or.inl he)), fun hne => m_intAt hs (by omega) ⟨fun h0 => t0 (decide_eq_false (fun o => o.elim hne (fun o => o.1 h0))), fun n0 => m_intAt hs (by omega) ⟨fun h1 => t0 (decide_eq_false (fun o => o.elim hne (fun o => o.2 h1))), fun n1 => t1 (decide_eq_true (Or.inr ⟨n0, n1⟩))⟩⟩⟩
      exact inner k 0 (by omega)
  exact ⟨most + 1 - k + 1, key (most + 1 - k) 0 (by omega)⟩
theorem pc_piece {n : Nat} {T : Nat → gP} {I X : gI} {J Y : gJ} {R : gR} {L : List Nat} {S : gS} (h : Rl n T I J X Y R L S) (v1 v2 v3 v4 : Int32) : wX11_piece v1 v2 v3 v4 X Y R L S (fun r X' Y' R' => wM_piece v1 v2 v3 v4 I J (fun r' I' J' => qE L S r r' I' J' X' Y' R')) := by
  have hn := h.1.1
  have no : ∀ (c : Nat), 1 ≤ c → c < 8 → (∀ Q : Int32 → gI → gJ → Prop, wM_no (-nI c) I J Q → wM_piece v1 v2 v3 v4 I J Q) → wX11_piece_c60 L S v1 v2 v3 v4 (-nI c) X Y R (fun r X' Y' R' => wM_piece v1 v2 v3 v4 I J (fun r' I' J' => qE L S r r' I' J' X' Y' R')) := fun c h1 h2 hq => br_f (neg_ne0 h1 h2) (both_no h c h2 h1 hq)
  rcases ix_strip v1 hn with g | ⟨j, hj, rfl⟩
  · exact x_stripN h.1.2.2.1 hn g (btf (br_m (by decide) (br_m (by decide) (no 1 (by omega) (by omega) (fun Q q => m_stripN h.1.2.1 g (bff q))))))
  obtain ⟨hms, ok, zz, hzz, hL, hS⟩ := h.st hj
  have ej : (nI j).toNatClampNeg = j := nI_clamp (by omega)
  have hin : vp_in (nI j) 8 := vp_in_nI (by omega) (by decide)
  have hcs := cs_ge ok
  refine x_stripY h.1.2.2.1 hn hj (bft ?_)
  have toM : ∀ Q : Int32 → gI → gJ → Prop, wM_bars v2 v3 I J (fun r3 => (¬ r3 = 0 → wM_piece_c42 (nI j) v2 v3 v4 r3 I J Q) ∧ (r3 = 0 → (v4 < 0 → wM_piece_c38 (nI j) v2 v3 v4 I J Q) ∧ (¬ v4 < 0 → (v4 ≤ 1 → wM_piece_c42 (nI j) v2 v3 v4 r3 I J Q) ∧ (¬ v4 ≤ 1 → wM_piece_c38 (nI j) v2 v3 v4 I J Q)))) → wM_piece (nI j) v2 v3 v4 I J Q := fun Q q => m_stripY h.1.2.1 hn hj (btt q)
  rcases bar_cases h v2 v3 with ⟨c, c1, c2, hx, hm⟩ | ⟨s, o, z, k, hs, rfl, ho, hz, hkz, rfl, e1, e2, e3, e4, e5, hx, hm⟩
  · exact hx _ (br_m (neg_ne0 c1 (by omega)) (br_m (neg_ne0 c1 (by omega)) (no c c1 (by omega) (fun Q q => toM Q (hm _ (br_m (neg_ne0 c1 (by omega)) (br_f (neg_ne0 c1 (by omega)) q)))))))
  refine hx _ (br_n rfl ?_)
  -- what is asked
  have w5 : (v4 < 0 ∨ (¬ v4 < 0 ∧ ¬ v4 ≤ 1)) → wX11_piece_c40 L S (nI j) (nI s) (nI k) v4 (-5) X Y R (fun r X' Y' R' => wM_piece (nI j) (nI s) (nI k) v4 I J (fun r' I' J' => qE L S r r' I' J' X' Y' R')) := by
    intro hv
    refine br_m (by decide) (no 5 (by omega) (by omega) (fun Q q => toM Q (hm _ (br_n rfl ?_))))
    have c38 : wM_piece_c38 (nI j) (nI s) (nI k) v4 I J Q := br_f (by decide) q
    rcases hv with hv | ⟨hv, hv2⟩
    · exact br_t hv c38
    · exact br_f hv (br_f hv2 c38)
  have go : (v4 = 0 ∨ v4 = 1) → wX11_piece_c40 L S (nI j) (nI s) (nI k) v4 0 X Y R (fun r X' Y' R' => wM_piece (nI j) (nI s) (nI k) v4 I J (fun r' I' J' => qE L S r r' I' J' X' Y' R')) := by
    intro h4
    have n4 : ¬ v4 < 0 := by rcases h4 with e | e <;> rw [e] <;> decide
    have l4 : v4 ≤ 1 := by rcases h4 with e | e <;> rw [e] <;> decide
    have toM2 : ∀ Q : Int32 → gI → gJ → Prop, wM_piece_c42 (nI j) (nI s) (nI k) v4 0 I J Q → wM_piece (nI j) (nI s) (nI k) v4 I J Q := fun Q q => toM Q (hm _ (br_n rfl (br_f n4 (br_t l4 q))))
    have E1 : nI k < 1 ↔ k < 1 := nI_ltI (b := 1) (by omega) (by omega)
    have E40 : nI k ≤ 40 ↔ k ≤ 40 := nI_leI (b := 40) (by omega) (by omega)
    refine br_n rfl ?_
    rcases Nat.lt_or_ge k 1 with c | c
    · exact br_t (E1.mpr c) (no 6 (by omega) (by omega) (fun Q q => toM2 Q (br_t rfl (br_t (E1.mpr c) q))))
    have c' : ¬ nI k < 1 := fun e => by have := E1.mp e; omega
    refine br_f c' ?_
    rcases Nat.lt_or_ge 40 k with d | d
    · have d' : ¬ nI k ≤ 40 := fun e => by have := E40.mp e; omega
      exact br_f d' (no 6 (by omega) (by omega) (fun Q q => toM2 Q (br_t rfl (br_f c' (br_f d' q)))))
    refine br_t (E40.mpr d) (br_t rfl ⟨hin, zz, by rw [ej]; exact hzz, hL, x_count hS ok ?_⟩)
    obtain ⟨most, hmost⟩ : ∃ most, most = (if fh_cs (T j) < 4000 then fh_cs (T j) else 4000) := ⟨_, rfl⟩
    have hm4 : most ≤ 4000 ∧ most ≤ fh_cs (T j) := by
      rw [hmost]
      split <;> omega
    have emost : (if lN (fh_cs (T j)) < 4000 then lN (fh_cs (T j)) else 4000).toInt32 = nI most := by
      have El : lN (fh_cs (T j)) < 4000 ↔ fh_cs (T j) < 4000 := pk_lLT (b := 4000) (by omega) (by omega)
      rw [hmost]
      by_cases cc : fh_cs (T j) < 4000
      · rw [if_pos cc, if_pos (El.mpr cc), lN_i]
      · rw [if_neg cc, if_neg (fun e => cc (El.mp e))]
        rfl
    rw [emost]
    have elast : nI most - nI k + 1 = zI ((most : Int) - k + 1) := by rw [zI_n, zI_n, zI_1, zI_sub, zI_add]
    rw [elast]
    -- the reference
    have mgo : ∀ Q : Int32 → gI → gJ → Prop, (∀ I', mFr I J I' J → ((¬ v4 = 0 → (fh_pf (fun f => fh_pb (sG J s) (fh_cr (T j)) f k) (most + 1 - k) ≠ 0 → Q (nI (fh_pf (fun f => fh_pb (sG J s) (fh_cr (T j)) f k) (most + 1 - k))) I' J) ∧ (fh_pf (fun f => fh_pb (sG J s) (fh_cr (T j)) f k) (most + 1 - k) = 0 → wM_no (-5) I' J (fun r4 I5 J6 => Q r4 I5 J6))) ∧ (v4 = 0 → Q (nI (fh_pn (fun f => fh_pb (sG J s) (fh_cr (T j)) f k) (most + 1 - k))) I' J))) → wM_piece (nI j) (nI s) (nI k) v4 I J Q := by
      intro Q hq
      refine toM2 Q (br_t rfl (br_f c' (br_t (E40.mpr d) (m_creasesOf (by omega) hms ok ?_))))
      have E4 : (4000 : Int64) ≤ lN (fh_cs (T j)) ↔ 4000 ≤ fh_cs (T j) := pk_lLE (a := 4000) (by omega) (by omega)
      have c96 : ∀ v : Int32, v = nI most → wM_piece_c96 (nI j) (nI s) (nI k) v4 v I J Q := by
        intro v hv
        rw [hv]
        have fill : ∀ (g i : Nat) (I' : gI), g + i = most → mFr I J I' J → (∀ i', 1 ≤ i' → i' ≤ i → I' 14 i' = nI (fh_cr (T j) i')) → wM_piece_l107 Q (g + 1) (nI j) (nI s) (nI k) v4 (nI most) 0 (-1) (nI (i + 1)) I' J := by
          intro g
          induction g with
          | zero =>
            intro i I' e f1 f2
            obtain rfl : i = most := by omega
            refine br_t (nI_lt (by omega) (by omega)) (m_pieceL hs d c hm4.1 f2 v4 ?_)
            exact hq I' f1
          | succ g ih =>
            intro i I' e f1 f2
            refine br_f (nI_nlt (by omega) (by omega)) ?_
            rw [nI_l (by omega)]
            refine m_creaseOf (by omega) (hms.fr f1) ok (by omega) (by omega) ⟨vp_in_nI (by omega) (by decide), ?_⟩
            rintro I4 rfl
            rw [nI_clamp (by omega), nI_1]
            refine ih (i + 1) _ (by omega) (f1.tr (mFr.I (by omega))) (fun i' a b => ?_)
            rw [upI_at]
            by_cases ei : i' = i + 1
            · rw [if_pos ⟨rfl, ei⟩, ei]
            · rw [if_neg (fun e => ei e.2)]
              exact f2 i' a (by omega)
        exact ⟨most + 1, fill most 0 I (by omega) mFr.rf (fun i' a b => by omega)⟩
      rw [E4]
      refine ⟨fun hge => c96 4000 ?_, fun hlt => m_creasesOf (by omega) hms ok (c96 _ ?_)⟩
      · rw [hmost, if_neg (by omega)]; rfl
      · rw [lN_i, hmost, if_pos (by omega)]
    -- the class
    generalize hp : (fun f => fh_pb (sG J s) (fh_cr (T j)) f k) = p at mgo
    have hpf : ∀ f, fh_pb (sG J s) (fh_cr (T j)) f k = p f := fun f => by rw [← hp]
    have keyX : ∀ g m : Nat, g + m = most + 1 - k → (v4 = 1 → fh_pf p m = 0) → wX11_piece_l100 L S (fun r X' Y' R' => wM_piece (nI j) (nI s) (nI k) v4 I J (fun r' I' J' => qE L S r r' I' J' X' Y' R')) (g + 1) (nI j) (nI s) (nI k) v4 (zI ((most : Int) - k + 1)) (nI (fh_pn p m)) (nI (m + 1)) X Y R := by
      intro g
      induction g with
      | zero =>
        intro m e h1
        have E : zI ((most : Int) - k + 1) < nI (m + 1) := by
          rw [zI_n, zI_lt (by omega) (by omega) (by omega) (by omega)]
          omega
        have em : m = most + 1 - k := by omega
        refine br_t E ⟨fun n0 => ?_, fun y0 => ?_⟩
        · have y1 : v4 = 1 := h4.elim (fun e => absurd e n0) id
          refine x_refuse 5 (by omega) (by omega) (mgo _ (fun I' f1 => br_m n0 ⟨fun hne => ?_, fun hz0 => m_no 5 (by omega) (qE.rf (h.fr f1 xFr.rf) 5 (by omega))⟩))
          rw [← em] at hne
          exact absurd (h1 y1) hne
        · refine mgo _ (fun I' f1 => br_n y0 ?_)
          rw [← em]
          exact qE.of (h.fr f1 xFr.rf) rfl
      | succ g ih =>
        intro m e h1
        have E : ¬ zI ((most : Int) - k + 1) < nI (m + 1) := by
          rw [zI_n, zI_lt (by omega) (by omega) (by omega) (by omega)]
          omega
        refine br_f E ⟨hin, vp_in_nI hs (by decide), zz, by rw [ej]; exact hzz, hL, ?_⟩
        rw [nI_clamp (show s < 2147483648 by omega)]
        refine x_standsFrom h hs hz e5 hS ok hkz (by omega) (by omega) (by omega) ?_
        rw [hpf, nI_1, nI_1]
        cases hb : p (m + 1)
        · have x := ih (m + 1) (by omega) (fun y1 => by rw [fh_pf, h1 y1, if_pos rfl, hb]; rfl)
          rw [fh_pn, hb] at x
          exact btf x
        · refine bft ⟨fun n1 => ?_, fun y1 => ?_⟩
          · have x := ih (m + 1) (by omega) (fun y1 => absurd y1 n1)
            rw [fh_pn, hb] at x
            exact x
          · have ef : fh_pf p (m + 1) = m + 1 := by
              rw [fh_pf, h1 y1, if_pos rfl, hb, if_pos rfl]
            have est := pf_stay p (m := m + 1) (by rw [ef]; omega) (most + 1 - k - (m + 1))
            rw [show m + 1 + (most + 1 - k - (m + 1)) = most + 1 - k by omega, ef] at est
            refine mgo _ (fun I' f1 => br_m (by rw [y1]; decide) ⟨fun _ => ?_, fun hz0 => ?_⟩)
            · rw [est]
              exact qE.of (h.fr f1 xFr.rf) rfl
            · rw [est] at hz0
              omega
    exact ⟨most + 1 - k + 1, keyX (most + 1 - k) 0 (by omega) (fun _ => rfl)⟩
  rcases Decidable.em (v4 = 0) with e | n0
  · exact br_t e (go (Or.inl e))
  refine br_f n0 ?_
  rcases Decidable.em (v4 = 1) with e | n1
  · exact br_t e (go (Or.inr e))
  refine br_f n1 (w5 ?_)
  rcases Decidable.em (v4 < 0) with c | c
  · exact Or.inl c
  refine Or.inr ⟨c, fun l => ?_⟩
  obtain ⟨q, hq, rfl⟩ := nI_of2 (M := 1) (n := 1) rfl c l
  rcases (show q = 0 ∨ q = 1 by omega) with e | e <;> subst e
  · exact n0 rfl
  · exact n1 rfl
