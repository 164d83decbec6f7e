/-! what is asked of a shelf ahead of a call -/
theorem x_hr1 {X : gI} {Y : gJ} {R : gR} {L : List Nat} {S : gS} {s o : Nat} (ho : o ≤ 3) (e : X 3 s = nI (100 + o)) {Q : Bool → Prop} (hQ : Q true) : wX8_holdsRow s X Y R L S Q := by
  unfold wX8_holdsRow
  rw [e]
  exact br_f (nI_nlt (a := 100 + o) (b := 100) (by omega) (by omega)) hQ
theorem x_hr0 {X : gI} {Y : gJ} {R : gR} {L : List Nat} {S : gS} {s : Nat} (e : X 3 s = -1 ∨ ∃ j : Nat, j < 8 ∧ X 3 s = nI j) {Q : Bool → Prop} (hQ : Q false) : wX8_holdsRow s X Y R L S Q := by
  unfold wX8_holdsRow
  rcases e with e | ⟨j, hj, e⟩ <;> rw [e]
  · exact br_t (by decide) hQ
  · exact br_t (nI_lt (a := j) (b := 100) (by omega) (by omega)) hQ
theorem x_hs0 {X : gI} {Y : gJ} {R : gR} {L : List Nat} {S : gS} {s : Nat} (e : X 3 s = -1 ∨ ∃ o : Nat, o ≤ 3 ∧ X 3 s = nI (100 + o)) {Q : Bool → Prop} (hQ : Q false) : wX8_holdsStrip s X Y R L S Q := by
  unfold wX8_holdsStrip
  rcases e with e | ⟨o, ho, e⟩ <;> rw [e]
  · exact br_t rfl hQ
  · exact ⟨fun _ => hQ, fun _ => br_t (nI_le (a := 100) (b := 100 + o) (by omega) (by omega)) hQ⟩
theorem nI_nm1 {j : Nat} (h : j < 2147483648) : ¬ nI j = -1 := by
  intro e
  have h1 : (nI j).toInt = (-1 : Int32).toInt := by rw [e]
  rw [nI_toInt (by omega)] at h1
  have h2 : (-1 : Int32).toInt = -1 := rfl
  omega
theorem x_hs1 {X : gI} {Y : gJ} {R : gR} {L : List Nat} {S : gS} {s j : Nat} (hj : j < 8) (e : X 3 s = nI j) {Q : Bool → Prop} (hQ : Q true) : wX8_holdsStrip s X Y R L S Q := by
  unfold wX8_holdsStrip
  rw [e]
  exact br_f (nI_nm1 (by omega)) (br_f (nI_ge (a := j) (b := 100) (by omega) (by omega)) hQ)
theorem nIe {a b : Nat} (ha : a < 100) (hb : b < 100) : nI a = nI b ↔ a = b := nI_eq (by omega) (by omega)
theorem m_wants_N {v : Int32} {I : gI} {J : gJ} {Q : Int32 → Prop} (h : v < 0 ∨ 8 ≤ v) (hQ : Q (-nI 1)) : wM_wants v I J Q := m_shelfN h (bff hQ)
theorem m_wants_S {s c : Nat} (hs : s < 8) {I : gI} {J : gJ} (e : I 5 s = nI c) (hc : c < 3) {Q : Int32 → Prop} (hQ : Q (if c = 2 then -nI 2 else if c = 0 then -nI 3 else 0)) : wM_wants (nI s) I J Q := by
  refine m_shelfY hs (btt ⟨vp_in_nI hs (by decide), ?_⟩)
  rw [nI_clamp (by omega), e]
  rcases (show c = 0 ∨ c = 1 ∨ c = 2 by omega) with rfl | rfl | rfl
  · exact br_m (by decide) (br_n rfl hQ)
  · exact br_m (by decide) (br_m (by decide) hQ)
  · exact br_n rfl hQ
theorem row_cases {n : Nat} {T : Nat → gP} {I X : gI} {J Y : gJ} {R : gR} {L : List Nat} {S : gS} (h : Rl n T I J X Y R L S) (v : Int32) : (∃ c : Nat, 1 ≤ c ∧ c ≤ 3 ∧ (∀ Q : Int32 → Prop, Q (-nI c) → wX11_noRow v X Y R L S Q) ∧ (∀ Q : Int32 → Prop, Q (-nI c) → wM_wants v I J Q)) ∨ (∃ s o m : Nat, s < 8 ∧ v = nI s ∧ o ≤ 3 ∧ m ≤ 160 ∧ I 5 s = nI 1 ∧ I 6 s = nI o ∧ X 3 s = nI (100 + o) ∧ I 7 s = nI m ∧ X 4 s = nI m ∧ (∀ Q : Int32 → Prop, Q 0 → wX11_noRow v X Y R L S Q) ∧ (∀ Q : Int32 → Prop, Q 0 → wM_wants v I J Q)) := by
  have hn := h.1.1
  rcases ix_shelf v with h1 | ⟨s, hs, rfl⟩
  · exact Or.inl ⟨1, by omega, by omega, fun Q q => x_shelfN h1 (bff q), fun Q q => m_wants_N h1 q⟩
  have ec : (nI s).toNatClampNeg = s := nI_clamp (by omega)
  have mk : ∀ Q : Int32 → Prop, wX8_holdsRow s X Y R L S (fun r4 => (r4 = false → wX8_holdsStrip s X Y R L S (fun r6 => (r6 = false → Q (-3)) ∧ (r6 = true → Q (-2)))) ∧ (r4 = true → Q 0)) → wX11_noRow (nI s) X Y R L S Q := by
    intro Q q
    refine x_shelfY hs (btt ⟨vp_in_nI hs (by decide), ?_⟩)
    rw [ec]
    exact q
  rcases h.2.2.2.1 s hs with ⟨e1, e2, e3⟩ | ⟨e1, o, m, ho, hm, e2, e3, e4, e5⟩ | ⟨e1, e2, j, hj, e3, e4⟩
  · exact Or.inl ⟨3, by omega, by omega, fun Q q => mk Q (x_hr0 (Or.inl e2) (btf (x_hs0 (Or.inl e2) (btf q)))), fun Q q => m_wants_S hs e1 (by omega) q⟩
  · exact Or.inr ⟨s, o, m, hs, rfl, ho, hm, e1, e2, e3, e4, e5, fun Q q => mk Q (x_hr1 ho e3 (bft q)), fun Q q => m_wants_S hs e1 (by omega) q⟩
  · exact Or.inl ⟨2, by omega, by omega, fun Q q => mk Q (x_hr0 (Or.inr ⟨j, by omega, e4⟩) (btf (x_hs1 (by omega) e4 (bft q)))), fun Q q => m_wants_S hs e1 (by omega) q⟩
theorem bar_cases {n : Nat} {T : Nat → gP} {I X : gI} {J Y : gJ} {R : gR} {L : List Nat} {S : gS} (h : Rl n T I J X Y R L S) (v m : Int32) : (∃ c : Nat, 1 ≤ c ∧ c ≤ 5 ∧ (∀ Q : Int32 → Prop, Q (-nI c) → wX11_noFirstElements v m X Y R L S Q) ∧ (∀ Q : Int32 → Prop, Q (-nI c) → wM_bars v m I J Q)) ∨ (∃ s o z k : Nat, s < 8 ∧ v = nI s ∧ o ≤ 3 ∧ z ≤ 160 ∧ k ≤ z ∧ m = nI k ∧ I 5 s = nI 1 ∧ I 6 s = nI o ∧ X 3 s = nI (100 + o) ∧ I 7 s = nI z ∧ X 4 s = nI z ∧ (∀ Q : Int32 → Prop, Q 0 → wX11_noFirstElements v m X Y R L S Q) ∧ (∀ Q : Int32 → Prop, Q 0 → wM_bars v m I J Q)) := by
  rcases row_cases h v with ⟨c, h1, h2, hx, hm⟩ | ⟨s, o, z, hs, rfl, ho, hz, e1, e2, e3, e4, e5, hx, hm⟩
  · have hc : ¬ -nI c = 0 := fun e => by have := (nneg0 c (by omega)).mp e; omega
    exact Or.inl ⟨c, h1, by omega, fun Q q => hx _ (br_f hc q), fun Q q => hm _ (br_f hc q)⟩
  have ec : (nI s).toNatClampNeg = s := nI_clamp (by omega)
  have hin : vp_in (nI s) 8 := vp_in_nI hs (by decide)
  rcases Decidable.em (0 ≤ m) with h3 | h3
  rotate_left
  · exact Or.inl ⟨4, by omega, by omega, fun Q q => hx _ (br_t rfl (br_f h3 q)), fun Q q => hm _ (br_t rfl (br_f h3 q))⟩
  obtain ⟨k, hk, rfl⟩ := nI_of (x := m) (fun e => by
    rw [Int32.lt_iff_toInt_lt] at e
    rw [Int32.le_iff_toInt_le] at h3
    omega)
  rcases Nat.lt_or_ge z k with h4 | h4
  · refine Or.inl ⟨5, by omega, by omega, fun Q q => hx _ (br_t rfl (br_t h3 ⟨hin, ?_⟩)), fun Q q => hm _ (br_t rfl (br_t h3 ⟨hin, ?_⟩))⟩
    · rw [ec, e5]
      exact br_f (nI_ge h4 (by omega)) q
    · rw [ec, e4]
      exact br_f (nI_ge h4 (by omega)) q
  · refine Or.inr ⟨s, o, z, k, hs, rfl, ho, hz, h4, rfl, e1, e2, e3, e4, e5, fun Q q => hx _ (br_t rfl (br_t h3 ⟨hin, ?_⟩)), fun Q q => hm _ (br_t rfl (br_t h3 ⟨hin, ?_⟩))⟩
    · rw [ec, e5]
      exact br_t (nI_le h4 (by omega)) q
    · rw [ec, e4]
      exact br_t (nI_le h4 (by omega)) q
theorem neg_ne0 {c : Nat} (h1 : 1 ≤ c) (h2 : c < 8) : ¬ -nI c = 0 := fun e => by have := (nneg0 c h2).mp e; omega
theorem ne_m5 : ¬ (-5 : Int32) = 0 := by decide
/-- whether element i is there -/
theorem ix_size (v : Int32) {m : Nat} (hm : m ≤ 160) : v < 0 ∨ nI m ≤ v ∨ ∃ k : Nat, k < m ∧ v = nI k := pk_ix v (by omega)
theorem x_hasN {X : gI} {Y : gJ} {R : gR} {L : List Nat} {S : gS} {s m : Nat} (e : X 4 s = nI m) {v : Int32} (h : v < 0 ∨ nI m ≤ v) {Q : Bool → Prop} (hQ : Q false) : wX8_has s v X Y R L S Q := by
  unfold wX8_has
  rw [e]
  rcases h with h | h
  · exact br_t h hQ
  · exact ⟨fun _ => hQ, fun _ => br_t h hQ⟩
theorem x_hasY {X : gI} {Y : gJ} {R : gR} {L : List Nat} {S : gS} {s m k : Nat} (e : X 4 s = nI m) (hm : m ≤ 160) (hk : k < m) {Q : Bool → Prop} (hQ : Q true) : wX8_has s (nI k) X Y R L S Q := by
  unfold wX8_has
  rw [e]
  exact br_f (nI_pos (by omega)) (br_f (nI_ge hk (by omega)) (br_f (nI_nlt (a := 160) (b := m) (by omega) (by omega)) hQ))
theorem pc_set {n : Nat} {T : Nat → gP} {I X : gI} {J Y : gJ} {R : gR} {L : List Nat} {S : gS} (h : Rl n T I J X Y R L S) (v1 v2 : Int32) (v3 : Int64) : wX11_set v1 v2 v3 X Y R L S (fun r X' Y' R' => wM_set v1 v2 v3 I J (fun r' I' J' => qE L S r r' I' J' X' Y' R')) := by
  have hn := h.1.1
  have hsh : ∀ s, s < 8 → rSh n I X s := h.2.2.2.1
  rcases ix_shelf v1 with h1 | ⟨s, hs, rfl⟩
  · unfold wX11_set wX11_noRow
    refine x_shelfN h1 (bff ?_)
    exact br_m (by decide) (br_f (by decide) (both_no1 h (fun Q q => m_shelfN h1 (bff q))))
  have ec : (nI s).toNatClampNeg = s := nI_clamp (by omega)
  have hin : vp_in (nI s) 8 := vp_in_nI hs (by decide)
  have mk : ∀ Q : Int32 → Prop, wX8_holdsRow s X Y R L S (fun r4 => (r4 = false → wX8_holdsStrip s X Y R L S (fun r6 => (r6 = false → Q (-3)) ∧ (r6 = true → Q (-2)))) ∧ (r4 = true → Q 0)) → wX11_noRow (nI s) X Y R L S Q := by
    intro Q q
    refine x_shelfY hs (btt ⟨hin, ?_⟩)
    rw [ec]
    exact q
  have mm : ∀ Q : Int32 → gI → gJ → Prop, ((¬ I 5 s = 2 → (¬ I 5 s = 0 → (v2 < 0 → wM_set_c61 I J Q) ∧ (¬ v2 < 0 → (v2 < I 7 s → (¬ I 6 s = 0 → (¬ I 6 s = 1 → (¬ I 6 s = 2 → vp_in ((160 * nI s) + v2) 1280 ∧ ∀ J12 : gJ, J12 = upJ J 2 (((160 * nI s) + v2).toNatClampNeg) v3 → Q 1 I J12) ∧ (I 6 s = 2 → vp_in ((160 * nI s) + v2) 1280 ∧ ∀ J15 : gJ, J15 = upJ J 2 (((160 * nI s) + v2).toNatClampNeg) v3.toInt32.toInt64 → Q 1 I J15)) ∧ (I 6 s = 1 → vp_in ((160 * nI s) + v2) 1280 ∧ ∀ J18 : gJ, J18 = upJ J 2 (((160 * nI s) + v2).toNatClampNeg) v3.toInt32.toInt16.toInt32.toInt64 → Q 1 I J18)) ∧ (I 6 s = 0 → vp_in ((160 * nI s) + v2) 1280 ∧ ∀ J21 : gJ, J21 = upJ J 2 (((160 * nI s) + v2).toNatClampNeg) v3.toInt32.toInt8.toInt32.toInt64 → Q 1 I J21)) ∧ (¬ v2 < I 7 s → wM_set_c61 I J Q))) ∧ (I 5 s = 0 → wM_no (-3) I J (fun r23 I24 J25 => Q r23 I24 J25))) ∧ (I 5 s = 2 → wM_no (-2) I J (fun r26 I27 J28 => Q r26 I27 J28))) → wM_set (nI s) v2 v3 I J Q := by
    intro Q q
    refine m_shelfY hs (btt ⟨hin, ?_⟩)
    rw [ec]
    exact q
  rcases hsh s hs with ⟨e1, e2, e3⟩ | ⟨e1, o, m, ho, hm, e2, e3, e4, e5⟩ | ⟨e1, e2, j, hj, e3, e4⟩
  · refine mk _ (x_hr0 (Or.inl e2) (btf (x_hs0 (Or.inl e2) (btf (br_m (by decide) (br_f (by decide) (both_no3 h (fun Q q => mm Q ?_))))))))
    rw [e1]
    exact br_m (by decide) (br_n rfl q)
  rotate_left
  · refine mk _ (x_hr0 (Or.inr ⟨j, by omega, e4⟩) (btf (x_hs1 (by omega) e4 (bft (br_m (by decide) (br_f (by decide) (both_no2 h (fun Q q => mm Q ?_))))))))
    rw [e1]
    exact br_n rfl q
  refine mk _ (x_hr1 ho e3 (bft (br_n rfl ⟨hin, ?_⟩)))
  rw [ec]
  rw [e1, e2, e4] at mm
  rcases (show (v2 < 0 ∨ nI m ≤ v2) ∨ ∃ k : Nat, k < m ∧ v2 = nI k by
    rcases ix_size v2 hm with a | a | a
    · exact Or.inl (Or.inl a)
    · exact Or.inl (Or.inr a)
    · exact Or.inr a) with h2 | ⟨k, hk, rfl⟩
  · refine x_hasN e5 h2 (bff (br_f ne_m5 (both_no5 h (fun Q q => mm Q (br_m (by decide) (br_m (by decide) ?_))))))
    rcases h2 with h2 | h2
    · exact br_t h2 q
    · exact ⟨fun _ => q, fun _ => br_f (fun e => absurd h2 (fa_of_lt e).2.1) q⟩
  refine x_hasY e5 hm hk (btt (br_t rfl ⟨hin, ?_⟩))
  rw [ec]
  unfold wX8_put
  refine x_hasY e5 hm hk (bft ?_)
  have ei : (160 : Int32) * nI s + nI k = nI (160 * s + k) := by
    show nI 160 * nI s + nI k = _
    rw [pk_mul, nI_add]
  rw [ei, nI_clamp (show 160 * s + k < 2147483648 by omega)] at mm
  have hin2 : vp_in (nI (160 * s + k)) 1280 := vp_in_nI (by omega) (by decide)
  have fin : ∀ w : Int64, qE L S (1 : Int32) 1 I (upJ J 2 (160 * s + k) w) X (upJ Y (3 + s) k w) R := by
    intro w
    refine qE.of (h.shelf hs (fun _ _ _ _ _ => rfl) (fun _ _ _ => rfl) (fun _ _ _ => rfl) (fun _ _ _ => rfl) (fun a ha => upJ_n ha) (fun a ha => upJ_n ha) (fun a ha => ?_) (fun a ha => ?_) (Or.inr (Or.inl ⟨e1, o, m, ho, hm, e2, e3, e4, e5⟩))) rfl
    · rw [upJ_at, if_neg (by omega)]
    · rw [upJ_at, upJ_at]
      by_cases ea : a = k
      · rw [if_pos ⟨rfl, ea⟩, if_pos ⟨rfl, by omega⟩]
      · rw [if_neg (fun e => ea e.2), if_neg (fun e => ea (by omega))]
        exact h.2.2.2.2.1 s hs a ha
  have eo : nI (100 + o) - 100 = nI o := by
    have : (100 : Int32) = nI 100 := rfl
    rw [this, pk_sub (by omega), Nat.add_sub_cancel_left]
  have E : ∀ c : Nat, c < 4 → (nI o = nI c ↔ o = c) := fun c hc => nI_eq (by omega) (by omega)
  have sel : ∀ (P : Int64 → Prop), (o = 0 → P v3.toInt32.toInt8.toInt32.toInt64) → (o = 1 → P v3.toInt32.toInt16.toInt32.toInt64) → (o = 2 → P v3.toInt32.toInt64) → (o = 3 → P v3) → wX8_cutToSort s v3 X Y R L S P := by
    intro P p0 p1 p2 p3
    unfold wX8_cutToSort
    rw [e3, eo]
    refine ⟨fun e => p0 ((E 0 (by omega)).mp e), fun n0 => ⟨fun e => p1 ((E 1 (by omega)).mp e), fun n1 => ⟨fun e => p2 ((E 2 (by omega)).mp e), fun n2 => p3 ?_⟩⟩⟩
    have a0 : o ≠ 0 := fun e => n0 ((E 0 (by omega)).mpr e)
    have a1 : o ≠ 1 := fun e => n1 ((E 1 (by omega)).mpr e)
    have a2 : o ≠ 2 := fun e => n2 ((E 2 (by omega)).mpr e)
    omega
  have hk0 : ¬ nI k < 0 := nI_pos (by omega)
  have hkm : nI k < nI m := nI_lt hk (by omega)
  have hk160 : vp_in (nI k) 160 := vp_in_nI (by omega) (by decide)
  have eck : (nI k).toNatClampNeg = k := nI_clamp (by omega)
  refine sel _ (fun e => ⟨hk160, ?_⟩) (fun e => ⟨hk160, ?_⟩) (fun e => ⟨hk160, ?_⟩) (fun e => ⟨hk160, ?_⟩)
  all_goals
    rw [eck]
    rintro J5 rfl
    subst e
    refine mm _ (br_m (by decide) (br_m (by decide) (br_f hk0 (br_t hkm ?_))))
  · exact br_n rfl ⟨hin2, by rintro J9 rfl; exact fin _⟩
  · exact br_m (by decide) (br_n rfl ⟨hin2, by rintro J9 rfl; exact fin _⟩)
  · exact br_m (by decide) (br_m (by decide) (br_n rfl ⟨hin2, by rintro J9 rfl; exact fin _⟩))
  · exact br_m (by decide) (br_m (by decide) (br_m (by decide) ⟨hin2, by rintro J9 rfl; exact fin _⟩))
theorem pc_element {n : Nat} {T : Nat → gP} {I X : gI} {J Y : gJ} {R : gR} {L : List Nat} {S : gS} (h : Rl n T I J X Y R L S) (v1 v2 : Int32) : wX11_element v1 v2 X Y R L S (fun r => wM_element v1 v2 I J (fun r' => r = r')) := by
  rcases ix_shelf v1 with h1 | ⟨s, hs, rfl⟩
  · exact x_shelfN h1 (btf (m_shelfN h1 (btf rfl)))
  have ec : (nI s).toNatClampNeg = s := nI_clamp (by omega)
  have hin : vp_in (nI s) 8 := vp_in_nI hs (by decide)
  have mk : ∀ Q : Int64 → Prop, ((¬ I 5 s = 1 → Q 0) ∧ (I 5 s = 1 → (v2 < 0 → Q 0) ∧ (¬ v2 < 0 → (I 7 s ≤ v2 → Q 0) ∧ (¬ I 7 s ≤ v2 → vp_in ((160 * nI s) + v2) 1280 ∧ Q (J 2 ((160 * nI s) + v2).toNatClampNeg))))) → wM_element (nI s) v2 I J Q := by
    intro Q q
    refine m_shelfY hs (bft ⟨hin, ?_⟩)
    rw [ec]
    exact q
  refine x_shelfY hs (bft ⟨hin, ?_⟩)
  rw [ec]
  have small : X 4 s = nI 0 → ¬ I 5 s = 1 → wX8_has s v2 X Y R L S (fun r4 => (r4 = true → vp_in v2 160 ∧ wM_element (nI s) v2 I J (fun r' => Y (3 + s) v2.toNatClampNeg = r')) ∧ (r4 = false → wM_element (nI s) v2 I J (fun r' => 0 = r'))) := by
    intro e ne
    refine x_hasN e ?_ (bff (mk _ (br_m ne rfl)))
    rcases ix_size v2 (m := 0) (by omega) with a | a | ⟨k, hk, _⟩
    · exact Or.inl a
    · exact Or.inr a
    · omega
  rcases h.2.2.2.1 s hs with ⟨e1, e2, e3⟩ | ⟨e1, o, m, ho, hm, e2, e3, e4, e5⟩ | ⟨e1, e2, j, hj, e3, e4⟩
  · exact small e3 (by rw [e1]; decide)
  rotate_left
  · exact small e2 (by rw [e1]; decide)
  rw [e1, e4] at mk
  rcases ix_size v2 hm with h2 | h2 | ⟨k, hk, rfl⟩
  · exact x_hasN e5 (Or.inl h2) (bff (mk _ (br_n rfl (br_t h2 rfl))))
  · exact x_hasN e5 (Or.inr h2) (bff (mk _ (br_n rfl ⟨fun _ => rfl, fun _ => br_t h2 rfl⟩)))
  refine x_hasY e5 hm hk (btt ⟨vp_in_nI (by omega) (by decide), mk _ (br_n rfl (br_f (nI_pos (by omega)) (br_f (nI_ge hk (by omega)) ?_)))⟩)
  have ei : (160 : Int32) * nI s + nI k = nI (160 * s + k) := by
    show nI 160 * nI s + nI k = _
    rw [pk_mul, nI_add]
  rw [ei, nI_clamp (by omega), nI_clamp (by omega)]
  exact ⟨vp_in_nI (by omega) (by decide), h.2.2.2.2.1 s hs k (by omega)⟩
theorem pc_holds {n : Nat} {T : Nat → gP} {I X : gI} {J Y : gJ} {R : gR} {L : List Nat} {S : gS} (h : Rl n T I J X Y R L S) (v1 : Int32) : wX11_holds v1 X Y R L S (fun r => wM_holds v1 I J (fun r' => r = r')) := by
  rcases ix_shelf v1 with h1 | ⟨s, hs, rfl⟩
  · exact x_shelfN h1 (btf (m_shelfN h1 (btf rfl)))
  have ec : (nI s).toNatClampNeg = s := nI_clamp (by omega)
  have hin : vp_in (nI s) 8 := vp_in_nI hs (by decide)
  refine x_shelfY hs (bft ⟨hin, m_shelfY hs (bft ⟨hin, ?_⟩)⟩)
  rw [ec]
  rcases h.2.2.2.1 s hs with ⟨e1, e2, e3⟩ | ⟨e1, o, m, ho, hm, e2, e3, e4, e5⟩ | ⟨e1, e2, j, hj, e3, e4⟩
  · rw [e1, e2]
    exact br_n rfl rfl
  · rw [e1, e2, e3]
    exact br_m (by decide) (br_n rfl (nI_add 100 o).symm)
  · rw [e1, e3, e4]
    exact br_m (by decide) (br_m (by decide) rfl)
theorem pc_show {n : Nat} {T : Nat → gP} {I X : gI} {J Y : gJ} {R : gR} {L : List Nat} {S : gS} (h : Rl n T I J X Y R L S) (v1 v2 : Int32) : wX11_show v1 v2 X Y R L S (fun r X' Y' R' => wM_show v1 v2 I J (fun r' I' J' => qE L S r r' I' J' X' Y' R')) := by
  have hn := h.1.1
  rcases ix_shelf v1 with h1 | ⟨s, hs, rfl⟩
  · exact x_shelfN h1 (btf (both_no1 h (fun Q q => m_shelfN h1 (btf q))))
  have ec : (nI s).toNatClampNeg = s := nI_clamp (by omega)
  have hin : vp_in (nI s) 8 := vp_in_nI hs (by decide)
  have fin : ∀ (w : Int32) (c : Nat) (r : Int32), rSh n (upI (upI I 5 s (nI c)) 8 s w) (upI (upI X 3 s w) 4 s 0) s → qE L S r r (upI (upI I 5 s (nI c)) 8 s w) J (upI (upI X 3 s w) 4 s 0) Y R := by
    intro w c r hsh
    refine qE.of (h.shelf hs ?_ ?_ ?_ ?_ (fun _ _ => rfl) (fun _ _ => rfl) (fun _ _ => rfl) (fun a ha => h.2.2.2.2.1 s hs a ha) hsh) rfl
    · intro k a b c d
      rw [upI_n (by omega), upI_n (by omega)]
    · intro k a b
      rw [upI_n (by omega), upI_n (by omega)]
    · intro k i a
      rw [upI_at, if_neg (by omega), upI_at, if_neg (by omega)]
    · intro k i a
      rw [upI_at, if_neg (by omega), upI_at, if_neg (by omega)]
  have xc : ∀ (w : Int32) (Q : Int32 → gI → gJ → gR → Prop), ((¬ w = -1 → Q 1 (upI (upI X 3 s w) 4 s 0) Y R) ∧ (w = -1 → Q 0 (upI (upI X 3 s w) 4 s 0) Y R)) → wX11_show_c27 L S (nI s) w X Y R Q := by
    intro w Q q
    unfold wX11_show_c27 wX8_hold
    rw [ec]
    refine ⟨hin, ?_⟩
    rintro X1 rfl X3 rfl
    exact q
  have mc : ∀ (w : Int32) (c : Nat) (Q : Int32 → gI → gJ → Prop), ((¬ w = -1 → Q 1 (upI (upI I 5 s (nI c)) 8 s w) J) ∧ (w = -1 → Q 0 (upI (upI I 5 s (nI c)) 8 s w) J)) → wM_show_c42 (nI s) w (nI s) (nI c) I J Q := by
    intro w c Q q
    unfold wM_show_c42
    rw [ec]
    refine ⟨hin, ?_⟩
    rintro I1 rfl
    refine ⟨hin, ?_⟩
    rintro I3 rfl
    exact q
  refine x_shelfY hs (bft ?_)
  rcases Decidable.em (v2 = -1) with e | e
  · subst e
    refine br_t rfl (xc _ _ (br_n rfl ?_))
    refine m_shelfY hs (bft (br_t rfl (br_n rfl (mc _ 0 _ (br_n rfl ?_)))))
    refine fin _ 0 0 (Or.inl ⟨?_, ?_, ?_⟩)
    · simp only [upI_at]
      simp
    · simp only [upI_at]
      simp
    · simp only [upI_at]
      simp
      rfl
  refine br_f e ?_
  rcases ix_strip v2 hn with h2 | ⟨j, hj, rfl⟩
  · exact x_stripN h.1.2.2.1 hn h2 (bff (both_no1 h (fun Q q => m_shelfY hs (bft (br_f e (m_stripN h.1.2.1 h2 (bff q)))))))
  refine x_stripY h.1.2.2.1 hn hj (btt (xc _ _ (br_m e ?_)))
  refine m_shelfY hs (bft (br_f e (m_stripY h.1.2.1 hn hj (btt ?_))))
  refine br_m e (mc _ 2 _ (br_m e ?_))
  refine fin _ 2 1 (Or.inr (Or.inr ⟨?_, ?_, j, hj, ?_, ?_⟩))
  · simp only [upI_at]
    simp
  · simp only [upI_at]
    simp
    rfl
  · simp only [upI_at]
    simp
  · simp only [upI_at]
    simp
theorem pc_fault {n : Nat} {T : Nat → gP} {I X : gI} {J Y : gJ} {R : gR} {L : List Nat} {S : gS} (h : Rl n T I J X Y R L S) : wX11_fault X Y R L S (fun r => wM_fault I J (fun r' => r = r')) := h.2.2.2.2.2.2.1
