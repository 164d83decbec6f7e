/-! copy -/
theorem x_hsB {n : Nat} {T : Nat → gP} {I X : gI} {J Y : gJ} {R : gR} {L : List Nat} {S : gS} (h : Rl n T I J X Y R L S) {s : Nat} (hs : s < 8) {Q : Bool → Prop} (h1 : I 5 s = 2 → Q true) (h0 : ¬ I 5 s = 2 → Q false) : wX8_holdsStrip s X Y R L S Q := by
  have hn := h.1.1
  rcases h.2.2.2.1 s hs with ⟨e1, e2, e3⟩ | ⟨e1, o, m, ho, hm, e2, e3, e4, e5⟩ | ⟨e1, e2, j, hj, e3, e4⟩
  · exact x_hs0 (Or.inl e2) (h0 (by rw [e1]; decide))
  · exact x_hs0 (Or.inr ⟨o, ho, e3⟩) (h0 (by rw [e1]; decide))
  · exact x_hs1 (by omega) e4 (h1 e1)
theorem x_hrB {n : Nat} {T : Nat → gP} {I X : gI} {J Y : gJ} {R : gR} {L : List Nat} {S : gS} (h : Rl n T I J X Y R L S) {s : Nat} (hs : s < 8) {Q : Bool → Prop} (h1 : I 5 s = 1 → Q true) (h0 : ¬ I 5 s = 1 → Q false) : wX8_holdsRow s X Y R L S Q := by
  have hn := h.1.1
  rcases h.2.2.2.1 s hs with ⟨e1, e2, e3⟩ | ⟨e1, o, m, ho, hm, e2, e3, e4, e5⟩ | ⟨e1, e2, j, hj, e3, e4⟩
  · exact x_hr0 (Or.inl e2) (h0 (by rw [e1]; decide))
  · exact x_hr1 ho e3 (h1 e1)
  · exact x_hr0 (Or.inr ⟨j, by omega, e4⟩) (h0 (by rw [e1]; decide))
theorem sh_or {n : Nat} {T : Nat → gP} {I X : gI} {J Y : gJ} {R : gR} {L : List Nat} {S : gS} (h : Rl n T I J X Y R L S) {s : Nat} (hs : s < 8) : I 5 s = 0 ∨ I 5 s = 1 ∨ I 5 s = 2 := by
  rcases h.2.2.2.1 s hs with ⟨e1, _⟩ | ⟨e1, _⟩ | ⟨e1, _⟩
  · exact Or.inl e1
  · exact Or.inr (Or.inl e1)
  · exact Or.inr (Or.inr e1)
theorem sh_row {n : Nat} {T : Nat → gP} {I X : gI} {J Y : gJ} {R : gR} {L : List Nat} {S : gS} (h : Rl n T I J X Y R L S) {s : Nat} (hs : s < 8) (e : I 5 s = 1) : ∃ o m : Nat, o ≤ 3 ∧ m ≤ 160 ∧ I 6 s = nI o ∧ X 3 s = nI (100 + o) ∧ I 7 s = nI m ∧ X 4 s = nI m := by
  rcases h.2.2.2.1 s hs with ⟨e1, _⟩ | ⟨_, h1⟩ | ⟨e1, _⟩
  · rw [e] at e1; exact absurd e1 (by decide)
  · exact h1
  · rw [e] at e1; exact absurd e1 (by decide)
theorem m_copyL {I : gI} {J : gJ} {p q i j k : Nat} (hp : p < 8) (hq : q < 8) (hi : i + k ≤ 160) (hj : j + k ≤ 160) {Q : Int32 → gI → gJ → Prop} (hQ : ∀ J1 J2 : gJ, (∀ a, a ≠ 3 → J1 a = J a) → (∀ a, a ≠ 2 → J2 a = J1 a) → (∀ c, c < k → J2 2 (160 * q + j + c) = J 2 (160 * p + i + c)) → (∀ c, c < 160 * q + j ∨ 160 * q + j + k ≤ c → J2 2 c = J 2 c) → Q 1 I J2) : ∃ n : Nat, wM_copy_l167 Q n (nI p) (nI q) (nI i) (nI j) (nI k) 0 I J := by
  have two : ∀ J1 : gJ, (∀ a, a ≠ 3 → J1 a = J a) → (∀ c, c < k → J1 3 c = J 2 (160 * p + i + c)) → ∃ n : Nat, wM_copy_l205 Q n (nI q) (nI j) (nI k) 0 I J1 := by
    intro J1 a1 a2
    have key : ∀ (g c : Nat) (J2 : gJ), g + c = k → (∀ a, a ≠ 2 → J2 a = J1 a) → (∀ d, d < c → J2 2 (160 * q + j + d) = J 2 (160 * p + i + d)) → (∀ d, d < 160 * q + j ∨ 160 * q + j + c ≤ d → J2 2 d = J 2 d) → wM_copy_l205 Q (g + 1) (nI q) (nI j) (nI k) (nI c) I J2 := by
      intro g
      induction g with
      | zero =>
        intro c J2 e b1 b2 b3
        obtain rfl : c = k := by omega
        exact br_t (nI_le (Nat.le_refl _) (by omega)) (hQ J1 J2 a1 b1 b2 b3)
      | succ g ih =>
        intro c J2 e b1 b2 b3
        have ei : (160 : Int32) * nI q + nI j + nI c = nI (160 * q + j + c) := by
          show nI 160 * nI q + nI j + nI c = _
          rw [pk_mul, nI_add, nI_add]
        show wM_copy_b205 _ _ _ _ _ _ _ Q
        unfold wM_copy_b205
        rw [ei]
        refine br_f (nI_ge (by omega) (by omega)) ⟨vp_in_nI (by omega) (by decide), vp_in_nI (by omega) (by decide), ?_⟩
        rintro J4 rfl
        rw [nI_clamp (by omega), nI_clamp (by omega), nI_1]
        refine ih (c + 1) _ (by omega) (fun a ha => ?_) (fun d hd => ?_) (fun d hd => ?_)
        · rw [upJ_n ha]
          exact b1 a ha
        · rw [upJ_at]
          by_cases ed : d = c
          · rw [if_pos ⟨rfl, by omega⟩, b1 3 (by omega), a2 c (by omega), ed]
          · rw [if_neg (fun e => ed (by omega))]
            exact b2 d (by omega)
        · rw [upJ_at, if_neg (by omega)]
          exact b3 d (by omega)
    exact ⟨k + 1, key k 0 J1 (by omega) (fun _ _ => rfl) (fun d hd => absurd hd (by omega)) (fun d _ => by rw [a1 2 (by omega)])⟩
  have key : ∀ (g c : Nat) (J1 : gJ), g + c = k → (∀ a, a ≠ 3 → J1 a = J a) → (∀ d, d < c → J1 3 d = J 2 (160 * p + i + d)) → wM_copy_l167 Q (g + 1) (nI p) (nI q) (nI i) (nI j) (nI k) (nI c) I J1 := by
    intro g
    induction g with
    | zero =>
      intro c J1 e b1 b2
      obtain rfl : c = k := by omega
      exact br_t (nI_le (Nat.le_refl _) (by omega)) (two J1 b1 b2)
    | succ g ih =>
      intro c J1 e b1 b2
      have ei : (160 : Int32) * nI p + nI i + nI c = nI (160 * p + i + c) := by
        show nI 160 * nI p + nI i + nI c = _
        rw [pk_mul, nI_add, nI_add]
      show wM_copy_b167 _ _ _ _ _ _ _ _ _ Q
      unfold wM_copy_b167
      rw [ei]
      refine br_f (nI_ge (by omega) (by omega)) ⟨vp_in_nI (by omega) (by decide), vp_in_nI (by omega) (by decide), ?_⟩
      rintro J4 rfl
      rw [nI_clamp (by omega), nI_clamp (by omega), nI_1]
      refine ih (c + 1) _ (by omega) (fun a ha => ?_) (fun d hd => ?_)
      · rw [upJ_n ha]
        exact b1 a ha
      · rw [upJ_at]
        by_cases ed : d = c
        · rw [if_pos ⟨rfl, ed⟩, b1 2 (by omega), ed]
        · rw [if_neg (fun e => ed e.2)]
          exact b2 d (by omega)
  exact ⟨k + 1, key k 0 J (by omega) (fun _ _ => rfl) (fun d hd => absurd hd (by omega))⟩
theorem ge0 {v : Int32} (h : ¬ v < 0) : 0 ≤ v := fa_of_nlt h
theorem nge0 {v : Int32} (h : v < 0) : ¬ 0 ≤ v := (fa_of_lt h).2.1
theorem pc_copy {n : Nat} {T : Nat → gP} {I X : gI} {J Y : gJ} {R : gR} {L : List Nat} {S : gS} (h : Rl n T I J X Y R L S) (v1 v2 v3 v4 v5 : Int32) : wX11_copy v1 v2 v3 v4 v5 X Y R L S (fun r X' Y' R' => wM_copy v1 v2 v3 v4 v5 I J (fun r' I' J' => qE L S r r' I' J' X' Y' R')) := by
  unfold wX11_copy wX11_noCopy
  rcases ix_shelf v1 with h1 | ⟨p, hp, rfl⟩
  · refine x_shelfN h1 (btf ?_)
    exact br_f (by decide) (both_no1 h (fun Q q => m_shelfN h1 (btf q)))
  refine x_shelfY hp (bft ?_)
  rcases ix_shelf v2 with h2 | ⟨q, hq, rfl⟩
  · refine x_shelfN h2 (bff ?_)
    exact br_f (by decide) (both_no1 h (fun Q w => m_shelfY hp (bft (m_shelfN h2 (bff w)))))
  have ecp : (nI p).toNatClampNeg = p := nI_clamp (by omega)
  have ecq : (nI q).toNatClampNeg = q := nI_clamp (by omega)
  have inp : vp_in (nI p) 8 := vp_in_nI hp (by decide)
  have inq : vp_in (nI q) 8 := vp_in_nI hq (by decide)
  refine x_shelfY hq (btt ⟨inp, inq, ?_⟩)
  rw [ecp, ecq]
  have mk : ∀ Q : Int32 → gI → gJ → Prop, ((I 5 p = 2 → wM_copy_c77 I J Q) ∧ (¬ I 5 p = 2 → vp_in (nI q) 8 ∧ (I 5 q = 2 → wM_copy_c77 I J Q) ∧ (¬ I 5 q = 2 → (¬ I 5 p = 1 → wM_copy_c84 (nI p) (nI q) v3 v4 v5 I J Q) ∧ (I 5 p = 1 → (¬ I 5 q = 1 → wM_copy_c84 (nI p) (nI q) v3 v4 v5 I J Q) ∧ (I 5 q = 1 → (I 6 p = I 6 q → wM_copy_c84 (nI p) (nI q) v3 v4 v5 I J Q) ∧ (¬ I 6 p = I 6 q → wM_copy_c77 I J Q)))))) → wM_copy (nI p) (nI q) v3 v4 v5 I J Q := by
    intro Q w
    refine m_shelfY hp (bft (m_shelfY hq (btt ⟨inp, ?_⟩)))
    rw [ecp, ecq]
    exact w
  have r2 : (-2 : Int32) = 0 → False := by decide
  have r3 : (-3 : Int32) = 0 → False := by decide
  have r4 : (-4 : Int32) = 0 → False := by decide
  have r5 : (-5 : Int32) = 0 → False := by decide
  refine x_hsB h hp (fun a2 => btt ?_) (fun a2 => bff ?_)
  · exact br_f r2 (both_no2 h (fun Q w => mk Q (br_t a2 w)))
  refine x_hsB h hq (fun b2 => bft ?_) (fun b2 => btf ?_)
  · exact br_f r2 (both_no2 h (fun Q w => mk Q (br_f a2 ⟨inq, br_t b2 w⟩)))
  -- the rest, once no shelf of the two holds a strip
  have rest : (∀ Q, wM_copy_c84 (nI p) (nI q) v3 v4 v5 I J Q → wM_copy (nI p) (nI q) v3 v4 v5 I J Q) → wX11_noCopy_c85 X Y R L S v3 v4 v5 (some p) (some q) (fun r1 => (r1 = 0 → vp_in (nI p) 8 ∧ vp_in (nI q) 8 ∧ (¬ v3 < 0) ∧ (¬ v4 < 0) ∧ (¬ v5 < 0) ∧ (v3.toNatClampNeg + v5.toNatClampNeg ≤ 160) ∧ (v4.toNatClampNeg + v5.toNatClampNeg ≤ 160) ∧ ∀ J10 : gJ, J10 = cpJ Y (3 + p) (3 + q) v3.toNatClampNeg v4.toNatClampNeg v5.toNatClampNeg → wM_copy (nI p) (nI q) v3 v4 v5 I J (fun r' I' J' => qE L S (1 : Int32) r' I' J' X J10 R)) ∧ (¬ r1 = 0 → wX11_refuse r1 X Y R L S (fun r X' Y' R' => wM_copy (nI p) (nI q) v3 v4 v5 I J (fun r' I' J' => qE L S r r' I' J' X' Y' R')))) := by
    intro toC
    refine ⟨p, rfl, hp, x_hrB h hp (fun a1 => bft ?_) (fun a1 => btf ?_)⟩
    rotate_left
    · have a0 : I 5 p = 0 := by rcases sh_or h hp with e | e | e <;> first | exact e | exact absurd e a1 | exact absurd e a2
      refine br_f r3 (both_no3 h (fun Q w => toC Q ⟨inp, ?_⟩))
      rw [ecp]
      exact br_t a0 w
    have na0 : ¬ I 5 p = 0 := by rw [a1]; decide
    refine ⟨q, rfl, hq, x_hrB h hq (fun b1 => btt ?_) (fun b1 => bff ?_)⟩
    rotate_left
    · have b0 : I 5 q = 0 := by rcases sh_or h hq with e | e | e <;> first | exact e | exact absurd e b1 | exact absurd e b2
      refine br_f r3 (both_no3 h (fun Q w => toC Q ⟨inp, ?_⟩))
      rw [ecp, ecq]
      exact br_f na0 ⟨inq, fun e => absurd b0 e, fun _ => w⟩
    have nb0 : ¬ I 5 q = 0 := by rw [b1]; decide
    obtain ⟨o, m, ho, hm, e2, e3, e4, e5⟩ := sh_row h hp a1
    obtain ⟨o', m', ho', hm', f2, f3, f4, f5⟩ := sh_row h hq b1
    have toD : ∀ Q : Int32 → gI → gJ → Prop, ((0 ≤ v5 → (v3 < 0 → wM_copy_c157 I J Q) ∧ (¬ v3 < 0 → (v4 < 0 → wM_copy_c157 I J Q) ∧ (¬ v4 < 0 → ((nI m - v5) < v3 → wM_copy_c157 I J Q) ∧ (¬ (nI m - v5) < v3 → (v4 ≤ (nI m' - v5) → ∃ n : Nat, wM_copy_l167 Q n (nI p) (nI q) v3 v4 v5 0 I J) ∧ (¬ v4 ≤ (nI m' - v5) → wM_copy_c157 I J Q))))) ∧ (¬ 0 ≤ v5 → wM_no (-4) I J (fun r10 I11 J12 => Q r10 I11 J12))) → wM_copy (nI p) (nI q) v3 v4 v5 I J Q := by
      intro Q w
      refine toC Q ⟨inp, ?_⟩
      rw [ecp, ecq, e4, f4]
      exact br_f na0 ⟨inq, fun _ => w, fun e => absurd e nb0⟩
    rw [e5, f5]
    rcases Decidable.em (0 ≤ v5) with g5 | g5
    rotate_left
    · exact br_f g5 (br_f r4 (both_no4 h (fun Q w => toD Q (br_f g5 w))))
    refine br_t g5 ?_
    have no5 : ∀ {A : Prop}, (∀ Q : Int32 → gI → gJ → Prop, wM_no (-5) I J Q → wM_copy (nI p) (nI q) v3 v4 v5 I J Q) → wX11_noCopy_c170 X Y R L S (fun r1 => (r1 = 0 → A) ∧ (¬ r1 = 0 → wX11_refuse r1 X Y R L S (fun r X' Y' R' => wM_copy (nI p) (nI q) v3 v4 v5 I J (fun r' I' J' => qE L S r r' I' J' X' Y' R')))) := by
      intro A hq
      exact br_t rfl (br_f r5 (both_no5 h hq))
    rcases Decidable.em (v3 < 0) with g3 | g3
    · exact br_t g3 (no5 (fun Q w => toD Q (br_t g5 (br_t g3 w))))
    refine br_f g3 ?_
    rcases Decidable.em (v4 < 0) with g4 | g4
    · exact br_t g4 (no5 (fun Q w => toD Q (br_t g5 (br_f g3 (br_t g4 w)))))
    refine br_f g4 ?_
    have g5' : ¬ v5 < 0 := fun e => nge0 e g5
    obtain ⟨i, hi, rfl⟩ := nI_of g3
    obtain ⟨j, hj, rfl⟩ := nI_of g4
    obtain ⟨k, hk, rfl⟩ := nI_of g5'
    have sI : ∀ a : Nat, a ≤ 160 → ∀ b : Nat, b < 2147483648 → (nI a - nI k < nI b ↔ (a : Int) - k < b) := by
      intro a ha b hb
      rw [zI_n, zI_n, zI_n, zI_sub, zI_lt (by omega) (by omega) (by omega) (by omega)]
    have sI2 : ∀ a : Nat, a ≤ 160 → ∀ b : Nat, b < 2147483648 → (nI b ≤ nI a - nI k ↔ (b : Int) ≤ (a : Int) - k) := by
      intro a ha b hb
      rw [zI_n, zI_n, zI_n, zI_sub, zI_le (by omega) (by omega) (by omega) (by omega)]
    rw [sI m hm i hi, sI2 m' hm' j hj] at toD
    rw [nI_ltI (by omega) (by omega), nI_ltI (by omega) (by omega), sI m hm i hi, sI m' hm' j hj]
    rcases Decidable.em ((m : Int) - k < i) with c1 | c1
    · have no := fun Q w => toD Q (br_t g5 (br_f g3 (br_f g4 (br_t c1 w))))
      exact ⟨fun _ => no5 no, fun _ => ⟨fun _ => no5 no, fun _ => br_t c1 (no5 no)⟩⟩
    rcases Decidable.em ((m' : Int) - k < j) with c2 | c2
    · have no := fun Q w => toD Q (br_t g5 (br_f g3 (br_f g4 (br_f c1 (br_f (show ¬ (j : Int) ≤ m' - k by omega) w)))))
      exact ⟨fun _ => no5 no, fun _ => ⟨fun _ => no5 no, fun _ => br_f c1 (br_t c2 (no5 no))⟩⟩
    refine br_f (by omega) (br_f (by omega) (br_f c1 (br_f c2 ?_)))
    refine br_f (by decide) (br_t rfl ⟨inp, inq, g3, g4, g5', ?_⟩)
    rw [nI_clamp hi, nI_clamp hj, nI_clamp hk]
    refine ⟨by omega, by omega, ?_⟩
    rintro J10 rfl
    refine toD _ (br_t g5 (br_f g3 (br_f g4 (br_f c1 (br_t (show (j : Int) ≤ m' - k by omega) (m_copyL hp hq (by omega) (by omega) (fun J1 J2 j1 j2 j3 j4 => ?_)))))))
    have hf : mFr I J I J1 := ⟨fun _ _ _ => rfl, rfl, rfl, rfl, fun _ _ => rfl, j1 1 (by omega), j1 2 (by omega), j1 5 (by omega)⟩
    have h1 := h.fr hf xFr.rf
    refine qE.of (h1.shelf hq (fun _ _ _ _ _ => rfl) (fun _ _ _ => rfl) (fun _ _ _ => rfl) (fun _ _ _ => rfl) j2 (fun a ha => stJ_n ha) (fun c hc => ?_) (fun c hc => ?_) (Or.inr (Or.inl ⟨b1, o', m', ho', hm', f2, f3, f4, f5⟩))) rfl
    · rw [j1 2 (by omega)]
      exact j4 c (by omega)
    · show stJ Y (3 + q) (va_cpy (Y (3 + p)) (Y (3 + q)) i j k) (3 + q) c = _
      rw [stJ_s]
      rcases Nat.lt_or_ge c j with z | z
      · rw [pk_cpy_out (Or.inl z), j4 _ (by omega)]
        exact h.2.2.2.2.1 q hq c hc
      · rcases Nat.lt_or_ge c (j + k) with z2 | z2
        · rw [pk_cpy_in z z2]
          have := j3 (c - j) (by omega)
          rw [show 160 * q + j + (c - j) = 160 * q + c by omega] at this
          rw [this, h.2.2.2.2.1 p hp _ (by omega), Nat.add_assoc]
        · rw [pk_cpy_out (Or.inr z2), j4 _ (by omega)]
          exact h.2.2.2.2.1 q hq c hc
  refine x_hrB h hp (fun a1 => bft ?_) (fun a1 => btf ?_)
  rotate_left
  · exact rest (fun Q w => mk Q (br_f a2 ⟨inq, br_f b2 (br_m a1 w)⟩))
  refine x_hrB h hq (fun b1 => bft ?_) (fun b1 => btf ?_)
  rotate_left
  · exact rest (fun Q w => mk Q (br_f a2 ⟨inq, br_f b2 (br_n a1 (br_m b1 w))⟩))
  obtain ⟨o, m, ho, hm, e2, e3, e4, e5⟩ := sh_row h hp a1
  obtain ⟨o', m', ho', hm', f2, f3, f4, f5⟩ := sh_row h hq b1
  have es : X 3 p = X 3 q ↔ I 6 p = I 6 q := by
    rw [e3, f3, e2, f2, nI_eq (by omega) (by omega), nI_eq (by omega) (by omega)]
    omega
  rcases Decidable.em (I 6 p = I 6 q) with g | g
  · exact br_t (es.mpr g) (rest (fun Q w => mk Q (br_f a2 ⟨inq, br_f b2 (br_n a1 (br_n b1 (br_t g w)))⟩)))
  · exact br_f (fun e => g (es.mp e)) (br_f r2 (both_no2 h (fun Q w => mk Q (br_f a2 ⟨inq, br_f b2 (br_n a1 (br_n b1 (br_f g w)))⟩))))
