/-! read: whole texts -/
theorem rd_f {g : Nat → Int32} {z d n : Nat} {T : Nat → gP} {a i p : Nat} (e : fh_it g z n T a = .inl p) : fh_rd g z (d + 1) n T a i = .inl p := by
  rw [fh_rd, e]
  rfl
theorem rd_s {g : Nat → Int32} {z d n : Nat} {T : Nat → gP} {a i n' a' : Nat} {T' : Nat → gP} (e : fh_it g z n T a = .inr (n', T', a')) : fh_rd g z (d + 1) n T a i = if z ≤ a' then .inr (n', T', i + 1) else if fh_hr g z a' = 59 then fh_rd g z d n' T' (a' + 1) (i + 1) else .inl a' := by
  rw [fh_rd, e]
  rfl
theorem x_tellL {n0 : Nat} {T0 : Nat → gP} {I : gI} {J : gJ} {g : Nat → Int32} {s z : Nat} {Q : Int32 → gI → gJ → gR → List Nat → gS → Prop} : ∀ (d n : Nat) (T : Nat → gP) (a i : Nat) (X : gI) (Y : gJ) (R : gR) (L : List Nat) (S : gS), d + i = 160 → 2 * i ≤ a → xI n0 T0 I J g s z n T a X Y R L S → X 0 6 = -1 → (∀ p, fh_rd g z d n T a i = .inl p → p ≤ 160 → ∀ v X' Y' R' L' S', Rl n0 T0 I J X' Y' R' L' S' → X' 0 6 = nI p → Q v X' Y' R' L' S') → (∀ n' T' c, fh_rd g z d n T a i = .inr (n', T', c) → ∀ b X' Y' R' L' S', xI n0 T0 I J g s z n' T' b X' Y' R' L' S' → X' 0 6 = -1 → Q (nI c) X' Y' R' L' S') → wX6_tell_l9 s Q (d + 1) (nI i) 1 X Y R L S := by
  intro d
  induction d with
  | zero =>
    intro n T a i X Y R L S hd hi H
    have h1 := H.2.1.2.2.2.1
    have h2 := H.2.1.2.2.2.2.2.1
    exfalso
    omega
  | succ d ih =>
    intro n T a i X Y R L S hd hi H h6 hF hT
    have hz := H.2.1.2.2.2.1
    have ha := H.2.1.2.2.2.2.2.1
    have stop : ∀ (v : Int32) (X' : gI) (Y' : gJ) (R' : gR) (L' : List Nat) (S' : gS), Q v X' Y' R' L' S' → wX6_tell_l9 s Q (d + 1) v 0 X' Y' R' L' S' := fun v X' Y' R' L' S' q => br_t rfl q
    have bad : ∀ p, fh_it g z n T a = .inl p → p ≤ 160 → ∀ X' Y' R' L' S', Rl n0 T0 I J X' Y' R' L' S' → X' 0 6 = nI p → wX6_tell_c83 s (wX6_tell_l9 s Q (d + 1)) (nI i + 1) (bI false) X' Y' R' L' S' Q := by
      intro p e hp X' Y' R' L' S' hR h
      exact br_t rfl (stop _ _ _ _ _ _ (hF p (rd_f e) hp _ _ _ _ _ _ hR h))
    have good : ∀ n' T' a', fh_it g z n T a = .inr (n', T', a') → ∀ X' Y' R' L' S', xI n0 T0 I J g s z n' T' a' X' Y' R' L' S' → X' 0 6 = X 0 6 → wX6_tell_c83 s (wX6_tell_l9 s Q (d + 1)) (nI i + 1) (bI true) X' Y' R' L' S' Q := by
      intro n' T' a' e X' Y' R' L' S' H' h
      have hg := it_gt ha e
      have hg : a < a' := hg
      have hr := rd_s (d := d) (i := i) e
      have hz' := H'.2.1.2.2.2.2.2.1
      have h' : X' 0 6 = -1 := h.trans h6
      unfold wX6_tell_c83
      rw [H'.2.1.2.2.1, H'.2.1.2.2.2.2.1, nI_leI (by omega) (by omega), nI_1]
      refine br_f (by decide) ⟨fun c => ?_, fun c => ?_⟩
      · rw [if_pos c] at hr
        exact stop _ _ _ _ _ _ (hT _ _ _ hr _ _ _ _ _ _ H' h')
      · rw [if_neg c] at hr
        refine x_smi H' (fun c2 X2 H2 e2 => bft ?_) (fun c2 X2 h2 e2 => btf ?_)
        · rw [if_pos c2] at hr
          rw [hr] at hF hT
          exact ih n' T' (a' + 1) (i + 1) X2 Y' R' L' S' (by omega) (by omega) H2 (e2.trans h') hF hT
        · rw [if_neg c2] at hr
          exact stop _ _ _ _ _ _ (hF _ hr (by omega) _ _ _ _ _ _ h2 e2)
    show wX6_tell_b9 s (wX6_tell_l9 s Q (d + 1)) (nI i) 1 X Y R L S Q
    unfold wX6_tell_b9
    refine br_f (by decide) (br_f (nI_ge (a := i) (b := 160) (by omega) (by omega)) (x_here H.2.1 ?_))
    refine ⟨fun n1 => ⟨fun n2 => ⟨fun n3 => ?_, fun y3 => ?_⟩, fun y2 => ?_⟩, fun y1 => ?_⟩
    · have e : fh_it g z n T a = .inl a := by
        unfold fh_it
        rw [if_neg n1, if_neg n2, if_neg n3]
      rw [H.2.1.2.2.2.2.1]
      refine x_fail ?_
      exact bad a e (by omega) _ Y R L S (H.1.rd (fun a ha => upI_n ha) (fun j hj => by rw [upI_s, upd_n (by omega)]) (fun _ _ => rfl) rfl rfl (H.1.2.1 2 (by omega))) (by rw [upI_s, upd_s])
    · have e : fh_it g z n T a = fh_l1 g z n T a := by
        unfold fh_it
        rw [if_neg n1, if_neg n2, if_pos y3]
      exact x_itL H (fun p ep hp X' Y' R' hR h => bad p (e.trans ep) hp _ _ _ _ _ hR h) (fun n' T' a' ep X' Y' R' L' S' H' h => good n' T' a' (e.trans ep) _ _ _ _ _ H' h)
    · have e : fh_it g z n T a = fh_t1 g z n T a := by
        unfold fh_it
        rw [if_neg n1, if_pos y2]
      exact x_itT H (fun p ep hp X' Y' R' hR h => bad p (e.trans ep) hp _ _ _ _ _ hR h) (fun n' T' a' ep X' Y' R' L' S' H' h => good n' T' a' (e.trans ep) _ _ _ _ _ H' h)
    · have e : fh_it g z n T a = fh_s1 g z n T a := by
        unfold fh_it
        rw [if_pos y1]
      exact x_itS H (fun p ep hp X' Y' R' hR h => bad p (e.trans ep) hp _ _ _ _ _ hR h) (fun n' T' a' ep X' Y' R' L' S' H' h => good n' T' a' (e.trans ep) _ _ _ _ _ H' h)
theorem m_rdL {g : Nat → Int32} {s z : Nat} {Q : Int32 → gI → gJ → Prop} : ∀ (d n : Nat) (T : Nat → gP) (a i : Nat) (I : gI) (J : gJ), d + i = 160 → 2 * i ≤ a → mI g s z n T a I J → (∀ p, fh_rd g z d n T a i = .inl p → ∀ v I' J', mG I J I' J' → I' 0 6 = nI p → wM_read_c137 v 0 I' J' Q) → (∀ n' T' c, fh_rd g z d n T a i = .inr (n', T', c) → ∀ b I' J', mG I J I' J' → mI g s z n' T' b I' J' → Q (nI c) I' J') → ∀ P : Bool → gI → gJ → Prop, (∀ r I' J', wM_read_l66 Q (d + 1) (nI (i + 1)) (bI r) I' J' → P r I' J') → wM_item I J P := by
  intro d
  induction d with
  | zero =>
    intro n T a i I J hd hi H
    have h1 := H.1.2.2.2.1
    have h2 := H.1.2.2.2.2.2.1
    exfalso
    omega
  | succ d ih =>
    intro n T a i I J hd hi H hF hT P hP
    have hz := H.1.2.2.2.1
    have ha := H.1.2.2.2.2.2.1
    refine m_item H (fun p e I' J' G h => hP _ _ _ ?_) (fun n' T' a' e => ?_)
    · exact br_t rfl (hF p (rd_f e) _ I' J' G h)
    have hg : a < a' := it_gt ha e
    have hr := rd_s (d := d) (i := i) e
    refine ⟨fun I' J' G H' => hP _ _ _ ?_, fun hw I' J' G h => hP _ _ _ ?_⟩
    rotate_left
    · have hin := isw_in hw
      rw [if_neg (by omega), if_neg (fun e9 => by rw [e9] at hw; exact absurd hw (by decide))] at hr
      exact br_t rfl (hF a' hr _ I' J' G h)
    have hz' := H'.1.2.2.2.2.2.1
    show wM_read_b66 _ _ _ _ _ Q
    unfold wM_read_b66
    rw [H'.1.2.2.1, H'.1.2.2.2.2.1, H'.1.1, nI_leI (by omega) (by omega), nI_1]
    refine br_f (by decide) ⟨fun c => br_f (by decide) ?_, fun c => ?_⟩
    · rw [if_pos c] at hr
      exact hT _ _ _ hr _ I' J' G H'
    · rw [if_neg c] at hr
      obtain ⟨c1, c2⟩ := m_cell H'.1.2.1 (show a' < 160 by omega) H'.1.2.2.2.2.2.2
      rw [c2, show g a' = fh_hr g z a' by rw [fh_hr, if_pos (by omega)]]
      refine ⟨c1, fun y => ?_, fun y => ?_⟩
      · rw [if_pos y] at hr
        rw [hr] at hF hT
        rintro I5 rfl
        rw [nI_1]
        have G2 : mG I J (upI I' 0 3 (nI (a' + 1))) J' := G.tr (mG.I0 (by omega))
        exact ih n' T' (a' + 1) (i + 1) _ J' (by omega) (by omega) (H'.at (by omega)) (fun p ep v I'' J'' G' h => hF p ep v I'' J'' (G2.tr G') h) (fun n' T' c ep b I'' J'' G' h => hT n' T' c ep b I'' J'' (G2.tr G') h) _ (fun r I'' J'' q => q)
      · rw [if_neg y] at hr
        intro I5 h5
        rw [h5]
        exact br_t rfl (hF a' hr _ _ J' (G.tr (mG.I0 (by omega))) (by rw [upI_s, upd_s]))
/-- both faults -/
theorem Rl.flt {n : Nat} {T : Nat → gP} {I X : gI} {J Y : gJ} {R : gR} {L : List Nat} {S : gS} (h : Rl n T I J X Y R L S) (v : Int32) : Rl n T (upI I 0 1 v) J (upI X 0 2 v) Y R L S := by
  obtain ⟨⟨a1, a2, a3, a4⟩, b, c, d, e, f, g, i, j, k, l⟩ := h
  have i0 : ∀ q, q ≠ 1 → (upI I 0 1 v) 0 q = I 0 q := fun q hq => by rw [upI_s, upd_n hq]
  have x0 : ∀ q, q ≠ 2 → (upI X 0 2 v) 0 q = X 0 q := fun q hq => by rw [upI_s, upd_n hq]
  have ik : ∀ q, q ≠ 0 → (upI I 0 1 v) q = I q := fun q hq => upI_n hq
  have xk : ∀ q, q ≠ 0 → (upI X 0 2 v) q = X q := fun q hq => upI_n hq
  refine ⟨⟨a1, by rw [i0 0 (by omega)]; exact a2, by rw [x0 0 (by omega)]; exact a3, fun q hq => ⟨?_, (a4 q hq).2⟩⟩, b, ?_, fun s hs => ?_, e, fun q hq => ?_, ?_, ?_, fun q hq => ?_, ?_, ?_⟩
  · have := (a4 q hq).1
    unfold mS
    rw [ik 2 (by omega), ik 3 (by omega), ik 4 (by omega)]
    exact this
  · unfold rIm
    rw [i0 14 (by omega), x0 1 (by omega), ik 11 (by omega)]
    exact c
  · unfold rSh
    rw [ik 5 (by omega), ik 6 (by omega), ik 7 (by omega), ik 8 (by omega), xk 3 (by omega), xk 4 (by omega)]
    exact d s hs
  · rw [xk 5 (by omega), ik 1 (by omega)]; exact f q hq
  · rw [upI_s, upd_s, upI_s, upd_s]
  · unfold rTr
    rw [i0 13 (by omega), x0 3 (by omega), x0 4 (by omega), ik 29 (by omega), xk 15 (by omega)]
    exact i
  · rw [ik 9 (by omega)]; exact j q hq
  · unfold rLX
    rw [x0 11 (by omega), xk 12 (by omega), xk 13 (by omega), xk 14 (by omega)]
    exact k
  · unfold rLM
    rw [i0 11 (by omega), i0 12 (by omega), ik 26 (by omega)]
    exact l
def mK (I : gI) (J : gJ) (I' : gI) (J' : gJ) : Prop := (∀ k, k ≠ 0 → k ≠ 2 → k ≠ 3 → k ≠ 4 → k ≠ 10 → I' k = I k) ∧ (∀ j, 11 ≤ j → I' 0 j = I 0 j) ∧ J' 2 = J 2 ∧ J' 5 = J 5
theorem m_read {n : Nat} {T : Nat → gP} {I : gI} {J : gJ} (e0 : I 0 0 = nI n) (hn : n ≤ 8) (hst : ∀ i, i < n → mS I J i (T i) ∧ stok (T i)) (h9 : ∀ i, i < 19 → I 9 i = nI (fh_wv i)) {s z : Nat} (hs : s < 8) (hz : z ≤ 160) (e7 : I 7 s = nI z) (hw : ∀ Q : Int32 → Prop, Q 0 → wM_wants (nI s) I J Q) {Q : Int32 → gI → gJ → Prop} (hF : ∀ p, fh_rd (fun i => (J 2 (160 * s + i)).toInt32) z 160 n T 0 0 = .inl p → ∀ I' J', mK I J I' J' → I' 0 0 = nI n → I' 0 1 = nI p → (∀ i, i < 8 → I' 2 i = I 2 i ∧ I' 3 i = I 3 i ∧ I' 4 i = I 4 i ∧ J' 1 i = J 1 i) → wM_no (-6) I' J' Q) (hT : ∀ n' T' c, fh_rd (fun i => (J 2 (160 * s + i)).toInt32) z 160 n T 0 0 = .inr (n', T', c) → ∀ I' J' b, mK I J I' J' → I' 0 1 = -1 → mI (fun i => (J 2 (160 * s + i)).toInt32) s z n' T' b I' J' → Q (nI c) I' J') : wM_read (nI s) I J Q := by
  unfold wM_read
  refine hw _ (br_t rfl (m_allSave (Or.inl rfl) (Or.inl rfl) (fun I1 J1 a1 a2 a3 a4 => ?_)))
  rintro I2 rfl I3 rfl
  refine ⟨vp_in_nI hs (by decide), ?_⟩
  rw [nI_clamp (show s < 2147483648 by omega), upI_n (by omega), upI_n (by omega), a3 7 (by omega), e7]
  rintro I4 rfl I5 rfl
  have e160 : (160 : Int32) * nI s = nI (160 * s) := pk_mul 160 s
  rw [e160]
  have k5 : ∀ k, k ≠ 0 → (upI (upI (upI (upI I1 0 2 (nI (160 * s))) 0 3 0) 0 4 (nI z)) 0 1 (-1)) k = I1 k := fun k hk => by rw [upI_n hk, upI_n hk, upI_n hk, upI_n hk]
  have j5 : ∀ j, j ≠ 1 → j ≠ 2 → j ≠ 3 → j ≠ 4 → (upI (upI (upI (upI I1 0 2 (nI (160 * s))) 0 3 0) 0 4 (nI z)) 0 1 (-1)) 0 j = I1 0 j := fun j h1 h2 h3 h4 => by rw [upI_s, upd_n h1, upI_s, upd_n h4, upI_s, upd_n h3, upI_s, upd_n h2]
  have q1 : (upI (upI (upI (upI I1 0 2 (nI (160 * s))) 0 3 0) 0 4 (nI z)) 0 1 (-1)) 0 1 = -1 := by rw [upI_s, upd_s]
  have q2 : (upI (upI (upI (upI I1 0 2 (nI (160 * s))) 0 3 0) 0 4 (nI z)) 0 1 (-1)) 0 2 = nI (160 * s) := by rw [upI_s, upd_n (by omega), upI_s, upd_n (by omega), upI_s, upd_n (by omega), upI_s, upd_s]
  have q3 : (upI (upI (upI (upI I1 0 2 (nI (160 * s))) 0 3 0) 0 4 (nI z)) 0 1 (-1)) 0 3 = nI 0 := by rw [upI_s, upd_n (by omega), upI_s, upd_n (by omega), upI_s, upd_s]; rfl
  have q4 : (upI (upI (upI (upI I1 0 2 (nI (160 * s))) 0 3 0) 0 4 (nI z)) 0 1 (-1)) 0 4 = nI z := by rw [upI_s, upd_n (by omega), upI_s, upd_s]
  generalize upI (upI (upI (upI I1 0 2 (nI (160 * s))) 0 3 0) 0 4 (nI z)) 0 1 (-1) = I5 at *
  have H : mI (fun i => (J 2 (160 * s + i)).toInt32) s z n T 0 I5 J1 := by
    refine ⟨⟨q2, hs, q4, hz, q3, by omega, fun i hi => by rw [a4 2 (by omega)]⟩, by rw [j5 0 (by omega) (by omega) (by omega) (by omega), a3 0 (by omega)]; exact e0, hn, fun i hi => ⟨?_, (hst i hi).2⟩, fun i hi => by rw [k5 9 (by omega), a3 9 (by omega)]; exact h9 i hi⟩
    have := (hst i hi).1
    unfold mS
    rw [k5 2 (by omega), k5 3 (by omega), k5 4 (by omega), a3 2 (by omega), a3 3 (by omega), a3 4 (by omega), a4 1 (by omega)]
    exact this
  have GK : ∀ I' J', mG I5 J1 I' J' → mK I J I' J' := by
    intro I' J' G
    refine ⟨fun k h0 h2 h3 h4 h10 => ?_, fun j hj => ?_, ?_, ?_⟩
    · rw [G.1 k h0 h2 h3 h4, k5 k h0, a3 k h10]
    · rw [G.2.1 j (by omega) (by omega) (by omega) (by omega) (by omega), j5 j (by omega) (by omega) (by omega) (by omega), a3 0 (by omega)]
    · rw [G.2.2 2 (by omega) (by omega), a4 2 (by omega)]
    · rw [G.2.2 5 (by omega) (by omega), a4 5 (by omega)]
  refine m_rdL (Q := Q) 160 n T 0 0 I5 J1 rfl (by omega) H (fun p e v I' J' G h => ?_) (fun n' T' c e b I' J' G H' => ?_) _ (fun r I' J' q => ⟨_, q⟩)
  · refine br_t rfl (m_allBack (by decide) (Or.inl rfl) (Or.inl rfl) (fun I'' J'' b1 b2 b3 b4 b5 => ?_))
    rintro I6 rfl
    have K := GK I' J' G
    have g10 : I' 10 = I1 10 := by rw [G.1 10 (by omega) (by omega) (by omega) (by omega), k5 10 (by omega)]
    have g4 : J' 4 = J1 4 := G.2.2 4 (by omega) (by omega)
    refine hF p e _ J'' ⟨fun k h0 h2 h3 h4 h10 => ?_, fun j hj => ?_, ?_, ?_⟩ ?_ ?_ (fun i hi => ?_)
    · rw [upI_n h0, b3 k h0 h2 h3 h4, K.1 k h0 h2 h3 h4 h10]
    · rw [upI_s, upd_n (by omega), b4 j (by omega), K.2.1 j hj]
    · rw [b5 2 (by omega), K.2.2.1]
    · rw [b5 5 (by omega), K.2.2.2]
    · rw [upI_s, upd_n (by omega), b2, g10, a2]
      exact e0
    · rw [upI_s, upd_s, b4 6 (by omega)]
      exact h
    · obtain ⟨c1, c2, c3, c4⟩ := b1 i hi
      obtain ⟨d1, d2, d3, d4⟩ := a1 i hi
      rw [upI_n (by omega), upI_n (by omega), upI_n (by omega), c1, c2, c3, c4, g10, g4, d1, d2, d3, d4]
      exact ⟨rfl, rfl, rfl, rfl⟩
  · exact hT n' T' c e I' J' b (GK I' J' G) (by rw [G.2.1 1 (by omega) (by omega) (by omega) (by omega) (by omega)]; exact q1) H'
theorem pc_read {n : Nat} {T : Nat → gP} {I X : gI} {J Y : gJ} {R : gR} {L : List Nat} {S : gS} (h : Rl n T I J X Y R L S) (v1 : Int32) : wX11_read v1 X Y R L S (fun r X' Y' R' L' S' => wM_read v1 I J (fun r' I' J' => qE L' S' r r' I' J' X' Y' R')) := by
  have hn := h.1.1
  unfold wX11_read
  rcases row_cases h v1 with ⟨c, c1, c2, hx, hm⟩ | ⟨s, o, z, hs, rfl, ho, hz, e1, e2, e3, e4, e5, hx, hm⟩
  · refine hx _ (br_f (neg_ne0 c1 (by omega)) (both_no h c (by omega) c1 (fun Q q => ?_)))
    unfold wM_read
    exact hm _ (br_f (neg_ne0 c1 (by omega)) q)
  have hcell := h.2.2.2.2.1 s hs
  refine hx _ (br_t rfl ?_)
  unfold wX6_beginWith
  refine x_copyStrips (by omega) (h.2.1 0 (by omega)) (fun R' r1 r2 r3 => ?_)
  rintro X1 rfl X2 rfl X3 rfl
  refine ⟨vp_in_nI hs (by decide), ?_⟩
  rw [nI_clamp (show s < 2147483648 by omega)]
  unfold wX6_tell
  rintro R1 rfl
  have H : xI n T I J (fun i => (J 2 (160 * s + i)).toInt32) s z n T 0 (upI (upI (upI X 0 5 (X 0 0)) 0 6 (-1)) 0 7 0) Y (upR R' 4 0 (some s)) L S := by
    refine ⟨h.rd (fun a ha => by rw [upI_n ha, upI_n ha, upI_n ha]) (fun j hj => by rw [upI_s, upd_n (by omega), upI_s, upd_n (by omega), upI_s, upd_n (by omega)]) (fun _ _ => rfl) (by rw [upR_n (by omega), r3 0 (by omega)]) (by rw [upR_n (by omega), r3 1 (by omega)]) (fun i q hq => ?_), ⟨by rw [upR_s, va_up_s], hs, ?_, hz, ?_, by omega, fun i hi => by rw [hcell i hi]⟩, ?_, ⟨hn, Nat.le_refl n⟩, fun i hi => ⟨(h.1.2.2.2 i hi).2.1, ?_⟩⟩
    · rw [upR_n (by omega)] at hq
      rcases Nat.lt_or_ge i 8 with c | c
      · rw [r1 i c] at hq
        exact h.2.1 0 (by omega) i q hq
      · rw [r2 i c] at hq
        exact h.2.1 2 (by omega) i q hq
    · rw [upI_n (by omega), upI_n (by omega), upI_n (by omega)]; exact e5
    · rw [upI_s, upd_s]; rfl
    · rw [upI_s, upd_n (by omega), upI_s, upd_n (by omega), upI_s, upd_s]; exact h.1.2.2.1
    · obtain ⟨w, w1, w2, w3⟩ := (h.1.2.2.2 i hi).2.2
      exact ⟨w, by rw [upR_n (by omega), r1 i (by omega)]; exact w1, w2, w3⟩
  have mrd : ∀ Q : Int32 → gI → gJ → Prop, (∀ p, fh_rd (fun i => (J 2 (160 * s + i)).toInt32) z 160 n T 0 0 = .inl p → ∀ I' J', mK I J I' J' → I' 0 0 = nI n → I' 0 1 = nI p → (∀ i, i < 8 → I' 2 i = I 2 i ∧ I' 3 i = I 3 i ∧ I' 4 i = I 4 i ∧ J' 1 i = J 1 i) → wM_no (-6) I' J' Q) → (∀ n' T' c, fh_rd (fun i => (J 2 (160 * s + i)).toInt32) z 160 n T 0 0 = .inr (n', T', c) → ∀ I' J' b, mK I J I' J' → I' 0 1 = -1 → mI (fun i => (J 2 (160 * s + i)).toInt32) s z n' T' b I' J' → Q (nI c) I' J') → wM_read (nI s) I J Q := fun Q a b => m_read h.1.2.1 hn (fun i hi => ⟨(h.1.2.2.2 i hi).1, (h.1.2.2.2 i hi).2.1⟩) (fun i hi => h.2.2.2.2.2.2.2.2.1 i hi) hs hz e4 hm a b
  refine ⟨161, Nat.le_refl _, x_tellL 160 n T 0 0 _ Y _ L S rfl (by omega) H (by rw [upI_s, upd_n (by omega), upI_s, upd_s]) (fun p e hp v X' Y' R2 L' S' hR h6 => ?_) (fun n' T' c e b X' Y' R2 L' S' H' h6 => ?_)⟩
  · rintro X4 rfl
    rw [upI_s, upd_s, h6]
    refine br_f (nI_nm1 (by omega)) (x_refuse 6 (by omega) (by omega) ?_)
    refine mrd _ (fun p' e' I' J' K k0 k1 ks => ?_) (fun n' T' c e' => by rw [e] at e'; cases e')
    rw [e] at e'
    cases e'
    refine m_no 6 (by omega) (qE.rf (n := n) (T := T) ?_ 6 (by omega))
    refine (hR.flt (nI p)).strips hn (fun k hk => ?_) (fun j hj => ?_) (fun _ _ => rfl) (fun _ _ => rfl) K.2.2.1 K.2.2.2 (fun _ _ => rfl) rfl hR.2.1 k0 ?_ (fun i hi => ?_) (fun t ht => ?_)
    · rw [K.1 k (by omega) (by omega) (by omega) (by omega) (by omega), upI_n (by omega)]
    · rw [upI_s]
      rcases hj with hj | hj
      · subst hj
        rw [k1, upd_s]
      · rw [upd_n (by omega), K.2.1 j hj]
    · rw [upI_s, upd_n (by omega)]; exact hR.1.2.2.1
    · obtain ⟨m1, m2, m3⟩ := hR.1.2.2.2 i hi
      obtain ⟨d1, d2, d3, d4⟩ := ks i (by omega)
      refine ⟨?_, m2, m3⟩
      unfold mS
      rw [d1, d2, d3, d4]
      exact m1
    · have := hR.2.2.2.1 t ht
      unfold rSh at this ⊢
      rw [K.1 5 (by omega) (by omega) (by omega) (by omega) (by omega), K.1 6 (by omega) (by omega) (by omega) (by omega) (by omega), K.1 7 (by omega) (by omega) (by omega) (by omega) (by omega), K.1 8 (by omega) (by omega) (by omega) (by omega) (by omega), upI_n (by omega), upI_n (by omega)]
      exact this
  · rintro X4 rfl
    rw [upI_s, upd_s, h6]
    have hRl := H'.1
    refine br_t rfl (x_copyStrips (by omega) (hRl.2.1 2 (by omega)) (fun R3 r1' r2' r3' => ?_))
    rintro X5 rfl
    refine mrd _ (fun p' e' => by rw [e] at e'; cases e') (fun n2 T2 c2 e' I' J' b2 K k1 M => ?_)
    rw [e] at e'
    cases e'
    refine ⟨rfl, n', T', (hRl.flt (-1)).strips H'.2.2.2.1.1 (fun k hk => ?_) (fun j hj => ?_) (fun k hk => ?_) (fun j hj => ?_) K.2.2.1 K.2.2.2 (fun _ _ => rfl) (r3' 1 (by omega)) (fun k hk i q hq => ?_) M.2.1 ?_ (fun i hi => ⟨(M.2.2.2.1 i hi).1, (M.2.2.2.1 i hi).2, ?_⟩) (fun t ht => ?_)⟩
    · rw [K.1 k (by omega) (by omega) (by omega) (by omega) (by omega), upI_n (by omega)]
    · rw [upI_s]
      rcases hj with hj | hj
      · subst hj
        rw [k1, upd_s]
      · rw [upd_n (by omega), K.2.1 j hj]
    · rw [upI_n (by omega)]
    · rw [upI_s, upd_n (by omega)]
    · rcases (show k = 0 ∨ k = 1 ∨ k = 2 by omega) with ek | ek | ek
      · subst ek
        rcases Nat.lt_or_ge i 8 with c | c
        · rw [r1' i c] at hq
          exact hRl.2.1 2 (by omega) i q hq
        · rw [r2' i c] at hq
          exact hRl.2.1 0 (by omega) i q hq
      · subst ek
        rw [r3' 1 (by omega)] at hq
        exact hRl.2.1 1 (by omega) i q hq
      · subst ek
        rw [r3' 2 (by omega)] at hq
        exact hRl.2.1 2 (by omega) i q hq
    · rw [upI_s, upd_s, upI_s, upd_n (by omega)]
      exact H'.2.2.1
    · obtain ⟨w, w1, w2, w3⟩ := (H'.2.2.2.2 i hi).2
      exact ⟨w, by rw [r1' i (by have := H'.2.2.2.1.1; omega)]; exact w1, w2, w3⟩
    · have := (hRl.2.2.2.1 t ht).mono H'.2.2.2.1.2
      unfold rSh at this ⊢
      rw [K.1 5 (by omega) (by omega) (by omega) (by omega) (by omega), K.1 6 (by omega) (by omega) (by omega) (by omega) (by omega), K.1 7 (by omega) (by omega) (by omega) (by omega) (by omega), K.1 8 (by omega) (by omega) (by omega) (by omega) (by omega), upI_n (by omega), upI_n (by omega), upI_n (by omega), upI_n (by omega)]
      exact this
