/-! read: the reference, item by item -/
def mI (g : Nat → Int32) (s z n : Nat) (T : Nat → gP) (a : Nat) (I : gI) (J : gJ) : Prop :=
  tRm I J g s z a ∧ I 0 0 = nI n ∧ n ≤ 8 ∧ (∀ i, i < n → mS I J i (T i) ∧ stok (T i)) ∧ ∀ i, i < 19 → I 9 i = nI (fh_wv i)
def mG (I : gI) (J : gJ) (I' : gI) (J' : gJ) : Prop :=
  (∀ k, k ≠ 0 → k ≠ 2 → k ≠ 3 → k ≠ 4 → I' k = I k) ∧ (∀ j, j ≠ 0 → j ≠ 3 → j ≠ 5 → j ≠ 6 → j ≠ 7 → I' 0 j = I 0 j) ∧ ∀ k, k ≠ 0 → k ≠ 1 → J' k = J k
theorem mG.tr {I I' I'' : gI} {J J' J'' : gJ} (h : mG I J I' J') (h' : mG I' J' I'' J'') : mG I J I'' J'' :=
  ⟨fun k a b c d => (h'.1 k a b c d).trans (h.1 k a b c d), fun j a b c d e => (h'.2.1 j a b c d e).trans (h.2.1 j a b c d e), fun k a b => (h'.2.2 k a b).trans (h.2.2 k a b)⟩
theorem mG.rf {I : gI} {J : gJ} : mG I J I J := ⟨fun _ _ _ _ _ => rfl, fun _ _ _ _ _ _ => rfl, fun _ _ _ => rfl⟩
theorem mG.I0 {I : gI} {J : gJ} {j : Nat} {v : Int32} (h : j = 0 ∨ j = 3 ∨ j = 5 ∨ j = 6 ∨ j = 7) : mG I J (upI I 0 j v) J := ⟨fun _ a _ _ _ => upI_n a, fun i _ _ _ _ _ => by rw [upI_s, upd_n (by omega)], fun _ _ _ => rfl⟩
theorem mG.Ik {I : gI} {J : gJ} {k j : Nat} {v : Int32} (h : k = 2 ∨ k = 3 ∨ k = 4) : mG I J (upI I k j v) J := ⟨fun _ _ _ _ _ => upI_n (by omega), fun i _ _ _ _ _ => by rw [upI_n (by omega)], fun _ _ _ => rfl⟩
theorem mG.J1 {I : gI} {J : gJ} {j : Nat} {v : Int64} : mG I J I (upJ J 1 j v) := ⟨fun _ _ _ _ _ => rfl, fun _ _ _ _ _ _ => rfl, fun _ _ a => upJ_n a⟩
theorem mI.mv {g : Nat → Int32} {s z n : Nat} {T : Nat → gP} {a b : Nat} {I : gI} {J : gJ} (H : mI g s z n T a I J) {I' : gI} {J' : gJ} (hI : ∀ k, k ≠ 0 → I' k = I k) (h0 : I' 0 0 = I 0 0) (hJ : ∀ k, k ≠ 0 → J' k = J k) (ht : tRm I' J' g s z b) : mI g s z n T b I' J' := by
  refine ⟨ht, h0.trans H.2.1, H.2.2.1, fun i hi => ⟨?_, (H.2.2.2.1 i hi).2⟩, fun i hi => by rw [hI 9 (by omega)]; exact H.2.2.2.2 i hi⟩
  have := (H.2.2.2.1 i hi).1
  unfold mS
  rw [hI 2 (by omega), hI 3 (by omega), hI 4 (by omega), hJ 1 (by omega)]
  exact this
theorem mI.at {g : Nat → Int32} {s z n : Nat} {T : Nat → gP} {a b : Nat} {I : gI} {J : gJ} (H : mI g s z n T a I J) (hb : b ≤ z) : mI g s z n T b (upI I 0 3 (nI b)) J := by
  obtain ⟨t1, t2, t3, t4, t5, t6, t7⟩ := H.1
  refine H.mv (fun k hk => upI_n hk) (by rw [upI_s, upd_n (by omega)]) (fun _ _ => rfl) ⟨?_, t2, ?_, t4, ?_, hb, t7⟩
  · rw [upI_s, upd_n (by omega)]; exact t1
  · rw [upI_s, upd_n (by omega)]; exact t3
  · rw [upI_s, upd_s]
theorem m_numI {g : Nat → Int32} {s z n : Nat} {T : Nat → gP} {a : Nat} {I : gI} {J : gJ} (H : mI g s z n T a I J) (most : Int32) {Q : Bool → gI → gJ → Prop} (hY : fh_nk g z a most = true → ∀ I', I' 0 5 = (fh_nu g z 6 a 0).2 → mI g s z n T (fh_nu g z 6 a 0).1 I' J → mG I J I' J → Q true I' J) (hN : fh_nk g z a most = false → ∀ I', mG I J I' J → I' 0 6 = nI a → Q false I' J) : wM_number most I J Q := by
  refine m_number H.1 most (fun I' T1 f5 fN f6 => ?_)
  have G : mG I J I' J := ⟨fun k k0 _ _ _ => fN.1 k k0, fun j _ j3 j5 j6 _ => fN.2 j j3 j5 j6, fun _ _ _ => rfl⟩
  cases c : fh_nk g z a most
  · rw [c] at f6
    exact hN c I' G f6
  · exact hY c I' f5 (H.mv fN.1 (fN.2 0 (by omega) (by omega) (by omega)) (fun _ _ => rfl) T1) G
theorem m_blkI {g : Nat → Int32} {s z n : Nat} {T : Nat → gP} {a : Nat} {I : gI} {J : gJ} (H : mI g s z n T a I J) {Q : Bool → gI → gJ → Prop} (hY : fh_hr g z a = 32 → ∀ I', mI g s z n T (a + 1) I' J → mG I J I' J → Q true I' J) (hN : ¬ fh_hr g z a = 32 → ∀ I', mG I J I' J → I' 0 6 = nI a → Q false I' J) : wM_blank I J Q :=
  m_blank H.1 (fun e hz _ => hY e _ (H.at hz) (mG.I0 (by omega))) (fun e _ => hN e _ (mG.I0 (by omega)) (by rw [upI_s, upd_s]))
theorem m_adds2 {I : gI} {J : gJ} {n : Nat} (e0 : I 0 0 = nI n) (hn : n < 8) (a b c : Int32) (w : Int64) {Q : Int32 → gI → gJ → Prop} (hQ : Q (nI n) (upI (upI (upI (upI I 2 n a) 3 n b) 4 n c) 0 0 (nI (n + 1))) (upJ J 1 n w)) : wM_adds a b c w I J Q := by
  have ec : (nI n).toNatClampNeg = n := nI_clamp (by omega)
  have hin : vp_in (nI n) 8 := vp_in_nI hn (by decide)
  unfold wM_adds
  rw [e0, ec]
  refine ⟨hin, ?_⟩
  rintro I2 rfl
  rw [upI_n (by omega), e0, ec]
  refine ⟨hin, ?_⟩
  rintro I5 rfl
  rw [upI_n (by omega), upI_n (by omega), e0, ec]
  refine ⟨hin, ?_⟩
  rintro I8 rfl
  rw [upI_n (by omega), upI_n (by omega), upI_n (by omega), e0, ec]
  refine ⟨hin, ?_⟩
  rintro J11 rfl I13 rfl
  rw [nI_1]
  exact hQ
theorem mI.add {g : Nat → Int32} {s z n : Nat} {T : Nat → gP} {a : Nat} {I : gI} {J : gJ} (H : mI g s z n T a I J) (hn : n < 8) {t : gP} (ok : stok t) : mI g s z (n + 1) (fun i => if i = n then t else T i) a (upI (upI (upI (upI I 2 n (nI (tk t))) 3 n (nI (ta t))) 4 n (nI (tf t))) 0 0 (nI (n + 1))) (upJ J 1 n (lN (tw t))) := by
  obtain ⟨t1, t2, t3, t4, t5, t6, t7⟩ := H.1
  have i0 : ∀ j, j ≠ 0 → (upI (upI (upI (upI I 2 n (nI (tk t))) 3 n (nI (ta t))) 4 n (nI (tf t))) 0 0 (nI (n + 1))) 0 j = I 0 j := fun j hj => by
    rw [upI_s, upd_n hj, upI_n (by omega), upI_n (by omega), upI_n (by omega)]
  refine ⟨⟨by rw [i0 2 (by omega)]; exact t1, t2, by rw [i0 4 (by omega)]; exact t3, t4, by rw [i0 3 (by omega)]; exact t5, t6, fun i hi => by rw [upJ_n (by omega)]; exact t7 i hi⟩, by rw [upI_s, upd_s], by omega, fun i hi => ?_, fun i hi => ?_⟩
  · by_cases e : i = n
    · subst e
      dsimp only
      rw [if_pos rfl]
      refine ⟨⟨?_, ?_, ?_, ?_⟩, ok⟩
      · rw [upI_n (by omega), upI_n (by omega), upI_n (by omega), upI_s, upd_s]
      · rw [upI_n (by omega), upI_n (by omega), upI_s, upd_s]
      · rw [upI_n (by omega), upI_s, upd_s]
      · rw [upJ_s, upl_s]
    · dsimp only
      rw [if_neg e]
      obtain ⟨⟨m1, m2, m3, m4⟩, m5⟩ := H.2.2.2.1 i (by omega)
      refine ⟨⟨?_, ?_, ?_, ?_⟩, m5⟩
      · rw [upI_n (by omega), upI_n (by omega), upI_n (by omega), upI_s, upd_n e]; exact m1
      · rw [upI_n (by omega), upI_n (by omega), upI_s, upd_n e, upI_n (by omega)]; exact m2
      · rw [upI_n (by omega), upI_s, upd_n e, upI_n (by omega), upI_n (by omega)]; exact m3
      · rw [upJ_s, upl_n e]; exact m4
  · rw [upI_n (by omega), upI_n (by omega), upI_n (by omega), upI_n (by omega)]
    exact H.2.2.2.2 i hi
theorem mG.add {I : gI} {J : gJ} {n : Nat} {a b c d : Int32} {w : Int64} : mG I J (upI (upI (upI (upI I 2 n a) 3 n b) 4 n c) 0 0 d) (upJ J 1 n w) :=
  (((((mG.Ik (k := 2) (by omega)).tr (mG.Ik (k := 3) (by omega))).tr (mG.Ik (k := 4) (by omega))).tr (mG.I0 (j := 0) (by omega))).tr mG.J1)
theorem mI.putJ {g : Nat → Int32} {s z n : Nat} {T : Nat → gP} {a : Nat} {I : gI} {J : gJ} (H : mI g s z n T a I J) {t w : Nat} (ht : t < n) (ok : stok (tk (T t), ta (T t), tf (T t), w)) : mI g s z n (fun i => if i = t then (tk (T t), ta (T t), tf (T t), w) else T i) a I (upJ J 1 t (lN w)) := by
  obtain ⟨t1, t2, t3, t4, t5, t6, t7⟩ := H.1
  refine ⟨⟨t1, t2, t3, t4, t5, t6, fun i hi => by rw [upJ_n (by omega)]; exact t7 i hi⟩, H.2.1, H.2.2.1, fun i hi => ?_, H.2.2.2.2⟩
  by_cases e : i = t
  · subst e
    dsimp only
    rw [if_pos rfl]
    obtain ⟨⟨m1, m2, m3, m4⟩, m5⟩ := H.2.2.2.1 i hi
    refine ⟨⟨m1, m2, m3, ?_⟩, ok⟩
    rw [upJ_s, upl_s]
    rfl
  · dsimp only
    rw [if_neg e]
    obtain ⟨⟨m1, m2, m3, m4⟩, m5⟩ := H.2.2.2.1 i hi
    refine ⟨⟨m1, m2, m3, ?_⟩, m5⟩
    rw [upJ_s, upl_n e]
    exact m4
theorem mI.putL {g : Nat → Int32} {s z n : Nat} {T : Nat → gP} {a : Nat} {I : gI} {J : gJ} (H : mI g s z n T a I J) {t f : Nat} (ht : t < n) (ok : stok (tk (T t), ta (T t), f, tw (T t))) : mI g s z n (fun i => if i = t then (tk (T t), ta (T t), f, tw (T t)) else T i) a (upI I 4 t (nI f)) J := by
  obtain ⟨t1, t2, t3, t4, t5, t6, t7⟩ := H.1
  refine ⟨⟨by rw [upI_n (by omega)]; exact t1, t2, by rw [upI_n (by omega)]; exact t3, t4, by rw [upI_n (by omega)]; exact t5, t6, t7⟩, by rw [upI_n (by omega)]; exact H.2.1, H.2.2.1, fun i hi => ?_, fun i hi => by rw [upI_n (by omega)]; exact H.2.2.2.2 i hi⟩
  by_cases e : i = t
  · subst e
    dsimp only
    rw [if_pos rfl]
    obtain ⟨⟨m1, m2, m3, m4⟩, m5⟩ := H.2.2.2.1 i hi
    refine ⟨⟨?_, ?_, ?_, m4⟩, ok⟩
    · rw [upI_n (by omega)]; exact m1
    · rw [upI_n (by omega)]; exact m2
    · rw [upI_s, upd_s]; rfl
  · dsimp only
    rw [if_neg e]
    obtain ⟨⟨m1, m2, m3, m4⟩, m5⟩ := H.2.2.2.1 i hi
    refine ⟨⟨?_, ?_, ?_, m4⟩, m5⟩
    · rw [upI_n (by omega)]; exact m1
    · rw [upI_n (by omega)]; exact m2
    · rw [upI_s, upd_n e]; exact m3
/-- a shorter strip -/
theorem mI.put {g : Nat → Int32} {s z n : Nat} {T : Nat → gP} {a : Nat} {I : gI} {J : gJ} (H : mI g s z n T a I J) {t f w : Nat} (ht : t < n) (ok : stok (tk (T t), ta (T t), f, w)) : mI g s z n (fun i => if i = t then (tk (T t), ta (T t), f, w) else T i) a (upI I 4 t (nI f)) (upJ J 1 t (lN w)) := by
  obtain ⟨t1, t2, t3, t4, t5, t6, t7⟩ := H.1
  refine ⟨⟨by rw [upI_n (by omega)]; exact t1, t2, by rw [upI_n (by omega)]; exact t3, t4, by rw [upI_n (by omega)]; exact t5, t6, fun i hi => by rw [upJ_n (by omega)]; exact t7 i hi⟩, by rw [upI_n (by omega)]; exact H.2.1, H.2.2.1, fun i hi => ?_, fun i hi => by rw [upI_n (by omega)]; exact H.2.2.2.2 i hi⟩
  by_cases e : i = t
  · subst e
    dsimp only
    rw [if_pos rfl]
    obtain ⟨⟨m1, m2, m3, m4⟩, m5⟩ := H.2.2.2.1 i hi
    refine ⟨⟨?_, ?_, ?_, ?_⟩, ok⟩
    · rw [upI_n (by omega)]; exact m1
    · rw [upI_n (by omega)]; exact m2
    · rw [upI_s, upd_s]; rfl
    · rw [upJ_s, upl_s]; rfl
  · dsimp only
    rw [if_neg e]
    obtain ⟨⟨m1, m2, m3, m4⟩, m5⟩ := H.2.2.2.1 i hi
    refine ⟨⟨?_, ?_, ?_, ?_⟩, m5⟩
    · rw [upI_n (by omega)]; exact m1
    · rw [upI_n (by omega)]; exact m2
    · rw [upI_s, upd_n e]; exact m3
    · rw [upJ_s, upl_n e]; exact m4
theorem lts_b {g : Nat → Int32} {z w a : Nat} (h : fh_lts g z w 5 0 a ≠ 0) : fh_hr g z a = fh_tx w 0 := Decidable.byContradiction (fun hn => h (lts_0 g z w 5 a hn))
theorem tx_0 : fh_tx 0 0 = 115 ∧ fh_tx 2 0 = 116 ∧ fh_tx 3 0 = 108 := by decide +kernel
theorem m_item {g : Nat → Int32} {s z n : Nat} {T : Nat → gP} {a : Nat} {I : gI} {J : gJ} (H : mI g s z n T a I J) {Q : Bool → gI → gJ → Prop} (hF : ∀ p, fh_it g z n T a = .inl p → ∀ I' J', mG I J I' J' → I' 0 6 = nI p → Q false I' J') (hT : ∀ n' T' a', fh_it g z n T a = .inr (n', T', a') → (∀ I' J', mG I J I' J' → mI g s z n' T' a' I' J' → Q true I' J') ∧ (fh_isw (fh_hr g z a') = true → ∀ I' J', mG I J I' J' → I' 0 6 = nI a' → Q false I' J')) : wM_item I J Q := by
  have hz := H.1.2.2.2.1
  have ha := H.1.2.2.2.2.2.1
  have hn8 := H.2.2.1
  have e3 := H.1.2.2.2.2.1
  have E8 : nI n = 8 ↔ n = 8 := nI_eq (b := 8) (by omega) (by omega)
  have l0 := lts_le g z 0 5 0 a
  have hms := mw_strip g z a
  have c25 : ¬ (n = 8 ∧ fh_lts g z 0 5 0 a = 5) → wM_item_c25 I J Q := by
    intro hno
    unfold wM_item_c25
    refine m_wordOf H.1 H.2.2.2.2 (fun w0 z0 => ?_) (fun w0 w1 z1 => ?_) (fun w0 w1 w2 z2 => ?_) (fun w0 w1 w2 far ff f0 f1 f2 => ?_)
    · -- a strip
      have c0 : fh_lts g z 0 5 0 a = 5 := by
        rw [w0] at hms
        split at hms
        · assumption
        · omega
      have c1 : fh_hr g z (a + 5) = 32 := by
        rw [w0, if_pos c0, lts_1] at hms
        split at hms
        · assumption
        · omega
      have hb : fh_hr g z a = 115 := (lts_b (w := 0) (by omega)).trans tx_0.1
      have hn : ¬ n = 8 := fun e => hno ⟨e, c0⟩
      have hit : fh_it g z n T a = if fh_nk g z (a + 6) 6 = true then fh_s3 g z n T (fh_nu g z 6 (a + 6) 0).2.toNatClampNeg (fh_nu g z 6 (a + 6) 0).1 else .inl (a + 6) := by
        unfold fh_it fh_s1 fh_s2
        rw [if_pos hb, if_pos c0, if_neg hn, if_pos c1]
      rw [hit] at hF hT
      have H1 := H.at z0
      have G1 : mG I J (upI I 0 3 (nI (a + 6))) J := mG.I0 (by omega)
      generalize upI I 0 3 (nI (a + 6)) = I1 at H1 G1 ⊢
      refine br_m (by decide) (br_n rfl ?_)
      rw [H1.2.1, E8]
      refine br_m hn (m_numI H1 6 (fun c2 I2 v2 H2 G2 => btt ?_) (fun c2 I2 G2 e6 => bff ?_))
      rotate_left
      · exact hF _ (if_neg (by rw [c2]; decide)) I2 J (G1.tr G2) e6
      rw [if_pos c2] at hF hT
      obtain ⟨k, hk, ek⟩ := nk_le (n := 6) (by omega) c2
      rw [ek, nI_clamp (show k < 2147483648 by omega)] at hF hT
      rw [ek] at v2
      generalize (fh_nu g z 6 (a + 6) 0).1 = b at *
      unfold fh_s3 at hF hT
      refine m_blkI H2 (fun c3 I3 H3 G3 => bft ?_) (fun c3 I3 G3 e6 => btf ?_)
      rotate_left
      · exact hF _ (if_neg c3) I3 J ((G1.tr G2).tr G3) e6
      rw [if_pos c3] at hF hT
      refine m_numI H3 999999 (fun c4 I4 v4 H4 G4 => btt ?_) (fun c4 I4 G4 e6 => bff ?_)
      rotate_left
      · exact hF _ (if_neg (by rw [c4]; decide)) I4 J (((G1.tr G2).tr G3).tr G4) e6
      rw [if_pos c4] at hF hT
      obtain ⟨v, hv, ev⟩ := nk_le (n := 999999) (by omega) c4
      rw [ev, nI_clamp (show v < 2147483648 by omega)] at hF hT
      rw [ev] at v4
      generalize (fh_nu g z 6 (b + 1) 0).1 = c at *
      unfold fh_s4 at hF hT
      refine m_blkI H4 (fun c5 I5 H5 G5 => bft ?_) (fun c5 I5 G5 e6 => btf ?_)
      rotate_left
      · exact hF _ (if_neg c5) I5 J ((((G1.tr G2).tr G3).tr G4).tr G5) e6
      rw [if_pos c5] at hF hT
      have GG := (((G1.tr G2).tr G3).tr G4).tr G5
      rw [v2, v4]
      have lev : wM_item_c121 (nI k) (nI v) (nI (if k = 2 then 25 else 40)) I5 J Q → (¬ nI k = 2 → wM_item_c121 (nI k) (nI v) 40 I5 J Q) ∧ (nI k = 2 → wM_item_c121 (nI k) (nI v) 25 I5 J Q) := by
        intro p
        have Ek : nI k = 2 ↔ k = 2 := nI_eq (b := 2) (by omega) (by omega)
        rw [Ek]
        refine ⟨fun e => ?_, fun e => ?_⟩
        · rw [if_neg e] at p; exact p
        · rw [if_pos e] at p; exact p
      refine lev ?_
      have hlv : (if k = 2 then 25 else 40) ≤ 40 := by split <;> omega
      have hl2 : k = 2 → (if k = 2 then 25 else 40) = 25 := fun e => if_pos e
      generalize (if k = 2 then 25 else 40) = t at *
      unfold wM_item_c121
      refine m_lets H5.1 hlv (fun I6 J6 m hm T6 f7 fw q1 q2 q3 q6 => ?_)
      have hmt : m ≤ t := by rw [hm]; exact lw_le _ _ _ _
      have H6 := H5.mv q1 (q2 0 (by omega) (by omega) (by omega)) q3 T6
      have G6 : mG I J I6 J6 := GG.tr ⟨fun k k0 _ _ _ => q1 k k0, fun j _ j3 _ j6 j7 => q2 j j3 j6 j7, fun k k0 _ => q3 k k0⟩
      by_cases cm : m = 0
      · have hw : fh_wok g z t (c + 1) = false := decide_eq_false (fun e => by rw [← hm] at e; omega)
        rw [hw] at q6 ⊢
        rw [← hm, if_pos cm] at hF
        refine bff (hF _ rfl I6 J6 G6 ?_)
        rw [cm, Nat.add_zero] at q6
        exact q6
      rw [← hm, if_neg cm] at hT
      obtain ⟨hT1, hT2⟩ := hT _ _ _ rfl
      cases hw : fh_wok g z t (c + 1)
      · rw [hw] at q6
        refine bff (hT2 ?_ I6 J6 G6 q6)
        have hw2 := of_decide_eq_false hw
        rw [← hm] at hw2
        cases hi : fh_isw (fh_hr g z (c + 1 + m))
        · exfalso
          refine hw2 ⟨by omega, fun e => ?_⟩
          rw [← e.1, hi] at e
          exact Bool.noConfusion e.2
        · rfl
      · have hm25 : k = 2 → m ≤ 25 := fun e => by rw [← hl2 e]; exact hmt
        have hm40 : m ≤ 40 := Nat.le_trans hmt hlv
        have hm1 : 1 ≤ m := by omega
        have ok : stok (k, v, m, fh_wn g z (c + 1) m) := ⟨hk, hv, hm1, hm40, hm25, wn_lt _ _ _ _⟩
        rw [f7, fw, ww_wn g z (c + 1) m (by omega)]
        exact btt (m_adds2 H6.2.1 (by omega) _ _ _ _ (hT1 _ _ (G6.tr mG.add) (H6.add (by omega) ok)))
    · -- a turn
      rw [mw_turn] at w1
      have hb : fh_hr g z a = 116 := (lts_b (w := 2) (by omega)).trans tx_0.2.1
      have hit : fh_it g z n T a = if fh_nk g z (a + 5) (nI n - 1) = true then fh_t3 g z n T (fh_nu g z 6 (a + 5) 0).2.toNatClampNeg (fh_nu g z 6 (a + 5) 0).1 else .inl (a + 5) := by
        unfold fh_it fh_t1
        rw [if_neg (by rw [hb]; decide), if_pos hb, if_pos w1]
      rw [hit] at hF hT
      have H1 := H.at z1
      have G1 : mG I J (upI I 0 3 (nI (a + 5))) J := mG.I0 (by omega)
      generalize upI I 0 3 (nI (a + 5)) = I1 at H1 G1 ⊢
      refine br_m (by decide) (br_m (by decide) ?_)
      rw [H1.2.1]
      refine m_numI H1 (nI n - 1) (fun c2 I2 v2 H2 G2 => btt ?_) (fun c2 I2 G2 e6 => bff ?_)
      rotate_left
      · exact hF _ (if_neg (by rw [c2]; decide)) I2 J (G1.tr G2) e6
      rw [if_pos c2] at hF hT
      obtain ⟨t, ht, et⟩ := nk_lt (by omega) c2
      rw [et, nI_clamp (show t < 2147483648 by omega)] at hF hT
      rw [et] at v2
      generalize (fh_nu g z 6 (a + 5) 0).1 = b at *
      unfold fh_t3 at hF hT
      refine br_m (by decide) ?_
      rw [v2, nI_clamp (show t < 2147483648 by omega)]
      refine m_blkI H2 (fun c3 I3 H3 G3 => bft ⟨vp_in_nI (by omega) (by decide), ?_⟩) (fun c3 I3 G3 e6 => btf ?_)
      rotate_left
      · exact hF _ (if_neg c3) I3 J ((G1.tr G2).tr G3) e6
      rw [if_pos c3] at hF hT
      obtain ⟨hm, ok⟩ := H3.2.2.2.1 t ht
      have hf := ok.2.2.2.1
      rw [hm.2.2.1]
      refine m_numI H3 (nI (tf (T t)) - 1) (fun c4 I4 v4 H4 G4 => btt ?_) (fun c4 I4 G4 e6 => bff ?_)
      rotate_left
      · exact hF _ (if_neg (by rw [c4]; decide)) I4 J (((G1.tr G2).tr G3).tr G4) e6
      rw [if_pos c4] at hT
      obtain ⟨l, hl, el⟩ := nk_lt (by omega) c4
      rw [el, nI_clamp (show l < 2147483648 by omega)] at hT
      rw [v4, el, sh_l1 (by omega), hm.2.2.2, fb_xorL]
      rintro J5 rfl
      have ok' : stok (tk (T t), ta (T t), tf (T t), tw (T t) ^^^ 2 ^ l) := ⟨ok.1, ok.2.1, ok.2.2.1, ok.2.2.2.1, ok.2.2.2.2.1, xor_lt ok.2.2.2.2.2 hl⟩
      exact (hT _ _ _ rfl).1 _ _ ((((G1.tr G2).tr G3).tr G4).tr mG.J1) (H4.putJ ht ok')
    · -- less
      rw [mw_less] at w2
      have hb : fh_hr g z a = 108 := (lts_b (w := 3) (by omega)).trans tx_0.2.2
      have hit : fh_it g z n T a = if fh_nk g z (a + 5) (nI n - 1) = true then fh_l3 g z n T (fh_nu g z 6 (a + 5) 0).2.toNatClampNeg (a + 5) (fh_nu g z 6 (a + 5) 0).1 else .inl (a + 5) := by
        unfold fh_it fh_l1
        rw [if_neg (by rw [hb]; decide), if_neg (by rw [hb]; decide), if_pos hb, if_pos w2]
      rw [hit] at hF hT
      have H1 := H.at z2
      have G1 : mG I J (upI I 0 3 (nI (a + 5))) J := mG.I0 (by omega)
      generalize upI I 0 3 (nI (a + 5)) = I1 at H1 G1 ⊢
      refine br_m (by decide) (br_m (by decide) ?_)
      rw [H1.2.1, H1.1.2.2.2.2.1]
      refine m_numI H1 (nI n - 1) (fun c2 I2 v2 H2 G2 => btt ?_) (fun c2 I2 G2 e6 => bff ?_)
      rotate_left
      · exact hF _ (if_neg (by rw [c2]; decide)) I2 J (G1.tr G2) e6
      rw [if_pos c2] at hF hT
      obtain ⟨t, ht, et⟩ := nk_lt (by omega) c2
      rw [et, nI_clamp (show t < 2147483648 by omega)] at hF hT
      rw [et] at v2
      generalize (fh_nu g z 6 (a + 5) 0).1 = b at *
      unfold fh_l3 at hF hT
      obtain ⟨hm, ok⟩ := H2.2.2.2.1 t ht
      have hf := ok.2.2.2.1
      have hf1 := ok.2.2.1
      refine br_n rfl ?_
      rw [v2, nI_clamp (show t < 2147483648 by omega), hm.2.2.1]
      have E2 : 2 ≤ nI (tf (T t)) ↔ 2 ≤ tf (T t) := nI_leI (a := 2) (by omega) (by omega)
      rw [E2]
      refine ⟨vp_in_nI (by omega) (by decide), fun cc => ?_, fun cc => ?_⟩
      rotate_left
      · rw [if_neg cc] at hF
        intro I3 h3
        rw [h3]
        exact hF _ rfl _ J ((G1.tr G2).tr (mG.I0 (by omega))) (by rw [upI_s, upd_s])
      rw [if_pos cc] at hT
      have es : nI (tf (T t)) - 1 = nI (tf (T t) - 1) := pk_sub (b := 1) (by omega)
      have hp0 := Nat.two_pow_pos (tf (T t) - 1)
      have ew : lN (tw (T t)) &&& ((1 : Int64) <<< ((nI (tf (T t) - 1)).toInt64 &&& 63) - 1) = lN (tw (T t) % 2 ^ (tf (T t) - 1)) := by
        have e1 : (1 : Int64) = lN 1 := rfl
        rw [sh_l1 (by omega), e1, lN_sub hp0, fb_andL, Nat.and_two_pow_sub_one_eq_mod]
      rw [es]
      rintro I3 rfl
      rw [upI_s, upd_s, hm.2.2.2, ew]
      rintro J4 rfl
      have o1 : 1 ≤ tf (T t) - 1 := by omega
      have o2 : tf (T t) - 1 ≤ 40 := by omega
      have o3 : tk (T t) = 2 → tf (T t) - 1 ≤ 25 := fun e => by have := ok.2.2.2.2.1 e; omega
      have ok' : stok (tk (T t), ta (T t), tf (T t) - 1, tw (T t) % 2 ^ (tf (T t) - 1)) := ⟨ok.1, ok.2.1, o1, o2, o3, Nat.mod_lt _ hp0⟩
      exact (hT _ _ _ rfl).1 _ _ (((G1.tr G2).tr (mG.Ik (by omega))).tr mG.J1) (H2.put ht ok')
    · -- none of the words
      rw [mw_turn] at w1 f1 ff
      rw [mw_less] at w2 f2 ff
      refine br_n rfl (hF far ?_ _ J (mG.I0 (by omega)) (by rw [upI_s, upd_s]))
      have z0 : ¬ fh_hr g z a = 115 → fh_lts g z 0 5 0 a = 0 := fun e => lts_0 g z 0 5 a (by rw [tx_0.1]; exact e)
      have z2 : ¬ fh_hr g z a = 116 → fh_lts g z 2 5 0 a = 0 := fun e => lts_0 g z 2 5 a (by rw [tx_0.2.1]; exact e)
      have z3 : ¬ fh_hr g z a = 108 → fh_lts g z 3 5 0 a = 0 := fun e => lts_0 g z 3 5 a (by rw [tx_0.2.2]; exact e)
      unfold fh_it
      by_cases b1 : fh_hr g z a = 115
      · have y2 := z2 (by rw [b1]; decide)
        have y3 := z3 (by rw [b1]; decide)
        rw [if_pos b1]
        unfold fh_s1
        by_cases c0 : fh_lts g z 0 5 0 a = 5
        · rw [if_pos c0, if_neg (fun e => hno ⟨e, c0⟩)]
          rw [if_pos c0, lts_1] at hms
          unfold fh_s2
          by_cases c1 : fh_hr g z (a + 5) = 32
          · rw [if_pos c1] at hms
            omega
          · rw [if_neg c1] at hms
            rw [if_neg c1]
            congr 1
            omega
        · rw [if_neg c0] at hms
          rw [if_neg c0]
          congr 1
          omega
      have y0 := z0 b1
      rw [y0, if_neg (by omega)] at hms
      rw [if_neg b1]
      by_cases b2 : fh_hr g z a = 116
      · have y3 := z3 (by rw [b2]; decide)
        rw [if_pos b2]
        unfold fh_t1
        rw [if_neg (by omega)]
        congr 1
        omega
      have y2 := z2 b2
      rw [if_neg b2]
      by_cases b3 : fh_hr g z a = 108
      · rw [if_pos b3]
        unfold fh_l1
        rw [if_neg (by omega)]
        congr 1
        omega
      have y3 := z3 b3
      rw [if_neg b3]
      congr 1
      omega
  unfold wM_item
  rw [H.2.1, E8]
  refine ⟨fun e => c25 (fun k => e k.1), fun e => m_isStripW H.1 H.2.2.2.2 ?_⟩
  rw [mw_strip5]
  by_cases c : fh_lts g z 0 5 0 a = 5
  · rw [decide_eq_true c]
    have hb : fh_hr g z a = 115 := (lts_b (w := 0) (by omega)).trans tx_0.1
    refine bft ?_
    rw [e3]
    intro I1 h1
    rw [h1]
    refine hF a ?_ _ J (mG.I0 (by omega)) (by rw [upI_s, upd_s])
    unfold fh_it fh_s1
    rw [if_pos hb, if_pos c, if_pos e]
  · rw [decide_eq_false c]
    exact btf (c25 (fun k => c k.2))
