/-! page -/
def fh_xg (f : Nat) : Nat → Nat → Nat → Nat
  | 0, c, _ => c
  | k + 1, c, d => if 2 ^ k ≤ d then fh_xg f k c (d - 2 ^ k) else fh_xg f k (2 * 2 ^ (f - (k + 1)) - 1 - c) (2 ^ k - 1 - d)
def fh_fs (w k : Nat) (s : Nat × Nat) : Nat × Nat := if s.1 < w / 2 then (s.1, s.2 + k) else (w - 1 - s.1, k - 1 - s.2)
def fh_fw (f : Nat) : Nat → Nat → Nat × Nat
  | 0, l => (l, 0)
  | t + 1, l => fh_fs (2 ^ (f - t)) (2 ^ t) (fh_fw f t l)
theorem fw_b : ∀ f : Nat, f < 7 → ∀ t : Nat, t < f + 1 → ∀ l : Nat, l < 2 ^ f → (fh_fw f t l).1 < 2 ^ (f - t) ∧ (fh_fw f t l).2 < 2 ^ t := by decide +kernel
theorem fw_xg : ∀ f : Nat, f < 7 → ∀ p : Nat, p < 2 ^ f → fh_xg f f 0 p < 2 ^ f ∧ ∀ l : Nat, l < 2 ^ f → ((fh_fw f f l).2 = p ↔ l = fh_xg f f 0 p) := by decide +kernel
theorem nI_m2 (a : Nat) : nI a * 2 = nI (a * 2) := by
  rw [zI_n, zI_2, zI_mul, zI_n, Int.natCast_mul]
  rfl
theorem nI_s1 {w a : Nat} (h : a < w) : nI w - 1 - nI a = nI (w - 1 - a) := by
  rw [zI_n, zI_n, zI_1, zI_sub, zI_sub, zI_n]
  congr 1
  omega
theorem e_sh2 : ∀ f : Nat, f < 30 → (2 : Int32) <<< (nI f &&& 31) = nI (2 * 2 ^ f) := by decide +kernel
theorem p_64 {f : Nat} (hf : f ≤ 6) : 2 ^ f ≤ 64 := (by decide : ∀ k : Nat, k < 7 → 2 ^ k ≤ 64) f (by omega)
theorem x_pageL {X : gI} {Y : gJ} {R : gR} {L : List Nat} {S : gS} {f p : Nat} (hf : f ≤ 6) (hp : p < 2 ^ f) {Q : Int32 → gI → gJ → gR → Prop} (hQ : Q (nI (fh_xg f f 0 p)) X Y R) : ∃ n : Nat, wX11_page_l51 L S Q n (nI f) 0 (nI p) (nI f) X Y R := by
  have key : ∀ (k c d : Nat), k ≤ f → c < 2 ^ (f - k) → d < 2 ^ k → fh_xg f k c d = fh_xg f f 0 p → wX11_page_l51 L S Q (k + 1) (nI f) (nI c) (nI d) (nI k) X Y R := by
    intro k
    induction k with
    | zero =>
      intro c d _ h1 h2 h3
      refine br_t (nI_le (a := 0) (b := 0) (by omega) (by omega)) ?_
      rw [fh_xg] at h3
      rw [h3]
      exact hQ
    | succ k ih =>
      intro c d h0 h1 h2 h3
      have q1 := p_64 (f := k) (by omega)
      have q2 := p_64 (f := f - k) (by omega)
      have q3 : 2 ^ (f - k) = 2 ^ (f - (k + 1)) * 2 := by rw [← Nat.pow_succ]; congr 1; omega
      rw [Nat.pow_succ] at h2
      have e1 : nI (k + 1) - 1 = nI k := by rw [zI_n, zI_1, zI_sub, zI_n]; congr 1; omega
      have e2 : nI (k + 1) + (-1) = nI k := by rw [zI_n, zI_m1, zI_add, zI_n]; congr 1; omega
      have e3 : nI f - nI (k + 1) = nI (f - (k + 1)) := by rw [zI_n, zI_n, zI_sub, zI_n]; congr 1; omega
      refine br_f (nI_ge (a := 0) (by omega) (by omega)) ?_
      rw [fh_xg] at h3
      rw [e1, e2, e3, e_sh k (by omega), e_sh2 (f - (k + 1)) (by omega), nI_s1 (show c < 2 * 2 ^ (f - (k + 1)) by omega)]
      by_cases c1 : 2 ^ k ≤ d
      · rw [if_pos c1] at h3
        refine br_t (nI_le c1 (by omega)) ?_
        rw [show nI d - nI (2 ^ k) = nI (d - 2 ^ k) by rw [zI_n, zI_n, zI_sub, zI_n]; congr 1; omega]
        exact ih c (d - 2 ^ k) (by omega) (by omega) (by omega) h3
      · rw [if_neg c1] at h3
        refine br_f (nI_ge (by omega) (by omega)) ?_
        rw [nI_s1 (show d < 2 ^ k by omega)]
        exact ih _ _ (by omega) (by omega) (by omega) h3
  exact ⟨f + 1, key f 0 p (Nat.le_refl f) (by rw [Nat.sub_self]; decide) hp rfl⟩
theorem m_pageL {I : gI} {J : gJ} {f p : Nat} (hf : f ≤ 6) (hp : p < 2 ^ f) {Q : Int32 → gI → gJ → Prop} (hQ : ∀ I', mFr I J I' J → Q (nI (fh_xg f f 0 p)) I' J) : ∃ n : Nat, wM_page_l56 Q n (nI p) (nI (2 ^ f)) (nI (2 ^ f)) 1 0 I J := by
  have hb := fw_b f (by omega)
  obtain ⟨xl, xe⟩ := fw_xg f (by omega) p hp
  have h64 := p_64 hf
  -- the search
  have look : ∀ (g l : Nat) (v : Int32) (I' : gI), g + l = 2 ^ f → mFr I J I' J → (∀ l, l < 2 ^ f → I' 28 l = nI (fh_fw f f l).2) → (fh_xg f f 0 p < l → v = nI (fh_xg f f 0 p)) → wM_page_l194 Q (g + 1) (nI p) (nI (2 ^ f)) v (nI l) I' J := by
    intro g
    induction g with
    | zero =>
      intro l v I' e f1 f2 f3
      refine br_t (nI_le (by omega) (by omega)) ?_
      rw [f3 (by omega)]
      exact hQ I' f1
    | succ g ih =>
      intro l v I' e f1 f2 f3
      refine br_f (nI_ge (by omega) (by omega)) ⟨vp_in_nI (by omega) (by decide), ?_⟩
      rw [nI_clamp (show l < 2147483648 by omega), f2 l (by omega), nI_1]
      have b2 := (hb f (by omega) l (by omega)).2
      have E : nI (fh_fw f f l).2 = nI p ↔ l = fh_xg f f 0 p := by
        rw [nI_eq (by omega) (by omega)]
        exact xe l (by omega)
      by_cases c : l = fh_xg f f 0 p
      · exact br_n (E.mpr c) (ih (l + 1) (nI l) I' (by omega) f1 f2 (fun _ => by rw [c]))
      · exact br_m (fun e => c (E.mp e)) (ih (l + 1) v I' (by omega) f1 f2 (fun e' => f3 (by omega)))
  -- a fold after another
  have fold : ∀ (g t : Nat) (I' : gI), g + t = f → mFr I J I' J → (∀ l, l < 2 ^ f → I' 27 l = nI (fh_fw f t l).1 ∧ I' 28 l = nI (fh_fw f t l).2) → wM_page_l85 Q (g + 1) (nI p) (nI (2 ^ f)) (nI (2 ^ (f - t))) (nI (2 ^ t)) I' J := by
    intro g
    induction g with
    | zero =>
      intro t I' e f1 f2
      obtain rfl : t = f := by omega
      refine br_t ?_ ⟨2 ^ t + 1, look (2 ^ t) 0 _ I' (by omega) f1 (fun l hl => (f2 l hl).2) (fun e => absurd e (by omega))⟩
      rw [Nat.sub_self]
      decide
    | succ g ih =>
      intro t I' e f1 f2
      have q2 := p_64 (f := f - t) (by omega)
      have q3 : 2 ^ (f - t) = 2 ^ (f - (t + 1)) * 2 := by rw [← Nat.pow_succ]; congr 1; omega
      have q4 : 2 ^ (t + 1) = 2 ^ t * 2 := Nat.pow_succ 2 t
      have q5 : 0 < 2 ^ (f - (t + 1)) := Nat.two_pow_pos _
      have q6 := p_64 (f := t) (by omega)
      refine br_f (nI_ge (a := 1) (by omega) (by omega)) ?_
      have one : ∀ (g' l : Nat) (I' : gI), g' + l = 2 ^ f → mFr I J I' J → (∀ l', l' < 2 ^ f → I' 27 l' = nI (if l' < l then fh_fw f (t + 1) l' else fh_fw f t l').1 ∧ I' 28 l' = nI (if l' < l then fh_fw f (t + 1) l' else fh_fw f t l').2) → wM_page_l94 (wM_page_l85 Q (g + 1)) Q (g' + 1) (nI p) (nI (2 ^ f)) (nI (2 ^ (f - t))) (nI (2 ^ t)) (nI l) I' J := by
        intro g'
        induction g' with
        | zero =>
          intro l I' e' f1 f2
          refine br_t (nI_le (by omega) (by omega)) ?_
          rw [nI_m2, show (2 : Int32) = nI 2 from rfl, pk_iDv (b := 2) (by omega) (by omega), show 2 ^ (f - t) / 2 = 2 ^ (f - (t + 1)) by omega, ← q4]
          refine ih (t + 1) I' (by omega) f1 (fun l' hl' => ?_)
          have x := f2 l' hl'
          rw [if_pos (by omega)] at x
          exact x
        | succ g' ih' =>
          intro l I' e' f1 f2
          refine br_f (nI_ge (by omega) (by omega)) ⟨vp_in_nI (by omega) (by decide), ?_⟩
          have x := f2 l (by omega)
          rw [if_neg (by omega)] at x
          have b := hb t (by omega) l (by omega)
          have hs : fh_fw f (t + 1) l = fh_fs (2 ^ (f - t)) (2 ^ t) (fh_fw f t l) := rfl
          rw [nI_clamp (show l < 2147483648 by omega), x.1, show (2 : Int32) = nI 2 from rfl, pk_iDv (b := 2) (by omega) (by omega)]
          by_cases c : (fh_fw f t l).1 < 2 ^ (f - t) / 2
          · rw [fh_fs, if_pos c] at hs
            refine br_t (nI_lt c (by omega)) ?_
            rintro I4 rfl
            rw [x.2, nI_add, nI_1]
            refine ih' (l + 1) _ (by omega) (f1.tr (mFr.I (by omega))) (fun l' hl' => ?_)
            rw [upI_n (show (27 : Nat) ≠ 28 by omega), upI_s]
            have y := f2 l' hl'
            by_cases el : l' = l
            · rw [el, if_pos (by omega), upd_s, hs]
              exact ⟨x.1, rfl⟩
            · rw [upd_n el]
              by_cases e2 : l' < l
              · rw [if_pos e2] at y
                rw [if_pos (by omega)]
                exact y
              · rw [if_neg e2] at y
                rw [if_neg (by omega)]
                exact y
          · rw [fh_fs, if_neg c] at hs
            refine br_f (nI_nlt (by omega) (by omega)) ?_
            rintro I6 rfl I8 rfl
            rw [upI_n (show (28 : Nat) ≠ 27 by omega), x.2, nI_s1 b.1, nI_s1 b.2, nI_1]
            refine ih' (l + 1) _ (by omega) ((f1.tr (mFr.I (by omega))).tr (mFr.I (by omega))) (fun l' hl' => ?_)
            rw [upI_n (show (27 : Nat) ≠ 28 by omega), upI_s, upI_s, upI_n (show (28 : Nat) ≠ 27 by omega)]
            have y := f2 l' hl'
            by_cases el : l' = l
            · rw [el, if_pos (by omega), upd_s, upd_s, hs]
              exact ⟨rfl, rfl⟩
            · rw [upd_n el, upd_n el]
              by_cases e2 : l' < l
              · rw [if_pos e2] at y
                rw [if_pos (by omega)]
                exact y
              · rw [if_neg e2] at y
                rw [if_neg (by omega)]
                exact y
      exact ⟨2 ^ f + 1, one (2 ^ f) 0 I' (by omega) f1 (fun l' hl' => by
        rw [if_neg (by omega)]
        exact f2 l' hl')⟩
  have init : ∀ (g l : Nat) (I' : gI), g + l = 2 ^ f → mFr I J I' J → (∀ l', l' < l → I' 27 l' = nI l' ∧ I' 28 l' = nI 0) → wM_page_l56 Q (g + 1) (nI p) (nI (2 ^ f)) (nI (2 ^ f)) 1 (nI l) I' J := by
    intro g
    induction g with
    | zero =>
      intro l I' e f1 f2
      refine br_t (nI_le (by omega) (by omega)) ⟨f + 1, ?_⟩
      have x := fold f 0 I' (by omega) f1 (fun l' hl' => f2 l' (by omega))
      exact x
    | succ g ih =>
      intro l I' e f1 f2
      refine br_f (nI_ge (by omega) (by omega)) ⟨vp_in_nI (by omega) (by decide), ?_⟩
      rintro I3 rfl I5 rfl
      rw [nI_clamp (show l < 2147483648 by omega), nI_1]
      refine ih (l + 1) _ (by omega) ((f1.tr (mFr.I (by omega))).tr (mFr.I (by omega))) (fun l' hl' => ?_)
      rw [upI_n (show (27 : Nat) ≠ 28 by omega), upI_s, upI_s, upI_n (show (28 : Nat) ≠ 27 by omega)]
      by_cases el : l' = l
      · rw [el, upd_s, upd_s]
        exact ⟨rfl, rfl⟩
      · rw [upd_n el, upd_n el]
        exact f2 l' (by omega)
  exact ⟨2 ^ f + 1, init (2 ^ f) 0 I (by omega) mFr.rf (fun l' hl' => absurd hl' (by omega))⟩
theorem pc_page {n : Nat} {T : Nat → gP} {I X : gI} {J Y : gJ} {R : gR} {L : List Nat} {S : gS} (h : Rl n T I J X Y R L S) (v1 v2 : Int32) : wX11_page v1 v2 X Y R L S (fun r X' Y' R' => wM_page v1 v2 I J (fun r' I' J' => qE L S r r' I' J' X' Y' R')) := by
  have le0 : 0 ≤ v2 ↔ ¬ v2 < 0 := by
    rw [Int32.le_iff_toInt_le, Int32.lt_iff_toInt_lt]
    omega
  rcases Decidable.em (0 ≤ v2) with c0 | c0
  · refine br_t c0 ?_
    have n0 := le0.mp c0
    rcases Decidable.em (v1 < 1) with c | c
    · exact br_t c (both_no6 h (fun Q hq => br_t c (br_t c0 hq)))
    refine br_f c ?_
    rcases Decidable.em (v1 ≤ 6) with d | d
    · obtain ⟨f, hf, rfl⟩ := nI_of2 (M := 6) (n := 6) rfl (fun e => c (by
        rw [Int32.lt_iff_toInt_lt] at e ⊢
        have : (0 : Int32).toInt = 0 := rfl
        have : (1 : Int32).toInt = 1 := rfl
        omega)) d
      refine br_t d ?_
      rw [e_sh f (by omega)]
      have h64 := p_64 hf
      rcases Decidable.em (v2 < nI (2 ^ f)) with l | l
      · obtain ⟨p, hp, rfl⟩ := nI_of2 (M := 63) (n := 63) rfl n0 (by
          rw [Int32.lt_iff_toInt_lt] at l
          generalize 2 ^ f = N at *
          rw [zI_n, zI_t (by omega) (by omega)] at l
          rw [Int32.le_iff_toInt_le]
          have : (63 : Int32).toInt = 63 := rfl
          omega)
        have lp : p < 2 ^ f := by
          generalize 2 ^ f = N at *
          rw [zI_n, zI_n, zI_lt (by omega) (by omega) (by omega) (by omega)] at l
          omega
        refine br_t l (x_pageL hf lp ?_)
        refine br_f c (br_t d (br_f n0 ?_))
        rw [e_sh f (by omega)]
        exact br_t l (m_pageL hf lp (fun I' f1 => qE.of (h.fr f1 xFr.rf) rfl))
      · refine br_f l (both_no5 h (fun Q hq => br_f c (br_t d (br_f n0 ?_))))
        rw [e_sh f (by omega)]
        exact br_f l hq
    · exact br_f d (both_no6 h (fun Q hq => br_f c (br_f d (br_t c0 hq))))
  · refine br_f c0 (both_no5 h (fun Q hq => ?_))
    have n0 : v2 < 0 := Decidable.byContradiction (fun e => c0 (le0.mpr e))
    rcases Decidable.em (v1 < 1) with c | c
    · exact br_t c (br_f c0 hq)
    refine br_f c ?_
    rcases Decidable.em (v1 ≤ 6) with d | d
    · exact br_t d (br_t n0 hq)
    · exact br_f d (br_f c0 hq)
