/-! new strips, fewer strips -/
theorem xS.new {R0 : Nat → Option Nat} {L : List Nat} {S : gS} {i : Nat} {t : gP} (h : xS R0 L S i t) {q : Nat} (hq : q ∉ L) (v : gV) : xS R0 (L ++ [q]) (va_up S q v) i t := by
  obtain ⟨z, h1, h2, h3⟩ := h
  refine ⟨z, h1, List.mem_append_left _ h2, ?_⟩
  have hz : z ≠ q := fun e => hq (by rw [← e]; exact h2)
  rw [va_up_n hz]
  exact h3
theorem Rl.new {n : Nat} {T : Nat → gP} {I X : gI} {J Y : gJ} {R : gR} {L : List Nat} {S : gS} (h : Rl n T I J X Y R L S) {q : Nat} (hq : q ∉ L) (v : gV) : Rl n T I J X Y R (L ++ [q]) (va_up S q v) := by
  obtain ⟨⟨a1, a2, a3, a4⟩, b, c, d⟩ := h
  refine ⟨⟨a1, a2, a3, fun i hi => ⟨(a4 i hi).1, (a4 i hi).2.1, (a4 i hi).2.2.new hq v⟩⟩, fun k hk i z hz => List.mem_append_left _ (b k hk i z hz), ?_, d⟩
  rcases c with c | ⟨c1, m, T', c2, c3, c4, c5⟩
  · exact Or.inl c
  · exact Or.inr ⟨c1, m, T', c2, c3, c4, fun i hi => ⟨(c5 i hi).1, (c5 i hi).2.1, (c5 i hi).2.2.1, (c5 i hi).2.2.2.1, (c5 i hi).2.2.2.2.1, (c5 i hi).2.2.2.2.2.new hq v⟩⟩
theorem Rl.strips {n : Nat} {T : Nat → gP} {I X : gI} {J Y : gJ} {R : gR} {L : List Nat} {S : gS} (h : Rl n T I J X Y R L S) {n' : Nat} {T' : Nat → gP} {I' X' : gI} {J' Y' : gJ} {R' : gR} (hn : n' ≤ 8) (hI : ∀ k, k = 1 ∨ k = 9 ∨ k = 11 ∨ k = 26 ∨ k = 29 → I' k = I k) (hI0 : ∀ j, j = 1 ∨ 11 ≤ j → I' 0 j = I 0 j) (hX : ∀ k, k = 5 ∨ 12 ≤ k → X' k = X k) (hX0 : ∀ j, 1 ≤ j ∧ j ≤ 4 ∨ 11 ≤ j → X' 0 j = X 0 j) (hJ2 : J' 2 = J 2) (hJ5 : J' 5 = J 5) (hY : ∀ k, 3 ≤ k → Y' k = Y k) (hR1 : R' 1 = R 1) (hRL : ∀ k, k < 3 → ∀ i q, R' k i = some q → q ∈ L) (h0 : I' 0 0 = nI n') (x0 : X' 0 0 = nI n') (hst : ∀ i, i < n' → mS I' J' i (T' i) ∧ stok (T' i) ∧ xS (R' 0) L S i (T' i)) (hsh : ∀ s, s < 8 → rSh n' I' X' s) : Rl n' T' I' J' X' Y' R' L S := by
  obtain ⟨⟨a1, a2, a3, a4⟩, b, c, d, e, f, g, i, j, k, l⟩ := h
  refine ⟨⟨hn, h0, x0, hst⟩, hRL, ?_, hsh, fun s hs q hq => ?_, fun q hq => ?_, ?_, ?_, fun q hq => ?_, ?_, ?_⟩
  · unfold rIm
    rw [hI0 14 (by omega), hX0 1 (by omega), hI 11 (by omega), hJ5, hR1]
    exact c
  · rw [hY _ (by omega), hJ2]; exact e s hs q hq
  · rw [hX 5 (by omega), hI 1 (by omega)]; exact f q hq
  · rw [hX0 2 (by omega), hI0 1 (by omega)]; exact g
  · unfold rTr
    rw [hI0 13 (by omega), hX0 3 (by omega), hX0 4 (by omega), hI 29 (by omega), hX 15 (by omega)]
    exact i
  · rw [hI 9 (by omega)]; exact j q hq
  · unfold rLX
    rw [hX0 11 (by omega), hX 12 (by omega), hX 13 (by omega), hX 14 (by omega)]
    exact k
  · unfold rLM
    rw [hI0 11 (by omega), hI0 12 (by omega), hI 26 (by omega)]
    exact l
theorem rSh.mono {n n' : Nat} {I X : gI} {s : Nat} (h : rSh n I X s) (hn : n ≤ n') : rSh n' I X s := by
  rcases h with h | h | ⟨h1, h2, j, h3, h4⟩
  · exact Or.inl h
  · exact Or.inr (Or.inl h)
  · exact Or.inr (Or.inr ⟨h1, h2, j, by omega, h4⟩)
theorem mkC_n : ∀ k : Nat, k ≤ 6 → mkC (nI k) = k := by decide
theorem mkV_ok {t : gP} (ok : stok t) (i : Nat) : mkV (nI (tk t)) (nI i) (nI (ta t)) (nI (tf t)) (lN (tw t)) = xV t i := by
  have hk := mkC_n (tk t) ok.1
  have hwh := wh_ge ok
  have hf := ok.2.2.2.1
  have ha := ok.2.1
  have hp := pw_2 hf
  have hp0 := Nat.two_pow_pos (tf t)
  have e1 : (1 : Int64) = lN 1 := rfl
  unfold mkV xV
  rw [hk]
  have eK : (if tk t = 0 then (0 : Int32) else nI (tk t)) = nI (tk t) := by
    split
    · rename_i e; rw [e]; rfl
    · rfl
  rw [eK]
  have eF : (if tk t = 3 ∨ tk t = 4 then mkF (nI (ta t)) (nI (tf t)) else 0) = lN (fh_cu t) := by
    unfold fh_cu
    split
    · rename_i e
      have ew : fh_wh t = 2 ^ tf t - 1 := by
        unfold fh_wh fh_pw
        rw [bs_2 (by omega)]
      rw [ew] at hwh ⊢
      unfold mkF
      have es : (1 : Int64) <<< ((nI (tf t)).toInt64 &&& 63) - 1 = lN (2 ^ tf t - 1) := by
        rw [sh_l1 (by omega), e1, lN_sub (by omega)]
      have e0 : (0 : Int64) < lN (2 ^ tf t - 1) ↔ 0 < 2 ^ tf t - 1 := pk_lLT (a := 0) (by omega) (by omega)
      rw [es, if_pos (e0.mpr (by omega)), nI_l (by omega), pk_lMod (by omega) (by omega)]
    · rfl
  rw [eF]
theorem x_made {n : Nat} {T : Nat → gP} {I X : gI} {J Y : gJ} {R : gR} {L : List Nat} {S : gS} (h : Rl n T I J X Y R L S) {t : gP} (ok : stok t) {i : Nat} {Q : Nat → gI → gJ → gR → List Nat → gS → Prop} (hQ : ∀ q : Nat, q ∈ L ++ [q] → ∀ S', S' q = xV t i → Rl n T I J X Y R (L ++ [q]) S' → Q q X Y R (L ++ [q]) S') : wX9_made (nI (tk t)) (nI i) (nI (ta t)) (nI (tf t)) (lN (tw t)) X Y R L S Q := by
  intro q hq
  rw [mkV_ok ok i]
  exact hQ q (by simp) _ (va_up_s _ _ _) (h.new hq _)
theorem xor_bit (w l : Nat) : w ^^^ 2 ^ l = if w.testBit l then w - 2 ^ l else w + 2 ^ l := by
  have h := Nat.div_add_mod w (2 ^ (l + 1))
  have hl := Nat.mod_lt w (Nat.two_pow_pos (l + 1))
  have hp : 2 ^ (l + 1) = 2 * 2 ^ l := Nat.pow_succ'
  have hp0 := Nat.two_pow_pos l
  have hb : w.testBit l = decide (2 ^ l ≤ w % 2 ^ (l + 1)) := by
    rw [Nat.testBit_eq_decide_div_mod_eq]
    have e : w / 2 ^ l % 2 = w % 2 ^ (l + 1) / 2 ^ l := by
      rw [hp, Nat.mul_comm, Nat.mod_mul_right_div_self]
    rw [e]
    by_cases c : 2 ^ l ≤ w % 2 ^ (l + 1)
    · rw [decide_eq_true c]
      have : w % 2 ^ (l + 1) / 2 ^ l = 1 := by
        rw [Nat.div_eq_iff hp0]
        omega
      simp [this]
    · rw [decide_eq_false c, Nat.div_eq_of_lt (by omega)]
      rfl
  apply Nat.eq_of_testBit_eq
  intro i
  rw [Nat.testBit_xor, Nat.testBit_two_pow]
  rw [hb]
  by_cases c : 2 ^ l ≤ w % 2 ^ (l + 1)
  · rw [decide_eq_true c, if_pos rfl]
    obtain ⟨r, hr⟩ : ∃ r, w % 2 ^ (l + 1) = 2 ^ l + r := ⟨w % 2 ^ (l + 1) - 2 ^ l, by omega⟩
    have hr2 : r < 2 ^ l := by omega
    have e1 : w = 2 ^ (l + 1) * (w / 2 ^ (l + 1)) + (2 ^ l * 1 + r) := by omega
    have e2 : w - 2 ^ l = 2 ^ (l + 1) * (w / 2 ^ (l + 1)) + r := by omega
    rw [e2]
    conv => lhs; rw [e1]
    rw [Nat.testBit_two_pow_mul_add _ (show 2 ^ l * 1 + r < 2 ^ (l + 1) by omega), Nat.testBit_two_pow_mul_add _ (show r < 2 ^ (l + 1) by omega)]
    by_cases c1 : i < l + 1
    · rw [if_pos c1, if_pos c1, Nat.testBit_two_pow_mul_add _ hr2]
      by_cases c2 : i < l
      · rw [if_pos c2]
        simp [show ¬ l = i by omega]
      · obtain rfl : i = l := by omega
        rw [if_neg c2, Nat.sub_self, Nat.testBit_lt_two_pow hr2]
        simp
    · rw [if_neg c1, if_neg c1]
      simp [show ¬ l = i by omega]
  · rw [decide_eq_false c]
    simp only [Bool.false_eq_true, if_false]
    have hr2 : w % 2 ^ (l + 1) < 2 ^ l := by omega
    have e1 : w = 2 ^ (l + 1) * (w / 2 ^ (l + 1)) + w % 2 ^ (l + 1) := by omega
    have e2 : w + 2 ^ l = 2 ^ (l + 1) * (w / 2 ^ (l + 1)) + (2 ^ l * 1 + w % 2 ^ (l + 1)) := by omega
    rw [e2]
    conv => lhs; rw [e1]
    rw [Nat.testBit_two_pow_mul_add _ (show w % 2 ^ (l + 1) < 2 ^ (l + 1) by omega), Nat.testBit_two_pow_mul_add _ (show 2 ^ l * 1 + w % 2 ^ (l + 1) < 2 ^ (l + 1) by omega)]
    by_cases c1 : i < l + 1
    · rw [if_pos c1, if_pos c1, Nat.testBit_two_pow_mul_add _ hr2]
      by_cases c2 : i < l
      · rw [if_pos c2]
        simp [show ¬ l = i by omega]
      · obtain rfl : i = l := by omega
        rw [if_neg c2, Nat.sub_self, Nat.testBit_lt_two_pow hr2]
        simp
    · rw [if_neg c1, if_neg c1]
      simp [show ¬ l = i by omega]
theorem xor_lt {w l f : Nat} (h : w < 2 ^ f) (hl : l < f) : w ^^^ 2 ^ l < 2 ^ f := Nat.xor_lt_two_pow h (Nat.pow_lt_pow_right (by omega) hl)
theorem pc_turn {n : Nat} {T : Nat → gP} {I X : gI} {J Y : gJ} {R : gR} {L : List Nat} {S : gS} (h : Rl n T I J X Y R L S) (v1 v2 : Int32) : wX11_turn v1 v2 X Y R L S (fun r X' Y' R' L' S' => wM_turn v1 v2 I J (fun r' I' J' => qE L' S' r r' I' J' X' Y' R')) := by
  have hn := h.1.1
  rcases ix_strip v1 hn with h1 | ⟨j, hj, rfl⟩
  · exact x_stripN h.1.2.2.1 hn h1 (bff (both_no1 h (fun Q q => m_stripN h.1.2.1 h1 (bff q))))
  obtain ⟨hm, ok, z, hz, hL, hS⟩ := h.st hj
  have ec : (nI j).toNatClampNeg = j := nI_clamp (by omega)
  have hin : vp_in (nI j) 8 := vp_in_nI (by omega) (by decide)
  have hf := ok.2.2.2.1
  have eK : sK (S z) = nI (tk (T j)) := by rw [hS]; rfl
  have eA : sA (S z) = nI (ta (T j)) := by rw [hS]; rfl
  have eL : sL (S z) = nI (tf (T j)) := by rw [hS]; rfl
  have eW : sW (S z) = lN (tw (T j)) := by rw [hS]; rfl
  refine x_stripY h.1.2.2.1 hn hj (btt ⟨hin, ?_⟩)
  rcases Decidable.em (v2 < 0) with g | g
  · exact br_t g (both_no5 h (fun Q q => m_stripY h.1.2.1 hn hj (btt (br_t g q))))
  obtain ⟨l, hl, rfl⟩ := nI_of g
  refine br_f g ⟨z, by rw [ec]; exact hz, hL, ?_⟩
  have mk : ∀ Q : Int32 → gI → gJ → Prop, ((nI l < nI (tf (T j)) → wM_letter (nI j) (nI l) I J (fun r6 => ∀ J7 : gJ, J7 = upJ J 1 j (lN (tw (T j)) ^^^ (((1 : Int64)) <<< ((nI l).toInt64 &&& 63))) → Q r6 I J7)) ∧ (¬ nI l < nI (tf (T j)) → wM_turn_c28 I J Q)) → wM_turn (nI j) (nI l) I J Q := by
    intro Q q
    refine m_stripY h.1.2.1 hn hj (btt (br_f g ⟨hin, ?_⟩))
    rw [ec, hm.2.2.1, hm.2.2.2]
    exact q
  rw [eL]
  rcases Nat.lt_or_ge l (tf (T j)) with c | c
  rotate_left
  · exact br_f (nI_nlt c (by omega)) (both_no5 h (fun Q q => mk Q (br_f (nI_nlt c (by omega)) q)))
  have ew : lN (tw (T j)) ^^^ (((1 : Int64)) <<< ((nI l).toInt64 &&& 63)) = lN (tw (T j) ^^^ 2 ^ l) := by
    rw [sh_l1 (by omega), fb_xorL]
  have ok' : stok (tk (T j), ta (T j), tf (T j), tw (T j) ^^^ 2 ^ l) := ⟨ok.1, ok.2.1, ok.2.2.1, ok.2.2.2.1, ok.2.2.2.2.1, xor_lt ok.2.2.2.2.2 c⟩
  rw [ew] at mk
  rw [eK, eA, eW, ew, ec]
  refine br_t (nI_lt c (by omega)) (x_made h (t := (tk (T j), ta (T j), tf (T j), tw (T j) ^^^ 2 ^ l)) ok' (fun q hqL S' hS' h' => ?_))
  rintro R15 rfl
  obtain ⟨hm', _, z', hz', hL', hSz'⟩ := h'.st hj
  refine ⟨z', hz', hL', v_same (x_letter hSz' ok (by omega) (mk _ (br_t (nI_lt c (by omega)) (m_letter (by omega) hm ok (by omega) ?_))))⟩
  rintro J7 rfl
  refine ⟨rfl, n, fun i => if i = j then (tk (T j), ta (T j), tf (T j), tw (T j) ^^^ 2 ^ l) else T i, h'.strips hn (fun _ _ => rfl) (fun _ _ => rfl) (fun _ _ => rfl) (fun _ _ => rfl) (upJ_n (by omega)) (upJ_n (by omega)) (fun _ _ => rfl) (upR_n (by omega)) (fun k hk i q' hq' => ?_) h.1.2.1 h.1.2.2.1 (fun i hi => ?_) h.2.2.2.1⟩
  · by_cases ek : k = 0
    · subst ek
      rw [upR_s] at hq'
      by_cases ei : i = j
      · subst ei
        rw [va_up_s] at hq'
        cases hq'
        exact hqL
      · rw [va_up_n ei] at hq'
        exact h'.2.1 0 (by omega) i q' hq'
    · rw [upR_n ek] at hq'
      exact h'.2.1 k hk i q' hq'
  · by_cases ei : i = j
    · subst ei
      rw [if_pos rfl]
      refine ⟨⟨hm.1, hm.2.1, hm.2.2.1, ?_⟩, ok', q, ?_, hqL, hS'⟩
      · rw [upJ_s, upl_s]; rfl
      · rw [upR_s, va_up_s]
    · rw [if_neg ei]
      obtain ⟨a1, a2, z2, a3, a4, a5⟩ := h'.st hi
      refine ⟨⟨a1.1, a1.2.1, a1.2.2.1, ?_⟩, a2, z2, ?_, a4, a5⟩
      · rw [upJ_s, upl_n ei]; exact a1.2.2.2
      · rw [upR_s, va_up_n ei]; exact a3
/-! a word by a row -/
def fh_wd (c : Nat → Int64) : Nat → Nat
  | 0 => 0
  | n + 1 => fh_wd c n + (if (c n).toBitVec.getLsbD 0 = true then 2 ^ n else 0)
theorem wd_lt (c : Nat → Int64) : ∀ n : Nat, fh_wd c n < 2 ^ n
  | 0 => Nat.zero_lt_one
  | n + 1 => by
    have := wd_lt c n
    rw [fh_wd, Nat.pow_succ]
    split <;> omega
theorem low1 (x : Int64) : x &&& 1 = if x.toBitVec.getLsbD 0 = true then lN 1 else lN 0 := by
  have h := and_pow x (k := 0) (by omega)
  have e1 : (1 : Int64) = lN (2 ^ 0) := rfl
  apply Int64.toBitVec_inj.mp
  rw [Int64.toBitVec_and]
  show x.toBitVec &&& 1#64 = _
  apply BitVec.eq_of_getLsbD_eq
  intro i hi
  rw [BitVec.getLsbD_and, BitVec.getLsbD_one]
  cases hb : x.toBitVec.getLsbD 0 <;> by_cases hi0 : i = 0
  · subst hi0
    rw [hb, if_neg (by decide)]
    rfl
  · simp [hi0, lN]
  · subst hi0
    rw [hb]
    rfl
  · rw [if_pos rfl]
    show _ = (1#64).getLsbD i
    rw [BitVec.getLsbD_one]
    simp [hi0]
theorem low1_32 (x : Int64) : (x.toInt32.toInt64 &&& 1) = x &&& 1 := by
  rw [low1, low1]
  have e : x.toInt32.toInt64.toBitVec.getLsbD 0 = x.toBitVec.getLsbD 0 := by
    show ((x.toBitVec.signExtend 32).signExtend 64).getLsbD 0 = _
    rw [BitVec.getLsbD_signExtend, BitVec.getLsbD_signExtend]
    simp
  rw [e]
theorem wd_or (c : Nat → Int64) {n : Nat} (hn : n < 63) : lN (fh_wd c n) ||| ((c n &&& 1) <<< ((nI n).toInt64 &&& 63)) = lN (fh_wd c (n + 1)) := by
  have h := wd_lt c n
  have hp : 2 ^ n < 2 ^ 63 := Nat.pow_lt_pow_right (by omega) (by omega)
  rw [low1, fh_wd]
  split
  · rw [sh_l _ (by omega)]
    have h2 := g_or' (k := n) (p := 2 ^ n) (a := fh_wd c n) (b := 1) rfl h (by omega)
    rw [Nat.one_mul] at h2 ⊢
    exact h2
  · rw [sh_l _ (by omega), Nat.zero_mul, fb_orL, Nat.or_zero, Nat.add_zero]
theorem x_asInt {X : gI} {Y : gJ} {R : gR} {L : List Nat} {S : gS} {s m k : Nat} (e : X 4 s = nI m) (hm : m ≤ 160) (hk : k < m) {Q : Int32 → Prop} (hQ : Q (Y (3 + s) k).toInt32) : wX8_asInt s (nI k) X Y R L S Q := by
  refine x_hasY e hm hk (bft ⟨vp_in_nI (by omega) (by decide), ?_⟩)
  rw [nI_clamp (by omega)]
  exact hQ
theorem m_adds {n : Nat} {T : Nat → gP} {I X : gI} {J Y : gJ} {R : gR} {L : List Nat} {S : gS} (h : Rl n T I J X Y R L S) (hn : n < 8) (a b c : Int32) (w : Int64) {Q : Int32 → gI → gJ → Prop} (hQ : Q (nI n) (upI (upI (upI (upI I 2 n a) 3 n b) 4 n c) 0 0 (nI (n + 1))) (upJ J 1 n w)) : wM_adds a b c w I J Q := by
  have e0 := h.1.2.1
  have ec : (nI n).toNatClampNeg = n := nI_clamp (by omega)
  have hin : vp_in (nI n) 8 := vp_in_nI hn (by decide)
  unfold wM_adds
  rw [e0, ec]
  refine ⟨hin, ?_⟩
  rintro I2 rfl
  rw [upI_n (by omega), e0, ec]
  refine ⟨hin, ?_⟩
  rintro I5 rfl
  rw [upI_n (by omega), upI_n (by omega), e0, ec]
  refine ⟨hin, ?_⟩
  rintro I8 rfl
  rw [upI_n (by omega), upI_n (by omega), upI_n (by omega), e0, ec]
  refine ⟨hin, ?_⟩
  rintro J11 rfl I13 rfl
  rw [nI_1]
  exact hQ
theorem strip_s (Q : Int32 → gI → gJ → gR → List Nat → gS → Prop) (g : Nat) (v1 v2 v3 v4 : Int32) (v6 : Int64) (v8 : Int32) (X : gI) (Y : gJ) (R : gR) (L : List Nat) (S : gS) : wX11_strip_l29 Q (g + 1) v1 v2 v3 v4 v6 v8 X Y R L S = wX11_strip_b29 (wX11_strip_l29 Q g) v1 v2 v3 v4 v6 v8 X Y R L S Q := rfl
theorem pc_strip {n : Nat} {T : Nat → gP} {I X : gI} {J Y : gJ} {R : gR} {L : List Nat} {S : gS} (h : Rl n T I J X Y R L S) (v1 v2 v3 v4 : Int32) : wX11_strip v1 v2 v3 v4 X Y R L S (fun r X' Y' R' L' S' => wM_strip v1 v2 v3 v4 I J (fun r' I' J' => qE L' S' r r' I' J' X' Y' R')) := by
  have hn := h.1.1
  unfold wX11_strip wX11_noStrip
  have e6 : ∀ v : Int32, v < 7 ↔ v ≤ 6 := by
    intro v
    rw [Int32.lt_iff_toInt_lt, Int32.le_iff_toInt_le]
    have a : (6 : Int32).toInt = 6 := rfl
    have b : (7 : Int32).toInt = 7 := rfl
    omega
  have mno1 : ∀ Q : Int32 → gI → gJ → Prop, (v1 < 0 ∨ ¬ v1 ≤ 6 ∨ (v3 < 0 ∨ 8 ≤ v3)) → wM_no (-1) I J Q → wM_strip v1 v2 v3 v4 I J Q := by
    intro Q hv q
    rcases ix_shelf v3 with h3 | ⟨s, hs, rfl⟩
    · exact m_shelfN h3 (btf q)
    · refine m_shelfY hs (bft ?_)
      rcases Decidable.em (v1 < 0) with c | c
      · exact br_t c q
      · refine br_f c (br_f ?_ q)
        intro c2
        rcases hv with c3 | c3 | c3 | c3
        · exact c c3
        · exact c3 c2
        · exact nI_pos (n := s) (by omega) c3
        · exact nI_ge (a := s) (b := 8) hs (by omega) c3
  rcases Decidable.em (v1 < 0) with g | g
  · refine br_t g ?_
    exact br_f (by decide) (both_no1 h (fun Q q => mno1 Q (Or.inl g) q))
  refine br_f g ?_
  rw [e6]
  rcases Decidable.em (v1 ≤ 6) with g6 | g6
  rotate_left
  · refine br_f g6 ?_
    exact br_f (by decide) (both_no1 h (fun Q q => mno1 Q (Or.inr (Or.inl g6)) q))
  refine br_t g6 ?_
  obtain ⟨k, hk, rfl⟩ := nI_of2 (M := 6) (n := 6) rfl g g6
  rcases ix_shelf v3 with h3 | ⟨s, hs, rfl⟩
  · unfold wX11_noFirstElements wX11_noRow
    refine x_shelfN h3 (bff ?_)
    refine br_f (by decide) ?_
    refine br_f (by decide) ?_
    exact br_f (by decide) (both_no1 h (fun Q q => mno1 Q (Or.inr (Or.inr h3)) q))
  have mk : ∀ Q : Int32 → gI → gJ → Prop, wM_bars (nI s) v4 I J (fun r5 => (r5 = 0 → (v4 < 1 → wM_strip_c78 I J Q) ∧ (¬ v4 < 1 → (¬ nI k = 2 → wM_strip_c65 (nI k) v2 (nI s) v4 v4 40 I J Q) ∧ (nI k = 2 → wM_strip_c65 (nI k) v2 (nI s) v4 v4 25 I J Q))) ∧ (¬ r5 = 0 → wM_no r5 I J (fun r9 I10 J11 => Q r9 I10 J11))) → wM_strip (nI k) v2 (nI s) v4 I J Q := fun Q q => m_shelfY hs (bft (br_f g (br_t g6 q)))
  rcases bar_cases h (nI s) v4 with ⟨c, c1, c2, hx, hm⟩ | ⟨s', o, zz, f, hs', es, ho, hzz, hfz, rfl, e1, e2, e3, e4, e5, hx, hm⟩
  · refine hx _ (br_f (neg_ne0 c1 (by omega)) ?_)
    exact br_f (neg_ne0 c1 (by omega)) (both_no h c (by omega) c1 (fun Q q => mk Q (hm _ (br_f (neg_ne0 c1 (by omega)) q))))
  obtain rfl : s = s' := (nI_eq (by omega) (by omega)).mp es
  have mk2 : ∀ Q : Int32 → gI → gJ → Prop, ((nI f < 1 → wM_strip_c78 I J Q) ∧ (¬ nI f < 1 → (¬ nI k = 2 → wM_strip_c65 (nI k) v2 (nI s) (nI f) (nI f) 40 I J Q) ∧ (nI k = 2 → wM_strip_c65 (nI k) v2 (nI s) (nI f) (nI f) 25 I J Q))) → wM_strip (nI k) v2 (nI s) (nI f) I J Q := fun Q q => mk Q (hm _ (br_t rfl q))
  have r6 : ¬ (-6 : Int32) = 0 := by decide
  have r7 : ¬ (-7 : Int32) = 0 := by decide
  refine hx _ (br_t rfl ?_)
  have E1 : nI f < 1 ↔ f < 1 := nI_ltI (b := 1) (by omega) (by omega)
  rcases Nat.lt_or_ge f 1 with g1 | g1
  · refine br_t (E1.mpr g1) ?_
    exact br_f r6 (both_no6 h (fun Q q => mk2 Q (br_t (E1.mpr g1) q)))
  have g1' : ¬ nI f < 1 := fun e => by have := E1.mp e; omega
  refine br_f g1' ?_
  have Ek : nI k = 2 ↔ k = 2 := nI_eq (b := 2) (by omega) (by omega)
  -- how many levels there may be
  have lev : ∀ (P : Int32 → Prop), P (nI (if k = 2 then 25 else 40)) → wX11_mostLevels (nI k) X Y R L S P := by
    intro P p
    unfold wX11_mostLevels
    rw [Ek]
    refine ⟨fun e => ?_, fun e => ?_⟩
    · rw [if_neg e] at p; exact p
    · rw [if_pos e] at p; exact p
  have mk3 : ∀ Q : Int32 → gI → gJ → Prop, ((nI (if k = 2 then 25 else 40) < nI f → wM_strip_c78 I J Q) ∧ (¬ nI (if k = 2 then 25 else 40) < nI f → (v2 < 0 → wM_strip_c78 I J Q) ∧ (¬ v2 < 0 → (v2 ≤ 999999 → (¬ nI n = 8 → ∃ m : Nat, wM_strip_l107 Q m (nI k) v2 (nI s) (nI f) 0 0 I J) ∧ (nI n = 8 → wM_no (-7) I J (fun r5 I6 J7 => Q r5 I6 J7))) ∧ (¬ v2 ≤ 999999 → wM_strip_c78 I J Q)))) → wM_strip (nI k) v2 (nI s) (nI f) I J Q := by
    intro Q q
    refine mk2 Q (br_f g1' ?_)
    unfold wM_strip_c65
    rw [Ek, h.1.2.1]
    refine ⟨fun e => ?_, fun e => ?_⟩
    · rw [if_neg e] at q; exact q
    · rw [if_pos e] at q; exact q
  refine lev _ ?_
  have hlv : (if k = 2 then 25 else 40) ≤ 40 := by split <;> omega
  have El : nI (if k = 2 then 25 else 40) < nI f ↔ (if k = 2 then 25 else 40) < f := nI_ltI (by omega) (by omega)
  rcases Nat.lt_or_ge (if k = 2 then 25 else 40) f with g2 | g2
  · refine br_t (El.mpr g2) ?_
    exact br_f r6 (both_no6 h (fun Q q => mk3 Q (br_t (El.mpr g2) q)))
  have g2' : ¬ nI (if k = 2 then 25 else 40) < nI f := fun e => by have := El.mp e; omega
  refine br_f g2' ?_
  rcases Decidable.em (v2 < 0) with g3 | g3
  · refine br_t g3 ?_
    exact br_f r6 (both_no6 h (fun Q q => mk3 Q (br_f g2' (br_t g3 q))))
  refine br_f g3 ?_
  rcases Decidable.em (v2 ≤ 999999) with g4 | g4
  rotate_left
  · refine br_f g4 ?_
    exact br_f r6 (both_no6 h (fun Q q => mk3 Q (br_f g2' (br_f g3 (br_f g4 q)))))
  refine br_t g4 ?_
  rw [h.1.2.2.1]
  have En : nI n < 8 ↔ n < 8 := nI_ltI (b := 8) (by omega) (by omega)
  have En8 : nI n = 8 ↔ n = 8 := nI_eq (b := 8) (by omega) (by omega)
  rcases Nat.lt_or_ge n 8 with g5 | g5
  rotate_left
  · refine br_f (fun e => by have := En.mp e; omega) ?_
    exact br_f r7 (both_no7 h (fun Q q => mk3 Q (br_f g2' (br_f g3 (br_t g4 (br_n (En8.mpr (by omega)) q))))))
  refine br_t (En.mpr g5) (br_t rfl ?_)
  obtain ⟨a, ha, rfl⟩ := nI_of2 (M := 999999) (n := 999999) rfl g3 g4
  have ok : stok (k, a, f, fh_wd (fun j => J 2 (160 * s + j)) f) := by
    refine ⟨hk, ha, g1, by show f ≤ 40; omega, fun e => ?_, wd_lt _ _⟩
    have e : k = 2 := e
    rw [if_pos e] at g2
    exact g2
  have hcell := h.2.2.2.2.1 s hs
  have keyM : ∀ Q : Int32 → gI → gJ → Prop, Q (nI n) (upI (upI (upI (upI I 2 n (nI k)) 3 n (nI a)) 4 n (nI f)) 0 0 (nI (n + 1))) (upJ J 1 n (lN (fh_wd (fun j => J 2 (160 * s + j)) f))) → ∀ g j : Nat, g + j = f → wM_strip_l107 Q (g + 1) (nI k) (nI a) (nI s) (nI f) (lN (fh_wd (fun j => J 2 (160 * s + j)) j)) (nI j) I J := by
    intro Q q g
    induction g with
    | zero =>
      intro j e
      obtain rfl : j = f := by omega
      exact br_t (nI_le (Nat.le_refl _) (by omega)) (m_adds h g5 _ _ _ _ q)
    | succ g ih =>
      intro j e
      have ei : (160 : Int32) * nI s + nI j = nI (160 * s + j) := by
        show nI 160 * nI s + nI j = _
        rw [pk_mul, nI_add]
      show wM_strip_b107 _ _ _ _ _ _ _ _ _ Q
      unfold wM_strip_b107
      rw [ei]
      refine br_f (nI_ge (by omega) (by omega)) ⟨vp_in_nI (by omega) (by decide), ?_⟩
      rintro x6 rfl
      rw [nI_clamp (by omega), nI_1]
      have ew := wd_or (fun j => J 2 (160 * s + j)) (n := j) (by omega)
      have ew' : lN (fh_wd (fun j => J 2 (160 * s + j)) j) ||| ((J 2 (160 * s + j) &&& 1) <<< ((nI j).toInt64 &&& 63)) = lN (fh_wd (fun j => J 2 (160 * s + j)) (j + 1)) := ew
      rw [ew']
      exact ih (j + 1) (by omega)
  have keyX : ∀ g j : Nat, g + j = f → wX11_strip_l29 (fun r X' Y' R' L' S' => wM_strip (nI k) (nI a) (nI s) (nI f) I J (fun r' I' J' => qE L' S' r r' I' J' X' Y' R')) (g + 1) (nI k) (nI a) (nI s) (nI f) (lN (fh_wd (fun j => J 2 (160 * s + j)) j)) (nI j) X Y R L S := by
    intro g
    induction g with
    | zero =>
      intro j e
      obtain rfl : j = f := by omega
      rw [strip_s]
      unfold wX11_strip_b29
      rw [h.1.2.2.1]
      refine br_t (nI_le (Nat.le_refl _) (by omega)) (x_made h (t := (k, a, j, fh_wd (fun j => J 2 (160 * s + j)) j)) ok (i := n) (fun q hqL S' hS' h' => ⟨vp_in_nI g5 (by decide), ?_⟩))
      rintro R9 rfl I11 rfl
      rw [upI_s, upd_s, h.1.2.2.1, nI_1, nI_pred, nI_clamp (by omega)]
      refine mk3 _ (br_f g2' (br_f g3 (br_t g4 (br_m (fun e => by have := En8.mp e; omega) ⟨j + 1, keyM _ ?_ j 0 (by omega)⟩))))
      refine ⟨rfl, n + 1, fun i => if i = n then (k, a, j, fh_wd (fun j => J 2 (160 * s + j)) j) else T i, h'.strips (by omega) (fun k' hk' => ?_) (fun i hi => ?_) (fun k' hk' => ?_) (fun i hi => ?_) (upJ_n (by omega)) (upJ_n (by omega)) (fun _ _ => rfl) (upR_n (by omega)) (fun k' hk' i q' hq' => ?_) ?_ ?_ (fun i hi => ?_) (fun s' hs' => ?_)⟩
      · rw [upI_n (by omega), upI_n (by omega), upI_n (by omega), upI_n (by omega)]
      · rw [upI_at, if_neg (by omega), upI_at, if_neg (by omega), upI_at, if_neg (by omega), upI_at, if_neg (by omega)]
      · rw [upI_n (by omega)]
      · rw [upI_at, if_neg (by omega)]
      · by_cases ek : k' = 0
        · subst ek
          rw [upR_s] at hq'
          by_cases ei : i = n
          · subst ei
            rw [va_up_s] at hq'
            cases hq'
            exact hqL
          · rw [va_up_n ei] at hq'
            exact h'.2.1 0 (by omega) i q' hq'
        · rw [upR_n ek] at hq'
          exact h'.2.1 k' hk' i q' hq'
      · rw [upI_s, upd_s]
      · rw [upI_s, upd_s]
      · by_cases ei : i = n
        · subst ei
          rw [if_pos rfl]
          refine ⟨⟨?_, ?_, ?_, ?_⟩, ok, q, ?_, hqL, hS'⟩
          · simp only [upI_at]
            simp
            rfl
          · simp only [upI_at]
            simp
            rfl
          · simp only [upI_at]
            simp
            rfl
          · rw [upJ_s, upl_s]
            rfl
          · rw [upR_s, va_up_s]
        · rw [if_neg ei]
          obtain ⟨a1, a2, z2, a3, a4, a5⟩ := h'.st (show i < n by omega)
          refine ⟨⟨?_, ?_, ?_, ?_⟩, a2, z2, ?_, a4, a5⟩
          · rw [upI_at, if_neg (by omega), upI_at, if_neg (by omega), upI_at, if_neg (by omega), upI_at, if_neg (by omega)]; exact a1.1
          · rw [upI_at, if_neg (by omega), upI_at, if_neg (by omega), upI_at, if_neg (by omega), upI_at, if_neg (by omega)]; exact a1.2.1
          · rw [upI_at, if_neg (by omega), upI_at, if_neg (by omega), upI_at, if_neg (by omega), upI_at, if_neg (by omega)]; exact a1.2.2.1
          · rw [upJ_s, upl_n ei]; exact a1.2.2.2
          · rw [upR_s, va_up_n ei]; exact a3
      · have := (h.2.2.2.1 s' hs').mono (show n ≤ n + 1 by omega)
        unfold rSh at this ⊢
        rw [upI_n (by omega), upI_n (by omega), upI_n (by omega), upI_n (by omega), upI_n (by omega), upI_n (by omega), upI_n (by omega), upI_n (by omega), upI_n (by omega), upI_n (by omega), upI_n (by omega), upI_n (by omega), upI_n (by omega), upI_n (by omega), upI_n (by omega), upI_n (by omega), upI_n (by omega), upI_n (by omega)]
        exact this
    | succ g ih =>
      intro j e
      rw [strip_s]
      unfold wX11_strip_b29
      refine br_f (nI_ge (by omega) (by omega)) ⟨vp_in_nI hs (by decide), ?_⟩
      rw [nI_clamp (show s < 2147483648 by omega)]
      refine x_asInt e5 hzz (by omega) ?_
      rw [low1_32, hcell j (by omega), nI_1]
      have ew := wd_or (fun j => J 2 (160 * s + j)) (n := j) (by omega)
      have ew' : lN (fh_wd (fun j => J 2 (160 * s + j)) j) ||| ((J 2 (160 * s + j) &&& 1) <<< ((nI j).toInt64 &&& 63)) = lN (fh_wd (fun j => J 2 (160 * s + j)) (j + 1)) := ew
      rw [ew']
      exact ih (j + 1) (by omega)
  exact ⟨f + 1, keyX f 0 (by omega)⟩
