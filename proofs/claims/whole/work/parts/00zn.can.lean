/-! can -/
theorem nodup_le : ∀ (N : Nat) (p : List Nat), p.Nodup → (∀ x, x ∈ p → x < N) → p.length ≤ N
  | 0, [], _, _ => Nat.le_refl 0
  | 0, a :: p, _, h => absurd (h a List.mem_cons_self) (by omega)
  | N + 1, p, hd, h => by
    by_cases e : N ∈ p
    · have := nodup_le N (p.erase N) (hd.erase N) (fun x hx => by
        rw [hd.mem_erase_iff] at hx
        have := h x hx.2
        omega)
      rw [List.length_erase_of_mem e] at this
      omega
    · have := nodup_le N p hd (fun x hx => by
        have h1 := h x hx
        have : x ≠ N := fun e2 => e (e2 ▸ hx)
        omega)
      omega
theorem not_nodup : ∀ q : List Nat, ¬ q.Nodup → ∃ U : List Nat, U.length < q.length ∧ ∀ x, x ∈ q → x ∈ U
  | [], h => absurd List.nodup_nil h
  | a :: q, h => by
    by_cases e : a ∈ q
    · exact ⟨q, by rw [List.length_cons]; omega, fun x hx => by
        rcases List.mem_cons.mp hx with h1 | h1
        · exact h1 ▸ e
        · exact h1⟩
    · obtain ⟨U, u1, u2⟩ := not_nodup q (fun hq => h (List.nodup_cons.mpr ⟨e, hq⟩))
      exact ⟨a :: U, by rw [List.length_cons, List.length_cons]; omega, fun x hx => by
        rcases List.mem_cons.mp hx with h1 | h1
        · exact h1 ▸ List.mem_cons_self
        · exact List.mem_cons_of_mem _ (u2 x h1)⟩
def fh_vl (g : Nat → Int32) : Nat → List Nat
  | 0 => []
  | i + 1 => fh_vl g i ++ [(g i).toNatClampNeg]
theorem vl_len (g : Nat → Int32) : ∀ i, (fh_vl g i).length = i
  | 0 => rfl
  | i + 1 => by rw [fh_vl, List.length_append, vl_len g i]; rfl
theorem vl_take (g : Nat → Int32) (q : Nat) : ∀ d : Nat, (fh_vl g (q + d)).take q = fh_vl g q
  | 0 => by
    rw [Nat.add_zero, List.take_of_length_le (by rw [vl_len]; omega)]
  | d + 1 => by
    rw [← Nat.add_assoc, fh_vl, List.take_append_of_le_length (by rw [vl_len]; omega), vl_take g q d]
theorem vl_get (g : Nat → Int32) (q : Nat) : ∀ d : Nat, (fh_vl g (q + 1 + d)).getD q 0 = (g q).toNatClampNeg
  | 0 => by
    rw [Nat.add_zero, fh_vl, List.getD_eq_getElem?_getD, List.getElem?_append_right (by rw [vl_len]; omega), vl_len, Nat.sub_self]
    rfl
  | d + 1 => by
    rw [← Nat.add_assoc, fh_vl, List.getD_eq_getElem?_getD, List.getElem?_append_left (by rw [vl_len]; omega), ← List.getD_eq_getElem?_getD, vl_get g q d]
def fh_msk (p : List Nat) : Nat := p.foldl (fun w v => w ||| 2 ^ v) 0
theorem msk_app (p : List Nat) (v : Nat) : fh_msk (p ++ [v]) = fh_msk p ||| 2 ^ v := by
  unfold fh_msk
  rw [List.foldl_append]
  rfl
theorem msk_vl (g : Nat → Int32) (l : Nat) : ∀ i, (fh_msk (fh_vl g i)).testBit l = true ↔ l ∈ fh_vl g i
  | 0 => by
    show (0 : Nat).testBit l = true ↔ l ∈ []
    rw [Nat.zero_testBit]
    simp
  | i + 1 => by
    rw [fh_vl, msk_app, Nat.testBit_or, Bool.or_eq_true, msk_vl g l i, Nat.testBit_two_pow, decide_eq_true_iff, List.mem_append, List.mem_singleton]
    exact ⟨fun h => h.imp id (fun e => e.symm), fun h => h.imp id (fun e => e.symm)⟩
theorem msk_lt (g : Nat → Int32) (k : Nat) : ∀ i, (∀ j, j < i → (g j).toNatClampNeg < k) → fh_msk (fh_vl g i) < 2 ^ k
  | 0, _ => Nat.two_pow_pos k
  | i + 1, h => by
    rw [fh_vl, msk_app]
    exact Nat.or_lt_two_pow (msk_lt g k i (fun j hj => h j (by omega))) (Nat.pow_lt_pow_right (by omega) (h i (by omega)))
theorem vl_mem (g : Nat → Int32) (k : Nat) : ∀ i, (∀ j, j < i → (g j).toNatClampNeg < k) → ∀ x, x ∈ fh_vl g i → x < k
  | 0, _, x, hx => absurd hx (by simp [fh_vl])
  | i + 1, h, x, hx => by
    rw [fh_vl, List.mem_append, List.mem_singleton] at hx
    rcases hx with hx | hx
    · exact vl_mem g k i (fun j hj => h j (by omega)) x hx
    · rw [hx]
      exact h i (by omega)
theorem vl_full {g : Nat → Int32} {k : Nat} (h : ∀ j, j < k → (g j).toNatClampNeg < k) : fh_msk (fh_vl g k) = 2 ^ k - 1 ↔ (fh_vl g k).Nodup := by
  have hm := vl_mem g k k h
  constructor
  · intro e
    refine Decidable.byContradiction (fun hn => ?_)
    obtain ⟨U, u1, u2⟩ := not_nodup _ hn
    rw [vl_len] at u1
    obtain ⟨s, s1, s2⟩ := free k U u1
    have : (fh_msk (fh_vl g k)).testBit s = true := by
      rw [e, Nat.testBit_two_pow_sub_one]
      exact decide_eq_true s1
    exact s2 (u2 s ((msk_vl g s k).mp this))
  · intro hd
    apply Nat.eq_of_testBit_eq
    intro l
    rw [Nat.testBit_two_pow_sub_one, Bool.eq_iff_iff, msk_vl, decide_eq_true_iff]
    constructor
    · exact hm l
    · intro hl
      refine Decidable.byContradiction (fun hn => ?_)
      have := nodup_le k (l :: fh_vl g k) (List.nodup_cons.mpr ⟨hn, hd⟩) (fun x hx => by
        rcases List.mem_cons.mp hx with h1 | h1
        · rw [h1]
          exact hl
        · exact hm x h1)
      rw [List.length_cons, vl_len] at this
      omega
theorem vl_pm {g : Nat → Int32} {k : Nat} (h : ∀ j, j < k → (g j).toNatClampNeg < k) (hd : (fh_vl g k).Nodup) : fh_pm k (fh_vl g k) := by
  refine ⟨vl_len g k, hd, fun l hl => ?_⟩
  have hf := (vl_full h).mpr hd
  have : (fh_msk (fh_vl g k)).testBit l = true := by
    rw [hf, Nat.testBit_two_pow_sub_one]
    exact decide_eq_true hl
  have := (ix_mem l _).mp ((msk_vl g l k).mp this)
  rw [vl_len] at this
  exact this
theorem in_rg {v : Int32} {k : Nat} (hk : k ≤ 8) (h1 : ¬ v < 0) (h2 : v < nI k) : v = nI v.toNatClampNeg ∧ v.toNatClampNeg < k := by
  rw [zI_n, Int32.lt_iff_toInt_lt, zI_t (by omega) (by omega)] at h2
  rw [Int32.lt_iff_toInt_lt] at h1
  have : (0 : Int32).toInt = 0 := rfl
  have e : v.toNatClampNeg = v.toInt.toNat := rfl
  refine ⟨?_, by omega⟩
  rw [e, zI_n, Int.toNat_of_nonneg (by omega)]
  exact zI_of v
theorem x_area {n : Nat} {T : Nat → gP} {I X : gI} {J Y : gJ} {R : gR} {L : List Nat} {S : gS} (h : Rl n T I J X Y R L S) {s z k : Nat} (hs : s < 8) (hz : z ≤ 160) (e5 : X 4 s = nI z) (hk : k ≤ z) (hk8 : k ≤ 8) {Q : Bool → Prop} (hT : (∀ j, j < k → ¬ sG J s j < 0 ∧ sG J s j < nI k) → (fh_vl (sG J s) k).Nodup → Q true) (hF : ¬ ((∀ j, j < k → ¬ sG J s j < 0 ∧ sG J s j < nI k) ∧ (fh_vl (sG J s) k).Nodup) → Q false) : wX4_areOrder s (nI k) X Y R L S Q := by
  have pk : 2 ^ k ≤ 256 := (by decide : ∀ k : Nat, k < 9 → 2 ^ k ≤ 256) k (by omega)
  have key : ∀ d i : Nat, d + i = k → (∀ j, j < i → ¬ sG J s j < 0 ∧ sG J s j < nI k) → wX4_areOrder_l5 s X Y R L S Q (d + 1) (nI k) (nI (fh_msk (fh_vl (sG J s) i))) (nI i) := by
    intro d
    induction d with
    | zero =>
      intro i e hi
      obtain rfl : i = k := by omega
      have hv : ∀ j, j < i → (sG J s j).toNatClampNeg < i := fun j hj => (in_rg hk8 (hi j hj).1 (hi j hj).2).2
      have hlt := msk_lt (sG J s) i i hv
      have hf := vl_full hv
      refine br_t (nI_le (Nat.le_refl _) (by omega)) ?_
      have e1 : (1 : Int32) <<< (nI i &&& 31) - 1 = nI (2 ^ i - 1) := by
        rw [e_sh i (by omega), zI_n, zI_1, zI_sub, zI_n]
        congr 1
        have := Nat.two_pow_pos i
        omega
      rw [e1, nI_eq (by omega) (by omega)]
      exact ⟨fun n1 => hF (fun h => n1 (hf.mpr h.2)), fun y1 => hT hi (hf.mp y1)⟩
    | succ d ih =>
      intro i e hi
      refine br_f (nI_ge (by omega) (by omega)) (x_asInt e5 hz (by omega) ?_)
      rw [show (Y (3 + s) i).toInt32 = sG J s i from by rw [h.2.2.2.2.1 s hs i (by omega)]; rfl]
      refine ⟨fun c => hF (fun h => (h.1 i (by omega)).1 c), fun c => ⟨fun c2 => ?_, fun c2 => hF (fun h => c2 (h.1 i (by omega)).2)⟩⟩
      obtain ⟨r1, r2⟩ := in_rg hk8 c c2
      have x := ih (i + 1) (by omega) (fun j hj => by
        by_cases ej : j = i
        · rw [ej]
          exact ⟨c, c2⟩
        · exact hi j (by omega))
      have hlt := msk_lt (sG J s) k i (fun j hj => (in_rg hk8 (hi j hj).1 (hi j hj).2).2)
      have hp2 : 2 ^ (sG J s i).toNatClampNeg < 2 ^ k := Nat.pow_lt_pow_right (by omega) r2
      rw [fh_vl, msk_app] at x
      rw [r1, e_sh _ (by omega), i_or (by omega) (by omega), nI_1]
      exact x
  exact ⟨k + 1, key k 0 (by omega) (fun j hj => absurd hj (by omega))⟩
theorem x_lclear {X : gI} {Y : gJ} {R : gR} {L : List Nat} {S : gS} {Q : gI → gJ → gR → Prop} (hQ : ∀ X', xLs X' [] → (∀ a, a ≠ 11 → X' a = X a) → Q X' Y R) : wX4_clear X Y R L S Q := by
  have key : ∀ (d g : Nat) (X' : gI), d + g = 8 → (∀ s, s < g → X' 11 s = -1) → (∀ a, a ≠ 11 → X' a = X a) → wJ7_fill_53178_l5 11 L S (fun I2 J3 R4 => Q I2 J3 R4) (d + 1) (-1) (nI g) (Int32.ofNat (lenX 11)) X' Y R := by
    intro d
    induction d with
    | zero =>
      intro g X' e f1 f2
      obtain rfl : g = 8 := by omega
      refine br_t (nI_le (a := 8) (b := 8) (Nat.le_refl _) (by omega)) (hQ _ ⟨fun i hi => absurd hi (by simp), fun s hs => ?_⟩ f2)
      rw [f1 s hs]
      exact (if_neg (Nat.lt_irrefl 0)).symm
    | succ d ih =>
      intro g X' e f1 f2
      refine br_f (nI_ge (b := 8) (by omega) (by omega)) ⟨vp_in_nI (by show g < 8; omega) (by decide), ?_⟩
      rintro I5 rfl
      rw [nI_clamp (show g < 2147483648 by omega), nI_1]
      refine ih (g + 1) _ (by omega) (fun s hs => ?_) (fun a a1 => by rw [upI_n (by omega), f2 a a1])
      rw [upI_s]
      by_cases es : s = g
      · rw [es, upd_s]
      · rw [upd_n es]
        exact f1 s (by omega)
  exact ⟨8 + 1, key 8 0 X (by omega) (fun s hs => absurd hs (by omega)) (fun _ _ => rfl)⟩
theorem vl_nd (g : Nat → Int32) {k : Nat} (hd : (fh_vl g k).Nodup) {i : Nat} (hi : i ≤ k) : (fh_vl g i).Nodup := by
  obtain ⟨d, rfl⟩ : ∃ d, k = i + d := ⟨k - i, by omega⟩
  rw [← vl_take g i d]
  exact hd.sublist (List.take_sublist i _)
theorem vl_nin (g : Nat → Int32) {k : Nat} (hd : (fh_vl g k).Nodup) {i : Nat} (hi : i < k) : ¬ fh_ix (fh_vl g i) (g i).toNatClampNeg < (fh_vl g i).length := by
  have h1 := vl_nd g hd (i := i + 1) (by omega)
  rw [fh_vl, List.nodup_append] at h1
  rw [← ix_mem]
  intro hm
  exact h1.2.2 _ hm _ (List.mem_singleton.mpr rfl) rfl
theorem chn_vl (g : Nat → Int32) (n k : Nat) : fh_chn n [] (fh_vl g k) = true ↔ ∀ q, q < k → fh_ok n (fh_vl g q) (g q).toNatClampNeg = true := by
  rw [chn_iff, vl_len]
  constructor
  · intro h q hq
    have := h q hq
    obtain ⟨d, rfl⟩ : ∃ d, k = q + 1 + d := ⟨k - (q + 1), by omega⟩
    rw [List.nil_append, vl_get, show q + 1 + d = q + (1 + d) by omega, vl_take] at this
    exact this
  · intro h q hq
    have := h q hq
    obtain ⟨d, rfl⟩ : ∃ d, k = q + 1 + d := ⟨k - (q + 1), by omega⟩
    rw [List.nil_append, vl_get, show q + 1 + d = q + (1 + d) by omega, vl_take]
    exact this
theorem x_canLie {n : Nat} {T : Nat → gP} {I X : gI} {J Y : gJ} {R : gR} {L : List Nat} {S : gS} (h : Rl n T I J X Y R L S) {s z k : Nat} (hs : s < 8) (hz : z ≤ 160) (e5 : X 4 s = nI z) (hk : k ≤ z) (hk8 : k ≤ 8) (hr : ∀ j, j < k → ¬ sG J s j < 0 ∧ sG J s j < nI k) (hd : (fh_vl (sG J s) k).Nodup) {Q : Bool → gI → gJ → gR → Prop} (hQ : ∀ X', xFr X Y R X' Y R → Q (fh_chn k [] (fh_vl (sG J s) k)) X' Y R) : wX4_canLie s (nI k) X Y R L S Q := by
  have hv : ∀ j, j < k → (sG J s j).toNatClampNeg < k := fun j hj => (in_rg hk8 (hr j hj).1 (hr j hj).2).2
  have fr : ∀ {X' : gI}, (∀ a, a ≠ 10 → a ≠ 11 → X' a = X a) → xFr X Y R X' Y R := fun g => ⟨fun a _ => g a (by omega) (by omega), fun j _ => by rw [g 0 (by omega) (by omega)], fun _ _ => rfl, fun _ _ => rfl⟩
  refine x_lclear (fun X0 T0 f0 => ?_)
  have key : ∀ (d i : Nat) (X' : gI), d + i = k → xLs X' (fh_vl (sG J s) i) → (∀ a, a ≠ 10 → a ≠ 11 → X' a = X a) → (∀ q, q < i → fh_ok k (fh_vl (sG J s) q) (sG J s q).toNatClampNeg = true) → wX4_canLie_l6 s L S Q (d + 1) (nI k) (nI i) X' Y R := by
    intro d
    induction d with
    | zero =>
      intro i X' e T' f1 f2
      obtain rfl : i = k := by omega
      refine br_t (nI_le (Nat.le_refl _) (by omega)) ?_
      have := hQ X' (fr f1)
      rwa [(chn_vl (sG J s) i i).mpr f2] at this
    | succ d ih =>
      intro i X' e T' f1 f2
      have hi : i < k := by omega
      refine br_f (nI_ge (by omega) (by omega)) (x_asInt (by rw [f1 4 (by omega) (by omega)]; exact e5) hz (by omega) ?_)
      rw [show (Y (3 + s) i).toInt32 = sG J s i from by rw [h.2.2.2.2.1 s hs i (by omega)]; rfl, (in_rg hk8 (hr i hi).1 (hr i hi).2).1]
      have x := x_lays (X := X') (Y := Y) (R := R) (L := L) (S := S) (n := k) hk8 (hv i hi) T' (by rw [vl_len]; exact hi) (vl_nd _ hd (by omega)) (vl_mem _ k i (fun j hj => hv j (by omega))) (vl_nin _ hd hi) (Q := fun r3 I4 J5 R6 => (r3 = true → wX4_canLie_l6 s L S Q (d + 1) (nI k) (nI i + 1) I4 J5 R6) ∧ (r3 = false → Q false I4 J5 R6)) (fun X1 T1 g1 _ => by
        have f1' : ∀ a, a ≠ 10 → a ≠ 11 → X1 a = X a := fun a a1 a2 => (g1 a a1 a2).trans (f1 a a1 a2)
        cases ho : fh_ok k (fh_vl (sG J s) i) (sG J s i).toNatClampNeg
        · refine bff ?_
          have := hQ X1 (fr f1')
          rwa [show fh_chn k [] (fh_vl (sG J s) k) = false by
            rw [← Bool.not_eq_true, chn_vl]
            intro e2
            rw [e2 i hi] at ho
            exact Bool.noConfusion ho] at this
        · refine btt ?_
          rw [nI_1]
          exact ih (i + 1) X1 (by omega) T1 f1' (fun q hq => by
            by_cases eq : q = i
            · rw [eq]
              exact ho
            · exact f2 q (by omega)))
      rw [vl_len] at x
      exact x
  exact ⟨k + 1, key k 0 X0 (by omega) T0 (fun a _ a2 => f0 a a2) (fun q hq => absurd hq (by omega))⟩
theorem m_canL {I : gI} {J : gJ} {s k : Nat} (hs : s < 8) (hk8 : k ≤ 8) {Q : Int32 → gI → gJ → Prop} (hT : (∀ j, j < k → ¬ sG J s j < 0 ∧ sG J s j < nI k) → (fh_vl (sG J s) k).Nodup → ∀ I', mFr I J I' J → Q (nI (if fh_nx k (fh_ix (fh_vl (sG J s) k)) = true then 1 else 0)) I' J) (hF : ¬ ((∀ j, j < k → ¬ sG J s j < 0 ∧ sG J s j < nI k) ∧ (fh_vl (sG J s) k).Nodup) → ∀ I', mFr I J I' J → wM_can_c78 I' J Q) : ∃ n : Nat, wM_can_l41 Q n (nI s) (nI k) 0 0 I J := by
  have pk : 2 ^ k ≤ 256 := (by decide : ∀ k : Nat, k < 9 → 2 ^ k ≤ 256) k (by omega)
  have key : ∀ (d i : Nat) (I' : gI), d + i = k → (∀ j, j < i → ¬ sG J s j < 0 ∧ sG J s j < nI k) → (fh_vl (sG J s) i).Nodup → mFr I J I' J → (∀ y, fh_ix (fh_vl (sG J s) i) y < i → I' 25 y = nI (fh_ix (fh_vl (sG J s) i) y)) → wM_can_l41 Q (d + 1) (nI s) (nI k) (nI (fh_msk (fh_vl (sG J s) i))) (nI i) I' J := by
    intro d
    induction d with
    | zero =>
      intro i I' e hi hd f1 f2
      obtain rfl : i = k := by omega
      have hv : ∀ j, j < i → (sG J s j).toNatClampNeg < i := fun j hj => (in_rg hk8 (hi j hj).1 (hi j hj).2).2
      have hp := vl_pm hv hd
      refine br_t (nI_le (Nat.le_refl _) (by omega)) ?_
      refine m_isCrossed (at' := fh_ix (fh_vl (sG J s) i)) hk8 (fun l hl => ⟨f2 l (hp.2.2 l hl), by have := hp.2.2 l hl; omega⟩) ?_
      have hq := hT hi hd I' f1
      cases hnx : fh_nx i (fh_ix (fh_vl (sG J s) i))
      · rw [hnx] at hq
        exact bft hq
      · rw [hnx] at hq
        exact btf hq
    | succ d ih =>
      intro i I' e hi hd f1 f2
      refine br_f (nI_ge (by omega) (by omega)) (m_intAt hs (by omega) ?_)
      have bad : ¬ ((∀ j, j < k → ¬ sG J s j < 0 ∧ sG J s j < nI k) ∧ (fh_vl (sG J s) k).Nodup) → wM_can_c78 I' J Q := fun h => hF h I' f1
      refine ⟨fun c => bad (fun h => (h.1 i (by omega)).1 c), fun c => ⟨fun c2 => bad (fun h => ?_), fun c2 => ?_⟩⟩
      · have := (h.1 i (by omega)).2
        rw [Int32.le_iff_toInt_le] at c2
        rw [Int32.lt_iff_toInt_lt] at this
        omega
      have c3 : sG J s i < nI k := by
        rw [Int32.le_iff_toInt_le] at c2
        rw [Int32.lt_iff_toInt_lt]
        omega
      obtain ⟨r1, r2⟩ := in_rg hk8 c c3
      have hi' : ∀ j, j < i + 1 → ¬ sG J s j < 0 ∧ sG J s j < nI k := fun j hj => by
        by_cases ej : j = i
        · rw [ej]
          exact ⟨c, c3⟩
        · exact hi j (by omega)
      have hlt := msk_lt (sG J s) k i (fun j hj => (in_rg hk8 (hi j hj).1 (hi j hj).2).2)
      have hp2 : 2 ^ (sG J s i).toNatClampNeg < 2 ^ k := Nat.pow_lt_pow_right (by omega) r2
      have tb := msk_vl (sG J s) (sG J s i).toNatClampNeg i
      rw [Nat.testBit_eq_decide_div_mod_eq, decide_eq_true_iff] at tb
      have EB : nI (fh_msk (fh_vl (sG J s) i) / 2 ^ (sG J s i).toNatClampNeg % 2) = 1 ↔ fh_msk (fh_vl (sG J s) i) / 2 ^ (sG J s i).toNatClampNeg % 2 = 1 := nI_eq (b := 1) (by omega) (by omega)
      rw [r1, e_bit _ (by omega) _ (by omega), e_sh _ (by omega), i_or (by omega) (by omega), nI_1, EB, tb]
      refine ⟨fun nm => ⟨vp_in_nI (by omega) (by decide), ?_⟩, fun ym => bad (fun h => ?_)⟩
      · rintro I9 rfl
        rw [nI_clamp (show (sG J s i).toNatClampNeg < 2147483648 by omega)]
        have hd' : (fh_vl (sG J s) (i + 1)).Nodup := by
          rw [fh_vl, List.nodup_append]
          refine ⟨hd, List.nodup_cons.mpr ⟨by simp, List.nodup_nil⟩, fun a ha b hb => ?_⟩
          rw [List.mem_singleton] at hb
          intro e2
          exact nm (hb ▸ e2 ▸ ha)
        have x := ih (i + 1) (upI I' 25 (sG J s i).toNatClampNeg (nI i)) (by omega) hi' hd' (f1.tr (mFr.I (by omega))) (fun y hy => by
          rw [fh_vl, ix_app, vl_len] at hy ⊢
          rw [upI_s]
          by_cases c5 : fh_ix (fh_vl (sG J s) i) y < i
          · rw [if_pos c5]
            rw [upd_n, f2 y c5]
            intro e2
            apply nm
            rw [← e2, ix_mem, vl_len]
            exact c5
          · rw [if_neg c5] at hy ⊢
            by_cases c6 : y = (sG J s i).toNatClampNeg
            · rw [if_pos c6, c6, upd_s]
            · rw [if_neg c6] at hy
              omega)
        rw [fh_vl, msk_app] at x
        exact x
      · have := vl_nin (sG J s) h.2 (i := i) (by omega)
        rw [← ix_mem] at this
        exact this ym
  exact ⟨k + 1, key k 0 I (by omega) (fun j hj => absurd hj (by omega)) List.nodup_nil mFr.rf (fun y hy => absurd hy (by omega))⟩
theorem pc_can {n : Nat} {T : Nat → gP} {I X : gI} {J Y : gJ} {R : gR} {L : List Nat} {S : gS} (h : Rl n T I J X Y R L S) (v1 v2 : Int32) : wX11_can v1 v2 X Y R L S (fun r X' Y' R' => wM_can v1 v2 I J (fun r' I' J' => qE L S r r' I' J' X' Y' R')) := by
  unfold wX11_can
  rcases bar_cases h v1 v2 with ⟨c, c1, c2, hx, hm⟩ | ⟨s, o, z, k, hs, rfl, ho, hz, hkz, rfl, e1, e2, e3, e4, e5, hx, hm⟩
  · exact hx _ (br_m (neg_ne0 c1 (by omega)) (br_f (neg_ne0 c1 (by omega)) (both_no h c (by omega) c1 (fun Q q => hm _ (br_f (neg_ne0 c1 (by omega)) q)))))
  refine hx _ (br_n rfl ?_)
  have E1 : nI k < 1 ↔ k < 1 := nI_ltI (b := 1) (by omega) (by omega)
  have E8 : nI k ≤ 8 ↔ k ≤ 8 := nI_leI (b := 8) (by omega) (by omega)
  have E9 : 8 < nI k ↔ 8 < k := nI_ltI (a := 8) (by omega) (by omega)
  have no6 : (∀ Q : Int32 → gI → gJ → Prop, wM_no (-6) I J Q → wM_can (nI s) (nI k) I J Q) → wX11_can_c39 L S (nI s) (nI k) X Y R (fun r X' Y' R' => wM_can (nI s) (nI k) I J (fun r' I' J' => qE L S r r' I' J' X' Y' R')) := fun hq => br_f (by decide) (both_no6 h hq)
  rcases Nat.lt_or_ge k 1 with c | c
  · exact br_t (E1.mpr c) (no6 (fun Q q => hm _ (br_t rfl (br_t (E1.mpr c) q))))
  have c' : ¬ nI k < 1 := fun e => by have := E1.mp e; omega
  refine br_f c' ?_
  rcases Nat.lt_or_ge 8 k with d | d
  · exact br_t (E9.mpr d) (no6 (fun Q q => hm _ (br_t rfl (br_f c' (br_f (fun e => by have := E8.mp e; omega) q)))))
  refine br_f (fun e => by have := E9.mp e; omega) ⟨vp_in_nI hs (by decide), ?_⟩
  have toM : ∀ Q : Int32 → gI → gJ → Prop, (∃ n : Nat, wM_can_l41 Q n (nI s) (nI k) 0 0 I J) → wM_can (nI s) (nI k) I J Q := fun Q q => hm _ (br_t rfl (br_f c' (br_t (E8.mpr d) q)))
  rw [nI_clamp (show s < 2147483648 by omega)]
  refine x_area h hs hz e5 hkz d (fun hr hd => btt (br_t rfl ⟨vp_in_nI hs (by decide), ?_⟩)) (fun hno => bff ?_)
  · rw [nI_clamp (show s < 2147483648 by omega)]
    refine x_canLie h hs hz e5 hkz d hr hd (fun X1 f1 => ?_)
    have hv : ∀ j, j < k → (sG J s j).toNatClampNeg < k := fun j hj => (in_rg d (hr j hj).1 (hr j hj).2).2
    rw [chn_nx (vl_pm hv hd) (vl_mem _ k k hv)]
    have fin : ∀ v : Int32, v = nI (if fh_nx k (fh_ix (fh_vl (sG J s) k)) = true then 1 else 0) → wM_can (nI s) (nI k) I J (fun r' I' J' => qE L S v r' I' J' X1 Y R) := fun v hv2 =>
      toM _ (m_canL hs d (fun _ _ I' g1 => qE.of (h.fr g1 f1) hv2) (fun hno => absurd ⟨hr, hd⟩ hno))
    exact ⟨fun e => fin 0 (by rw [e]; rfl), fun e => fin 1 (by rw [e]; rfl)⟩
  · exact br_f (by decide) (x_refuse 6 (by omega) (by omega) (toM _ (m_canL hs d (fun hr hd => absurd ⟨hr, hd⟩ hno) (fun _ I' g1 => m_no 6 (by omega) (qE.rf (h.fr g1 xFr.rf) 6 (by omega))))))
