/-! acts and their trace -/
def tX (X : gI) (l : List Nat) : Prop := X 0 3 = nI l.length ∧ X 0 4 = 0 ∧ ∀ i, i < l.length → l.getD i 0 < 128 ∧ X 15 i = nI (l.getD i 0)
def tM (I : gI) (l : List Nat) : Prop := I 0 13 = nI l.length ∧ ∀ i, i < l.length → I 29 i = nI (l.getD i 0)
def tFx (X X' : gI) : Prop := (∀ k, k ≠ 0 → k ≠ 15 → X' k = X k) ∧ (∀ j, j ≠ 3 → j ≠ 12 → X' 0 j = X 0 j)
def tFm (I I' : gI) : Prop := (∀ k, k ≠ 0 → k ≠ 29 → I' k = I k) ∧ (∀ j, j ≠ 13 → I' 0 j = I 0 j)
theorem tFx.tr {X X' X'' : gI} (h : tFx X X') (h' : tFx X' X'') : tFx X X'' := ⟨fun k a b => (h'.1 k a b).trans (h.1 k a b), fun j a b => (h'.2 j a b).trans (h.2 j a b)⟩
theorem tFm.tr {I I' I'' : gI} (h : tFm I I') (h' : tFm I' I'') : tFm I I'' := ⟨fun k a b => (h'.1 k a b).trans (h.1 k a b), fun j a => (h'.2 j a).trans (h.2 j a)⟩
theorem tFx.rf {X : gI} : tFx X X := ⟨fun _ _ _ => rfl, fun _ _ _ => rfl⟩
theorem tFm.rf {I : gI} : tFm I I := ⟨fun _ _ _ => rfl, fun _ _ => rfl⟩
theorem getD_snoc (l : List Nat) (c i : Nat) : (l ++ [c]).getD i 0 = if i < l.length then l.getD i 0 else if i = l.length then c else 0 := by
  rw [List.getD_eq_getElem?_getD, List.getElem?_append]
  by_cases h : i < l.length
  · rw [if_pos h, if_pos h, List.getD_eq_getElem?_getD]
  · rw [if_neg h, if_neg h]
    by_cases h2 : i = l.length
    · subst h2
      rw [if_pos rfl, Nat.sub_self]
      rfl
    · rw [if_neg h2, List.getElem?_eq_none (by simp; omega)]
      rfl
theorem x_append {X : gI} {Y : gJ} {R : gR} {L : List Nat} {S : gS} {l : List Nat} (h : tX X l) (hl : l.length < 16) (c : Nat) (hc : c < 128) {Q : gI → gJ → gR → Prop} (hQ : ∀ X', tX X' (l ++ [c]) → tFx X X' → Q X' Y R) : wJ4_append_cf468 (nI c) X Y R L S Q := by
  obtain ⟨h1, h2, h3⟩ := h
  unfold wJ4_append_cf468 wJ5_append_3fe6f wJ5_ensureCapacityInternal_d00df wJ5_isLatin1_aae02 wJ1_canEncode_fc78d
  rw [h1, h2]
  have e16 : (16 : Int32) >>> ((0 : Int32) &&& 31) = 16 := sb_shr0 16
  have ele : (nI l.length + 1 - 16) ≤ 0 := by
    rw [zI_n, zI_1, zI_add]
    have : (16 : Int32) = zI 16 := rfl
    rw [this, zI_sub, zI_0, zI_le (by omega) (by omega) (by omega) (by omega)]
    omega
  rw [e16]
  refine br_t ele ?_
  dsimp only
  rw [h1, h2]
  refine br_f (by decide) (br_n rfl ?_)
  have E : (255 : Int32) < nI c ↔ 255 < c := nI_ltI (a := 255) (by omega) (by omega)
  refine bft (br_f (fun e => by have := E.mp e; omega) ?_)
  refine bft ?_
  rintro I9 rfl
  refine ⟨vp_in_nI hl (by decide), ?_⟩
  rintro I12 rfl
  rw [nI_clamp (by omega), vp_nar_byte, nI_1]
  have ec : ((nI c).toInt8.toInt32).toInt8.toInt32 = nI c := by
    rw [fa_byte_small hc, fa_byte_small hc]
  rw [ec]
  refine hQ _ ⟨?_, ?_, fun i hi => ?_⟩ ⟨fun k a b => ?_, fun j a b => ?_⟩
  · rw [upI_at, if_neg (by omega), upI_at, if_pos ⟨rfl, rfl⟩, List.length_append]
    rfl
  · rw [upI_at, if_neg (by omega), upI_at, if_neg (by omega)]
    exact h2
  · rw [List.length_append] at hi
    have hi : i < l.length + 1 := hi
    rw [getD_snoc, upI_at]
    by_cases e : i = l.length
    · subst e
      rw [if_neg (by omega), if_pos rfl, if_pos ⟨rfl, rfl⟩]
      exact ⟨hc, rfl⟩
    · rw [if_pos (by omega), if_neg (fun z => e z.2), upI_at, if_neg (by omega)]
      exact h3 i (by omega)
  · rw [upI_n b, upI_n a]
  · rw [upI_at, if_neg (by omega), upI_at, if_neg (by omega)]
theorem m_body {I : gI} {J : gJ} {l : List Nat} (h : tM I l) (hl : l.length < 20) (c : Nat) {Q : gI → gJ → Prop} (hQ : ∀ I', tM I' (l ++ [c]) → tFm I I' → Q I' J) : wM_body (nI c) I J Q := by
  obtain ⟨h1, h3⟩ := h
  unfold wM_body wM_body_c19
  rw [h1]
  have E : (20 : Int32) ≤ nI l.length ↔ 20 ≤ l.length := nI_leI (a := 20) (by omega) (by omega)
  refine br_f (fun e => by have := E.mp e; omega) ⟨vp_in_nI hl (by decide), ?_⟩
  rintro I3 rfl
  rintro I1 rfl
  rw [nI_clamp (by omega), upI_at, if_neg (by omega), h1, nI_1]
  refine hQ _ ⟨?_, fun i hi => ?_⟩ ⟨fun k a b => ?_, fun j a => ?_⟩
  · rw [upI_at, if_pos ⟨rfl, rfl⟩, List.length_append]
    rfl
  · rw [List.length_append] at hi
    have hi : i < l.length + 1 := hi
    rw [getD_snoc, upI_at, if_neg (by omega), upI_at]
    by_cases e : i = l.length
    · subst e
      rw [if_pos ⟨rfl, rfl⟩, if_neg (by omega), if_pos rfl]
    · rw [if_neg (fun z => e z.2), if_pos (by omega)]
      exact h3 i (by omega)
  · rw [upI_n a, upI_n b]
  · rw [upI_at, if_neg (by omega), upI_at, if_neg (by omega)]
/-! bodies by kinds: the numbers, and what they answer -/
def fo_l (k : Nat) : List Nat := if k = 1 then [20, 10] else if k = 4 then [51, 10] else if k = 6 then [70, 10] else [10]
def fo_v (t : gP) (j : Nat) (x : Int32) : Int32 := if tk t = 1 then x + nI j + nI (ta t) else if tk t = 4 then x + nI j - nI j else if tk t = 6 then (x + nI j) * 2 else x + nI j
def op_l (k : Nat) : List Nat := (if k = 2 then [30, 11] else if k = 3 ∨ k = 4 then [40, 11] else if k = 6 then [71, 11] else [11]) ++ fo_l k
def op_v (t : gP) (j : Nat) (x : Int32) : Int32 := if tk t = 2 then (fo_v t j x * 2) * 3 else if tk t = 3 ∨ tk t = 4 then fo_v t j (x + 1) * 2 else if tk t = 6 then fo_v t j (x - nI (ta t)) * 2 else fo_v t j x * 2
def li_l (k : Nat) : List Nat := (if k = 4 then [50, 12] else if k = 5 ∨ k = 6 then [60, 12] else [12]) ++ op_l k ++ fo_l k
def li_v (t : gP) (j : Nat) (x : Int32) : Int32 := if tk t = 4 then -(op_v t j x ^^^ fo_v t j (x - nI (ta t))) else if tk t = 5 ∨ tk t = 6 then (op_v t j x ^^^ fo_v t j (x - nI (ta t))) ^^^ 5 else op_v t j x ^^^ fo_v t j (x - nI (ta t))
theorem fo_len : ∀ k : Nat, (fo_l k).length ≤ 2 := by
  intro k
  unfold fo_l
  repeat' split
  all_goals exact Nat.le_of_ble_eq_true rfl
theorem op_len : ∀ k : Nat, (op_l k).length ≤ 4 := by
  intro k
  have := fo_len k
  unfold op_l
  rw [List.length_append]
  repeat' split
  all_goals
    show _ + _ ≤ 4
    simp only [List.length_cons, List.length_nil]
    omega
section ACT
variable {X : gI} {Y : gJ} {R : gR} {L : List Nat} {S : gS}
theorem x_folds9 {z j : Nat} {t : gP} (hS : S z = xV t j) {l : List Nat} (h : tX X l) (hl : l.length < 16) (x : Int32) {Q : Int32 → gI → gJ → gR → Prop} (hQ : ∀ X', tX X' (l ++ [10]) → tFx X X' → Q (x + nI j) X' Y R) : wX9_folds z x X Y R L S Q := by
  have eN : sN (S z) = nI j := by rw [hS]; rfl
  unfold wX9_folds
  rw [eN]
  exact x_append h hl 10 (by omega) hQ
theorem app2 (l : List Nat) (a b : Nat) : l ++ [a, b] = l ++ [a] ++ [b] := by simp
theorem x_folds {z j : Nat} {t : gP} (hS : S z = xV t j) (hk6 : tk t ≤ 6) {l : List Nat} (h : tX X l) (hl : l.length + 2 ≤ 16) (x : Int32) {Q : Int32 → gI → gJ → gR → Prop} (hQ : ∀ X', tX X' (l ++ fo_l (tk t)) → tFx X X' → Q (fo_v t j x) X' Y R) : wv_folds z x X Y R L S Q := by
  have eC : sC (S z) = tk t := by rw [hS]; rfl
  have eN : sN (S z) = nI j := by rw [hS]; rfl
  have eA : sA (S z) = nI (ta t) := by rw [hS]; rfl
  have hl1 : ∀ c : Nat, (l ++ [c]).length < 16 := fun c => by rw [List.length_append]; show l.length + 1 < 16; omega
  unfold wv_folds
  rw [eC]
  unfold fo_v fo_l at hQ
  have pl : tk t ≠ 1 → tk t ≠ 4 → tk t ≠ 6 → wX9_folds z x X Y R L S Q := by
    intro n1 n4 n6
    rw [if_neg n1, if_neg n4, if_neg n6] at hQ
    rw [if_neg n1, if_neg n4, if_neg n6] at hQ
    exact x_folds9 hS h (by omega) x hQ
  refine v_kind hk6 (fun e => pl (by omega) (by omega) (by omega)) (fun e => ?_) (fun e => pl (by omega) (by omega) (by omega)) (fun e => pl (by omega) (by omega) (by omega)) (fun e => ?_) (fun e => pl (by omega) (by omega) (by omega)) (fun e => ?_)
  · rw [if_pos e, if_pos e, app2] at hQ
    unfold wX7_folds
    rw [eA]
    exact x_append h (by omega) 20 (by omega) (fun X1 a1 b1 => x_folds9 hS a1 (hl1 _) x (fun X2 a2 b2 => hQ X2 a2 (b1.tr b2)))
  · rw [if_neg (by omega), if_pos e, if_neg (by omega), if_pos e, app2] at hQ
    unfold wX0_folds
    rw [eN]
    exact x_append h (by omega) 51 (by omega) (fun X1 a1 b1 => x_folds9 hS a1 (hl1 _) x (fun X2 a2 b2 => hQ X2 a2 (b1.tr b2)))
  · rw [if_neg (by omega), if_neg (by omega), if_pos e, if_neg (by omega), if_neg (by omega), if_pos e, app2] at hQ
    unfold wX5_folds
    exact x_append h (by omega) 70 (by omega) (fun X1 a1 b1 => x_folds9 hS a1 (hl1 _) x (fun X2 a2 b2 => hQ X2 a2 (b1.tr b2)))
theorem x_opens9 {z j : Nat} {t : gP} (hS : S z = xV t j) (hk6 : tk t ≤ 6) {l : List Nat} (h : tX X l) (hl : l.length + 3 ≤ 16) (x : Int32) {Q : Int32 → gI → gJ → gR → Prop} (hQ : ∀ X', tX X' (l ++ [11] ++ fo_l (tk t)) → tFx X X' → Q (fo_v t j x * 2) X' Y R) : wX9_opens z x X Y R L S Q := by
  unfold wX9_opens
  exact x_append h (by omega) 11 (by omega) (fun X1 a1 b1 => x_folds hS hk6 a1 (by rw [List.length_append]; show l.length + 1 + 2 ≤ 16; omega) x (fun X2 a2 b2 => hQ X2 a2 (b1.tr b2)))
theorem x_opens {z j : Nat} {t : gP} (hS : S z = xV t j) (hk6 : tk t ≤ 6) {l : List Nat} (h : tX X l) (hl : l.length + 4 ≤ 16) (x : Int32) {Q : Int32 → gI → gJ → gR → Prop} (hQ : ∀ X', tX X' (l ++ op_l (tk t)) → tFx X X' → Q (op_v t j x) X' Y R) : wv_opens z x X Y R L S Q := by
  have eC : sC (S z) = tk t := by rw [hS]; rfl
  have eA : sA (S z) = nI (ta t) := by rw [hS]; rfl
  have hl1 : ∀ c : Nat, (l ++ [c]).length + 3 ≤ 16 := fun c => by rw [List.length_append]; show l.length + 1 + 3 ≤ 16; omega
  have ap : ∀ a b : Nat, l ++ ([a, b] ++ fo_l (tk t)) = l ++ [a] ++ [b] ++ fo_l (tk t) := fun a b => by simp
  have ap1 : l ++ ([11] ++ fo_l (tk t)) = l ++ [11] ++ fo_l (tk t) := by simp
  unfold wv_opens
  rw [eC]
  unfold op_v op_l at hQ
  have pl : tk t ≠ 2 → tk t ≠ 3 → tk t ≠ 4 → tk t ≠ 6 → wX9_opens z x X Y R L S Q := by
    intro n2 n3 n4 n6
    rw [if_neg n2, if_neg (show ¬ (tk t = 3 ∨ tk t = 4) by omega), if_neg n6, if_neg n2, if_neg (show ¬ (tk t = 3 ∨ tk t = 4) by omega), if_neg n6, ap1] at hQ
    exact x_opens9 hS hk6 h (by omega) x hQ
  refine v_kind hk6 (fun e => pl (by omega) (by omega) (by omega) (by omega)) (fun e => pl (by omega) (by omega) (by omega) (by omega)) (fun e => ?_) (fun e => ?_) (fun e => ?_) (fun e => pl (by omega) (by omega) (by omega) (by omega)) (fun e => ?_)
  · rw [if_pos e, if_pos e, ap] at hQ
    unfold wX10_opens
    exact x_append h (by omega) 30 (by omega) (fun X1 a1 b1 => x_opens9 hS hk6 a1 (hl1 _) x (fun X2 a2 b2 => hQ X2 a2 (b1.tr b2)))
  · rw [if_neg (by omega), if_pos (Or.inl e), if_neg (by omega), if_pos (Or.inl e), ap] at hQ
    unfold wX2_opens
    exact x_append h (by omega) 40 (by omega) (fun X1 a1 b1 => x_opens9 hS hk6 a1 (hl1 _) _ (fun X2 a2 b2 => hQ X2 a2 (b1.tr b2)))
  · rw [if_neg (by omega), if_pos (Or.inr e), if_neg (by omega), if_pos (Or.inr e), ap] at hQ
    unfold wX2_opens
    exact x_append h (by omega) 40 (by omega) (fun X1 a1 b1 => x_opens9 hS hk6 a1 (hl1 _) _ (fun X2 a2 b2 => hQ X2 a2 (b1.tr b2)))
  · rw [if_neg (by omega), if_neg (show ¬ (tk t = 3 ∨ tk t = 4) by omega), if_pos e, if_neg (by omega), if_neg (show ¬ (tk t = 3 ∨ tk t = 4) by omega), if_pos e, ap] at hQ
    unfold wX5_opens
    rw [eA]
    exact x_append h (by omega) 71 (by omega) (fun X1 a1 b1 => x_opens9 hS hk6 a1 (hl1 _) _ (fun X2 a2 b2 => hQ X2 a2 (b1.tr b2)))
theorem x_lies9 {z j : Nat} {t : gP} (hS : S z = xV t j) (hk6 : tk t ≤ 6) {l : List Nat} (h : tX X l) (hl : l.length + 7 ≤ 16) (x : Int32) {Q : Int32 → gI → gJ → gR → Prop} (hQ : ∀ X', tX X' (l ++ [12] ++ op_l (tk t) ++ fo_l (tk t)) → tFx X X' → Q (op_v t j x ^^^ fo_v t j (x - nI (ta t))) X' Y R) : wX9_lies z x X Y R L S Q := by
  have eA : sA (S z) = nI (ta t) := by rw [hS]; rfl
  have hop := op_len (tk t)
  unfold wX9_lies
  rw [eA]
  refine x_append h (by omega) 12 (by omega) (fun X1 a1 b1 => x_opens hS hk6 a1 (by rw [List.length_append]; show l.length + 1 + 4 ≤ 16; omega) x (fun X2 a2 b2 => x_folds hS hk6 a2 ?_ _ (fun X3 a3 b3 => hQ X3 a3 (b1.tr (b2.tr b3)))))
  rw [List.length_append, List.length_append]
  show l.length + 1 + (op_l (tk t)).length + 2 ≤ 16
  omega
theorem x_lies {z j : Nat} {t : gP} (hS : S z = xV t j) (hk6 : tk t ≤ 6) {l : List Nat} (h : tX X l) (hl : l.length + 8 ≤ 16) (x : Int32) {Q : Int32 → gI → gJ → gR → Prop} (hQ : ∀ X', tX X' (l ++ li_l (tk t)) → tFx X X' → Q (li_v t j x) X' Y R) : wv_lies z x X Y R L S Q := by
  have eC : sC (S z) = tk t := by rw [hS]; rfl
  have hl1 : ∀ c : Nat, (l ++ [c]).length + 7 ≤ 16 := fun c => by rw [List.length_append]; show l.length + 1 + 7 ≤ 16; omega
  have ap : ∀ a b : Nat, l ++ ([a, b] ++ op_l (tk t) ++ fo_l (tk t)) = l ++ [a] ++ [b] ++ op_l (tk t) ++ fo_l (tk t) := fun a b => by simp
  have ap1 : l ++ ([12] ++ op_l (tk t) ++ fo_l (tk t)) = l ++ [12] ++ op_l (tk t) ++ fo_l (tk t) := by simp
  unfold wv_lies
  rw [eC]
  unfold li_v li_l at hQ
  have pl : tk t ≠ 4 → tk t ≠ 5 → tk t ≠ 6 → wX9_lies z x X Y R L S Q := by
    intro n4 n5 n6
    rw [if_neg n4, if_neg (show ¬ (tk t = 5 ∨ tk t = 6) by omega), if_neg n4, if_neg (show ¬ (tk t = 5 ∨ tk t = 6) by omega), ap1] at hQ
    exact x_lies9 hS hk6 h (by omega) x hQ
  have gl : tk t = 5 ∨ tk t = 6 → wX3_lies z x X Y R L S Q := by
    intro e
    rw [if_neg (by omega), if_pos e, if_neg (by omega), if_pos e, ap] at hQ
    unfold wX3_lies
    exact x_append h (by omega) 60 (by omega) (fun X1 a1 b1 => x_lies9 hS hk6 a1 (hl1 _) _ (fun X2 a2 b2 => hQ X2 a2 (b1.tr b2)))
  refine v_kind hk6 (fun e => pl (by omega) (by omega) (by omega)) (fun e => pl (by omega) (by omega) (by omega)) (fun e => pl (by omega) (by omega) (by omega)) (fun e => pl (by omega) (by omega) (by omega)) (fun e => ?_) (fun e => gl (Or.inl e)) (fun e => gl (Or.inr e))
  rw [if_pos e, if_pos e, ap] at hQ
  unfold wX0_lies
  exact x_append h (by omega) 50 (by omega) (fun X1 a1 b1 => x_lies9 hS hk6 a1 (hl1 _) _ (fun X2 a2 b2 => hQ X2 a2 (b1.tr b2)))
end ACT
theorem mS.tf {I I' : gI} {J : gJ} {i : Nat} {t : gP} (h : mS I J i t) (hf : tFm I I') : mS I' J i t := by
  unfold mS
  rw [hf.1 2 (by omega) (by omega), hf.1 3 (by omega) (by omega), hf.1 4 (by omega) (by omega)]
  exact h
theorem m_folding {I : gI} {J : gJ} {i : Nat} {t : gP} (hi : i < 8) (h : mS I J i t) (ok : stok t) {l : List Nat} (ht : tM I l) (hl : l.length + 2 ≤ 20) (x : Int32) {Q : Int32 → gI → gJ → Prop} (hQ : ∀ I', tM I' (l ++ fo_l (tk t)) → tFm I I' → Q (fo_v t i x) I' J) : wM_folding (nI i) x I J Q := by
  have hin : vp_in (nI i) 8 := vp_in_nI hi (by decide)
  have hk6 := ok.1
  have E : ∀ c : Nat, c < 100 → (nI (tk t) = nI c ↔ tk t = c) := fun c hc => nI_eq (by omega) (by omega)
  have hl1 : ∀ c : Nat, (l ++ [c]).length < 20 := fun c => by rw [List.length_append]; show l.length + 1 < 20; omega
  have c41 : ∀ (I' : gI) (l' : List Nat), tM I' l' → tFm I I' → l'.length < 20 → l' ++ [10] = l ++ fo_l (tk t) → wM_folding_c41 (nI i) x (nI (tk t)) I' J Q := by
    intro I' l' a b c d
    unfold wM_folding_c41
    refine m_body a c 10 (fun I2 a2 b2 => ?_)
    have hq := hQ I2 (by rw [← d]; exact a2) (b.tr b2)
    unfold fo_v at hq
    have hm := (h.tf (b.tr b2)).2.1
    rw [nI_clamp (by omega), hm]
    refine ⟨fun n1 => ⟨fun n4 => ⟨fun n6 => ?_, fun e6 => ?_⟩, fun e4 => ?_⟩, fun e1 => ⟨hin, ?_⟩⟩
    · rw [if_neg (fun e => n1 ((E 1 (by omega)).mpr e)), if_neg (fun e => n4 ((E 4 (by omega)).mpr e)), if_neg (fun e => n6 ((E 6 (by omega)).mpr e))] at hq
      exact hq
    · rw [if_neg (fun e => n1 ((E 1 (by omega)).mpr e)), if_neg (fun e => n4 ((E 4 (by omega)).mpr e)), if_pos ((E 6 (by omega)).mp e6)] at hq
      exact hq
    · rw [if_neg (fun e => n1 ((E 1 (by omega)).mpr e)), if_pos ((E 4 (by omega)).mp e4)] at hq
      exact hq
    · rw [if_pos ((E 1 (by omega)).mp e1)] at hq
      exact hq
  unfold fo_l at c41
  unfold wM_folding wM_folding_c18 wM_folding_c29
  rw [nI_clamp (by omega), h.1]
  refine ⟨hin, fun n1 => ⟨fun n4 => ⟨fun n6 => ?_, fun e6 => ?_⟩, fun e4 => ?_⟩, fun e1 => ?_⟩
  · rw [if_neg (fun e => n1 ((E 1 (by omega)).mpr e)), if_neg (fun e => n4 ((E 4 (by omega)).mpr e)), if_neg (fun e => n6 ((E 6 (by omega)).mpr e))] at c41
    exact c41 I l ht tFm.rf (by omega) rfl
  · rw [if_neg (fun e => n1 ((E 1 (by omega)).mpr e)), if_neg (fun e => n4 ((E 4 (by omega)).mpr e)), if_pos ((E 6 (by omega)).mp e6)] at c41
    exact m_body ht (by omega) 70 (fun I3 a b => c41 I3 _ a b (hl1 _) (by simp))
  · have k4 := (E 4 (by omega)).mp e4
    rw [if_neg (fun e => n1 ((E 1 (by omega)).mpr e)), if_pos k4] at c41
    refine m_body ht (by omega) 51 (fun I3 a b => ⟨fun n6 => c41 I3 _ a b (hl1 _) (by simp), fun e6 => ?_⟩)
    have := (E 6 (by omega)).mp e6
    omega
  · have k1 := (E 1 (by omega)).mp e1
    rw [if_pos k1] at c41
    refine m_body ht (by omega) 20 (fun I3 a b => ⟨fun n4 => ⟨fun n6 => c41 I3 _ a b (hl1 _) (by simp), fun e6 => ?_⟩, fun e4 => ?_⟩)
    · have := (E 6 (by omega)).mp e6
      omega
    · have := (E 4 (by omega)).mp e4
      omega
theorem m_opening {I : gI} {J : gJ} {i : Nat} {t : gP} (hi : i < 8) (h : mS I J i t) (ok : stok t) {l : List Nat} (ht : tM I l) (hl : l.length + 4 ≤ 20) (x : Int32) {Q : Int32 → gI → gJ → Prop} (hQ : ∀ I', tM I' (l ++ op_l (tk t)) → tFm I I' → Q (op_v t i x) I' J) : wM_opening (nI i) x I J Q := by
  have hin : vp_in (nI i) 8 := vp_in_nI hi (by decide)
  have hk6 := ok.1
  have E : ∀ c : Nat, c < 100 → (nI (tk t) = nI c ↔ tk t = c) := fun c hc => nI_eq (by omega) (by omega)
  have hl1 : ∀ c : Nat, (l ++ [c]).length < 20 := fun c => by rw [List.length_append]; show l.length + 1 < 20; omega
  have c64 : ∀ (I' : gI) (l' : List Nat) (y : Int32), tM I' l' → tFm I I' → l'.length + 3 ≤ 20 → l' ++ [11] ++ fo_l (tk t) = l ++ op_l (tk t) → (if tk t = 2 then (fo_v t i y * 2) * 3 else fo_v t i y * 2) = op_v t i x → wM_opening_c64 (nI i) (nI (tk t)) y I' J Q := by
    intro I' l' y a b c d e
    unfold wM_opening_c64
    refine m_body a (by omega) 11 (fun I2 a2 b2 => m_folding hi (h.tf (b.tr b2)) ok a2 (by rw [List.length_append]; show l'.length + 1 + 2 ≤ 20; omega) y (fun I3 a3 b3 => ?_))
    have hq := hQ I3 (by rw [← d]; exact a3) (b.tr (b2.tr b3))
    rw [← e] at hq
    refine ⟨fun n2 => ?_, fun e2 => ?_⟩
    · rw [if_neg (fun e => n2 ((E 2 (by omega)).mpr e))] at hq
      exact hq
    · rw [if_pos ((E 2 (by omega)).mp e2)] at hq
      exact hq
  unfold op_l op_v at c64
  have c42 : ∀ (I' : gI) (l' : List Nat) (y : Int32), tk t ≠ 6 → tM I' l' → tFm I I' → l'.length + 3 ≤ 20 → l' ++ [11] ++ fo_l (tk t) = l ++ op_l (tk t) → (if tk t = 2 then (fo_v t i y * 2) * 3 else fo_v t i y * 2) = op_v t i x → wM_opening_c42 (nI i) x (nI (tk t)) y I' J Q := by
    intro I' l' y n6 a b c d e
    exact br_m (fun e6 => n6 ((E 6 (by omega)).mp e6)) (c64 I' l' y a b c d e)
  have hl4 : ∀ c : Nat, (l ++ [c]).length + 3 ≤ 20 := fun c => by rw [List.length_append]; show l.length + 1 + 3 ≤ 20; omega
  have ap : ∀ a b : Nat, l ++ [a] ++ [b] ++ fo_l (tk t) = l ++ ([a, b] ++ fo_l (tk t)) := fun a b => by simp
  have ap1 : l ++ [11] ++ fo_l (tk t) = l ++ ([11] ++ fo_l (tk t)) := by simp
  unfold op_l op_v at c42
  unfold wM_opening
  rw [nI_clamp (by omega), h.1]
  refine ⟨hin, fun n2 => ?_, fun e2 => ?_⟩
  · have k2 : tk t ≠ 2 := fun e => n2 ((E 2 (by omega)).mpr e)
    rw [if_neg k2, if_neg k2] at c64 c42
    unfold wM_opening_c21 wM_opening_c31
    have c31 : tk t = 3 ∨ tk t = 4 → wM_body 40 I J (fun I2 J3 => wM_opening_c42 (nI i) x (nI (tk t)) (x + 1) I2 J3 Q) := by
      intro e
      rw [if_pos e, if_pos e] at c42
      exact m_body ht (by omega) 40 (fun I2 a b => c42 I2 _ (x + 1) (by omega) a b (hl4 _) (ap _ _) (by rw [if_neg k2]))
    refine ⟨fun e3 => c31 (Or.inl ((E 3 (by omega)).mp e3)), fun n3 => ⟨fun n4 => ?_, fun e4 => c31 (Or.inr ((E 4 (by omega)).mp e4))⟩⟩
    have k34 : ¬ (tk t = 3 ∨ tk t = 4) := fun e => e.elim (fun e => n3 ((E 3 (by omega)).mpr e)) (fun e => n4 ((E 4 (by omega)).mpr e))
    rw [if_neg k34, if_neg k34] at c64
    refine ⟨fun n6 => ?_, fun e6 => ?_⟩
    · have k6 : tk t ≠ 6 := fun e => n6 ((E 6 (by omega)).mpr e)
      rw [if_neg k6, if_neg k6] at c64
      exact c64 I l x ht tFm.rf (by omega) ap1 (by rw [if_neg k2])
    · have k6 := (E 6 (by omega)).mp e6
      rw [if_pos k6, if_pos k6] at c64
      refine m_body ht (by omega) 71 (fun I3 a b => ⟨hin, ?_⟩)
      rw [nI_clamp (show i < 2147483648 by omega), (h.tf b).2.1]
      exact c64 I3 _ _ a b (hl4 _) (ap _ _) (by rw [if_neg k2])
  · have k2 := (E 2 (by omega)).mp e2
    rw [if_pos k2, if_pos k2] at c64
    refine m_body ht (by omega) 30 (fun I4 a b => ⟨fun e3 => ?_, fun n3 => ⟨fun n4 => br_m (fun e6 => ?_) (c64 I4 _ x a b (hl4 _) (ap _ _) (by rw [if_pos k2])), fun e4 => ?_⟩⟩)
    · have := (E 3 (by omega)).mp e3; omega
    · have := (E 6 (by omega)).mp e6; omega
    · have := (E 4 (by omega)).mp e4; omega
theorem m_lying {I : gI} {J : gJ} {i : Nat} {t : gP} (hi : i < 8) (h : mS I J i t) (ok : stok t) {l : List Nat} (ht : tM I l) (hl : l.length + 8 ≤ 20) (x : Int32) {Q : Int32 → gI → gJ → Prop} (hQ : ∀ I', tM I' (l ++ li_l (tk t)) → tFm I I' → Q (li_v t i x) I' J) : wM_lying (nI i) x I J Q := by
  have hin : vp_in (nI i) 8 := vp_in_nI hi (by decide)
  have hk6 := ok.1
  have hop := op_len (tk t)
  have E : ∀ c : Nat, c < 100 → (nI (tk t) = nI c ↔ tk t = c) := fun c hc => nI_eq (by omega) (by omega)
  have hl7 : ∀ c : Nat, (l ++ [c]).length + 7 ≤ 20 := fun c => by rw [List.length_append]; show l.length + 1 + 7 ≤ 20; omega
  have c35 : ∀ (I' : gI) (l' : List Nat), tM I' l' → tFm I I' → l'.length + 7 ≤ 20 → l' ++ [12] ++ op_l (tk t) ++ fo_l (tk t) = l ++ li_l (tk t) → wM_lying_c35 (nI i) x (nI (tk t)) I' J Q := by
    intro I' l' a b c d
    unfold wM_lying_c35
    refine m_body a (by omega) 12 (fun I2 a2 b2 => m_opening hi (h.tf (b.tr b2)) ok a2 (by rw [List.length_append]; show l'.length + 1 + 4 ≤ 20; omega) x (fun I3 a3 b3 => ⟨hin, ?_⟩))
    rw [nI_clamp (by omega), (h.tf (b.tr (b2.tr b3))).2.1]
    refine m_folding hi (h.tf (b.tr (b2.tr b3))) ok a3 ?_ _ (fun I4 a4 b4 => ?_)
    · rw [List.length_append, List.length_append]
      show l'.length + 1 + (op_l (tk t)).length + 2 ≤ 20
      omega
    have hq := hQ I4 (by rw [← d]; exact a4) (b.tr (b2.tr (b3.tr b4)))
    unfold li_v at hq
    refine ⟨fun n4 => ?_, fun e4 => ?_⟩
    · rw [if_neg (fun e => n4 ((E 4 (by omega)).mpr e))] at hq
      refine ⟨fun e5 => ?_, fun n5 => ⟨fun n6 => ?_, fun e6 => ?_⟩⟩
      · rw [if_pos (Or.inl ((E 5 (by omega)).mp e5))] at hq
        exact hq
      · rw [if_neg (fun e => e.elim (fun e => n5 ((E 5 (by omega)).mpr e)) (fun e => n6 ((E 6 (by omega)).mpr e)))] at hq
        exact hq
      · rw [if_pos (Or.inr ((E 6 (by omega)).mp e6))] at hq
        exact hq
    · rw [if_pos ((E 4 (by omega)).mp e4)] at hq
      exact hq
  have ap : ∀ a b : Nat, l ++ [a] ++ [b] ++ op_l (tk t) ++ fo_l (tk t) = l ++ ([a, b] ++ op_l (tk t) ++ fo_l (tk t)) := fun a b => by simp
  have ap1 : l ++ [12] ++ op_l (tk t) ++ fo_l (tk t) = l ++ ([12] ++ op_l (tk t) ++ fo_l (tk t)) := by simp
  unfold li_l at c35
  unfold wM_lying wM_lying_c18 wM_lying_c29
  rw [nI_clamp (by omega), h.1]
  have gl : tk t = 5 ∨ tk t = 6 → wM_body 60 I J (fun I2 J3 => wM_lying_c35 (nI i) x (nI (tk t)) I2 J3 Q) := by
    intro e
    rw [if_neg (by omega), if_pos e] at c35
    exact m_body ht (by omega) 60 (fun I2 a b => c35 I2 _ a b (hl7 _) (ap _ _))
  refine ⟨hin, fun n4 => ⟨fun e5 => gl (Or.inl ((E 5 (by omega)).mp e5)), fun n5 => ⟨fun n6 => ?_, fun e6 => gl (Or.inr ((E 6 (by omega)).mp e6))⟩⟩, fun e4 => ?_⟩
  · rw [if_neg (fun e => n4 ((E 4 (by omega)).mpr e)), if_neg (fun e => e.elim (fun e => n5 ((E 5 (by omega)).mpr e)) (fun e => n6 ((E 6 (by omega)).mpr e)))] at c35
    exact c35 I l ht tFm.rf (by omega) ap1
  · have k4 := (E 4 (by omega)).mp e4
    rw [if_pos k4] at c35
    refine m_body ht (by omega) 50 (fun I4 a b => ⟨fun e5 => ?_, fun n5 => ⟨fun n6 => c35 I4 _ a b (hl7 _) (ap _ _), fun e6 => ?_⟩⟩)
    · have := (E 5 (by omega)).mp e5; omega
    · have := (E 6 (by omega)).mp e6; omega
/-- a new trace in both -/
theorem Rl.trace {n : Nat} {T : Nat → gP} {I X : gI} {J Y : gJ} {R : gR} {L : List Nat} {S : gS} (h : Rl n T I J X Y R L S) {I' X' : gI} {l : List Nat} (hl : l.length ≤ 16) (hx : tX X' l) (hm : tM I' l) (fx : tFx X X') (fm : tFm I I') : Rl n T I' J X' Y R L S := by
  obtain ⟨⟨a1, a2, a3, a4⟩, b, c, d, e, f, g, i, j, k, ll⟩ := h
  refine ⟨⟨a1, by rw [fm.2 0 (by omega)]; exact a2, by rw [fx.2 0 (by omega) (by omega)]; exact a3, fun q hq => ⟨(a4 q hq).1.tf fm, (a4 q hq).2⟩⟩, b, ?_, fun s hs => ?_, e, fun q hq => ?_, ?_, ?_, fun q hq => ?_, ?_, ?_⟩
  · unfold rIm
    rw [fm.2 14 (by omega), fx.2 1 (by omega) (by omega), fm.1 11 (by omega) (by omega)]
    exact c
  · unfold rSh
    rw [fm.1 5 (by omega) (by omega), fm.1 6 (by omega) (by omega), fm.1 7 (by omega) (by omega), fm.1 8 (by omega) (by omega), fx.1 3 (by omega) (by omega), fx.1 4 (by omega) (by omega)]
    exact d s hs
  · rw [fm.1 1 (by omega) (by omega), fx.1 5 (by omega) (by omega)]; exact f q hq
  · rw [fm.2 1 (by omega), fx.2 2 (by omega) (by omega)]; exact g
  · exact ⟨l.length, hl, hm.1, hx.1, hx.2.1, fun q hq => ⟨l.getD q 0, (hx.2.2 q hq).1, hm.2 q hq, (hx.2.2 q hq).2⟩⟩
  · rw [fm.1 9 (by omega) (by omega)]; exact j q hq
  · unfold rLX
    rw [fx.2 11 (by omega) (by omega), fx.1 12 (by omega) (by omega), fx.1 13 (by omega) (by omega), fx.1 14 (by omega) (by omega)]
    exact k
  · unfold rLM
    rw [fm.2 11 (by omega), fm.2 12 (by omega), fm.1 26 (by omega) (by omega)]
    exact ll
theorem pc_act {n : Nat} {T : Nat → gP} {I X : gI} {J Y : gJ} {R : gR} {L : List Nat} {S : gS} (h : Rl n T I J X Y R L S) (v1 v2 v3 : Int32) : wX11_act v1 v2 v3 X Y R L S (fun r X' Y' R' => wM_act v1 v2 v3 I J (fun r' I' J' => qE L S r r' I' J' X' Y' R')) := by
  have hn := h.1.1
  obtain ⟨m, hm, t1, t2, t3, t4⟩ := h.2.2.2.2.2.2.2.1
  -- the builder made empty
  have cut : ∀ Q : gI → gJ → gR → Prop, (∀ X', tX X' [] → tFx X X' → Q X' Y R) → wJ4_setLength_d00df 0 X Y R L S Q := by
    intro Q q
    unfold wJ4_setLength_d00df wJ5_setLength_d00df wJ5_ensureCapacityInternal_d00df
    have e16 : (16 : Int32) >>> ((0 : Int32) &&& 31) = 16 := sb_shr0 16
    rw [t3, e16]
    refine br_t (by decide) (br_t (by decide) ?_)
    dsimp only
    rw [t2]
    refine br_t (nI_le (a := 0) (by omega) (by omega)) ⟨fun hle => ?_, fun hle => ?_⟩
    · rintro I8 rfl
      refine q _ ⟨?_, ?_, fun i hi => absurd hi (by simp)⟩ ⟨fun k a b => upI_n a, fun j a b => ?_⟩
      · rw [upI_at, if_pos ⟨rfl, rfl⟩]; rfl
      · rw [upI_at, if_neg (by omega)]; exact t3
      · rw [upI_at, if_neg (by omega)]
    · rintro I10 rfl I12 rfl
      refine q _ ⟨?_, ?_, fun i hi => absurd hi (by simp)⟩ ⟨fun k a b => ?_, fun j a b => ?_⟩
      · rw [upI_at, if_pos ⟨rfl, rfl⟩]; rfl
      · rw [upI_at, if_neg (by omega), upI_at, if_neg (by omega)]; exact t3
      · rw [upI_n a, upI_n a]
      · rw [upI_at, if_neg (by omega), upI_at, if_neg (by omega)]
  have tm0 : tM (upI I 0 13 0) [] := ⟨by rw [upI_at, if_pos ⟨rfl, rfl⟩]; rfl, fun i hi => absurd hi (by simp)⟩
  have fm0 : tFm I (upI I 0 13 0) := ⟨fun k a b => upI_n a, fun j a => by rw [upI_at, if_neg (by omega)]⟩
  refine cut _ (fun X1 x1 f1 => ?_)
  have h1 := h.trace (by simp) x1 tm0 f1 fm0
  have e0 : upI I 0 13 0 0 0 = nI n := h1.1.2.1
  rcases ix_strip v1 hn with g | ⟨j, hj, rfl⟩
  · refine x_stripN h1.1.2.2.1 hn g (bff ?_)
    unfold wM_act
    rintro I1 rfl
    exact m_stripN e0 g (btf (qE.of h1 rfl))
  obtain ⟨hms, ok, z, hz, hL, hS⟩ := h1.st hj
  have ej : (nI j).toNatClampNeg = j := nI_clamp (by omega)
  have hin : vp_in (nI j) 8 := vp_in_nI (by omega) (by decide)
  have mk : ∀ Q : Int32 → gI → gJ → Prop, ((v2 < 0 → Q 0 (upI I 0 13 0) J) ∧ (¬ v2 < 0 → (v2 ≤ 2 → (¬ v2 = 0 → (¬ v2 = 1 → wM_lying (nI j) v3 (upI I 0 13 0) J (fun r9 I10 J11 => Q r9 I10 J11)) ∧ (v2 = 1 → wM_opening (nI j) v3 (upI I 0 13 0) J (fun r12 I13 J14 => Q r12 I13 J14))) ∧ (v2 = 0 → wM_folding (nI j) v3 (upI I 0 13 0) J (fun r15 I16 J17 => Q r15 I16 J17))) ∧ (¬ v2 ≤ 2 → Q 0 (upI I 0 13 0) J))) → wM_act (nI j) v2 v3 I J Q := by
    intro Q q
    unfold wM_act
    rintro I1 rfl
    exact m_stripY e0 hn hj (bft q)
  refine x_stripY h1.1.2.2.1 hn hj (btt ?_)
  rw [ej]
  rcases Decidable.em (v2 = 0) with e | n0
  · subst e
    refine br_t rfl ⟨hin, z, hz, hL, x_folds hS ok.1 x1 (by simp) v3 (fun X2 x2 f2 => mk _ (br_f (by decide) (br_t (by decide) (br_n rfl (m_folding (by omega) hms ok tm0 (by simp) v3 (fun I2 m2 g2 => ?_))))))⟩
    exact qE.of (h1.trace (by have := fo_len (tk (T j)); simp; omega) x2 m2 f2 g2) rfl
  refine br_f n0 ?_
  rcases Decidable.em (v2 = 1) with e | n1
  · subst e
    refine br_t rfl ⟨hin, z, hz, hL, x_opens hS ok.1 x1 (by simp) v3 (fun X2 x2 f2 => mk _ (br_f (by decide) (br_t (by decide) (br_m (by decide) (br_n rfl (m_opening (by omega) hms ok tm0 (by simp) v3 (fun I2 m2 g2 => ?_)))))))⟩
    exact qE.of (h1.trace (by have := op_len (tk (T j)); simp; omega) x2 m2 f2 g2) rfl
  refine br_f n1 ?_
  rcases Decidable.em (v2 = 2) with e | n2
  · subst e
    refine br_t rfl ⟨hin, z, hz, hL, x_lies hS ok.1 x1 (by simp) v3 (fun X2 x2 f2 => mk _ (br_f (by decide) (br_t (by decide) (br_m (by decide) (br_m (by decide) (m_lying (by omega) hms ok tm0 (by simp) v3 (fun I2 m2 g2 => ?_)))))))⟩
    refine qE.of (h1.trace ?_ x2 m2 f2 g2) rfl
    have a1 := op_len (tk (T j))
    have a2 := fo_len (tk (T j))
    unfold li_l
    simp only [List.nil_append, List.length_append]
    have a3 : (if tk (T j) = 4 then [50, 12] else if tk (T j) = 5 ∨ tk (T j) = 6 then [60, 12] else [12]).length ≤ 2 := by
      repeat' split
      all_goals exact Nat.le_of_ble_eq_true rfl
    omega
  refine br_f n2 (mk _ ?_)
  rcases Decidable.em (v2 < 0) with c | c
  · exact br_t c (qE.of h1 rfl)
  refine br_f c (br_f ?_ (qE.of h1 rfl))
  intro l2
  obtain ⟨k, hk, rfl⟩ := nI_of2 (M := 2) (n := 2) rfl c l2
  rcases (show k = 0 ∨ k = 1 ∨ k = 2 by omega) with e | e | e <;> subst e
  · exact n0 rfl
  · exact n1 rfl
  · exact n2 rfl
theorem pc_trace {n : Nat} {T : Nat → gP} {I X : gI} {J Y : gJ} {R : gR} {L : List Nat} {S : gS} (h : Rl n T I J X Y R L S) (v : Int32) : wX11_trace v X Y R L S (fun r => wM_trace v I J (fun r' => r = r')) := by
  obtain ⟨m, hm, t1, t2, t3, t4⟩ := h.2.2.2.2.2.2.2.1
  unfold wX11_trace wM_trace
  rw [t1]
  rcases Decidable.em (v < 0) with c | c
  · exact br_t c (br_t c rfl)
  refine br_f c ?_
  rcases Decidable.em ((20 : Int32) ≤ v) with c2 | c2
  · exact br_t c2 (br_f c (br_t c2 rfl))
  refine br_f c2 ?_
  unfold wJ4_length_8abf5 wJ5_length_8abf5
  rw [t2]
  obtain ⟨k, hk, rfl⟩ := nI_of c
  have E20 : (20 : Int32) ≤ nI k ↔ 20 ≤ k := nI_leI (a := 20) (by omega) (by omega)
  have hk20 : k < 20 := by
    rcases Nat.lt_or_ge k 20 with z | z
    · exact z
    · exact absurd (E20.mpr z) c2
  rcases Nat.lt_or_ge k m with d | d
  rotate_left
  · exact br_f (nI_nlt d (by omega)) (br_f c (br_f c2 (br_t (nI_le d (by omega)) rfl)))
  refine br_t (nI_lt d (by omega)) ?_
  obtain ⟨b, hb, b1, b2⟩ := t4 k d
  have e16 : (16 : Int32) >>> ((0 : Int32) &&& 31) = 16 := sb_shr0 16
  unfold wJ4_charAt_5068e wJ5_charAt_5068e
  rw [t2, t3, e16]
  rintro x1 rfl
  intro r1
  have E : nI k < (if (16 : Int32) < nI m then 16 else nI m) := by
    have E16 : (16 : Int32) < nI m ↔ 16 < m := nI_ltI (a := 16) (by omega) (by omega)
    rw [if_neg (fun e => by have := E16.mp e; omega)]
    exact nI_lt d (by omega)
  refine br_f c (br_t E ?_)
  have ev : (((X 15 (nI k).toNatClampNeg &&& 255).toUInt32 % 65536).toInt32) = nI b := by
    rw [nI_clamp (by omega), b2]
    have e255 : (255 : Int32) = nI (2 ^ 8 - 1) := rfl
    rw [e255, fa_mask, Nat.mod_eq_of_lt (by omega)]
    exact (sb_byte b (by omega)).2.1
  rw [ev]
  have hnc := (pk_charN (q := b) (by omega)).1
  refine br_n rfl ⟨vp_in_nI (by omega) (by decide), hnc, hnc, br_f c (br_f c2 (br_f (nI_ge d (by omega)) ⟨vp_in_nI hk20 (by decide), ?_⟩))⟩
  rw [nI_clamp (by omega), b1]
