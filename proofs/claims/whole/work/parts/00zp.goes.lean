/-! the reference looks through all rows -/
def gSt (p : List Nat) (I : gI) : Prop := (∀ i, i < p.length → I 24 i = nI (p.getD i 0)) ∧ ∀ l, l ∈ p → I 25 l = nI (fh_ix p l)
def gFr (u : Nat) (p : List Nat) (I I' : gI) : Prop := (∀ a, a ≠ 0 → a ≠ 24 → a ≠ 25 → a ≠ 26 → I' a = I a) ∧ (∀ j, j ≠ 12 → I' 0 j = I 0 j) ∧ (∀ j, j < 8 * u → I' 26 j = I 26 j) ∧ (∀ i, i < p.length → I' 24 i = I 24 i) ∧ ∀ l, l ∈ p → I' 25 l = I 25 l
theorem gFr.rf {u : Nat} {p : List Nat} {I : gI} : gFr u p I I := ⟨fun _ _ _ _ _ => rfl, fun _ _ => rfl, fun _ _ => rfl, fun _ _ => rfl, fun _ _ => rfl⟩
theorem gFr.tr {u u' : Nat} {p p' : List Nat} {I I' I'' : gI} (h : gFr u p I I') (h' : gFr u' p' I' I'') (hu : u ≤ u') (hp : p.length ≤ p'.length) (hm : ∀ l, l ∈ p → l ∈ p') : gFr u p I I'' :=
  ⟨fun a a1 a2 a3 a4 => (h'.1 a a1 a2 a3 a4).trans (h.1 a a1 a2 a3 a4), fun j hj => (h'.2.1 j hj).trans (h.2.1 j hj), fun j hj => (h'.2.2.1 j (by omega)).trans (h.2.2.1 j hj), fun i hi => (h'.2.2.2.1 i (by omega)).trans (h.2.2.2.1 i hi), fun l hl => (h'.2.2.2.2 l (hm l hl)).trans (h.2.2.2.2 l hl)⟩
theorem gSt.fr {u : Nat} {p : List Nat} {I I' : gI} (h : gSt p I) (f : gFr u p I I') : gSt p I' :=
  ⟨fun i hi => (f.2.2.2.1 i hi).trans (h.1 i hi), fun l hl => (f.2.2.2.2 l hl).trans (h.2 l hl)⟩
/-- the rows A stand from row u on -/
def gRw (n u : Nat) (A : List (List Nat)) (I : gI) : Prop := ∀ i, i < A.length → ∀ j, j < n → I 26 (8 * (u + i) + j) = nI ((A.getD i []).getD j 0)
theorem gRw.app {n u : Nat} {A B : List (List Nat)} {I I' : gI} (hn : n ≤ 8) (h : gRw n u A I) (h' : gRw n (u + A.length) B I') (hf : ∀ j, j < 8 * (u + A.length) → I' 26 j = I 26 j) : gRw n u (A ++ B) I' := by
  intro i hi j hj
  rw [List.length_append] at hi
  by_cases c : i < A.length
  · rw [hf _ (by omega), h i c j hj, List.getD_eq_getElem?_getD (l := A ++ B), List.getElem?_append_left c, ← List.getD_eq_getElem?_getD]
  · have := h' (i - A.length) (by omega) j hj
    rw [show u + A.length + (i - A.length) = u + i by omega] at this
    rw [this, List.getD_eq_getElem?_getD (l := A ++ B), List.getElem?_append_right (by omega), ← List.getD_eq_getElem?_getD]
theorem m_goes {J : gJ} {n : Nat} (hn : n ≤ 8) : ∀ (k : Nat) (p : List Nat) (I : gI) (u : Nat) (Q : gI → gJ → Prop), fh_pp n p → p.length + k = n → gSt p I → I 0 12 = nI u → u + ((fh_all n k p).filter (fun r => fh_nx n (fh_ix r))).length ≤ 1392 → (∀ I', I' 0 12 = nI (u + ((fh_all n k p).filter (fun r => fh_nx n (fh_ix r))).length) → gRw n u ((fh_all n k p).filter (fun r => fh_nx n (fh_ix r))) I' → gFr u p I I' → Q I' J) → wM_goes (k + 1) (nI p.length) (nI n) (nI (fh_msk p)) I J Q := by
  intro k
  induction k with
  | zero =>
    intro p I u Q hp e hs hu hb hQ
    have pm := nd_full hp.1 (by omega) hp.2.1
    obtain rfl : p.length = n := by omega
    refine br_n rfl (m_isCrossed (at' := fh_ix p) hn (fun l hl => ⟨hs.2 l ((ix_mem l p).mpr (pm.2.2 l hl)), by have := pm.2.2 l hl; omega⟩) ?_)
    cases hx : fh_nx p.length (fh_ix p)
    · refine bft ?_
      have eA : (fh_all p.length 0 p).filter (fun r => fh_nx p.length (fh_ix r)) = [] := by
        rw [fh_all, List.filter_cons_of_neg (by rw [hx]; decide)]
        rfl
      rw [eA] at hQ
      exact hQ I (by rw [hu]; rfl) (fun i hi => absurd hi (by simp)) gFr.rf
    · refine btf ?_
      have eA : (fh_all p.length 0 p).filter (fun r => fh_nx p.length (fh_ix r)) = [p] := by
        rw [fh_all, List.filter_cons_of_pos (by rw [hx])]
        rfl
      rw [eA] at hQ hb
      rw [List.length_singleton] at hb
      have key : ∀ (d j : Nat) (I' : gI), d + j = p.length → (∀ a, a ≠ 26 → I' a = I a) → (∀ j', j' < 8 * u → I' 26 j' = I 26 j') → (∀ j', j' < j → I' 26 (8 * u + j') = nI (p.getD j' 0)) → wM_goes_l17 (wM_goes 0) Q (d + 1) (nI p.length) (nI j) I' J := by
        intro d
        induction d with
        | zero =>
          intro j I' e' f1 f2 f3
          obtain rfl : j = p.length := by omega
          refine br_t (nI_le (Nat.le_refl _) (by omega)) ?_
          rintro I2 rfl
          refine hQ _ ?_ (fun i hi j' hj' => ?_) ⟨fun a a1 a2 a3 a4 => by rw [upI_n a1, f1 a a4], fun j' hj' => by rw [upI_s, upd_n hj', f1 0 (by omega)], fun j' hj' => by rw [upI_n (by omega), f2 j' hj'], fun i hi => by rw [upI_n (by omega), f1 24 (by omega)], fun l hl => by rw [upI_n (by omega), f1 25 (by omega)]⟩
          · rw [upI_s, upd_s, f1 0 (by omega), hu, nI_1]
            rfl
          · rw [List.length_singleton] at hi
            obtain rfl : i = 0 := by omega
            rw [upI_n (by omega), Nat.add_zero, f3 j' hj']
            rfl
        | succ d ih =>
          intro j I' e' f1 f2 f3
          have hj : j < 8 := by omega
          refine br_f (nI_ge (by omega) (by omega)) ⟨vp_in_nI hj (by decide), ?_⟩
          rw [f1 0 (by omega), hu, show (8 : Int32) * nI u + nI j = nI (8 * u + j) by
            rw [show (8 : Int32) = zI 8 from rfl, zI_n, zI_n, zI_mul, zI_add, zI_n]
            congr 1]
          refine ⟨vp_in_nI (by omega) (by decide), ?_⟩
          rintro I6 rfl
          rw [nI_clamp (show 8 * u + j < 2147483648 by omega), nI_clamp (show j < 2147483648 by omega), f1 24 (by omega), hs.1 j (by omega), nI_1]
          refine ih (j + 1) _ (by omega) (fun a ha => by rw [upI_n ha, f1 a ha]) (fun j' hj' => by rw [upI_s, upd_n (by omega), f2 j' hj']) (fun j' hj' => ?_)
          rw [upI_s]
          by_cases ej : j' = j
          · rw [ej, upd_s]
          · rw [upd_n (by omega)]
            exact f3 j' (by omega)
      exact ⟨p.length + 1, key p.length 0 I (by omega) (fun _ _ => rfl) (fun _ _ => rfl) (fun j' hj' => absurd hj' (by omega))⟩
  | succ k ih =>
    intro p I u Q hp e hs hu hb hQ
    have hlt : fh_msk p < 2 ^ n := msk_b hp.2.1
    have pn : 2 ^ n ≤ 256 := (by decide : ∀ k : Nat, k < 9 → 2 ^ k ≤ 256) n (by omega)
    refine br_m (by rw [nI_eq (by omega) (by omega)]; omega) ?_
    obtain ⟨F, hF⟩ : ∃ F : Nat → List (List Nat), F = fun l => (if fh_ix p l < p.length then [] else fh_all n k (p ++ [l])).filter (fun r => fh_nx n (fh_ix r)) := ⟨_, rfl⟩
    have eA : (fh_all n (k + 1) p).filter (fun r => fh_nx n (fh_ix r)) = (List.range n).flatMap F := by
      rw [fh_all, List.filter_flatMap, hF]
    rw [eA] at hQ hb
    have mono : ∀ i d, ((List.range i).flatMap F).length ≤ ((List.range (i + d)).flatMap F).length := by
      intro i d
      induction d with
      | zero => exact Nat.le_refl _
      | succ d ihd =>
        rw [← Nat.add_assoc, List.range_succ, List.flatMap_append, List.length_append]
        omega
    have loop : ∀ (d l : Nat) (I' : gI), d + l = n → I' 0 12 = nI (u + ((List.range l).flatMap F).length) → gRw n u ((List.range l).flatMap F) I' → gFr u p I I' → wM_goes_l65 (wM_goes (k + 1)) Q (d + 1) (nI p.length) (nI n) (nI (fh_msk p)) (nI l) I' J := by
      intro d
      induction d with
      | zero =>
        intro l I' e' f1 f2 f3
        obtain rfl : l = n := by omega
        exact br_t (nI_le (Nat.le_refl _) (by omega)) (hQ I' f1 f2 f3)
      | succ d ihd =>
        intro l I' e' f1 f2 f3
        have hl : l < n := by omega
        have tb := msk_mem l p
        rw [Nat.testBit_eq_decide_div_mod_eq, decide_eq_true_iff] at tb
        have EB : nI (fh_msk p / 2 ^ l % 2) = 1 ↔ fh_msk p / 2 ^ l % 2 = 1 := nI_eq (b := 1) (by omega) (by omega)
        have hp2 : 2 ^ l < 2 ^ n := Nat.pow_lt_pow_right (by omega) hl
        have rs : (List.range (l + 1)).flatMap F = (List.range l).flatMap F ++ F l := by
          rw [List.range_succ, List.flatMap_append, List.flatMap_singleton]
        refine br_f (nI_ge (by omega) (by omega)) ?_
        rw [e_bit l (by omega) _ (by omega), EB, tb, nI_1, nI_1, e_sh l (by omega), i_or (by omega) (by omega), ← msk_app]
        refine ⟨fun nm => ⟨vp_in_nI (by omega) (by decide), ?_⟩, fun ym => ?_⟩
        · have nx : ¬ fh_ix p l < p.length := fun h => nm ((ix_mem l p).mpr h)
          obtain ⟨pa, pb⟩ := pp_app hp hl nx
          have al : (p ++ [l]).length = p.length + 1 := by rw [List.length_append, List.length_singleton]
          have eF : F l = (fh_all n k (p ++ [l])).filter (fun r => fh_nx n (fh_ix r)) := by
            rw [hF]
            show List.filter _ (if fh_ix p l < p.length then [] else fh_all n k (p ++ [l])) = _
            rw [if_neg nx]
          have mo := mono (l + 1) d
          rw [show l + 1 + d = n by omega, rs, List.length_append, eF] at mo
          rintro I4 rfl
          refine ⟨vp_in_nI (by omega) (by decide), ?_⟩
          rintro I7 rfl
          rw [nI_clamp (show p.length < 2147483648 by omega), nI_clamp (show l < 2147483648 by omega), ← al]
          have fr7 : gFr u p I (upI (upI I' 24 p.length (nI l)) 25 l (nI p.length)) := by
            refine f3.tr (u' := u) (p' := p) ⟨fun a a1 a2 a3 a4 => by rw [upI_n a3, upI_n a2], fun j hj => by rw [upI_n (by omega), upI_n (by omega)], fun j hj => by rw [upI_n (by omega), upI_n (by omega)], fun i hi => by rw [upI_n (by omega), upI_s, upd_n (by omega)], fun l' hl' => ?_⟩ (Nat.le_refl _) (Nat.le_refl _) (fun _ h => h)
            rw [upI_s, upd_n (show l' ≠ l from fun e => nm (e ▸ hl')), upI_n (by omega)]
          have st7 : gSt (p ++ [l]) (upI (upI I' 24 p.length (nI l)) 25 l (nI p.length)) := by
            have s7 := hs.fr fr7
            refine ⟨fun i hi => ?_, fun l' hl' => ?_⟩
            · rw [al] at hi
              by_cases ei : i = p.length
              · rw [ei, upI_n (by omega), upI_s, upd_s, List.getD_eq_getElem?_getD, List.getElem?_append_right (Nat.le_refl _), Nat.sub_self]
                rfl
              · rw [s7.1 i (by omega), List.getD_eq_getElem?_getD (l := p ++ [l]), List.getElem?_append_left (by omega), ← List.getD_eq_getElem?_getD]
            · by_cases el : l' = l
              · rw [el, upI_s, upd_s, ix_app, if_neg nx, if_pos rfl]
              · rw [List.mem_append, List.mem_singleton] at hl'
                have hm := hl'.resolve_right el
                rw [s7.2 l' hm, ix_app, if_pos ((ix_mem l' p).mp hm)]
          refine ih (p ++ [l]) _ (u + ((List.range l).flatMap F).length) _ pa (by omega) st7 (by rw [upI_n (by omega), upI_n (by omega)]; exact f1) (by omega) (fun I10 g1 g2 g3 => ?_)
          refine ihd (l + 1) I10 (by omega) ?_ ?_ ?_
          · rw [g1, rs, eF, List.length_append, Nat.add_assoc]
          · rw [rs, eF]
            refine f2.app hn g2 (fun j hj => ?_)
            rw [g3.2.2.1 j hj, upI_n (by omega), upI_n (by omega)]
          · exact fr7.tr g3 (by omega) (by omega) (fun l' hl' => List.mem_append_left _ hl')
        · have nx : fh_ix p l < p.length := (ix_mem l p).mp ym
          have eF : F l = [] := by
            rw [hF]
            show List.filter _ (if fh_ix p l < p.length then [] else fh_all n k (p ++ [l])) = _
            rw [if_pos nx]
            rfl
          refine ihd (l + 1) I' (by omega) ?_ ?_ f3
          · rw [f1, rs, eF, List.append_nil]
          · rw [rs, eF, List.append_nil]
            exact f2
    exact ⟨n + 1, loop n 0 I (by omega) (by rw [hu]; rfl) (fun i hi => absurd hi (by simp)) gFr.rf⟩
