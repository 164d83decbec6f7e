/-! the class lays leaves in every way that can be -/
theorem pkl_lt : ∀ p : List Nat, (∀ x, x ∈ p → x < 8) → fh_pk p < 8 ^ p.length
  | [], _ => by decide
  | a :: p, h => by
    have h1 := pkl_lt p (fun x hx => h x (List.mem_cons_of_mem _ hx))
    have h2 := h a List.mem_cons_self
    rw [fh_pk, List.length_cons, Nat.pow_succ]
    omega
theorem pkl_app (a : Nat) : ∀ p : List Nat, fh_pk (p ++ [a]) = 8 ^ p.length * a + fh_pk p
  | [] => by
    show a + 8 * 0 = 1 * a + 0
    omega
  | b :: p => by
    rw [List.cons_append, fh_pk, fh_pk, pkl_app a p, List.length_cons, Nat.pow_succ, Nat.mul_add, ← Nat.mul_assoc, Nat.mul_comm 8]
    omega
def lFr (u : Nat) (p : List Nat) (X X' : gI) : Prop := (∀ a, a ≠ 0 → a ≠ 10 → a ≠ 11 → a ≠ 12 → X' a = X a) ∧ (∀ j, j ≠ 11 → X' 0 j = X 0 j) ∧ (∀ j, j < u → X' 12 j = X 12 j)
theorem lFr.tr {u u' : Nat} {p p' : List Nat} {X X' X'' : gI} (h : lFr u p X X') (h' : lFr u' p' X' X'') (hu : u ≤ u') : lFr u p X X'' :=
  ⟨fun a a1 a2 a3 a4 => (h'.1 a a1 a2 a3 a4).trans (h.1 a a1 a2 a3 a4), fun j hj => (h'.2.1 j hj).trans (h.2.1 j hj), fun j hj => (h'.2.2 j (by omega)).trans (h.2.2 j hj)⟩
theorem lFr.rf {u : Nat} {p : List Nat} {X : gI} : lFr u p X X := ⟨fun _ _ _ _ _ => rfl, fun _ _ => rfl, fun _ _ => rfl⟩
def lRw (u : Nat) (A : List (List Nat)) (X : gI) : Prop := ∀ i, i < A.length → X 12 (u + i) = nI (fh_pk (A.getD i []))
theorem lRw.app {u : Nat} {A B : List (List Nat)} {X X' : gI} (h : lRw u A X) (h' : lRw (u + A.length) B X') (hf : ∀ j, j < u + A.length → X' 12 j = X 12 j) : lRw u (A ++ B) X' := by
  intro i hi
  rw [List.length_append] at hi
  by_cases c : i < A.length
  · rw [hf _ (by omega), h i c, List.getD_eq_getElem?_getD (l := A ++ B), List.getElem?_append_left c, ← List.getD_eq_getElem?_getD]
  · have := h' (i - A.length) (by omega)
    rw [show u + A.length + (i - A.length) = u + i by omega] at this
    rw [this, List.getD_eq_getElem?_getD (l := A ++ B), List.getElem?_append_right (by omega), ← List.getD_eq_getElem?_getD]
theorem x_keep {X : gI} {Y : gJ} {R : gR} {L : List Nat} {S : gS} {u : Nat} {p : List Nat} (hp : p.length ≤ 8) (hl : ∀ x, x ∈ p → x < 8) (T : xLs X p) (hu : X 0 11 = nI u) (hb : u < 2073) {Q : gI → gJ → gR → Prop} (hQ : ∀ X', X' 0 11 = nI (u + 1) → X' 12 u = nI (fh_pk p) → (∀ a, a ≠ 0 → a ≠ 12 → X' a = X a) → (∀ j, j ≠ 11 → X' 0 j = X 0 j) → (∀ j, j ≠ u → X' 12 j = X 12 j) → Q X' Y R) : wX4_keep (nI p.length) X Y R L S Q := by
  have key : ∀ (d i : Nat) (q : List Nat), d + i = p.length → q = p.take i → wX4_keep_l17 L S Q (d + 1) (nI p.length) (nI (fh_pk q)) (nI i) X Y R := by
    intro d
    induction d with
    | zero =>
      intro i q e hq
      obtain rfl : i = p.length := by omega
      rw [List.take_length] at hq
      subst hq
      refine br_t (nI_le (Nat.le_refl _) (by omega)) ?_
      rw [hu]
      refine ⟨vp_in_nI hb (by decide), ?_⟩
      rintro I3 rfl I5 rfl
      rw [nI_clamp (show u < 2147483648 by omega)]
      refine hQ _ ?_ ?_ (fun a a1 a2 => by rw [upI_n a1, upI_n a2]) (fun j hj => by rw [upI_s, upd_n hj, upI_n (by omega)]) (fun j hj => by rw [upI_n (by omega), upI_s, upd_n hj])
      · rw [upI_s, upd_s, upI_n (by omega), hu, nI_1]
      · rw [upI_n (by omega), upI_s, upd_s]
    | succ d ih =>
      intro i q e hq
      have hi : i < p.length := by omega
      have hx : p.getD i 0 < 8 := by
        apply hl
        rw [List.getD_eq_getElem?_getD, List.getElem?_eq_getElem hi]
        exact List.getElem_mem hi
      have e2 : p.take (i + 1) = q ++ [p.getD i 0] := by
        rw [hq, List.take_succ, List.getD_eq_getElem?_getD, List.getElem?_eq_getElem hi]
        rfl
      have ql : q.length = i := by rw [hq, List.length_take]; omega
      have hlt := pkl_lt q (fun x hx2 => hl x (by rw [hq] at hx2; exact List.mem_of_mem_take hx2))
      rw [ql] at hlt
      have p8 : 8 ^ i ≤ 2097152 := (by decide : ∀ i : Nat, i < 8 → 8 ^ i ≤ 2097152) i (by omega)
      have e8 : (2 : Nat) ^ (3 * i) = 8 ^ i := by rw [Nat.pow_mul]
      refine br_f (nI_ge (by omega) (by omega)) ⟨vp_in_nI (by omega) (by decide), ?_⟩
      have mb : p.getD i 0 * 8 ^ i ≤ 7 * 2097152 := Nat.mul_le_mul (by omega) p8
      rw [nI_clamp (show i < 2147483648 by omega), T.1 i hi, show (3 : Int32) * nI i = nI (3 * i) by
        rw [zI_3, zI_n, zI_mul, zI_n]
        congr 1, i_shl _ (by omega), e8, i_or (by omega) (by omega), nI_1]
      have e9 : fh_pk q ||| p.getD i 0 * 8 ^ i = fh_pk (q ++ [p.getD i 0]) := by
        rw [pkl_app, ql, Nat.or_comm, Nat.mul_comm, ← e8, ← Nat.two_pow_add_eq_or_of_lt (by rw [e8]; exact hlt)]
      rw [e9]
      exact ih (i + 1) _ (by omega) e2.symm
  refine br_t (by rw [hu]; exact nI_lt (b := 2073) (by omega) (by omega)) ⟨p.length + 1, key p.length 0 [] (by omega) (by rw [List.take_zero])⟩
theorem x_layFrom {Y : gJ} {R : gR} {L : List Nat} {S : gS} {n : Nat} (hn : n ≤ 8) : ∀ (k : Nat) (p : List Nat) (X : gI) (u : Nat) (Q : gI → gJ → gR → Prop), fh_pp n p → p.length + k = n → xLs X p → X 0 11 = nI u → u + (fh_go n k p).length ≤ 2073 → (∀ X', X' 0 11 = nI (u + (fh_go n k p).length) → lRw u (fh_go n k p) X' → lFr u p X X' → xLs X' p → Q X' Y R) → wX4_layFrom (k + 1) (nI n) (nI p.length) X Y R L S Q := by
  intro k
  induction k with
  | zero =>
    intro p X u Q hp e T hu hb hQ
    obtain rfl : p.length = n := by omega
    have eG : fh_go p.length 0 p = [p] := rfl
    rw [eG] at hQ hb
    rw [List.length_singleton] at hb
    refine br_f (nI_nlt (Nat.le_refl _) (by omega)) ?_
    refine x_keep hn (fun x hx => by have := hp.2.1 x hx; omega) T hu (by omega) (fun X1 g1 g2 g3 g4 g5 => ?_)
    refine hQ X1 (by rw [g1]; rfl) (fun i hi => ?_) ⟨fun a a1 a2 a3 a4 => g3 a a1 a4, g4, fun j hj => g5 j (by omega)⟩ ⟨fun i hi => by rw [g3 10 (by omega) (by omega)]; exact T.1 i hi, fun l hl => by rw [g3 11 (by omega) (by omega)]; exact T.2 l hl⟩
    rw [List.length_singleton] at hi
    obtain rfl : i = 0 := by omega
    exact g2
  | succ k ih =>
    intro p X u Q hp e T hu hb hQ
    refine br_t (nI_lt (by omega) (by omega)) ?_
    obtain ⟨F, hF⟩ : ∃ F : Nat → List (List Nat), F = fun l => if fh_ix p l < p.length then [] else if fh_ok n p l = true then fh_go n k (p ++ [l]) else [] := ⟨_, rfl⟩
    have eG : fh_go n (k + 1) p = (List.range n).flatMap F := by
      rw [fh_go, hF]
    rw [eG] at hQ hb
    have mono : ∀ i d, ((List.range i).flatMap F).length ≤ ((List.range (i + d)).flatMap F).length := by
      intro i d
      induction d with
      | zero => exact Nat.le_refl _
      | succ d ihd =>
        rw [← Nat.add_assoc, List.range_succ, List.flatMap_append, List.length_append]
        omega
    have loop : ∀ (d l : Nat) (X' : gI), d + l = n → X' 0 11 = nI (u + ((List.range l).flatMap F).length) → lRw u ((List.range l).flatMap F) X' → lFr u p X X' → xLs X' p → wX4_layFrom_l13 (fun v1 v2 I J R Q => wX4_layFrom (k + 1) v1 v2 I J R L S Q) L S Q (d + 1) (nI n) (nI p.length) (nI l) X' Y R := by
      intro d
      induction d with
      | zero =>
        intro l X' e' f1 f2 f3 T'
        obtain rfl : l = n := by omega
        exact br_t (nI_le (Nat.le_refl _) (by omega)) (hQ X' f1 f2 f3 T')
      | succ d ihd =>
        intro l X' e' f1 f2 f3 T'
        have hl : l < n := by omega
        have rs : (List.range (l + 1)).flatMap F = (List.range l).flatMap F ++ F l := by
          rw [List.range_succ, List.flatMap_append, List.flatMap_singleton]
        refine br_f (nI_ge (by omega) (by omega)) ⟨vp_in_nI (by omega) (by decide), ?_⟩
        rw [nI_clamp (show l < 2147483648 by omega), T'.2 l (by omega), nI_1]
        by_cases c : fh_ix p l < p.length
        · have hle := ix_le l p
          rw [if_pos c]
          have eF : F l = [] := by
            rw [hF]
            show (if fh_ix p l < p.length then [] else _) = _
            rw [if_pos c]
          refine br_m (nI_nm1 (by omega)) (ihd (l + 1) X' (by omega) ?_ ?_ f3 T')
          · rw [f1, rs, eF, List.append_nil]
          · rw [rs, eF, List.append_nil]
            exact f2
        · rw [if_neg c]
          obtain ⟨pa, pb⟩ := pp_app hp hl c
          have al : (p ++ [l]).length = p.length + 1 := by rw [List.length_append, List.length_singleton]
          refine br_n rfl (x_lays hn hl T' (by omega) hp.1 hp.2.1 c (fun X1 T1 g1 g2 => ?_))
          -- the leaf is taken off again
          have c46 : ∀ X2 : gI, xLs X2 (p ++ [l]) → lFr u p X X2 → X2 0 11 = nI (u + ((List.range (l + 1)).flatMap F).length) → lRw u ((List.range (l + 1)).flatMap F) X2 → wX4_layFrom_c46 (fun v1 v2 I J R Q => wX4_layFrom (k + 1) v1 v2 I J R L S Q) L S (wX4_layFrom_l13 (fun v1 v2 I J R Q => wX4_layFrom (k + 1) v1 v2 I J R L S Q) L S Q (d + 1)) (nI n) (nI p.length) (nI l) X2 Y R Q := by
            intro X2 T2 h1 h2 h3
            refine ⟨vp_in_nI (by omega) (by decide), ?_⟩
            rintro I2 rfl
            rw [nI_clamp (show l < 2147483648 by omega), nI_1]
            refine ihd (l + 1) _ (by omega) (by rw [upI_n (by omega)]; exact h2) (fun i hi => by rw [upI_n (by omega)]; exact h3 i hi) ⟨fun a a1 a2 a3 a4 => by rw [upI_n a3, h1.1 a a1 a2 a3 a4], fun j hj => by rw [upI_n (by omega), h1.2.1 j hj], fun j hj => by rw [upI_n (by omega), h1.2.2 j hj]⟩ ⟨fun i hi => ?_, fun y hy => ?_⟩
            · rw [upI_n (by omega), T2.1 i (by omega), List.getD_eq_getElem?_getD, List.getElem?_append_left hi, ← List.getD_eq_getElem?_getD]
            · rw [upI_s]
              by_cases ey : y = l
              · rw [ey, upd_s, if_neg c]
              · rw [upd_n ey, T2.2 y hy, ix_app, al, if_neg ey]
                by_cases c2 : fh_ix p y < p.length
                · rw [if_pos c2, if_pos c2, if_pos (by omega)]
                · rw [if_neg c2, if_neg c2, if_neg (by omega)]
          have fr1 : lFr u p X X1 := f3.tr (u' := u) (p' := p) ⟨fun a a1 a2 a3 a4 => g1 a a2 a3, fun j hj => by rw [g1 0 (by omega) (by omega)], fun j hj => by rw [g1 12 (by omega) (by omega)]⟩ (Nat.le_refl _)
          have u1 : X1 0 11 = nI (u + ((List.range l).flatMap F).length) := by rw [g1 0 (by omega) (by omega)]; exact f1
          have r1 : lRw u ((List.range l).flatMap F) X1 := fun i hi => by rw [g1 12 (by omega) (by omega)]; exact f2 i hi
          cases ho : fh_ok n p l
          · have eF : F l = [] := by
              rw [hF]
              show (if fh_ix p l < p.length then [] else if fh_ok n p l = true then _ else []) = _
              rw [if_neg c, ho, if_neg (by decide)]
            refine btf (c46 X1 T1 fr1 ?_ ?_)
            · rw [rs, eF, List.append_nil]
              exact u1
            · rw [rs, eF, List.append_nil]
              exact r1
          · have eF : F l = fh_go n k (p ++ [l]) := by
              rw [hF]
              show (if fh_ix p l < p.length then [] else if fh_ok n p l = true then fh_go n k (p ++ [l]) else []) = _
              rw [if_neg c, ho, if_pos rfl]
            have mo := mono (l + 1) d
            rw [show l + 1 + d = n by omega, rs, List.length_append, eF] at mo
            refine bft ?_
            rw [nI_1, ← al]
            refine ih (p ++ [l]) X1 (u + ((List.range l).flatMap F).length) _ pa (by omega) T1 u1 (by omega) (fun X2 h1 h2 h3 T2 => ?_)
            refine c46 X2 T2 (fr1.tr h3 (by omega)) ?_ ?_
            · rw [h1, rs, eF, List.length_append, Nat.add_assoc]
            · rw [rs, eF]
              exact r1.app h2 h3.2.2
    exact ⟨n + 1, loop n 0 X (by omega) (by rw [hu]; rfl) (fun i hi => absurd hi (by simp)) lFr.rf T⟩
