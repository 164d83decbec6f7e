/-! orders of leaves, as the class finds them -/
/-- the leaf that a fold of side s joins to leaf l; n: none -/
def fh_mt (n s l : Nat) : Nat := if (l + s) % 2 = 0 then (if l + 1 < n then l + 1 else n) else (if l = 0 then n else l - 1)
/-- where a leaf lies in a row of leaves; their number if it doesn't -/
def fh_ix : List Nat → Nat → Nat
  | [], _ => 0
  | a :: p, l => if a = l then 0 else fh_ix p l + 1
/-- whether leaf l, laid behind p, closes its fold of side s without a crossing -/
def fh_ce (n s : Nat) (p : List Nat) (l : Nat) : Bool :=
  if fh_mt n s l = n ∨ fh_ix p (fh_mt n s l) = p.length then true
  else (p.drop (fh_ix p (fh_mt n s l) + 1)).all (fun x => fh_mt n s x == n || (decide (fh_ix p (fh_mt n s x) < p.length) && decide (fh_ix p (fh_mt n s l) ≤ fh_ix p (fh_mt n s x))))
def fh_ok (n : Nat) (p : List Nat) (l : Nat) : Bool := fh_ce n 0 p l && fh_ce n 1 p l
def fh_go (n : Nat) : Nat → List Nat → List (List Nat)
  | 0, p => [p]
  | k + 1, p => (List.range n).flatMap (fun l => if fh_ix p l < p.length then [] else if fh_ok n p l = true then fh_go n k (p ++ [l]) else [])
def fh_ord (n : Nat) : List (List Nat) := fh_go n n []
/-- an order in one int, by threes of bits -/
def fh_pk : List Nat → Nat
  | [] => 0
  | a :: p => a + 8 * fh_pk p
/-! what the class's memory and the reference's have to do with each other -/
def fh_wt : List Nat := [115, 116, 114, 105, 112, 32, 0, 116, 117, 114, 110, 32, 0, 108, 101, 115, 115, 32, 0]
/-- a strip in a row of the class's -/
def xS (R0 : Nat → Option Nat) (L : List Nat) (S : gS) (i : Nat) (t : gP) : Prop := ∃ z, R0 i = some z ∧ z ∈ L ∧ S z = xV t i
/-- shelf s, n strips there being -/
def rSh (n : Nat) (I : gI) (X : gI) (s : Nat) : Prop :=
  (I 5 s = nI 0 ∧ X 3 s = -1 ∧ X 4 s = nI 0) ∨ (I 5 s = nI 1 ∧ ∃ o m : Nat, o ≤ 3 ∧ m ≤ 160 ∧ I 6 s = nI o ∧ X 3 s = nI (100 + o) ∧ I 7 s = nI m ∧ X 4 s = nI m) ∨ (I 5 s = nI 2 ∧ X 4 s = nI 0 ∧ ∃ j : Nat, j < n ∧ I 8 s = nI j ∧ X 3 s = nI j)
def rIm (I : gI) (J : gJ) (X : gI) (R : gR) (L : List Nat) (S : gS) : Prop :=
  (I 0 14 = nI 0 ∧ X 0 1 = -1) ∨ (I 0 14 = nI 1 ∧ ∃ (m : Nat) (T : Nat → gP), m ≤ 8 ∧ I 11 24 = nI m ∧ X 0 1 = nI m ∧ ∀ i, i < m → I 11 i = nI (tk (T i)) ∧ I 11 (8 + i) = nI (ta (T i)) ∧ I 11 (16 + i) = nI (tf (T i)) ∧ J 5 i = lN (tw (T i)) ∧ stok (T i) ∧ xS (R 1) L S i (T i))
def rTr (I X : gI) : Prop := ∃ m : Nat, m ≤ 16 ∧ I 0 13 = nI m ∧ X 0 3 = nI m ∧ X 0 4 = 0 ∧ ∀ i, i < m → ∃ c : Nat, c < 128 ∧ I 29 i = nI c ∧ X 15 i = nI c
/-- the class's orders found so far: D the numbers of leaves that were asked for, u orders in all -/
def rLX (X : gI) : Prop := ∃ D : Nat → Bool, X 0 11 = nI (fb_sm (fun m => if D m = true then (fh_ord m).length else 0) 9) ∧ D 0 = false ∧ ∀ m, m ≤ 8 → (D m = false → X 14 m = nI 0) ∧ (D m = true → ∃ f : Nat, X 13 m = nI f ∧ X 14 m = nI (fh_ord m).length ∧ f + (fh_ord m).length ≤ fb_sm (fun m => if D m = true then (fh_ord m).length else 0) 9 ∧ ∀ i, i < (fh_ord m).length → X 12 (f + i) = nI (fh_pk ((fh_ord m).getD i [])))
def rLM (I : gI) : Prop := ∃ m : Nat, m ≤ 8 ∧ I 0 11 = nI m ∧ (0 < m → I 0 12 = nI (fh_ord m).length ∧ ∀ i, i < (fh_ord m).length → ∀ p, p < m → I 26 (8 * i + p) = nI (((fh_ord m).getD i []).getD p 0))
def Rl (n : Nat) (T : Nat → gP) (I : gI) (J : gJ) (X : gI) (Y : gJ) (R : gR) (L : List Nat) (S : gS) : Prop :=
  (n ≤ 8 ∧ I 0 0 = nI n ∧ X 0 0 = nI n ∧ ∀ i, i < n → mS I J i (T i) ∧ stok (T i) ∧ xS (R 0) L S i (T i)) ∧
  (∀ k, k < 3 → ∀ i q, R k i = some q → q ∈ L) ∧
  rIm I J X R L S ∧
  (∀ s, s < 8 → rSh n I X s) ∧
  (∀ s, s < 8 → ∀ i, i < 160 → Y (3 + s) i = J 2 (160 * s + i)) ∧
  (∀ k, k < 8 → X 5 k = I 1 k) ∧
  X 0 2 = I 0 1 ∧
  rTr I X ∧
  (∀ i, i < 19 → I 9 i = nI (fh_wt.getD i 0)) ∧
  rLX X ∧ rLM I
/-- the class's lasting memory stays -/
def xFr (X : gI) (Y : gJ) (R : gR) (X' : gI) (Y' : gJ) (R' : gR) : Prop :=
  (∀ k, (3 ≤ k ∧ k ≤ 5) ∨ 12 ≤ k → X' k = X k) ∧ (∀ j, j ≤ 4 ∨ 11 ≤ j → X' 0 j = X 0 j) ∧ (∀ k, 3 ≤ k → Y' k = Y k) ∧ (∀ k, k < 3 → R' k = R k)
theorem xFr.rf {X : gI} {Y : gJ} {R : gR} : xFr X Y R X Y R := ⟨fun _ _ => rfl, fun _ _ => rfl, fun _ _ => rfl, fun _ _ => rfl⟩
theorem xFr.tr {X X' X'' : gI} {Y Y' Y'' : gJ} {R R' R'' : gR} (h : xFr X Y R X' Y' R') (h' : xFr X' Y' R' X'' Y'' R'') : xFr X Y R X'' Y'' R'' :=
  ⟨fun k a => (h'.1 k a).trans (h.1 k a), fun k a => (h'.2.1 k a).trans (h.2.1 k a), fun k a => (h'.2.2.1 k a).trans (h.2.2.1 k a), fun k a => (h'.2.2.2 k a).trans (h.2.2.2 k a)⟩
theorem xFr.X {X : gI} {Y : gJ} {R : gR} {k i : Nat} {v : Int32} (h : k = 1 ∨ k = 2 ∨ (6 ≤ k ∧ k ≤ 11)) : xFr X Y R (upI X k i v) Y R := ⟨fun a _ => upI_n (by omega), fun j _ => by rw [upI_n (by omega)], fun _ _ => rfl, fun _ _ => rfl⟩
theorem xFr.X0 {X : gI} {Y : gJ} {R : gR} {i : Nat} {v : Int32} (h : 5 ≤ i ∧ i ≤ 10) : xFr X Y R (upI X 0 i v) Y R := ⟨fun a _ => upI_n (by omega), fun j _ => by rw [upI_s, upd_n (by omega)], fun _ _ => rfl, fun _ _ => rfl⟩
theorem xFr.Y {X : gI} {Y : gJ} {R : gR} {k i : Nat} {v : Int64} (h : k < 3) : xFr X Y R X (upJ Y k i v) R := ⟨fun _ _ => rfl, fun _ _ => rfl, fun a _ => upJ_n (by omega), fun _ _ => rfl⟩
theorem xFr.R {X : gI} {Y : gJ} {R : gR} {k i : Nat} {v : Option Nat} (h : 3 ≤ k) : xFr X Y R X Y (upR R k i v) := ⟨fun _ _ => rfl, fun _ _ => rfl, fun _ _ => rfl, fun a _ => upR_n (by omega)⟩
theorem bF.xFr {b : Nat} {X X' : gI} {Y Y' : gJ} {R R' : gR} (h : bF b X Y R X' Y' R') : xFr X Y R X' Y' R' := ⟨fun k a => h.1 k (by omega) (by omega), fun j _ => by rw [h.1 0 (by omega) (by omega)], fun k a => h.2.1 k (by omega) (by omega), fun k a => h.2.2.1 k (by omega)⟩
section RL
theorem Rl.fr {n : Nat} {T : Nat → gP} {I I' X X' : gI} {J J' Y Y' : gJ} {R R' : gR} {L : List Nat} {S : gS} (h : Rl n T I J X Y R L S) (hm : mFr I J I' J') (hx : xFr X Y R X' Y' R') : Rl n T I' J' X' Y' R' L S := by
  obtain ⟨⟨a1, a2, a3, a4⟩, b, c, d, e, f, g, i, j, k, l⟩ := h
  have r0 := hx.2.2.2 0 (by omega)
  have r1 := hx.2.2.2 1 (by omega)
  refine ⟨⟨a1, ?_, ?_, fun q hq => ⟨(a4 q hq).1.fr hm, (a4 q hq).2.1, ?_⟩⟩, fun q hq => ?_, ?_, fun s hs => ?_, fun s hs q hq => ?_, fun q hq => ?_, ?_, ?_, fun q hq => ?_, ?_, ?_⟩
  · rw [hm.2.2.2.2.1 0 (by omega)]; exact a2
  · rw [hx.2.1 0 (by omega)]; exact a3
  · rw [r0]; exact (a4 q hq).2.2
  · rw [hx.2.2.2 q hq]; exact b q hq
  · unfold rIm
    rw [hm.2.2.2.2.1 14 (by omega), hx.2.1 1 (by omega), hm.2.1, hm.2.2.2.2.2.2.2, r1]
    exact c
  · unfold rSh
    rw [hm.1 5 (by omega) (by omega), hm.1 6 (by omega) (by omega), hm.1 7 (by omega) (by omega), hm.1 8 (by omega) (by omega), hx.1 3 (by omega), hx.1 4 (by omega)]
    exact d s hs
  · rw [hm.2.2.2.2.2.2.1, hx.2.2.1 (3 + s) (by omega)]; exact e s hs q hq
  · rw [hm.1 1 (by omega) (by omega), hx.1 5 (by omega)]; exact f q hq
  · rw [hm.2.2.2.2.1 1 (by omega), hx.2.1 2 (by omega)]; exact g
  · unfold rTr
    rw [hm.2.2.2.2.1 13 (by omega), hx.2.1 3 (by omega), hx.2.1 4 (by omega), hm.2.2.2.1, hx.1 15 (by omega)]
    exact i
  · rw [hm.1 9 (by omega) (by omega)]; exact j q hq
  · unfold rLX
    rw [hx.2.1 11 (by omega), hx.1 12 (by omega), hx.1 13 (by omega), hx.1 14 (by omega)]
    exact k
  · unfold rLM
    rw [hm.2.2.2.2.1 11 (by omega), hm.2.2.2.2.1 12 (by omega), hm.2.2.1]
    exact l
/-- a refusal of both -/
theorem Rl.ref {n : Nat} {T : Nat → gP} {I X : gI} {J Y : gJ} {R : gR} {L : List Nat} {S : gS} (h : Rl n T I J X Y R L S) (b : Nat) (hb : b < 8) : Rl n T (upI I 1 b (I 1 b + 1)) J (upI X 5 b (X 5 b + 1)) Y R L S := by
  obtain ⟨⟨a1, a2, a3, a4⟩, b', c, d, e, f, g, i, j, k, l⟩ := h
  refine ⟨⟨a1, a2, a3, a4⟩, b', c, d, e, fun q hq => ?_, g, i, j, k, l⟩
  rw [upI_s, upI_s]
  by_cases eq : q = b
  · subst eq
    rw [upd_s, upd_s, f q hq]
  · rw [upd_n eq, upd_n eq, f q hq]
end RL
theorem nneg0 : ∀ c : Nat, c < 8 → (-nI c = 0 ↔ c = 0) := by decide
theorem ng_in : ∀ b : Nat, b < 8 → vp_in (- -nI b) 8 ∧ (- -nI b).toNatClampNeg = b := by
  intro b hb
  have : - -nI b = nI b := Int32.neg_neg
  rw [this]
  exact ⟨vp_in_nI hb (by decide), nI_clamp (by omega)⟩
theorem m_no {I : gI} {J : gJ} (b : Nat) (hb : b < 8) {Q : Int32 → gI → gJ → Prop} (hQ : Q (-nI b) (upI I 1 b (I 1 b + 1)) J) : wM_no (-nI b) I J Q := by
  obtain ⟨h1, h2⟩ := ng_in b hb
  unfold wM_no
  rw [h2]
  refine ⟨h1, ?_⟩
  rintro I2 rfl
  exact hQ
theorem m_noTen {I : gI} {J : gJ} (b : Nat) (hb : b < 8) {Q : Int32 → gI → gJ → Prop} (hQ : Q (-nI b + -10) (upI I 1 b (I 1 b + 1)) J) : wM_noTen (-nI b) I J Q := by
  obtain ⟨h1, h2⟩ := ng_in b hb
  unfold wM_noTen
  rw [h2, Int32.sub_eq_add_neg]
  refine ⟨h1, ?_⟩
  rintro I2 rfl
  exact hQ
theorem x_refuse {X : gI} {Y : gJ} {R : gR} {L : List Nat} {S : gS} (b : Nat) (hb : b < 8) (h0 : 0 < b) {Q : Int32 → gI → gJ → gR → Prop} (hQ : Q (-nI b) (upI X 5 b (X 5 b + 1)) Y R) : wX11_refuse (-nI b) X Y R L S Q := by
  obtain ⟨h1, h2⟩ := ng_in b hb
  have h3 : ∀ b, b < 8 → 0 < b → ¬ (0 : Int32) ≤ -nI b ∧ ¬ (8 : Int32) ≤ - -nI b := by decide
  obtain ⟨h3, h4⟩ := h3 b hb h0
  unfold wX11_refuse
  rw [h2]
  refine br_f h3 (br_f h4 ⟨h1, ?_⟩)
  rintro I2 rfl
  exact hQ
/-! shelves and strips by their numbers -/
theorem m_shelfN {v : Int32} {I : gI} {J : gJ} {Q : Bool → Prop} (h : v < 0 ∨ 8 ≤ v) (hQ : Q false) : wM_isShelf v I J Q := by
  unfold wM_isShelf
  rcases h with h | h
  · exact br_t h hQ
  · exact ⟨fun _ => hQ, fun _ => br_t h hQ⟩
theorem m_shelfY {s : Nat} {I : gI} {J : gJ} {Q : Bool → Prop} (h : s < 8) (hQ : Q true) : wM_isShelf (nI s) I J Q := br_f (nI_pos (by omega)) (br_f (nI_ge (b := 8) h (by omega)) hQ)
theorem x_shelfN {v : Int32} {X : gI} {Y : gJ} {R : gR} {L : List Nat} {S : gS} {Q : Bool → Prop} (h : v < 0 ∨ 8 ≤ v) (hQ : Q false) : wX11_isShelf v X Y R L S Q := by
  unfold wX11_isShelf
  rcases h with h | h
  · exact br_t h hQ
  · exact ⟨fun _ => hQ, fun _ => br_t h hQ⟩
theorem x_shelfY {s : Nat} {X : gI} {Y : gJ} {R : gR} {L : List Nat} {S : gS} {Q : Bool → Prop} (h : s < 8) (hQ : Q true) : wX11_isShelf (nI s) X Y R L S Q := br_f (nI_pos (by omega)) (br_f (nI_ge (b := 8) h (by omega)) hQ)
theorem ix_shelf (v : Int32) : (v < 0 ∨ 8 ≤ v) ∨ ∃ s : Nat, s < 8 ∧ v = nI s := by
  rcases pk_ix v (n := 8) (by omega) with h | h | h
  · exact Or.inl (Or.inl h)
  · exact Or.inl (Or.inr h)
  · exact Or.inr h
theorem ix_strip (v : Int32) {n : Nat} (hn : n ≤ 8) : (v < 0 ∨ nI n ≤ v) ∨ ∃ s : Nat, s < n ∧ v = nI s := by
  rcases pk_ix v (n := n) (by omega) with h | h | h
  · exact Or.inl (Or.inl h)
  · exact Or.inl (Or.inr h)
  · exact Or.inr h
theorem m_stripN {v : Int32} {I : gI} {J : gJ} {n : Nat} (e : I 0 0 = nI n) {Q : Bool → Prop} (h : v < 0 ∨ nI n ≤ v) (hQ : Q false) : wM_isStrip v I J Q := by
  unfold wM_isStrip
  rw [e]
  rcases h with h | h
  · exact br_t h hQ
  · exact ⟨fun _ => hQ, fun _ => br_t h hQ⟩
theorem m_stripY {s : Nat} {I : gI} {J : gJ} {n : Nat} (e : I 0 0 = nI n) (hn : n ≤ 8) {Q : Bool → Prop} (h : s < n) (hQ : Q true) : wM_isStrip (nI s) I J Q := by
  unfold wM_isStrip
  rw [e]
  exact br_f (nI_pos (by omega)) (br_f (nI_ge h (by omega)) hQ)
theorem x_stripN {v : Int32} {X : gI} {Y : gJ} {R : gR} {L : List Nat} {S : gS} {n : Nat} (e : X 0 0 = nI n) (hn : n ≤ 8) {Q : Bool → Prop} (h : v < 0 ∨ nI n ≤ v) (hQ : Q false) : wX11_isStrip v X Y R L S Q := by
  unfold wX11_isStrip
  rw [e]
  rcases h with h | h
  · exact br_t h hQ
  · exact ⟨fun _ => hQ, fun _ => br_t h hQ⟩
theorem x_stripY {s : Nat} {X : gI} {Y : gJ} {R : gR} {L : List Nat} {S : gS} {n : Nat} (e : X 0 0 = nI n) (hn : n ≤ 8) {Q : Bool → Prop} (h : s < n) (hQ : Q true) : wX11_isStrip (nI s) X Y R L S Q := by
  unfold wX11_isStrip
  rw [e]
  exact br_f (nI_pos (by omega)) (br_f (nI_ge h (by omega)) (br_f (nI_nlt (b := n) (a := 8) (by omega) (by omega)) hQ))
