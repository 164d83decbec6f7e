/-! ends -/
def fh_e1 (A : Int × Int) : Int × Int := (A.1 - A.2, A.2 + A.1)
def fh_e0 (A : Int × Int) : Int × Int := (A.1 + A.2, A.2 - A.1)
def fh_ep (c : Nat → Nat) : Nat → Int × Int
  | 0 => (1, 0)
  | k + 1 => if c k = 1 then fh_e1 (fh_ep c k) else fh_e0 (fh_ep c k)
def fh_gm : Nat → Int × Int
  | 0 => (1, 0)
  | m + 1 => fh_e0 (fh_gm m)
def fh_gg : Nat → Nat → Int × Int
  | 0, m => fh_gm m
  | o + 1, m => fh_e1 (fh_gg o m)
theorem e_comm (A : Int × Int) : fh_e1 (fh_e0 A) = fh_e0 (fh_e1 A) := by
  unfold fh_e1 fh_e0
  apply Prod.ext
  · show _ - _ = (_ + _ : Int)
    omega
  · show _ + _ = (_ - _ : Int)
    omega
theorem gg_m : ∀ o m : Nat, fh_gg o (m + 1) = fh_e0 (fh_gg o m)
  | 0, _ => rfl
  | o + 1, m => by
    rw [fh_gg, gg_m o m, e_comm]
    rfl
def fh_c1 (c : Nat → Nat) : Nat → Nat
  | 0 => 0
  | k + 1 => fh_c1 c k + (if c k = 1 then 1 else 0)
theorem c1_le (c : Nat → Nat) : ∀ k : Nat, fh_c1 c k ≤ k
  | 0 => Nat.le_refl 0
  | k + 1 => by
    have := c1_le c k
    rw [fh_c1]
    split <;> omega
theorem ep_gg (c : Nat → Nat) : ∀ k : Nat, fh_ep c k = fh_gg (fh_c1 c k) (k - fh_c1 c k)
  | 0 => rfl
  | k + 1 => by
    have h := c1_le c k
    rw [fh_ep, fh_c1, ep_gg c k]
    by_cases e : c k = 1
    · rw [if_pos e, if_pos e, show k + 1 - (fh_c1 c k + 1) = k - fh_c1 c k by omega]
      rfl
    · rw [if_neg e, if_neg e, Nat.add_zero, show k + 1 - fh_c1 c k = k - fh_c1 c k + 1 by omega, gg_m]
theorem ep_b (c : Nat → Nat) : ∀ k : Nat, -(2 : Int) ^ k ≤ (fh_ep c k).1 + (fh_ep c k).2 ∧ (fh_ep c k).1 + (fh_ep c k).2 ≤ 2 ^ k ∧ -(2 : Int) ^ k ≤ (fh_ep c k).1 - (fh_ep c k).2 ∧ (fh_ep c k).1 - (fh_ep c k).2 ≤ 2 ^ k
  | 0 => by
    rw [fh_ep]
    decide
  | k + 1 => by
    have h := ep_b c k
    rw [fh_ep, Int.pow_succ]
    split
    · unfold fh_e1
      generalize (2 : Int) ^ k = P at *
      generalize (fh_ep c k).1 = A at *
      generalize (fh_ep c k).2 = B at *
      show _ ≤ A - B + (B + A) ∧ A - B + (B + A) ≤ _ ∧ _ ≤ A - B - (B + A) ∧ A - B - (B + A) ≤ _
      omega
    · unfold fh_e0
      generalize (2 : Int) ^ k = P at *
      generalize (fh_ep c k).1 = A at *
      generalize (fh_ep c k).2 = B at *
      show _ ≤ A + B + (B - A) ∧ A + B + (B - A) ≤ _ ∧ _ ≤ A + B - (B - A) ∧ A + B - (B - A) ≤ _
      omega
theorem ep_1024 (c : Nat → Nat) {k : Nat} (hk : k ≤ 10) : -1024 ≤ (fh_ep c k).1 ∧ (fh_ep c k).1 ≤ 1024 ∧ -1024 ≤ (fh_ep c k).2 ∧ (fh_ep c k).2 ≤ 1024 := by
  have h := ep_b c k
  have p : (2 : Int) ^ k ≤ 1024 := (by decide : ∀ k : Nat, k < 11 → (2 : Int) ^ k ≤ 1024) k (by omega)
  omega
/-- the first o letters are ones -/
def fh_lo (o l : Nat) : Nat := if l < o then 1 else 0
theorem c1_lo (o : Nat) : ∀ k : Nat, fh_c1 (fh_lo o) k = if k < o then k else o
  | 0 => by
    rw [fh_c1]
    split <;> omega
  | k + 1 => by
    rw [fh_c1, c1_lo o k, fh_lo]
    by_cases h : k < o
    · rw [if_pos h, if_pos h, if_pos rfl]
      split <;> omega
    · rw [if_neg h, if_neg h, if_neg (by omega), if_neg (by omega), Nat.add_zero]
def fh_bt (v l : Nat) : Nat := v / 2 ^ l % 2
theorem c1_on (v : Nat) : ∀ k : Nat, fh_c1 (fh_bt v) k = fh_on v k
  | 0 => rfl
  | k + 1 => by
    rw [fh_c1, fh_on, c1_on v k]
    show _ + (if v / 2 ^ k % 2 = 1 then 1 else 0) = _
    split <;> omega
theorem ep_eq (v f : Nat) (hv : v < 2 ^ f) (hf : f ≤ 32) : fh_ep (fh_lo (fh_on v 32)) f = fh_ep (fh_bt v) f := by
  have e : fh_on v 32 = fh_on v f := by
    have := on_ext hv (32 - f)
    rwa [show f + (32 - f) = 32 by omega] at this
  have := on_le v f
  rw [ep_gg, ep_gg, c1_lo, c1_on, e, if_neg (by omega)]
theorem e_sh : ∀ f : Nat, f < 31 → (1 : Int32) <<< (nI f &&& 31) = nI (2 ^ f) := by decide +kernel
theorem e_bit : ∀ l : Nat, l < 10 → ∀ v : Nat, v < 1024 → ((nI v >>> (nI l &&& 31)) &&& 1) = nI (v / 2 ^ l % 2) := by decide +kernel
theorem e_rot {s a X Y A B : Int} (hs : s = 1 ∨ s = -1) (h1 : fh_ux a * X - fh_uy a * Y = A) (h2 : fh_uy a * X + fh_ux a * Y = B) : fh_ux (a + s) * X - fh_uy (a + s) * Y = -(s * B) ∧ fh_uy (a + s) * X + fh_ux (a + s) * Y = s * A := by
  rcases hs with e | e <;> subst e
  · rw [ux_1, uy_1]
    simp only [Int.neg_mul]
    omega
  · rw [ux_m1, uy_m1]
    simp only [Int.neg_mul]
    omega
theorem m_endOf {I : gI} {J : gJ} {f v : Nat} (hf : f ≤ 10) (hv : v < 1024) {Q : gI → gJ → Prop} (hQ : Q I (upJ (upJ J 0 1 (zL (fh_ep (fh_bt v) f).1)) 0 2 (zL (fh_ep (fh_bt v) f).2))) : wM_endOf (nI f) (nI v) I J Q := by
  have key : ∀ g k : Nat, ∀ (a X Y : Int), g + k = f → fh_ux a * X - fh_uy a * Y = (fh_ep (fh_bt v) k).1 → fh_uy a * X + fh_ux a * Y = (fh_ep (fh_bt v) k).2 → wM_endOf_l20 Q (g + 1) (nI f) (nI v) (zL (fh_ep (fh_bt v) k).1) (zL (fh_ep (fh_bt v) k).2) (zL X) (zL Y) (zI a) (zI (-a)) (nI k) I J := by
    intro g
    induction g with
    | zero =>
      intro k a X Y e h1 h2
      obtain rfl : k = f := by omega
      refine br_t (nI_le (Nat.le_refl _) (by omega)) ?_
      rintro J2 rfl J4 rfl
      exact hQ
    | succ g ih =>
      intro k a X Y e h1 h2
      refine br_f (nI_ge (by omega) (by omega)) ?_
      have eb := e_bit k (by omega) v hv
      have go : ∀ s : Int, (s = 1 ∨ s = -1) → fh_ep (fh_bt v) (k + 1) = ((fh_ep (fh_bt v) k).1 - s * (fh_ep (fh_bt v) k).2, (fh_ep (fh_bt v) k).2 + s * (fh_ep (fh_bt v) k).1) → wM_endOf_c41 (wM_endOf_l20 Q (g + 1)) (nI f) (nI v) (zL (fh_ep (fh_bt v) k).1) (zL (fh_ep (fh_bt v) k).2) (zL X) (zL Y) (zI a) (zI (-a)) (nI k) (zI s) I J Q := by
        intro s hs he
        obtain ⟨r1, r2⟩ := e_rot hs h1 h2
        obtain ⟨r3, r4⟩ := e_rot (s := -s) (by omega) h1 h2
        unfold wM_endOf_c41
        rw [zI_add, zI_sub, zI_add, zI_add, show a + s + -a = s by omega, show a - s = a + -s by omega, show a + -s + -a = -s by omega]
        refine m_turnX ?_
        refine m_turnY ?_
        refine m_turnX ?_
        refine m_turnY ?_
        rw [r1, r2, r3, r4, zL_add, zL_add, zL_add, zL_add, nI_1]
        have x := ih (k + 1) s ((fh_ep (fh_bt v) k).1 + -(-s * (fh_ep (fh_bt v) k).2)) ((fh_ep (fh_bt v) k).2 + -s * (fh_ep (fh_bt v) k).1) (by omega)
        rw [he] at x
        refine x ?_ ?_
        · rcases hs with e | e <;> subst e
          · show fh_ux 1 * _ - fh_uy 1 * _ = _
            rw [show fh_ux 1 = 0 by decide, show fh_uy 1 = 1 by decide]
            dsimp only
            omega
          · show fh_ux (-1) * _ - fh_uy (-1) * _ = _
            rw [show fh_ux (-1) = 0 by decide, show fh_uy (-1) = -1 by decide]
            dsimp only
            omega
        · rcases hs with e | e <;> subst e
          · show fh_uy 1 * _ + fh_ux 1 * _ = _
            rw [show fh_ux 1 = 0 by decide, show fh_uy 1 = 1 by decide]
            dsimp only
            omega
          · show fh_uy (-1) * _ + fh_ux (-1) * _ = _
            rw [show fh_ux (-1) = 0 by decide, show fh_uy (-1) = -1 by decide]
            dsimp only
            omega
      rcases (show v / 2 ^ k % 2 = 0 ∨ v / 2 ^ k % 2 = 1 by omega) with eb' | eb'
      · refine br_m (by rw [eb, eb']; exact fun e => absurd ((nI_eq (b := 1) (by omega) (by omega)).mp e) (by omega)) ?_
        rw [zI_m1]
        refine go (-1) (Or.inr rfl) ?_
        rw [fh_ep, if_neg (show ¬ fh_bt v k = 1 by rw [fh_bt]; omega), fh_e0]
        apply Prod.ext <;> dsimp only <;> omega
      · refine br_n (by rw [eb, eb']; rfl) (go 1 (Or.inl rfl) ?_)
        rw [fh_ep, if_pos (show fh_bt v k = 1 by rw [fh_bt]; omega), fh_e1]
        apply Prod.ext <;> dsimp only <;> omega
  have x := key f 0 0 1 0 (by omega) (show fh_ux 0 * 1 - fh_uy 0 * 0 = (1 : Int) by decide) (show fh_uy 0 * 1 + fh_ux 0 * 0 = (0 : Int) by decide)
  exact ⟨f + 1, x⟩
theorem x_endsAt {X : gI} {Y : gJ} {R : gR} {L : List Nat} {S : gS} {f o : Nat} (hf : f ≤ 10) (ho : o ≤ 32) (v2 v3 : Int32) {Q : Bool → Prop} (hQ : Q (decide (zI (fh_ep (fh_lo o) f).1 = v2 ∧ zI (fh_ep (fh_lo o) f).2 = v3))) : wX11_endsAt (nI f) (nI o) v2 v3 X Y R L S Q := by
  have key : ∀ g k : Nat, g + k = f → wX11_endsAt_l9 X Y R L S Q (g + 1) (nI f) (nI o) v2 v3 (zI (fh_ep (fh_lo o) k).1) (zI (fh_ep (fh_lo o) k).2) (nI k) := by
    intro g
    induction g with
    | zero =>
      intro k e
      obtain rfl : k = f := by omega
      refine br_t (nI_le (Nat.le_refl _) (by omega)) ⟨fun n1 => ?_, fun y1 => ⟨fun n2 => ?_, fun y2 => ?_⟩⟩
      · rwa [decide_eq_false (fun e => n1 e.1)] at hQ
      · rwa [decide_eq_false (fun e => n2 e.2)] at hQ
      · rwa [decide_eq_true ⟨y1, y2⟩] at hQ
    | succ g ih =>
      intro k e
      refine br_f (nI_ge (by omega) (by omega)) ?_
      have x := ih (k + 1) (by omega)
      by_cases c : k < o
      · refine br_f (nI_ge (by omega) (by omega)) ?_
        rw [fh_ep, if_pos (show fh_lo o k = 1 from if_pos c), fh_e1] at x
        unfold wX11_endsAt_c26
        rw [nI_1, zI_1, zI_mul, zI_mul, zI_sub, zI_add, Int.one_mul, Int.one_mul]
        exact x
      · refine br_t (nI_le (by omega) (by omega)) ?_
        rw [fh_ep, if_neg (show ¬ fh_lo o k = 1 by rw [fh_lo, if_neg c]; omega), fh_e0] at x
        unfold wX11_endsAt_c26
        rw [zI_m1, zI_mul, zI_mul, zI_sub, zI_add, nI_1, show (fh_ep (fh_lo o) k).1 - -1 * (fh_ep (fh_lo o) k).2 = (fh_ep (fh_lo o) k).1 + (fh_ep (fh_lo o) k).2 by omega, show (fh_ep (fh_lo o) k).2 + -1 * (fh_ep (fh_lo o) k).1 = (fh_ep (fh_lo o) k).2 - (fh_ep (fh_lo o) k).1 by omega]
        exact x
  exact ⟨f + 1, key f 0 (by omega)⟩
theorem e_at (v : Int32) {a : Int} (h1 : -1024 ≤ a) (h2 : a ≤ 1024) : zL a = v.toInt64 ↔ zI a = v := by
  have b1 := v.le_toInt
  have b2 := v.toInt_lt
  rw [show v.toInt64 = zL v.toInt by rw [← zI_l b1 b2, ← zI_of], show (zI a = v ↔ zI a = zI v.toInt) by rw [← zI_of], zI_i (by omega) (by omega) b1 b2, zL_i (by omega) (by omega) (by omega) (by omega)]

def fh_eh (v2 v3 : Int32) (f i : Nat) : Bool := decide (zI (fh_ep (fh_bt (i - 1)) f).1 = v2 ∧ zI (fh_ep (fh_bt (i - 1)) f).2 = v3)
def fh_em (p : Nat → Bool) (m : Nat) : Int32 := if fh_pf p m = 0 then -1 else nI (fh_pf p m - 1)
theorem em_1 (p : Nat → Bool) {m : Nat} (hm : m < 2147483648) : fh_em p m = -1 ↔ fh_pf p m = 0 := by
  have := pf_le p m
  rw [fh_em]
  by_cases h : fh_pf p m = 0
  · rw [if_pos h]
    exact ⟨fun _ => h, fun _ => rfl⟩
  · rw [if_neg h]
    exact ⟨fun e => absurd e (nI_nm1 (by omega)), fun e => absurd e h⟩
theorem em_no {p : Nat → Bool} {m : Nat} (h : p (m + 1) = false) : fh_em p (m + 1) = fh_em p m ∧ fh_pn p (m + 1) = fh_pn p m := by
  have e : fh_pf p (m + 1) = fh_pf p m := by
    rw [fh_pf, h, if_neg (show ¬ false = true by decide)]
    split
    · omega
    · rfl
  rw [fh_em, fh_em, e, fh_pn, h]
  exact ⟨rfl, rfl⟩
theorem em_old {p : Nat → Bool} {m : Nat} (hm : m < 2147483648) (h : p (m + 1) = true) (n : ¬ fh_em p m = -1) : fh_em p (m + 1) = fh_em p m ∧ fh_pn p (m + 1) = fh_pn p m + 1 := by
  have e : fh_pf p (m + 1) = fh_pf p m := by
    rw [fh_pf, if_neg (fun e => n ((em_1 p hm).mpr e))]
  rw [fh_em, fh_em, e, fh_pn, h]
  exact ⟨rfl, rfl⟩
theorem em_new {p : Nat → Bool} {m : Nat} (hm : m < 2147483648) (h : p (m + 1) = true) (n : fh_em p m = -1) : fh_em p (m + 1) = nI m ∧ fh_pn p (m + 1) = fh_pn p m + 1 := by
  have e : fh_pf p (m + 1) = m + 1 := by
    rw [fh_pf, if_pos ((em_1 p hm).mp n), h, if_pos rfl]
  rw [fh_em, e, fh_pn, h]
  exact ⟨rfl, rfl⟩
theorem m_endsL {I : gI} {J : gJ} {f : Nat} (hf : f ≤ 10) (v2 v3 v4 : Int32) {Q : Int32 → gI → gJ → Prop} (hQ : ∀ J', mFr I J I J' → (¬ v4 = 0 → (¬ fh_em (fh_eh v2 v3 f) (2 ^ f) = -1 → Q (fh_em (fh_eh v2 v3 f) (2 ^ f)) I J') ∧ (fh_em (fh_eh v2 v3 f) (2 ^ f) = -1 → wM_no (-5) I J' (fun r4 I5 J6 => Q r4 I5 J6))) ∧ (v4 = 0 → Q (nI (fh_pn (fh_eh v2 v3 f) (2 ^ f))) I J')) : ∃ n : Nat, wM_ends_l45 Q n (nI f) v2 v3 v4 0 (-1) 0 I J := by
  have hp : 2 ^ f ≤ 1024 := (by decide : ∀ k : Nat, k < 11 → 2 ^ k ≤ 1024) f (by omega)
  generalize hN : 2 ^ f = N at *
  have key : ∀ (g m : Nat) (J' : gJ), g + m = N → mFr I J I J' → wM_ends_l45 Q (g + 1) (nI f) v2 v3 v4 (nI (fh_pn (fh_eh v2 v3 f) m)) (fh_em (fh_eh v2 v3 f) m) (nI m) I J' := by
    intro g
    induction g with
    | zero =>
      intro m J' e f1
      obtain rfl : m = N := by omega
      refine br_t ?_ (hQ J' f1)
      rw [e_sh f (by omega), hN]
      exact nI_le (Nat.le_refl _) (by omega)
    | succ g ih =>
      intro m J' e f1
      refine br_f ?_ (m_endOf hf (by omega) ?_)
      · rw [e_sh f (by omega), hN]
        exact nI_ge (by omega) (by omega)
      · have f2 := f1.tr ((mFr.J (I := I) (J := J') (k := 0) (i := 1) (v := zL (fh_ep (fh_bt m) f).1) (by omega)).tr (mFr.J (k := 0) (i := 2) (v := zL (fh_ep (fh_bt m) f).2) (by omega)))
        have b := ep_1024 (fh_bt m) hf
        have x := ih (m + 1) _ (by omega) f2
        rw [show upJ (upJ J' 0 1 (zL (fh_ep (fh_bt m) f).1)) 0 2 (zL (fh_ep (fh_bt m) f).2) 0 1 = zL (fh_ep (fh_bt m) f).1 by rw [upJ_s, upl_n (by omega), upJ_s, upl_s], show upJ (upJ J' 0 1 (zL (fh_ep (fh_bt m) f).1)) 0 2 (zL (fh_ep (fh_bt m) f).2) 0 2 = zL (fh_ep (fh_bt m) f).2 by rw [upJ_s, upl_s], e_at v2 b.1 b.2.1, e_at v3 b.2.2.1 b.2.2.2, nI_1, nI_1]
        have no : ¬ (zI (fh_ep (fh_bt m) f).1 = v2 ∧ zI (fh_ep (fh_bt m) f).2 = v3) → fh_eh v2 v3 f (m + 1) = false := fun h => decide_eq_false h
        refine ⟨fun n1 => ?_, fun y1 => ⟨fun y2 => ⟨fun n3 => ?_, fun y3 => ?_⟩, fun n2 => ?_⟩⟩
        · obtain ⟨a1, a2⟩ := em_no (no (fun e => n1 e.1))
          rw [a1, a2] at x
          exact x
        · obtain ⟨a1, a2⟩ := em_old (p := fh_eh v2 v3 f) (m := m) (by omega) (decide_eq_true ⟨y1, y2⟩) n3
          rw [a1, a2] at x
          exact x
        · obtain ⟨a1, a2⟩ := em_new (p := fh_eh v2 v3 f) (m := m) (by omega) (decide_eq_true ⟨y1, y2⟩) y3
          rw [a1, a2] at x
          exact x
        · obtain ⟨a1, a2⟩ := em_no (no (fun e => n2 e.2))
          rw [a1, a2] at x
          exact x
  exact ⟨N + 1, key N 0 J (by omega) mFr.rf⟩
theorem x_endsL {X : gI} {Y : gJ} {R : gR} {L : List Nat} {S : gS} {f : Nat} (hf : f ≤ 10) (v2 v3 v4 : Int32) {Q : Int32 → gI → gJ → gR → Prop} (hQ : (¬ v4 = 0 → (¬ fh_em (fh_eh v2 v3 f) (2 ^ f) = -1 → Q (fh_em (fh_eh v2 v3 f) (2 ^ f)) X Y R) ∧ (fh_em (fh_eh v2 v3 f) (2 ^ f) = -1 → wX11_refuse (-5) X Y R L S (fun r4 I5 J6 R7 => Q r4 I5 J6 R7))) ∧ (v4 = 0 → Q (nI (fh_pn (fh_eh v2 v3 f) (2 ^ f))) X Y R)) : ∃ n : Nat, wX11_ends_l45 L S Q n (nI f) v2 v3 v4 0 (-1) 0 X Y R := by
  have hp : 2 ^ f ≤ 1024 := (by decide : ∀ k : Nat, k < 11 → 2 ^ k ≤ 1024) f (by omega)
  have key : ∀ (g m : Nat), g + m = 2 ^ f → wX11_ends_l45 L S Q (g + 1) (nI f) v2 v3 v4 (nI (fh_pn (fh_eh v2 v3 f) m)) (fh_em (fh_eh v2 v3 f) m) (nI m) X Y R := by
    intro g
    induction g with
    | zero =>
      intro m e
      obtain rfl : m = 2 ^ f := by omega
      refine br_t ?_ hQ
      rw [e_sh f (by omega)]
      exact nI_le (Nat.le_refl _) (by omega)
    | succ g ih =>
      intro m e
      have hon := on_le m 32
      refine br_f ?_ (x_bitCountI (by omega) (x_endsAt hf hon v2 v3 ?_))
      · rw [e_sh f (by omega)]
        exact nI_ge (by omega) (by omega)
      · have x := ih (m + 1) (by omega)
        rw [ep_eq m f (by omega) (by omega), nI_1, nI_1]
        show (fh_eh v2 v3 f (m + 1) = false → _) ∧ (fh_eh v2 v3 f (m + 1) = true → _)
        refine ⟨fun n1 => ?_, fun y1 => ⟨fun n3 => ?_, fun y3 => ?_⟩⟩
        · obtain ⟨a1, a2⟩ := em_no n1
          rw [a1, a2] at x
          exact x
        · obtain ⟨a1, a2⟩ := em_old (p := fh_eh v2 v3 f) (m := m) (by omega) y1 n3
          rw [a1, a2] at x
          exact x
        · obtain ⟨a1, a2⟩ := em_new (p := fh_eh v2 v3 f) (m := m) (by omega) y1 y3
          rw [a1, a2] at x
          exact x
  exact ⟨2 ^ f + 1, key (2 ^ f) 0 (by omega)⟩
theorem pc_ends {n : Nat} {T : Nat → gP} {I X : gI} {J Y : gJ} {R : gR} {L : List Nat} {S : gS} (h : Rl n T I J X Y R L S) (v1 v2 v3 v4 : Int32) : wX11_ends v1 v2 v3 v4 X Y R L S (fun r X' Y' R' => wM_ends v1 v2 v3 v4 I J (fun r' I' J' => qE L S r r' I' J' X' Y' R')) := by
  have in4 : v4 = 0 ∨ v4 = 1 → ¬ v4 < 0 ∧ v4 ≤ 1 := fun e => by
    rcases e with e | e <;> subst e <;> decide
  have go : v4 = 0 ∨ v4 = 1 → wX11_ends_c18 L S v1 v2 v3 v4 X Y R (fun r X' Y' R' => wM_ends v1 v2 v3 v4 I J (fun r' I' J' => qE L S r r' I' J' X' Y' R')) := by
    intro h4
    obtain ⟨i1, i2⟩ := in4 h4
    rcases Decidable.em (v1 < 1) with c | c
    · exact br_t c (both_no6 h (fun Q hq => br_f i1 (br_t i2 (br_t c hq))))
    refine br_f c ?_
    rcases Decidable.em (v1 ≤ 10) with d | d
    · obtain ⟨f, hf, rfl⟩ := nI_of2 (M := 10) (n := 10) rfl (fun e => c (by
        rw [Int32.lt_iff_toInt_lt] at e ⊢
        have : (0 : Int32).toInt = 0 := rfl
        have : (1 : Int32).toInt = 1 := rfl
        omega)) d
      refine br_t d (x_endsL hf v2 v3 v4 ⟨fun n4 => ⟨fun n1 => ?_, fun y1 => ?_⟩, fun y4 => ?_⟩)
      · exact br_f i1 (br_t i2 (br_f c (br_t d (m_endsL hf v2 v3 v4 (fun J' f1 => br_m n4 (br_m n1 (qE.of (h.fr f1 xFr.rf) rfl)))))))
      · exact x_refuse 5 (by omega) (by omega) (br_f i1 (br_t i2 (br_f c (br_t d (m_endsL hf v2 v3 v4 (fun J' f1 => br_m n4 (br_n y1 (m_no 5 (by omega) (qE.rf (h.fr f1 xFr.rf) 5 (by omega)))))))))) 
      · exact br_f i1 (br_t i2 (br_f c (br_t d (m_endsL hf v2 v3 v4 (fun J' f1 => br_n y4 (qE.of (h.fr f1 xFr.rf) rfl))))))
    · exact br_f d (both_no6 h (fun Q hq => br_f i1 (br_t i2 (br_f c (br_f d hq)))))
  rcases Decidable.em (v4 = 0) with e | n0
  · exact br_t e (go (Or.inl e))
  refine br_f n0 ?_
  rcases Decidable.em (v4 = 1) with e | n1
  · exact br_t e (go (Or.inr e))
  refine br_f n1 (both_no5 h (fun Q hq => ?_))
  rcases Decidable.em (v4 < 0) with c | c
  · exact br_t c hq
  refine br_f c (br_f (fun l => ?_) hq)
  obtain ⟨q, hq, rfl⟩ := nI_of2 (M := 1) (n := 1) rfl c l
  rcases (show q = 0 ∨ q = 1 by omega) with e | e <;> subst e
  · exact n0 rfl
  · exact n1 rfl
