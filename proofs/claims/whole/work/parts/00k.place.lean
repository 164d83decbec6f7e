/-! the class's place, all kinds -/
theorem left_p {t : gP} (hk : tk t = 6) (ok : stok t) {n : Nat} (hn : n ≤ fh_cs t + 1) : fh_px (fh_cr t) 0 n = fh_px (fh_cr t) 0 (n % 16) ∧ fh_py (fh_cr t) 0 n = fh_py (fh_cr t) 0 (n % 16) := by
  have hcs := cs_ge ok
  have hc := cu_0 (t := t) (by omega)
  have c0 := ct_le t 0
  have c1 := ct_le t 1
  have e : ∀ m, m ≤ fh_pw t → fh_px (fh_cr t) 0 m = fh_px (fh_lf (1 - fh_ct t 0) (1 - fh_ct t 1)) 0 m ∧ fh_py (fh_cr t) 0 m = fh_py (fh_lf (1 - fh_ct t 0) (1 - fh_ct t 1)) 0 m := fun m hm => px_cong (fun i _ h2 => lf_cr hk ok (by omega))
  obtain ⟨a1, a2⟩ := e n (by omega)
  obtain ⟨b1, b2⟩ := e (n % 16) (by omega)
  obtain ⟨d1, d2⟩ := lf_pm (1 - fh_ct t 0) (1 - fh_ct t 1) (by omega) (by omega) (n / 16) (n % 16)
  rw [show 16 * (n / 16) + n % 16 = n by omega] at d1 d2
  rw [a1, a2, b1, b2, d1, d2]
  exact ⟨rfl, rfl⟩
theorem x_lead5 {I : gI} {J : gJ} {R : gR} {L : List Nat} {S : gS} {z i : Nat} {t : gP} (hS : S z = xV t i) (ok : stok t) (hz : z ∈ L) (hk : tk t = 6) {b n : Nat} (hn : n ≤ fh_cs t + 1) {Q : gI → gJ → gR → Prop} (hQ : ∀ I' J' R', J' 1 b = zL (fh_px (fh_cr t) 0 n) → J' 2 b = zL (fh_py (fh_cr t) 0 n) → bF b I J R I' J' R' → Q I' J' R') : wX5_lead z b (lN n) I J R L S Q := by
  have hcs := cs_ge ok
  obtain ⟨p1, p2⟩ := left_p hk ok hn
  have e16 : lN n % 16 = lN (n % 16) := pk_lMod (b := 16) (by omega) (by omega)
  have key : ∀ (g j : Nat) (I' : gI) (J' : gJ) (R' : gR), g + j = n % 16 → bW b z t 0 0 0 j I' J' R' → bF b I J R I' J' R' → wX5_lead_l11 z b L S Q (g + 1) (lN n) (nI j) I' J' R' := by
    intro g
    induction g with
    | zero =>
      intro j I' J' R' e hb hf
      show wX5_lead_b11 z b L S _ _ _ _ _ _ Q
      unfold wX5_lead_b11
      rw [e16, nI_l (by omega), pk_lLE (by omega) (by omega)]
      refine br_t (by omega) (hQ _ _ _ ?_ ?_ hf)
      · rw [hb.2.2.1, Int.zero_add, p1, show j = n % 16 by omega]
      · rw [hb.2.2.2.1, Int.zero_add, p2, show j = n % 16 by omega]
    | succ g ih =>
      intro j I' J' R' e hb hf
      show wX5_lead_b11 z b L S _ _ _ _ _ _ Q
      unfold wX5_lead_b11
      rw [e16, nI_l (by omega), pk_lLE (by omega) (by omega)]
      refine br_f (by omega) (x_step hS ok hz hb (by omega) (by omega) (fun I'' J'' R'' hb' hf' => ?_))
      rw [nI_1]
      exact ih (j + 1) _ _ _ (by omega) hb' (hf.tr hf')
  unfold wX5_lead
  rw [zL_0]
  show wX1_setOut b z (zL 0) (zL 0) (zI 0) I J R L S _
  exact x_setOut t (fun I' J' R' hb hf => ⟨n % 16 + 1, key (n % 16) 0 _ _ _ (by omega) hb hf⟩)
theorem x_lead {I : gI} {J : gJ} {R : gR} {L : List Nat} {S : gS} {z i : Nat} {t : gP} (hS : S z = xV t i) (ok : stok t) (hz : z ∈ L) {b n : Nat} (hn : n ≤ fh_cs t + 1) {Q : gI → gJ → gR → Prop} (hQ : ∀ I' J' R', J' 1 b = zL (fh_px (fh_cr t) 0 n) → J' 2 b = zL (fh_py (fh_cr t) 0 n) → bF b I J R I' J' R' → Q I' J' R') : wv_lead z b (lN n) I J R L S Q := by
  have hk6 := ok.1
  have hcs := cs_ge ok
  have e1 : sC (S z) = tk t := by rw [hS]; rfl
  have hQ' : Q I (sd J b (fh_px (fh_cr t) 0 n) (fh_py (fh_cr t) 0 n)) R := hQ _ _ _ (sd_1 _ _ _ _) (sd_2 _ _ _ _) bF.jj
  have pl : tk t ≠ 2 → tk t ≠ 3 → tk t ≠ 4 → tk t ≠ 5 → tk t ≠ 6 → wX9_lead z b (lN n) I J R L S Q := by
    intro n2 n3 n4 n5 n6
    rw [cr_n n3 n4 n5 n6] at hQ'
    have hc := cu_0 (t := t) (by omega)
    refine x_lead9 hS ok (by rw [← pw_n2 n2]; omega) ?_
    rw [qc_pc n2 n5 n6]
    exact hQ'
  unfold wv_lead
  rw [e1]
  refine v_kind hk6 (fun _ => pl (by omega) (by omega) (by omega) (by omega) (by omega)) (fun _ => pl (by omega) (by omega) (by omega) (by omega) (by omega)) (fun h => ?_) (fun h => ?_) (fun h => x_lead0 hS ok h hn hQ') (fun h => ?_) (fun h => x_lead5 hS ok hz h hn hQ)
  · rw [cr_n (by omega) (by omega) (by omega) (by omega)] at hQ'
    exact x_lead10 hS ok h (by have := cu_0 (t := t) (by omega); omega) hQ'
  · obtain ⟨b1, b2⟩ := p_cut (fh_pc t) (fh_cu t) n
    rw [pc_pos h, b1, b2] at hQ'
    exact x_lead2 hS ok (Or.inl h) (by omega) hQ'
  · have hc := cu_0 (t := t) (by omega)
    refine x_lead9 hS ok (by rw [← pw_n2 (by omega)]; omega) ?_
    obtain ⟨b1, b2⟩ := px_cong (cr := fh_qc t) (cr' := fh_cr t) (w := 0) (n := n) (fun i h1 h2 => by
      rw [qc_not (Or.inl h) (by omega) (by omega), cr_5 h])
    rw [b1, b2]
    exact hQ'
/-! the reference's place -/
theorem m_turnX {I : gI} {J : gJ} {x y w : Int} {Q : Int64 → Prop} (hQ : Q (zL (fh_ux w * x - fh_uy w * y))) : wM_turnX (zL x) (zL y) (zI w) I J Q := by
  have hb : (w % 4).toNat < 4 := by omega
  have E : ∀ c : Nat, c < 4 → ((zI w &&& 3) = nI c ↔ (w % 4).toNat = c) := by
    intro c hc
    rw [zI_a3]
    exact nI_eq (by omega) (by omega)
  have u := u_cases w
  unfold wM_turnX
  refine ⟨fun h0 => ⟨fun h1 => ⟨fun h2 => ?_, fun h => ?_⟩, fun h => ?_⟩, fun h => ?_⟩
  · have n0 : (w % 4).toNat ≠ 0 := fun e => h0 ((E 0 (by omega)).mpr e)
    have n1 : (w % 4).toNat ≠ 1 := fun e => h1 ((E 1 (by omega)).mpr e)
    have n2 : (w % 4).toNat ≠ 2 := fun e => h2 ((E 2 (by omega)).mpr e)
    obtain ⟨e1, e2⟩ : fh_ux w = 0 ∧ fh_uy w = -1 := by omega
    rw [e1, e2, show 0 * x - -1 * y = y by omega] at hQ
    exact hQ
  · have h := (E 2 (by omega)).mp h
    obtain ⟨e1, e2⟩ : fh_ux w = -1 ∧ fh_uy w = 0 := by omega
    rw [e1, e2, show -1 * x - 0 * y = -x by omega] at hQ
    rw [zL_neg]
    exact hQ
  · have h := (E 1 (by omega)).mp h
    obtain ⟨e1, e2⟩ : fh_ux w = 0 ∧ fh_uy w = 1 := by omega
    rw [e1, e2, show 0 * x - 1 * y = -y by omega] at hQ
    rw [zL_neg]
    exact hQ
  · have h := (E 0 (by omega)).mp h
    obtain ⟨e1, e2⟩ : fh_ux w = 1 ∧ fh_uy w = 0 := by omega
    rw [e1, e2, show 1 * x - 0 * y = x by omega] at hQ
    exact hQ
theorem m_turnY {I : gI} {J : gJ} {x y w : Int} {Q : Int64 → Prop} (hQ : Q (zL (fh_uy w * x + fh_ux w * y))) : wM_turnY (zL x) (zL y) (zI w) I J Q := by
  have hb : (w % 4).toNat < 4 := by omega
  have E : ∀ c : Nat, c < 4 → ((zI w &&& 3) = nI c ↔ (w % 4).toNat = c) := by
    intro c hc
    rw [zI_a3]
    exact nI_eq (by omega) (by omega)
  have u := u_cases w
  unfold wM_turnY
  refine ⟨fun h0 => ⟨fun h1 => ⟨fun h2 => ?_, fun h => ?_⟩, fun h => ?_⟩, fun h => ?_⟩
  · have n0 : (w % 4).toNat ≠ 0 := fun e => h0 ((E 0 (by omega)).mpr e)
    have n1 : (w % 4).toNat ≠ 1 := fun e => h1 ((E 1 (by omega)).mpr e)
    have n2 : (w % 4).toNat ≠ 2 := fun e => h2 ((E 2 (by omega)).mpr e)
    obtain ⟨e1, e2⟩ : fh_ux w = 0 ∧ fh_uy w = -1 := by omega
    rw [e1, e2, show -1 * x + 0 * y = -x by omega] at hQ
    rw [zL_neg]
    exact hQ
  · have h := (E 2 (by omega)).mp h
    obtain ⟨e1, e2⟩ : fh_ux w = -1 ∧ fh_uy w = 0 := by omega
    rw [e1, e2, show 0 * x + -1 * y = -y by omega] at hQ
    rw [zL_neg]
    exact hQ
  · have h := (E 1 (by omega)).mp h
    obtain ⟨e1, e2⟩ : fh_ux w = 0 ∧ fh_uy w = 1 := by omega
    rw [e1, e2, show 1 * x + 0 * y = x by omega] at hQ
    exact hQ
  · have h := (E 0 (by omega)).mp h
    obtain ⟨e1, e2⟩ : fh_ux w = 1 ∧ fh_uy w = 0 := by omega
    rw [e1, e2, show 0 * x + 1 * y = y by omega] at hQ
    exact hQ
/-- the reference's lasting memory stays -/
def mFr (I : gI) (J : gJ) (I' : gI) (J' : gJ) : Prop :=
  (∀ k, 1 ≤ k → k ≤ 9 → I' k = I k) ∧ I' 11 = I 11 ∧ I' 26 = I 26 ∧ I' 29 = I 29 ∧ (∀ j, j ≤ 1 ∨ 11 ≤ j → I' 0 j = I 0 j) ∧ J' 1 = J 1 ∧ J' 2 = J 2 ∧ J' 5 = J 5
theorem mFr.rf {I : gI} {J : gJ} : mFr I J I J := ⟨fun _ _ _ => rfl, rfl, rfl, rfl, fun _ _ => rfl, rfl, rfl, rfl⟩
theorem mFr.tr {I I' I'' : gI} {J J' J'' : gJ} (h : mFr I J I' J') (h' : mFr I' J' I'' J'') : mFr I J I'' J'' :=
  ⟨fun k a b => (h'.1 k a b).trans (h.1 k a b), h'.2.1.trans h.2.1, h'.2.2.1.trans h.2.2.1, h'.2.2.2.1.trans h.2.2.2.1, fun j a => (h'.2.2.2.2.1 j a).trans (h.2.2.2.2.1 j a), h'.2.2.2.2.2.1.trans h.2.2.2.2.2.1, h'.2.2.2.2.2.2.1.trans h.2.2.2.2.2.2.1, h'.2.2.2.2.2.2.2.trans h.2.2.2.2.2.2.2⟩
theorem mFr.J {I : gI} {J : gJ} {k i : Nat} {v : Int64} (h : k = 0 ∨ k = 3 ∨ k = 4 ∨ 6 ≤ k) : mFr I J I (upJ J k i v) := ⟨fun _ _ _ => rfl, rfl, rfl, rfl, fun _ _ => rfl, upJ_n (by omega), upJ_n (by omega), upJ_n (by omega)⟩
theorem mFr.I {I : gI} {J : gJ} {k i : Nat} {v : Int32} (h : k = 10 ∨ (12 ≤ k ∧ k ≤ 25) ∨ k = 27 ∨ k = 28) : mFr I J (upI I k i v) J := ⟨fun a b c => upI_n (by omega), upI_n (by omega), upI_n (by omega), upI_n (by omega), fun j _ => by rw [upI_n (by omega)], rfl, rfl, rfl⟩
theorem mFr.I0 {I : gI} {J : gJ} {i : Nat} {v : Int32} (h : 2 ≤ i ∧ i ≤ 10) : mFr I J (upI I 0 i v) J := ⟨fun a b c => upI_n (by omega), upI_n (by omega), upI_n (by omega), upI_n (by omega), fun j _ => by rw [upI_s, upd_n (by omega)], rfl, rfl, rfl⟩
theorem mS.fr {I I' : gI} {J J' : gJ} {i : Nat} {t : gP} (h : mS I J i t) (hf : mFr I J I' J') : mS I' J' i t := by
  unfold mS
  rw [hf.1 2 (by omega) (by omega), hf.1 3 (by omega) (by omega), hf.1 4 (by omega) (by omega), hf.2.2.2.2.2.1]
  exact h
/-- a stretch of b to the power of k sides -/
def fh_ax (b : Nat) (c : Nat → Nat) : Nat → Int × Int
  | 0 => (1, 0)
  | k + 1 => ((if b = 3 then 2 else 1) * (fh_ax b c k).1 - fh_sg (c k) * (fh_ax b c k).2, (if b = 3 then 2 else 1) * (fh_ax b c k).2 + fh_sg (c k) * (fh_ax b c k).1)
def fh_er (b : Nat) (c : Nat → Nat) : Nat → Int
  | 0 => 0
  | k + 1 => if b = 3 then 0 else fh_sg (c k)
/-- the first letter taken off -/
theorem ax_s (b : Nat) (c : Nat → Nat) : ∀ k : Nat, fh_ax b c (k + 1) = ((if b = 3 then 2 else 1) * (fh_ax b (fun j => c (j + 1)) k).1 - fh_sg (c 0) * (fh_ax b (fun j => c (j + 1)) k).2, (if b = 3 then 2 else 1) * (fh_ax b (fun j => c (j + 1)) k).2 + fh_sg (c 0) * (fh_ax b (fun j => c (j + 1)) k).1)
  | 0 => rfl
  | k + 1 => by
    rw [fh_ax, ax_s b c k]
    have e : fh_ax b (fun j => c (j + 1)) (k + 1) = ((if b = 3 then 2 else 1) * (fh_ax b (fun j => c (j + 1)) k).1 - fh_sg (c (k + 1)) * (fh_ax b (fun j => c (j + 1)) k).2, (if b = 3 then 2 else 1) * (fh_ax b (fun j => c (j + 1)) k).2 + fh_sg (c (k + 1)) * (fh_ax b (fun j => c (j + 1)) k).1) := rfl
    rw [e]
    generalize (fh_ax b (fun j => c (j + 1)) k).1 = X
    generalize (fh_ax b (fun j => c (j + 1)) k).2 = Y
    have ho : (if b = 3 then (2 : Int) else 1) = 2 ∨ (if b = 3 then (2 : Int) else 1) = 1 := by split <;> simp
    rcases ho with h | h <;> rcases sg_or (c 0) with h1 | h1 <;> rcases sg_or (c (k + 1)) with h2 | h2 <;> simp only [h, h1, h2] <;> refine Prod.ext ?_ ?_ <;> show (_ : Int) = _ <;> omega
theorem piece_2 : ∀ (k f : Nat) (c : Nat → Nat) (q : Nat), (∀ j, c j ≤ 1) → k ≤ f → fh_px (fh_pl 2 f c) 0 (2 ^ (k + 1) * q + 2 ^ k) = fh_px (fh_pl 2 f c) 0 (2 ^ (k + 1) * q) + (fh_ux (fh_dr (fh_pl 2 f c) (2 ^ (k + 1) * q)) * (fh_ax 2 c k).1 - fh_uy (fh_dr (fh_pl 2 f c) (2 ^ (k + 1) * q)) * (fh_ax 2 c k).2) ∧ fh_py (fh_pl 2 f c) 0 (2 ^ (k + 1) * q + 2 ^ k) = fh_py (fh_pl 2 f c) 0 (2 ^ (k + 1) * q) + (fh_uy (fh_dr (fh_pl 2 f c) (2 ^ (k + 1) * q)) * (fh_ax 2 c k).1 + fh_ux (fh_dr (fh_pl 2 f c) (2 ^ (k + 1) * q)) * (fh_ax 2 c k).2)
  | 0, f, c, q, hc, _ => by
    rw [Nat.pow_zero, px_0, py_0]
    show _ = _ + (_ * (1 : Int) - _ * 0) ∧ _ = _ + (_ * (1 : Int) + _ * 0)
    omega
  | k + 1, 0, c, q, _, h => absurd h (by omega)
  | k + 1, f + 1, c, q, hc, h => by
    obtain ⟨i1, i2⟩ := piece_2 k f (fun j => c (j + 1)) q (fun j => hc (j + 1)) (by omega)
    have eG : 2 ^ (k + 1 + 1) * q = 2 * (2 ^ (k + 1) * q) := by rw [Nat.pow_succ' (n := k + 1), Nat.mul_assoc]
    have eP : 2 ^ (k + 1 + 1) * q + 2 ^ (k + 1) = 2 * (2 ^ (k + 1) * q + 2 ^ k) := by rw [eG, Nat.pow_succ' (n := k)]; omega
    have ev : 2 ^ (k + 1) * q % 2 = 0 := by rw [Nat.pow_succ', Nat.mul_assoc]; omega
    rw [eP, eG]
    obtain ⟨a1, a2⟩ := p_2e f c (hc 0) 0 (2 ^ (k + 1) * q + 2 ^ k)
    obtain ⟨b1, b2⟩ := p_2e f c (hc 0) 0 (2 ^ (k + 1) * q)
    have d := dr_2e f c (hc 0) (2 ^ (k + 1) * q)
    rw [if_neg (by omega), Int.add_zero] at d
    rw [a1, a2, b1, b2, d, i1, i2, ax_s]
    generalize fh_px (fh_pl 2 f fun j => c (j + 1)) 0 (2 ^ (k + 1) * q) = X
    generalize fh_py (fh_pl 2 f fun j => c (j + 1)) 0 (2 ^ (k + 1) * q) = Y
    generalize (fh_ax 2 (fun j => c (j + 1)) k).1 = A
    generalize (fh_ax 2 (fun j => c (j + 1)) k).2 = B
    rcases u_cases (fh_dr (fh_pl 2 f fun j => c (j + 1)) (2 ^ (k + 1) * q)) with ⟨_, h1, h2⟩ | ⟨_, h1, h2⟩ | ⟨_, h1, h2⟩ | ⟨_, h1, h2⟩ <;> rcases sg_or (c 0) with h3 | h3 <;> simp only [h1, h2, h3, show (if (2 : Nat) = 3 then (2 : Int) else 1) = 1 from rfl] <;> omega
theorem piece_3 : ∀ (k f : Nat) (c : Nat → Nat) (q : Nat), (∀ j, c j ≤ 1) → k ≤ f → fh_px (fh_pl 3 f c) 0 (3 ^ k * q + 3 ^ k) = fh_px (fh_pl 3 f c) 0 (3 ^ k * q) + (fh_ux (fh_dr (fh_pl 3 f c) (3 ^ k * q)) * (fh_ax 3 c k).1 - fh_uy (fh_dr (fh_pl 3 f c) (3 ^ k * q)) * (fh_ax 3 c k).2) ∧ fh_py (fh_pl 3 f c) 0 (3 ^ k * q + 3 ^ k) = fh_py (fh_pl 3 f c) 0 (3 ^ k * q) + (fh_uy (fh_dr (fh_pl 3 f c) (3 ^ k * q)) * (fh_ax 3 c k).1 + fh_ux (fh_dr (fh_pl 3 f c) (3 ^ k * q)) * (fh_ax 3 c k).2)
  | 0, f, c, q, hc, _ => by
    rw [Nat.pow_zero, px_0, py_0]
    show _ = _ + (_ * (1 : Int) - _ * 0) ∧ _ = _ + (_ * (1 : Int) + _ * 0)
    omega
  | k + 1, 0, c, q, _, h => absurd h (by omega)
  | k + 1, f + 1, c, q, hc, h => by
    obtain ⟨i1, i2⟩ := piece_3 k f (fun j => c (j + 1)) q (fun j => hc (j + 1)) (by omega)
    have eG : 3 ^ (k + 1) * q = 3 * (3 ^ k * q) := by rw [Nat.pow_succ', Nat.mul_assoc]
    have eP : 3 ^ (k + 1) * q + 3 ^ (k + 1) = 3 * (3 ^ k * q + 3 ^ k) := by rw [eG, Nat.pow_succ']; omega
    rw [eP, eG]
    obtain ⟨a1, a2⟩ := p_3e f c (hc 0) 0 (3 ^ k * q + 3 ^ k)
    obtain ⟨b1, b2⟩ := p_3e f c (hc 0) 0 (3 ^ k * q)
    have d := dr_3e f c (hc 0) (3 ^ k * q)
    rw [a1, a2, b1, b2, d, i1, i2, ax_s]
    generalize fh_px (fh_pl 3 f fun j => c (j + 1)) 0 (3 ^ k * q) = X
    generalize fh_py (fh_pl 3 f fun j => c (j + 1)) 0 (3 ^ k * q) = Y
    generalize (fh_ax 3 (fun j => c (j + 1)) k).1 = A
    generalize (fh_ax 3 (fun j => c (j + 1)) k).2 = B
    rcases u_cases (fh_dr (fh_pl 3 f fun j => c (j + 1)) (3 ^ k * q)) with ⟨_, h1, h2⟩ | ⟨_, h1, h2⟩ | ⟨_, h1, h2⟩ | ⟨_, h1, h2⟩ <;> rcases sg_or (c 0) with h3 | h3 <;> simp only [h1, h2, h3, if_true] <;> omega
theorem er_2 : ∀ (k f : Nat) (c : Nat → Nat) (q : Nat), (∀ j, c j ≤ 1) → k ≤ f → fh_dr (fh_pl 2 f c) (2 ^ (k + 1) * q + (2 ^ k - 1)) = fh_dr (fh_pl 2 f c) (2 ^ (k + 1) * q) + fh_er 2 c k
  | 0, f, c, q, hc, _ => by
    rw [Nat.pow_zero, Nat.sub_self, Nat.add_zero]
    show _ = _ + (0 : Int)
    rw [Int.add_zero]
  | k + 1, 0, c, q, _, h => absurd h (by omega)
  | 1, f + 1, c, q, hc, h => by
    rw [show 2 ^ (1 + 1) * q + (2 ^ 1 - 1) = 2 * (2 * q) + 1 by omega, show 2 ^ (1 + 1) * q = 2 * (2 * q) by omega, dr_2o f c (hc 0), dr_2e f c (hc 0), if_pos (by omega), if_neg (by omega)]
    show _ = _ + fh_sg (c 0)
    omega
  | k + 1 + 1, f + 1, c, q, hc, h => by
    have ih := er_2 (k + 1) f (fun j => c (j + 1)) q (fun j => hc (j + 1)) (by omega)
    have hp := Nat.two_pow_pos k
    have e2 : 2 ^ (k + 1) = 2 * 2 ^ k := Nat.pow_succ'
    have e3 : 2 ^ (k + 1 + 1) = 2 * 2 ^ (k + 1) := Nat.pow_succ'
    have e4 : 2 ^ (k + 1 + 1 + 1) * q = 2 * (2 ^ (k + 1 + 1) * q) := by rw [Nat.pow_succ' (n := k + 1 + 1), Nat.mul_assoc]
    have e5 : 2 ^ (k + 1 + 1) * q = 4 * (2 ^ k * q) := by rw [e3, e2, ← Nat.mul_assoc, Nat.mul_assoc]
    rw [dr_2 f c (hc 0), dr_2 f c (hc 0), if_neg (by omega), if_neg (by omega), show (2 ^ (k + 1 + 1 + 1) * q + (2 ^ (k + 1 + 1) - 1)) / 2 = 2 ^ (k + 1 + 1) * q + (2 ^ (k + 1) - 1) by omega, show 2 ^ (k + 1 + 1 + 1) * q / 2 = 2 ^ (k + 1 + 1) * q by omega, ih]
    show _ + fh_sg (c (k + 1)) + 0 = _ + 0 + fh_sg (c (k + 1))
    omega
theorem er_3 : ∀ (k f : Nat) (c : Nat → Nat) (q : Nat), (∀ j, c j ≤ 1) → k ≤ f → fh_dr (fh_pl 3 f c) (3 ^ k * q + (3 ^ k - 1)) = fh_dr (fh_pl 3 f c) (3 ^ k * q) + fh_er 3 c k
  | 0, f, c, q, hc, _ => by
    rw [Nat.pow_zero, Nat.sub_self, Nat.add_zero]
    show _ = _ + (0 : Int)
    rw [Int.add_zero]
  | k + 1, 0, c, q, _, h => absurd h (by omega)
  | k + 1, f + 1, c, q, hc, h => by
    have ih := er_3 k f (fun j => c (j + 1)) q (fun j => hc (j + 1)) (by omega)
    have hp : 0 < 3 ^ k := Nat.pow_pos (by omega)
    have e2 : 3 ^ (k + 1) = 3 * 3 ^ k := Nat.pow_succ'
    have e4 : 3 ^ (k + 1) * q = 3 * (3 ^ k * q) := by rw [e2, Nat.mul_assoc]
    rw [dr_3 f c (hc 0), dr_3 f c (hc 0), if_neg (by omega), if_neg (by omega), show (3 ^ (k + 1) * q + (3 ^ (k + 1) - 1)) / 3 = 3 ^ k * q + (3 ^ k - 1) by omega, show 3 ^ (k + 1) * q / 3 = 3 ^ k * q by omega, ih]
    have : fh_er 3 (fun j => c (j + 1)) k = 0 := by cases k <;> rfl
    rw [this]
    show _ + 0 + 0 = _ + 0 + (0 : Int)
    omega
