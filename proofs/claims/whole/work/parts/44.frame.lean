/-! cells that a call doesn't see; new cells; cells in another order -/
theorem ap_l {wl ws wr : va_W} {k : Nat} {q : Nat × va_E} (h : wl[k]? = some q) : (wl ++ (ws ++ wr))[k]? = some q := by
  rw [List.getElem?_append_left (List.getElem?_eq_some_iff.mp h).1]
  exact h
theorem ap_mid {wl ws wr : va_W} {k : Nat} {q : Nat × va_E} (h : ws[k]? = some q) : (wl ++ (ws ++ wr))[wl.length + k]? = some q := by
  rw [List.getElem?_append_right (by omega), Nat.add_sub_cancel_left, List.getElem?_append_left (List.getElem?_eq_some_iff.mp h).1]
  exact h
theorem ap_r {wl ws wr : va_W} {k : Nat} {q : Nat × va_E} (h : wr[k]? = some q) : (wl ++ (ws ++ wr))[wl.length + (ws.length + k)]? = some q := by
  rw [List.getElem?_append_right (by omega), Nat.add_sub_cancel_left, List.getElem?_append_right (by omega), Nat.add_sub_cancel_left]
  exact h
theorem ap_lt {ws : va_W} {k : Nat} {q : Nat × va_E} (h : ws[k]? = some q) : k < ws.length := (List.getElem?_eq_some_iff.mp h).1
theorem gZ.narrow {z : gE} {A B : Nat → Prop} {U : State} {H : Heap} (h : gZ z A U H) (hB : ∀ q, B q → A q) : gZ z B U H :=
  ⟨h.1.narrow hB, h.2.1.narrow hB, h.2.2.1.narrow hB, h.2.2.2.1.narrow hB, h.2.2.2.2.1, h.2.2.2.2.2.1.elim (fun h => Or.inl (h.narrow hB)) (fun ⟨t, h⟩ => Or.inr ⟨t, h.narrow hB⟩), h.2.2.2.2.2.2⟩
theorem ct_frame {y : MethodName} {cc : ByteArray} {nL : Nat} {ret : Option FieldType} {rm : Room} {D : gD} {tys : List (ClassId × FieldType)} {mc ms : Nat} {As : List Value} {ws : va_W} {Post : Option Value → va_W → Prop} (h : Ct y cc nL ret rm D tys mc ms As ws Post) (wl wr : va_W) : Ct y cc nL ret rm D tys mc ms As (wl ++ (ws ++ wr)) (fun v w => ∃ w1, Post v w1 ∧ w = wl ++ (w1 ++ wr)) := by
  intro l sz
  have hM := h l sz
  intro p e ha hc hk s m args below hf happ hP hK
  obtain ⟨hargs, hsz, hP0, hKK, hD, hZ⟩ := hP
  have hPs : va_P D.1 vwCl ws s.heap := fun k q hq => hP0 _ q (ap_mid hq)
  have hDs : va_D (fun _ => True) ws := ⟨fun i j p q hi hj e => by
    have := hD.1 _ _ _ _ (ap_mid hi) (ap_mid hj) e
    omega, fun _ _ _ => trivial⟩
  have hsub : ∀ q, va_A ws sz q → va_A (wl ++ (ws ++ wr)) sz q := fun q hq => hq.elim (fun ⟨k, e, h⟩ => Or.inl ⟨_, e, ap_mid h⟩) Or.inr
  obtain ⟨n, o, h1, h2, h3, ⟨⟨v, w1, ho, hpost, hP1, hK1, hD1⟩, hF⟩, L, hFE, hL⟩ := hM p e ha hc hk s m args below hf happ ⟨hargs, hsz, hPs, hKK, hDs, hZ.narrow hsub⟩ hK
  have outl : ∀ (k : Nat) (q : Nat × va_E), wl[k]? = some q → ¬ va_A ws sz q.1 := by
    intro k q hq hA
    rcases hA with ⟨j, e, hj⟩ | hA
    · have h1 := hD.1 _ _ _ _ (ap_l (ws := ws) (wr := wr) hq) (ap_mid hj) rfl
      have h2 := ap_lt hq
      omega
    · have h1 := (hP0 _ _ (ap_l hq)).lt
      rw [hsz] at h1
      omega
  have outr : ∀ (k : Nat) (q : Nat × va_E), wr[k]? = some q → ¬ va_A ws sz q.1 := by
    intro k q hq hA
    rcases hA with ⟨j, e, hj⟩ | hA
    · have h1 := hD.1 _ _ _ _ (ap_r (wl := wl) (ws := ws) hq) (ap_mid hj) rfl
      have h2 := ap_lt hj
      omega
    · have h1 := (hP0 _ _ (ap_r hq)).lt
      rw [hsz] at h1
      omega
  have pl : va_P D.1 vwCl wl (stepsAlone p.tables e n s).heap := fun k q hq => (hP0 _ q (ap_l hq)).kept (hF.2 q.1 (hP0 _ _ (ap_l hq)).lt (outl k q hq))
  have pr : va_P D.1 vwCl wr (stepsAlone p.tables e n s).heap := fun k q hq => (hP0 _ q (ap_r hq)).kept (hF.2 q.1 (hP0 _ _ (ap_r hq)).lt (outr k q hq))
  have dl : va_D (va_A (wl ++ (ws ++ wr)) sz) wl := ⟨fun i j p q hi hj e => hD.1 _ _ _ _ (ap_l (ws := ws) (wr := wr) hi) (ap_l hj) e, fun k q hq => Or.inl ⟨k, q.2, ap_l hq⟩⟩
  have dr : va_D (va_A (wl ++ (ws ++ wr)) sz) wr := ⟨fun i j p q hi hj e => by
    have := hD.1 _ _ _ _ (ap_r (wl := wl) (ws := ws) hi) (ap_r hj) e
    omega, fun k q hq => Or.inl ⟨_, q.2, ap_r hq⟩⟩
  have d1 : va_D (va_A (wl ++ (ws ++ wr)) sz) w1 := hD1.weaken (fun _ q _ hq => hsub _ hq)
  have x1 : ∀ (i j : Nat) (p q : Nat × va_E), w1[i]? = some p → wr[j]? = some q → p.1 ≠ q.1 := fun i j p q hi hj e => outr j q hj (e ▸ hD1.2 i p hi)
  have x2 : ∀ (i j : Nat) (p q : Nat × va_E), wl[i]? = some p → (w1 ++ wr)[j]? = some q → p.1 ≠ q.1 := by
    intro i j p q hi hj e
    rcases Nat.lt_or_ge j w1.length with c | c
    · rw [List.getElem?_append_left c] at hj
      exact outl i p hi (e ▸ hD1.2 j q hj)
    · rw [List.getElem?_append_right c] at hj
      have h1 := hD.1 _ _ _ _ (ap_l (ws := ws) (wr := wr) hi) (ap_r hj) e
      have h2 := ap_lt hi
      omega
  exact ⟨n, o, h1, h2, h3, ⟨⟨v, wl ++ (w1 ++ wr), ho, ⟨w1, hpost, rfl⟩, pl.app (hP1.app pr), hK1, dl.app (d1.app dr x1) x2⟩, hF.1, fun q h1 h2 => hF.2 q h1 (fun h => h2 (hsub q h))⟩, L, hFE, fun q hq => hsub _ (hL q hq)⟩
theorem ra_one {s : State} {c1 c2 : ClassId} {ty : FieldType} (h1 : va_RA s c1 ty) (h2 : va_RA s c2 ty) : c1 = c2 := by
  cases ty with
  | object C =>
    obtain ⟨_, _, _, _, _, a⟩ := h1
    obtain ⟨_, _, _, _, _, b⟩ := h2
    exact Option.some.inj (a.symm.trans b)
  | _ => exact Option.some.inj (Eq.trans (Eq.symm h1) h2)
section NEWC
variable {Γ : gT} {cc : ByteArray} {own : String} {nL : Nat} {D : gD} {ca : Nat → ClassId} {tys : List (ClassId × FieldType)} {rm : Room} {ret : Option FieldType} {mc ms : Nat} {Post : Option Value → va_W → Prop} {cn sn pc : Nat} {lv : List (Nat × Value)} {st : List Value} {ws : va_W}
theorem g_newa (C0 : Cx Γ cc own nL D (tyW ca) rm ret mc ms Post) {atype : ArrayType} {ty : FieldType} (hty : newarray.typeOf atype = ty) (harr : Cond.arrayClass ty ∈ tb) (t0 : Nat) {cA : ClassId} (ht : (tyW ca)[t0]? = some (cA, ty)) {n : Int32} {N : Nat} {a0 : vp_A} (ha : ∀ cA : ClassId, vp_cell cA a0 = arrV cA N (fun _ => defaultValue ty)) (hn : ¬ n < 0) (hN : n.toNatClampNeg = N) (hb1 : N * componentBytes ty ≤ 536870912) (h1 : cn + 1 ≤ rm.cells) (h2 : sn + N ≤ rm.slots) (hd : decode cc pc = .ok (.newarray atype, 2)) (kk : ∀ q : Nat, G Γ (cn + 1) (sn + N) (pc + 2) lv (.ref q :: st) (ws ++ [(q, .inl (cA, a0))])) : G Γ cn sn pc lv (.int n :: st) ws := by
  obtain ⟨p, l, e, R', s, m, args, below, meth, c, nL', D', A, Q⟩ := Γ
  obtain ⟨rfl, rfl, hx, hb, hml, hown, hlk, hts, hK, hA, rfl, hrr, rfl⟩ := C0
  intro H locs ls hP hD hS hl
  subst hty
  refine va_newa hx hb (hts _ harr) rfl hK hP hD hS hA.1 ha hn hN hb1 h1 h2 hd (fun q cB H1 hK1 hP1 hD1 hS1 => ?_)
  obtain rfl : cB = cA := ra_one (hK1.2 5 (cB, _) rfl).2 (hK.2 t0 _ ht).2
  exact kk q H1 locs ls hP1 hD1 hS1 hl
theorem g_newq (C0 : Cx Γ cc own nL D (tyW ca) rm ret mc ms Post) {C : String} {index : Nat} (hcl : Cond.classLink own index C ∈ tb) (t0 : Nat) (hC : (C = "FoldedInHalf$Strip" ∧ t0 = 3) ∨ (C = "FoldedInHalf$Shelf" ∧ t0 = 4)) {n : Int32} {N : Nat} (hn : ¬ n < 0) (hN : n.toNatClampNeg = N) (hb1 : N * 4 ≤ 536870912) (h1 : cn + 1 ≤ rm.cells) (h2 : sn + N ≤ rm.slots) (hd : decode cc pc = .ok (.anewarray index, 3)) (kk : ∀ q : Nat, G Γ (cn + 1) (sn + N) (pc + 3) lv (.ref q :: st) (ws ++ [(q, .inl (ca t0, N, .inr (.inr (.inr (.inr (fun _ => none))))))])) : G Γ cn sn pc lv (.int n :: st) ws := by
  obtain ⟨p, l, e, R', s, m, args, below, meth, c, nL', D', A, Q⟩ := Γ
  obtain ⟨rfl, rfl, hx, hb, hml, hown, hlk, hts, hK, hA, rfl, hrr, rfl⟩ := C0
  intro H locs ls hP hD hS hl
  have hover : va_AO C s := by
    rcases hC with ⟨rfl, _⟩ | ⟨rfl, _⟩
    · exact hA.2.2.2.2.2.2.2.2.2.1
    · exact hA.2.2.2.2.2.2.2.2.2.2
  have ht : (tyW ca)[t0]? = some (ca t0, .object C) := by
    rcases hC with ⟨rfl, rfl⟩ | ⟨rfl, rfl⟩ <;> rfl
  refine va_newq hx hb hown (hts _ hcl) hover hK hP hD hS hA.1 hn hN hb1 h1 h2 hd (fun q cB H1 hK1 hP1 hD1 hS1 => ?_)
  obtain rfl : cB = ca t0 := ra_one (hK1.2 5 (cB, _) rfl).2 (hK.2 t0 _ ht).2
  exact kk q H1 locs ls hP1 hD1 hS1 hl
theorem g_newo (C0 : Cx Γ cc own nL D tys rm ret mc ms Post) {C : String} {T : u_T} {N ci index : Nat} (hin : ∀ w ∈ u_ws C T N, w ∈ tb) (ty : Nat → FieldType) (hty : ∀ k, k < N → parseFieldDescriptor (T k).2.2.1 = some (ty k)) (hcl : Cond.classLink own index C ∈ tb) (hinst : Cond.instantiable C N ∈ tb) (hini : Cond.initialized C ∈ tb) (hc : vwCl[ci]? = some (C, T, N)) {fs : List Value} (hfs : ∀ j, j < N → defaultValue (ty j) = vp_V fs j) (h1 : cn + 1 ≤ rm.cells) (h2 : sn + N ≤ rm.slots) (hd : decode cc pc = .ok (.new index, 3)) (kk : ∀ q : Nat, G Γ (cn + 1) (sn + N) (pc + 3) lv (.ref q :: st) (ws ++ [(q, .inr (ci, fs))])) : G Γ cn sn pc lv st ws := by
  obtain ⟨p, l, e, R', s, m, args, below, meth, c, nL', D', A, Q⟩ := Γ
  obtain ⟨rfl, rfl, hx, hb, hml, hown, hlk, hts, hK, hA, rfl, hrr, rfl⟩ := C0
  intro H locs ls hP hD hS hl
  exact va_new hx hb hts hin ty hty hown (hts _ hcl) (hts _ hinst) (hts _ hini) hK hP hD hS hA.1 hc hfs h1 h2 hd (fun q H1 hP1 hD1 hS1 => kk q H1 locs ls hP1 hD1 hS1 hl)
theorem g_putF (C0 : Cx Γ cc own nL D tys rm ret mc ms Post) (hg : gIn Γ) {ref C : String} {T : u_T} {N ci index a : Nat} (hin : ∀ w ∈ u_ws C T N, w ∈ tb) (ty0 : Nat → FieldType) (hty : ∀ k, k < N → parseFieldDescriptor (T k).2.2.1 = some (ty0 k)) (hnm : ∀ a, a < N → ∀ b, b < N → a ≠ b → (T a).2.1 ≠ (T b).2.1) (q0 : Nat) {fs : List Value} (he : ws[q0]? = some (a, .inr (ci, fs))) (hc : vwCl[ci]? = some (C, T, N)) (kf : Nat) (hk : kf < N) (hw : Cond.fieldLink own index ref (T kf).2.1 (T kf).2.2.1 ∈ tb) (hsame : ∀ (args : Array Value) (s : State), (∀ w ∈ tb, w.before args s = true) → ∀ x, s.fieldFound? (T kf).1 (T kf).2.1 (T kf).2.2.1 = some x → s.fieldFound? ref (T kf).2.1 (T kf).2.2.1 = some x) (hfin : (T kf).2.2.2 = true) (hdecl : (T kf).1 = own) {ty : FieldType} {v : Value} (hdz : parseFieldDescriptor (T kf).2.2.1 = some ty) (hn : narrow ty v = v) (hfit : fits ty v = true) (hl0 : kf < fs.length) (hd : decode cc pc = .ok (.putfield index, 3)) (ws' : va_W) (hws : ws.set q0 (a, .inr (ci, fs.set kf v)) = ws') (k : G Γ cn sn (pc + 3) lv st ws') : G Γ cn sn pc lv (v :: .ref a :: st) ws := by
  obtain ⟨p, l, e, R', s, m, args, below, meth, c, nL', D', A, Q⟩ := Γ
  obtain ⟨rfl, rfl, hx, hb, hml, hown, hlk, hts, hK, hA, rfl, hrr, rfl⟩ := C0
  subst hws
  intro H locs ls hP hD hS hl
  exact va_putF hx hb hts hin ty0 hty hnm hown hK hP hD hS q0 he hc kf hk (hts _ hw) (hsame args s hts) hfin hg hdecl hdz hn hfit hl0 hd (fun H1 locs1 hP hD hS => k H1 locs1 ls hP hD hS hl)
theorem g_aastN (C0 : Cx Γ cc own nL D tys rm ret mc ms Post) (q0 t0 qk ci : Nat) {a : Nat} {cA : ClassId} {r : vw_C} {n v : Nat} {vs : List Value} {f : Nat → Option Nat} (ha : ws[q0]? = some (a, .inl (cA, n, .inr (.inr (.inr (.inr f)))))) (ht : tys[t0]? = some (cA, .object r.1)) (hv : ws[qk]? = some (v, .inr (ci, vs))) (hc : vwCl[ci]? = some r) {i : Int32} (hin : vp_in i n) (hd : decode cc pc = .ok (.aastore, 1)) (ws' : va_W) (hw : ws.set q0 (a, .inl (cA, n, .inr (.inr (.inr (.inr (va_up f i.toNatClampNeg (some v))))))) = ws') (k : G Γ cn sn (pc + 1) lv st ws') : G Γ cn sn pc lv (.ref v :: .int i :: .ref a :: st) ws := by
  obtain ⟨p, l, e, R', s, m, args, below, meth, c, nL', D', A, Q⟩ := Γ
  obtain ⟨rfl, rfl, hx, hb, hml, hown, hlk, hts, hK, hA, rfl, hrr, rfl⟩ := C0
  subst hw
  intro H locs ls hP hD hS hl
  exact va_astq hx hb hK hP hD hS q0 t0 qk ci ha ht hv hc hin hd (fun H1 locs1 hP hD hS => k H1 locs1 ls hP hD hS hl)
theorem g_sub {ws' : va_W} (is : List Nat) (hn : va_nd is = true) (h1 : is.filterMap (fun i => ws[i]?) = ws') (h2 : is.map (fun i => ws[i]?) = ws'.map some) (k : G Γ cn sn pc lv st ws') : G Γ cn sn pc lv st ws := by
  obtain ⟨p, l, e, R', s, m, args, below, meth, c, nL', D', A, Q⟩ := Γ
  intro H locs ls hP hD hS hl
  exact k H locs ls (hP.sub is h1) (hD.sub is hn h2) hS hl
/-- a private constructor of a nest mate -/
theorem g_callIN {y : MethodName} {bytes : ByteArray} {maxL index c1 s1 b n : Nat} {rm' : Room} {As : List Value} {Post' : Option Value → va_W → Prop} (C0 : Cx Γ cc own nL D tys rm ret mc ms Post) (hc : Ct y bytes maxL none rm' D tys c1 s1 (.ref b :: As) ws Post') {host : String} (hq : (own, index, y, host) ∈ gns) (hw1 : Cond.initialized y.cls ∈ tb) (hw3 : Cond.instanceMethod y ∈ tb) (hw4 : Cond.code y bytes maxL none ∈ tb) (hy1 : y.name = "<init>") (hd0 : y.cls ≠ "java/lang/invoke/MethodHandle" ∧ y.cls ≠ "java/lang/invoke/VarHandle" ∧ (parseMethodDescriptor y.desc).map (fun d => d.parameters.length) = some n)
    (hr : gRm rm' rm maxL c1 s1 cn sn) (hn : As.length = n) (hst : (st.map fun v => v.category).sum ≤ 8) (st0 : List Value) (hs0 : st0 = As.reverse ++ .ref b :: st) (hd : decode cc pc = .ok (.invokespecial index, 3))
    (k : ∀ (v : Option Value) (ws' : va_W), Post' v ws' → G Γ (cn + c1) (sn + s1) (pc + 3) lv (v.toList ++ st) ws') : G Γ cn sn pc lv st0 ws := by
  obtain ⟨p, l, e, R', s, m, args, below, meth, c, nL', D', A, Q⟩ := Γ
  obtain ⟨rfl, rfl, hx, hb, hml, hown, hlk, hts, hK, hA, rfl, hrr, rfl⟩ := C0
  obtain ⟨hr1, hr2, hr3, hr4, hr5⟩ := hr
  subst hs0
  intro H locs ls hP hD hS hl
  have hF := gc_free hD hS hA.1
  refine gc_ans (va_runIN (As := As) (rest := st) ⟨hx, hb, hml, hown, hts⟩ (hc l H.size) ⟨va_cnB n hts (gi_cons hw4 gi_tb) rfl hr1 hr2 (hA.2.2.2.2.2.2.2.2.1 _ hq) (hts _ hw1) hd0 hr3, hy1, hts _ hw3⟩ ⟨gc_blind, fun U hU hW => ⟨rfl, by rw [hU], by rw [hU]; exact hP, va_K.moved hW.alike hK, hD.weaken (fun _ _ _ _ => trivial), by rw [hU]; exact hA.2.go hW hS.2.1 hF⟩⟩ rfl hn hl.1 rfl (gc_room hst) hd ⟨hr4, hr5⟩) hS (fun q _ h => hF q h) hF (fun v ws' H1 locs1 hq hP1 hD1 hz hk hS1 => ?_)
  exact k v ws' hq H1 locs1 ls hP1 (hD1.weaken (fun _ q _ h => hF q.1 h)) hS1 hl
end NEWC
