/-! calls: the callee's cells are all the caller's cells (no frame), or those at one side -/
section GC1
variable {p : Program} {l : Launch} {e : Env} {R : Room} {s : State} {m : MethodId} {args : Array Value} {below : List Frame} {meth : Method} {c : Code} {H : Heap} {locs : List Loc} {cells slots : Nat} {Q : State → Prop}
variable {pc : Nat} {ls : Array Slot} {rest st0 : List Value} {a : Array Value} {A0 A1 : Nat → Prop} {H0 : Heap} {mc ms : Nat} {free : Addr → Prop} {D : gD} {tys : List (ClassId × FieldType)} {Post : Option Value → va_W → Prop}
theorem gc_ans (hr : va_Run p l e R s m args below meth c H locs cells slots mc ms (F0 m pc ls st0) rest (gQ D tys A1 Post a) free) (hS : va_S A0 H0 H locs) (hA : ∀ q, q < H.size → A1 q → A0 q) (hf : ∀ q, free q → A0 q)
    (kk : ∀ (v : Option Value) (ws : va_W) (H1 : Heap) (locs1 : List Loc), Post v ws → va_P D.1 vwCl ws H1 → va_D A1 ws → H.size ≤ H1.size → (∀ q : Nat, q < H.size → ¬ A1 q → H1[q]? = H[q]?) → va_S A0 H0 H1 locs1 → W p l e R s m args below meth c H1 locs1 (cells + mc) (slots + ms) Q (F0 m (pc + 3) ls (v.toList ++ rest))) : W p l e R s m args below meth c H locs cells slots Q (F0 m pc ls st0) := by
  intro T hT X
  obtain ⟨v, st₀, t, T', L, h0, X', hL, e1, e2, ⟨⟨v', ws, hv, hp, hb, hK, hD⟩, hz, hk⟩, st⟩ := hr T hT X
  cases hv
  rw [h0] at hz hk
  obtain ⟨t2, a1, b1⟩ := kk v ws T'.heap (locs ++ L) hp (by rw [e1]; exact hb) hD (by rw [e1]; exact hz) (fun q h1 h2 => by rw [e1]; exact hk q h1 h2)
    ⟨Nat.le_trans hS.1 (by rw [e1]; exact hz), fun q h1 h2 => by rw [e1, hk q (Nat.lt_of_lt_of_le h1 hS.1) (fun z => h2 (hA q (Nat.lt_of_lt_of_le h1 hS.1) z))]; exact hS.2.1 q h1 h2, fun q hq => by
      rcases List.mem_append.mp hq with h | h
      · exact hS.2.2 q h
      · exact hf _ (hL q h)⟩ T' rfl X'
  exact ⟨t2, st t2 a1, b1⟩
end GC1
theorem gc_blind {D : gD} {tys : List (ClassId × FieldType)} {sz : Nat} {ws : va_W} {As : List Value} : FrameBlind (va_Pc As (fun U => U.heap.size = sz ∧ va_P D.1 vwCl ws U.heap ∧ va_K D.1 vwCl tys U ∧ va_D (fun _ => True) ws ∧ gZ D.2 (va_A ws sz) U U.heap)) :=
  fun a U g mk q => by obtain ⟨q0, q1, qP, qK, qD, qZ⟩ := q; exact ⟨q0, q1, qP, va_K.moved (u := U) (U := U.calling g mk a) (Vm.Alike.refl U.vm) qK, qD, qZ.calling⟩
theorem gc_free {A0 : Nat → Prop} {ws : va_W} {H0 H : Heap} {locs : List Loc} (hD : va_D A0 ws) (hS : va_S A0 H0 H locs) (hA : ∀ q, H0.size ≤ q → A0 q) : ∀ q, va_A ws H.size q → A0 q := by
  intro q h
  rcases h with ⟨k, e, h⟩ | h
  · exact hD.2 k (q, e) h
  · exact hA q (Nat.le_trans hS.1 h)
section GC2
variable {Γ : gT} {cc : ByteArray} {own : String} {nL : Nat} {D : gD} {tys : List (ClassId × FieldType)} {rm : Room} {ret : Option FieldType} {mc ms : Nat} {Post : Option Value → va_W → Prop} {cn sn pc : Nat} {lv : List (Nat × Value)} {st : List Value} {ws : va_W}
variable {y x : MethodName} {bytes : ByteArray} {maxL index c1 s1 b n : Nat} {ret' : Option FieldType} {rm' : Room} {As : List Value} {Post' : Option Value → va_W → Prop} {C owner : String}
/-- what a call of a method of ours asks of the room -/
def gRm (rm' rm : Room) (maxL c1 s1 cn sn : Nat) : Prop := rm'.cells = c1 ∧ rm'.slots = s1 ∧ (rm'.frames + 1 ≤ rm.frames ∧ 8 + (maxL + 11) + rm'.locals ≤ rm.locals) ∧ cn + c1 ≤ rm.cells ∧ sn + s1 ≤ rm.slots
theorem gc_room {cs : List Value} {m : MethodId} {ls : Array Slot} {z : List Value} (h : (cs.map fun v => v.category).sum ≤ 8) : 2 * (F0 m pc ls z).monitorRoom + (cs.map fun v => v.category).sum ≤ 8 := lv_room h
/-- a virtual call of a method of the receiver's own class (a private one too) -/
theorem g_callV (C0 : Cx Γ cc own nL D tys rm ret mc ms Post) (hc : Ct y bytes maxL ret' rm' D tys c1 s1 (.ref b :: As) ws Post') (n : Nat) (hG : GoodIn tb (wsV own index y.cls y (.code y bytes maxL ret' :: tb))) (hd0 : y.cls ≠ "java/lang/invoke/MethodHandle" ∧ y.cls ≠ "java/lang/invoke/VarHandle" ∧ (parseMethodDescriptor y.desc).map (fun d => d.parameters.length) = some n)
    (q0 ci : Nat) {fs : List Value} {T : u_T} {N : Nat} (he : ws[q0]? = some (b, .inr (ci, fs))) (hcl : vwCl[ci]? = some (y.cls, T, N)) (hr : gRm rm' rm maxL c1 s1 cn sn) (hn : As.length = n) (hst : (st.map fun v => v.category).sum ≤ 8) (st0 : List Value) (hs0 : st0 = As.reverse ++ .ref b :: st) (hd : decode cc pc = .ok (.invokevirtual index, 3))
    (k : ∀ (v : Option Value) (ws' : va_W), Post' v ws' → G Γ (cn + c1) (sn + s1) (pc + 3) lv (v.toList ++ st) ws') : G Γ cn sn pc lv st0 ws := by
  obtain ⟨p, l, e, R, s, m, args, below, meth, c, nL', D', A, Q⟩ := Γ
  obtain ⟨rfl, rfl, hx, hb, hml, hown, hlk, hts, hK, hA, rfl, hrr, rfl⟩ := C0
  obtain ⟨hr1, hr2, hr3, hr4, hr5⟩ := hr
  subst hs0
  intro H locs ls hP hD hS hl
  have hF := gc_free hD hS hA.1
  refine gc_ans (va_runV (As := As) (rest := st) ⟨hx, hb, hml, hown, hts⟩ (hc l H.size) (cwV n hts hG rfl hr1 hr2 ⟨rfl, hd0⟩ hr3) ⟨gc_blind, va_recv hK hP hcl he, fun U hU hW => ⟨rfl, by rw [hU], by rw [hU]; exact hP, va_K.moved hW.alike hK, hD.weaken (fun _ _ _ _ => trivial), by rw [hU]; exact hA.2.go hW hS.2.1 hF⟩⟩ rfl hn hl.1 rfl (gc_room hst) hd ⟨hr4, hr5⟩) hS (fun q _ h => hF q h) hF (fun v ws' H1 locs1 hq hP1 hD1 hz hk hS1 => ?_)
  exact k v ws' hq H1 locs1 ls hP1 (hD1.weaken (fun _ q _ h => hF q.1 h)) hS1 hl
/-- a virtual call of an inherited method (va_wsU) or an overriding one (va_wsO): its words as va_CU -/
theorem g_callU (C0 : Cx Γ cc own nL D tys rm ret mc ms Post) (hc : Ct y bytes maxL ret' rm' D tys c1 s1 (.ref b :: As) ws Post') (n : Nat)
    (hcu : ∀ (R : Room) (s : State) (args : Array Value), (∀ w ∈ tb, w.before args s = true) → rm'.frames + 1 ≤ R.frames ∧ 8 + (maxL + 11) + rm'.locals ≤ R.locals → va_CU R s args own C owner index x y bytes maxL ret' (.code y bytes maxL ret' :: tb) rm' c1 s1 n)
    (q0 ci : Nat) {fs : List Value} {T : u_T} {N : Nat} (he : ws[q0]? = some (b, .inr (ci, fs))) (hcl : vwCl[ci]? = some (C, T, N)) (hr : gRm rm' rm maxL c1 s1 cn sn) (hn : As.length = n) (hst : (st.map fun v => v.category).sum ≤ 8) (st0 : List Value) (hs0 : st0 = As.reverse ++ .ref b :: st) (hd : decode cc pc = .ok (.invokevirtual index, 3))
    (k : ∀ (v : Option Value) (ws' : va_W), Post' v ws' → G Γ (cn + c1) (sn + s1) (pc + 3) lv (v.toList ++ st) ws') : G Γ cn sn pc lv st0 ws := by
  obtain ⟨p, l, e, R, s, m, args, below, meth, c, nL', D', A, Q⟩ := Γ
  obtain ⟨rfl, rfl, hx, hb, hml, hown, hlk, hts, hK, hA, rfl, hrr, rfl⟩ := C0
  obtain ⟨hr1, hr2, hr3, hr4, hr5⟩ := hr
  subst hs0
  intro H locs ls hP hD hS hl
  have hF := gc_free hD hS hA.1
  refine gc_ans (va_runU (As := As) (rest := st) ⟨hx, hb, hml, hown, hts⟩ (hc l H.size) (hcu R s args hts hr3) ⟨gc_blind, va_recv hK hP hcl he, fun U hU hW => ⟨rfl, by rw [hU], by rw [hU]; exact hP, va_K.moved hW.alike hK, hD.weaken (fun _ _ _ _ => trivial), by rw [hU]; exact hA.2.go hW hS.2.1 hF⟩⟩ rfl hn hl.1 rfl (gc_room hst) hd ⟨hr4, hr5⟩) hS (fun q _ h => hF q h) hF (fun v ws' H1 locs1 hq hP1 hD1 hz hk hS1 => ?_)
  exact k v ws' hq H1 locs1 ls hP1 (hD1.weaken (fun _ q _ h => hF q.1 h)) hS1 hl
/-- a static call -/
theorem g_callS (C0 : Cx Γ cc own nL D tys rm ret mc ms Post) (hc : Ct y bytes maxL ret' rm' D tys c1 s1 As ws Post') (n : Nat) (hG : GoodIn tb (va_wsS own index y (.code y bytes maxL ret' :: tb))) (hd0 : y.cls ≠ "java/lang/invoke/MethodHandle" ∧ y.cls ≠ "java/lang/invoke/VarHandle" ∧ (parseMethodDescriptor y.desc).map (fun d => d.parameters.length) = some n)
    (hr : gRm rm' rm maxL c1 s1 cn sn) (hn : As.length = n) (hst : (st.map fun v => v.category).sum ≤ 8) (st0 : List Value) (hs0 : st0 = As.reverse ++ st) (hd : decode cc pc = .ok (.invokestatic index, 3))
    (k : ∀ (v : Option Value) (ws' : va_W), Post' v ws' → G Γ (cn + c1) (sn + s1) (pc + 3) lv (v.toList ++ st) ws') : G Γ cn sn pc lv st0 ws := by
  obtain ⟨p, l, e, R, s, m, args, below, meth, c, nL', D', A, Q⟩ := Γ
  obtain ⟨rfl, rfl, hx, hb, hml, hown, hlk, hts, hK, hA, rfl, hrr, rfl⟩ := C0
  obtain ⟨hr1, hr2, hr3, hr4, hr5⟩ := hr
  subst hs0
  intro H locs ls hP hD hS hl
  have hF := gc_free hD hS hA.1
  refine gc_ans (va_runS (As := As) (rest := st) ⟨hx, hb, hml, hown, hts⟩ (hc l H.size) (va_cwS n hts hG rfl hr1 hr2 hd0 hr3) ⟨gc_blind, fun U hU hW => ⟨rfl, by rw [hU], by rw [hU]; exact hP, va_K.moved hW.alike hK, hD.weaken (fun _ _ _ _ => trivial), by rw [hU]; exact hA.2.go hW hS.2.1 hF⟩⟩ rfl hn hl.1 rfl (gc_room hst) hd ⟨hr4, hr5⟩) hS (fun q _ h => hF q h) hF (fun v ws' H1 locs1 hq hP1 hD1 hz hk hS1 => ?_)
  exact k v ws' hq H1 locs1 ls hP1 (hD1.weaken (fun _ q _ h => hF q.1 h)) hS1 hl
/-- a constructor -/
theorem g_callI (C0 : Cx Γ cc own nL D tys rm ret mc ms Post) (hc : Ct y bytes maxL none rm' D tys c1 s1 (.ref b :: As) ws Post') (n : Nat) (hw1 : Cond.initialized y.cls ∈ tb) (hw2 : Cond.methodLink own index y ∈ tb) (hw3 : Cond.instanceMethod y ∈ tb) (hw4 : Cond.code y bytes maxL none ∈ tb) (hy1 : y.name = "<init>") (hd0 : y.cls ≠ "java/lang/invoke/MethodHandle" ∧ y.cls ≠ "java/lang/invoke/VarHandle" ∧ (parseMethodDescriptor y.desc).map (fun d => d.parameters.length) = some n)
    (hr : gRm rm' rm maxL c1 s1 cn sn) (hn : As.length = n) (hst : (st.map fun v => v.category).sum ≤ 8) (st0 : List Value) (hs0 : st0 = As.reverse ++ .ref b :: st) (hd : decode cc pc = .ok (.invokespecial index, 3))
    (k : ∀ (v : Option Value) (ws' : va_W), Post' v ws' → G Γ (cn + c1) (sn + s1) (pc + 3) lv (v.toList ++ st) ws') : G Γ cn sn pc lv st0 ws := by
  obtain ⟨p, l, e, R, s, m, args, below, meth, c, nL', D', A, Q⟩ := Γ
  obtain ⟨rfl, rfl, hx, hb, hml, hown, hlk, hts, hK, hA, rfl, hrr, rfl⟩ := C0
  obtain ⟨hr1, hr2, hr3, hr4, hr5⟩ := hr
  subst hs0
  intro H locs ls hP hD hS hl
  have hF := gc_free hD hS hA.1
  refine gc_ans (va_runI (As := As) (rest := st) ⟨hx, hb, hml, hown, hts⟩ (hc l H.size) (cwI n hts (gi_cons hw4 gi_tb) rfl hr1 hr2 (hts _ hw1) (hts _ hw2) (hts _ hw3) hy1 hd0 hr3) ⟨gc_blind, fun U hU hW => ⟨rfl, by rw [hU], by rw [hU]; exact hP, va_K.moved hW.alike hK, hD.weaken (fun _ _ _ _ => trivial), by rw [hU]; exact hA.2.go hW hS.2.1 hF⟩⟩ rfl hn hl.1 rfl (gc_room hst) hd ⟨hr4, hr5⟩) hS (fun q _ h => hF q h) hF (fun v ws' H1 locs1 hq hP1 hD1 hz hk hS1 => ?_)
  exact k v ws' hq H1 locs1 ls hP1 (hD1.weaken (fun _ q _ h => hF q.1 h)) hS1 hl
/-- super.method(..) -/
theorem g_callSU (C0 : Cx Γ cc own nL D tys rm ret mc ms Post) (hc : Ct y bytes maxL ret' rm' D tys c1 s1 (.ref b :: As) ws Post') (n : Nat) (hG : GoodIn tb (va_wsSU own index y (.code y bytes maxL ret' :: tb))) (hd0 : y.name ≠ "<init>" ∧ (parseMethodDescriptor y.desc).map (fun d => d.parameters.length) = some n)
    (q0 ci : Nat) {fs : List Value} {T : u_T} {N : Nat} (he : ws[q0]? = some (b, .inr (ci, fs))) (hcl : vwCl[ci]? = some (C, T, N)) (hr : gRm rm' rm maxL c1 s1 cn sn) (hn : As.length = n) (hst : (st.map fun v => v.category).sum ≤ 8) (st0 : List Value) (hs0 : st0 = As.reverse ++ .ref b :: st) (hd : decode cc pc = .ok (.invokespecial index, 3))
    (k : ∀ (v : Option Value) (ws' : va_W), Post' v ws' → G Γ (cn + c1) (sn + s1) (pc + 3) lv (v.toList ++ st) ws') : G Γ cn sn pc lv st0 ws := by
  obtain ⟨p, l, e, R, s, m, args, below, meth, c, nL', D', A, Q⟩ := Γ
  obtain ⟨rfl, rfl, hx, hb, hml, hown, hlk, hts, hK, hA, rfl, hrr, rfl⟩ := C0
  obtain ⟨hr1, hr2, hr3, hr4, hr5⟩ := hr
  subst hs0
  intro H locs ls hP hD hS hl
  have hF := gc_free hD hS hA.1
  refine gc_ans (va_runSU (As := As) (rest := st) (hK.1 ci _ hcl).2 ⟨hx, hb, hml, hown, hts⟩ (hc l H.size) (va_cwSU n hts hG rfl hr1 hr2 hd0 hr3) ⟨gc_blind, va_recv hK hP hcl he, fun U hU hW => ⟨rfl, by rw [hU], by rw [hU]; exact hP, va_K.moved hW.alike hK, hD.weaken (fun _ _ _ _ => trivial), by rw [hU]; exact hA.2.go hW hS.2.1 hF⟩⟩ rfl hn hl.1 rfl (gc_room hst) hd ⟨hr4, hr5⟩) hS (fun q _ h => hF q h) hF (fun v ws' H1 locs1 hq hP1 hD1 hz hk hS1 => ?_)
  exact k v ws' hq H1 locs1 ls hP1 (hD1.weaken (fun _ q _ h => hF q.1 h)) hS1 hl
/-! answers -/
theorem g_ret_i (C0 : Cx Γ cc own nL D tys rm (some .int) mc ms Post) {r : Int32} (hd : decode cc pc = .ok (.ireturn, 1)) (h1 : cn ≤ mc) (h2 : sn ≤ ms) (h : Post (some (.int r)) ws) : G Γ cn sn pc lv [.int r] ws := by
  obtain ⟨p, l, e, R, s, m, args, below, meth, c, nL', D', A, Q⟩ := Γ
  obtain ⟨rfl, rfl, hx, hb, hml, hown, hlk, hts, hK, hA, rfl, hrr, rfl⟩ := C0
  intro H locs ls hP hD hS hl
  exact W.widen h1 h2 (W.iret hx hb hrr (fun t ht hW => ⟨⟨_, ws, rfl, h, by rw [ht]; exact hP, va_K.moved hW.alike hK, hD⟩, hS.F ht⟩) hS.2.2 hd hlk)
theorem bI_narrow (b : Bool) : narrow .boolean (.int (bI b)) = .int (bI b) := by cases b <;> rfl
theorem g_ret_z (C0 : Cx Γ cc own nL D tys rm (some .boolean) mc ms Post) {r : Int32} (b : Bool) (hb0 : r = bI b) (hd : decode cc pc = .ok (.ireturn, 1)) (h1 : cn ≤ mc) (h2 : sn ≤ ms) (h : Post (some (.int (bI b))) ws) : G Γ cn sn pc lv [.int r] ws := by
  obtain ⟨p, l, e, R, s, m, args, below, meth, c, nL', D', A, Q⟩ := Γ
  obtain ⟨rfl, rfl, hx, hb, hml, hown, hlk, hts, hK, hA, rfl, hrr, rfl⟩ := C0
  subst hb0
  intro H locs ls hP hD hS hl
  exact W.widen h1 h2 (W.zret hx hb hrr (bI_narrow b) (fun t ht hW => ⟨⟨_, ws, rfl, h, by rw [ht]; exact hP, va_K.moved hW.alike hK, hD⟩, hS.F ht⟩) hS.2.2 hd hlk)
theorem g_ret_n {ty : FieldType} (C0 : Cx Γ cc own nL D tys rm (some ty) mc ms Post) {r : Int32} (hn : narrow ty (.int r) = .int r) (hd : decode cc pc = .ok (.ireturn, 1)) (h1 : cn ≤ mc) (h2 : sn ≤ ms) (h : Post (some (.int r)) ws) : G Γ cn sn pc lv [.int r] ws := by
  obtain ⟨p, l, e, R, s, m, args, below, meth, c, nL', D', A, Q⟩ := Γ
  obtain ⟨rfl, rfl, hx, hb, hml, hown, hlk, hts, hK, hA, rfl, hrr, rfl⟩ := C0
  intro H locs ls hP hD hS hl
  exact W.widen h1 h2 (W.zret hx hb hrr hn (fun t ht hW => ⟨⟨_, ws, rfl, h, by rw [ht]; exact hP, va_K.moved hW.alike hK, hD⟩, hS.F ht⟩) hS.2.2 hd hlk)
theorem g_ret_v (C0 : Cx Γ cc own nL D tys rm none mc ms Post) (hd : decode cc pc = .ok (.return_, 1)) (h1 : cn ≤ mc) (h2 : sn ≤ ms) (h : Post none ws) : G Γ cn sn pc lv [] ws := by
  obtain ⟨p, l, e, R, s, m, args, below, meth, c, nL', D', A, Q⟩ := Γ
  obtain ⟨rfl, rfl, hx, hb, hml, hown, hlk, hts, hK, hA, rfl, hrr, rfl⟩ := C0
  intro H locs ls hP hD hS hl
  exact W.widen h1 h2 (W.vret hx hb hrr (fun t ht hW => ⟨⟨_, ws, rfl, h, by rw [ht]; exact hP, va_K.moved hW.alike hK, hD⟩, hS.F ht⟩) hS.2.2 hd hlk)
theorem g_ret_l (C0 : Cx Γ cc own nL D tys rm (some .long) mc ms Post) {r : Int64} (hd : decode cc pc = .ok (.lreturn, 1)) (h1 : cn ≤ mc) (h2 : sn ≤ ms) (h : Post (some (.long r)) ws) : G Γ cn sn pc lv [.long r] ws := by
  obtain ⟨p, l, e, R, s, m, args, below, meth, c, nL', D', A, Q⟩ := Γ
  obtain ⟨rfl, rfl, hx, hb, hml, hown, hlk, hts, hK, hA, rfl, hrr, rfl⟩ := C0
  intro H locs ls hP hD hS hl
  exact W.widen h1 h2 (W.lret hx hb hrr (fun t ht hW => ⟨⟨_, ws, rfl, h, by rw [ht]; exact hP, va_K.moved hW.alike hK, hD⟩, hS.F ht⟩) hS.2.2 hd hlk)
theorem g_ret_a (C0 : Cx Γ cc own nL D tys rm (some (.object C)) mc ms Post) {r : Nat} (hd : decode cc pc = .ok (.areturn, 1)) (h1 : cn ≤ mc) (h2 : sn ≤ ms) (h : Post (some (.ref r)) ws) : G Γ cn sn pc lv [.ref r] ws := by
  obtain ⟨p, l, e, R, s, m, args, below, meth, c, nL', D', A, Q⟩ := Γ
  obtain ⟨rfl, rfl, hx, hb, hml, hown, hlk, hts, hK, hA, rfl, hrr, rfl⟩ := C0
  intro H locs ls hP hD hS hl
  exact W.widen h1 h2 (W.aret hx hb hrr (Or.inl ⟨_, rfl⟩) (Or.inr ⟨_, rfl⟩) (fun t ht hW => ⟨⟨_, ws, rfl, h, by rw [ht]; exact hP, va_K.moved hW.alike hK, hD⟩, hS.F ht⟩) hS.2.2 hd hlk)
/-- fewer locals, more room -/
theorem g_weak {lv' : List (Nat × Value)} {cn' sn' : Nat} (ks : List Nat) (hs : lv_pick lv ks = lv') (h1 : cn ≤ cn') (h2 : sn ≤ sn') (k : G Γ cn' sn' pc lv' st ws) : G Γ cn sn pc lv st ws := by
  obtain ⟨p, l, e, R, s, m, args, below, meth, c, nL', D', A, Q⟩ := Γ
  intro H locs ls hP hD hS hl
  exact W.widen h1 h2 (k H locs ls hP hD hS (lv_sub hl ks hs))
theorem g_eqs {st' : List Value} {ws' : va_W} (e1 : st = st') (e2 : ws = ws') (k : G Γ cn sn pc lv st' ws') : G Γ cn sn pc lv st ws := by subst e1; subst e2; exact k
/-! arrays and fields, by their place -/
theorem g_iald (C0 : Cx Γ cc own nL D tys rm ret mc ms Post) (q0 t0 : Nat) {a : Nat} {cA : ClassId} {n : Nat} {f : Nat → Int32} (ha : ws[q0]? = some (a, .inl (cA, n, .inl f))) (ht : tys[t0]? = some (cA, .int)) {i : Int32} (hin : vp_in i n) (hd : decode cc pc = .ok (.iaload, 1)) (k : G Γ cn sn (pc + 1) lv (.int (f i.toNatClampNeg) :: st) ws) : G Γ cn sn pc lv (.int i :: .ref a :: st) ws := by
  obtain ⟨p, l, e, R, s, m, args, below, meth, c, nL', D', A, Q⟩ := Γ
  obtain ⟨rfl, rfl, hx, hb, hml, hown, hlk, hts, hK, hA, rfl, hrr, rfl⟩ := C0
  intro H locs ls hP hD hS hl
  exact va_iald hx hb hK hP q0 t0 ha ht hin hd (k H locs ls hP hD hS hl)
theorem g_lald (C0 : Cx Γ cc own nL D tys rm ret mc ms Post) (q0 t0 : Nat) {a : Nat} {cA : ClassId} {n : Nat} {f : Nat → Int64} (ha : ws[q0]? = some (a, .inl (cA, n, .inr (.inl f)))) (ht : tys[t0]? = some (cA, .long)) {i : Int32} (hin : vp_in i n) (hd : decode cc pc = .ok (.laload, 1)) (k : G Γ cn sn (pc + 1) lv (.long (f i.toNatClampNeg) :: st) ws) : G Γ cn sn pc lv (.int i :: .ref a :: st) ws := by
  obtain ⟨p, l, e, R, s, m, args, below, meth, c, nL', D', A, Q⟩ := Γ
  obtain ⟨rfl, rfl, hx, hb, hml, hown, hlk, hts, hK, hA, rfl, hrr, rfl⟩ := C0
  intro H locs ls hP hD hS hl
  exact va_lald hx hb hK hP q0 t0 ha ht hin hd (k H locs ls hP hD hS hl)
theorem g_bald (C0 : Cx Γ cc own nL D tys rm ret mc ms Post) (q0 t0 : Nat) {a : Nat} {cA : ClassId} {n : Nat} {f : Nat → Int32} (ha : ws[q0]? = some (a, .inl (cA, n, .inl f))) (ht : tys[t0]? = some (cA, .byte)) {i : Int32} (hin : vp_in i n) (hd : decode cc pc = .ok (.baload, 1)) (k : G Γ cn sn (pc + 1) lv (.int (f i.toNatClampNeg) :: st) ws) : G Γ cn sn pc lv (.int i :: .ref a :: st) ws := by
  obtain ⟨p, l, e, R, s, m, args, below, meth, c, nL', D', A, Q⟩ := Γ
  obtain ⟨rfl, rfl, hx, hb, hml, hown, hlk, hts, hK, hA, rfl, hrr, rfl⟩ := C0
  intro H locs ls hP hD hS hl
  exact va_bald hx hb hK hP q0 t0 ha ht hin hd (k H locs ls hP hD hS hl)
theorem g_aald (C0 : Cx Γ cc own nL D tys rm ret mc ms Post) (q0 t0 : Nat) {a : Nat} {cA : ClassId} {n : Nat} {f : Nat → Option Nat} (ha : ws[q0]? = some (a, .inl (cA, n, .inr (.inr (.inr (.inr f)))))) (ht : tys[t0]? = some (cA, .object C)) {i : Int32} (hin : vp_in i n) (hd : decode cc pc = .ok (.aaload, 1)) (k : G Γ cn sn (pc + 1) lv (va_rf (f i.toNatClampNeg) :: st) ws) : G Γ cn sn pc lv (.int i :: .ref a :: st) ws := by
  obtain ⟨p, l, e, R, s, m, args, below, meth, c, nL', D', A, Q⟩ := Γ
  obtain ⟨rfl, rfl, hx, hb, hml, hown, hlk, hts, hK, hA, rfl, hrr, rfl⟩ := C0
  intro H locs ls hP hD hS hl
  exact va_aldq hx hb hK hP q0 t0 ha ht hin hd (k H locs ls hP hD hS hl)
theorem g_iast (C0 : Cx Γ cc own nL D tys rm ret mc ms Post) (q0 t0 : Nat) {a : Nat} {cA : ClassId} {n : Nat} {f : Nat → Int32} (ha : ws[q0]? = some (a, .inl (cA, n, .inl f))) (ht : tys[t0]? = some (cA, .int)) {i x : Int32} (hin : vp_in i n) (hd : decode cc pc = .ok (.iastore, 1)) (ws' : va_W) (hw : ws.set q0 (a, .inl (cA, n, .inl (upd f i.toNatClampNeg x))) = ws') (k : G Γ cn sn (pc + 1) lv st ws') : G Γ cn sn pc lv (.int x :: .int i :: .ref a :: st) ws := by
  obtain ⟨p, l, e, R, s, m, args, below, meth, c, nL', D', A, Q⟩ := Γ
  obtain ⟨rfl, rfl, hx, hb, hml, hown, hlk, hts, hK, hA, rfl, hrr, rfl⟩ := C0
  subst hw
  intro H locs ls hP hD hS hl
  exact va_iast hx hb hK hP hD hS q0 t0 ha ht hin hd (fun H1 locs1 hP hD hS => k H1 locs1 ls hP hD hS hl)
theorem g_last (C0 : Cx Γ cc own nL D tys rm ret mc ms Post) (q0 t0 : Nat) {a : Nat} {cA : ClassId} {n : Nat} {f : Nat → Int64} (ha : ws[q0]? = some (a, .inl (cA, n, .inr (.inl f)))) (ht : tys[t0]? = some (cA, .long)) {i : Int32} {x : Int64} (hin : vp_in i n) (hd : decode cc pc = .ok (.lastore, 1)) (ws' : va_W) (hw : ws.set q0 (a, .inl (cA, n, .inr (.inl (vp_updL f i.toNatClampNeg x)))) = ws') (k : G Γ cn sn (pc + 1) lv st ws') : G Γ cn sn pc lv (.long x :: .int i :: .ref a :: st) ws := by
  obtain ⟨p, l, e, R, s, m, args, below, meth, c, nL', D', A, Q⟩ := Γ
  obtain ⟨rfl, rfl, hx, hb, hml, hown, hlk, hts, hK, hA, rfl, hrr, rfl⟩ := C0
  subst hw
  intro H locs ls hP hD hS hl
  exact va_last hx hb hK hP hD hS q0 t0 ha ht hin hd (fun H1 locs1 hP hD hS => k H1 locs1 ls hP hD hS hl)
theorem g_bast (C0 : Cx Γ cc own nL D tys rm ret mc ms Post) (q0 t0 : Nat) {a : Nat} {cA : ClassId} {n : Nat} {f : Nat → Int32} (ha : ws[q0]? = some (a, .inl (cA, n, .inl f))) (ht : tys[t0]? = some (cA, .byte)) {i x : Int32} (hin : vp_in i n) (hd : decode cc pc = .ok (.bastore, 1)) (ws' : va_W) (hw : ws.set q0 (a, .inl (cA, n, .inl (upd f i.toNatClampNeg (vp_nar .byte x)))) = ws') (k : G Γ cn sn (pc + 1) lv st ws') : G Γ cn sn pc lv (.int x :: .int i :: .ref a :: st) ws := by
  obtain ⟨p, l, e, R, s, m, args, below, meth, c, nL', D', A, Q⟩ := Γ
  obtain ⟨rfl, rfl, hx, hb, hml, hown, hlk, hts, hK, hA, rfl, hrr, rfl⟩ := C0
  subst hw
  intro H locs ls hP hD hS hl
  exact va_bast hx hb hK hP hD hS q0 t0 ha ht hin hd (fun H1 locs1 hP hD hS => k H1 locs1 ls hP hD hS hl)
theorem g_alen (C0 : Cx Γ cc own nL D tys rm ret mc ms Post) (q0 t0 : Nat) {a : Nat} {cA : ClassId} {x : vp_A} (ha : ws[q0]? = some (a, .inl (cA, x))) {ty : FieldType} (ht : tys[t0]? = some (cA, ty)) {v : Int32} (hv : Int32.ofNat x.1 = v) (hd : decode cc pc = .ok (.arraylength, 1)) (k : G Γ cn sn (pc + 1) lv (.int v :: st) ws) : G Γ cn sn pc lv (.ref a :: st) ws := by
  obtain ⟨p, l, e, R, s, m, args, below, meth, c, nL', D', A, Q⟩ := Γ
  obtain ⟨rfl, rfl, hx, hb, hml, hown, hlk, hts, hK, hA, rfl, hrr, rfl⟩ := C0
  intro H locs ls hP hD hS hl
  exact va_alen hx hb hK hP q0 t0 ha ht hv hd (k H locs ls hP hD hS hl)
theorem g_get (C0 : Cx Γ cc own nL D tys rm ret mc ms Post) {ref C : String} {T : u_T} {N ci index a : Nat} (hin : ∀ w ∈ u_ws C T N, w ∈ tb) (q0 : Nat) {fs : List Value} (he : ws[q0]? = some (a, .inr (ci, fs))) (hc : vwCl[ci]? = some (C, T, N)) (kf : Nat) (hk : kf < N) (hw : Cond.fieldLink own index ref (T kf).2.1 (T kf).2.2.1 ∈ tb) (hsame : ∀ (args : Array Value) (s : State), (∀ w ∈ tb, w.before args s = true) → ∀ x, s.fieldFound? (T kf).1 (T kf).2.1 (T kf).2.2.1 = some x → s.fieldFound? ref (T kf).2.1 (T kf).2.2.1 = some x) {v : Value} (hv : fs[kf]? = some v) (hd : decode cc pc = .ok (.getfield index, 3)) (k : G Γ cn sn (pc + 3) lv (v :: st) ws) : G Γ cn sn pc lv (.ref a :: st) ws := by
  obtain ⟨p, l, e, R, s, m, args, below, meth, c, nL', D', A, Q⟩ := Γ
  obtain ⟨rfl, rfl, hx, hb, hml, hown, hlk, hts, hK, hA, rfl, hrr, rfl⟩ := C0
  intro H locs ls hP hD hS hl
  exact va_get hx hb hts hin hown hK hP q0 he hc kf hk (hts _ hw) (hsame args s hts) hv hd (k H locs ls hP hD hS hl)
theorem g_put (C0 : Cx Γ cc own nL D tys rm ret mc ms Post) {ref C : String} {T : u_T} {N ci index a : Nat} (hin : ∀ w ∈ u_ws C T N, w ∈ tb) (ty0 : Nat → FieldType) (hty : ∀ k, k < N → parseFieldDescriptor (T k).2.2.1 = some (ty0 k)) (hnm : ∀ a, a < N → ∀ b, b < N → a ≠ b → (T a).2.1 ≠ (T b).2.1) (q0 : Nat) {fs : List Value} (he : ws[q0]? = some (a, .inr (ci, fs))) (hc : vwCl[ci]? = some (C, T, N)) (kf : Nat) (hk : kf < N) (hw : Cond.fieldLink own index ref (T kf).2.1 (T kf).2.2.1 ∈ tb) (hsame : ∀ (args : Array Value) (s : State), (∀ w ∈ tb, w.before args s = true) → ∀ x, s.fieldFound? (T kf).1 (T kf).2.1 (T kf).2.2.1 = some x → s.fieldFound? ref (T kf).2.1 (T kf).2.2.1 = some x) (hfin : (T kf).2.2.2 = false) {ty : FieldType} {v : Value} (hdz : parseFieldDescriptor (T kf).2.2.1 = some ty) (hn : narrow ty v = v) (hfit : fits ty v = true) (hl0 : kf < fs.length) (hd : decode cc pc = .ok (.putfield index, 3)) (ws' : va_W) (hws : ws.set q0 (a, .inr (ci, fs.set kf v)) = ws') (k : G Γ cn sn (pc + 3) lv st ws') : G Γ cn sn pc lv (v :: .ref a :: st) ws := by
  obtain ⟨p, l, e, R, s, m, args, below, meth, c, nL', D', A, Q⟩ := Γ
  obtain ⟨rfl, rfl, hx, hb, hml, hown, hlk, hts, hK, hA, rfl, hrr, rfl⟩ := C0
  subst hws
  intro H locs ls hP hD hS hl
  exact va_put hx hb hts hin ty0 hty hnm hown hK hP hD hS q0 he hc kf hk (hts _ hw) (hsame args s hts) hfin hdz hn hfit hl0 hd (fun H1 locs1 hP hD hS => k H1 locs1 ls hP hD hS hl)
end GC2
