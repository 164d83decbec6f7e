/-! what a method of the class answers: over its new memory, over the old one alone, or with new strips -/
section PX
variable (ca : Nat → ClassId) (o : Nat → Nat)
def PXi (L : List Nat) (S : gS) (Q : Int32 → gI → gJ → gR → Prop) : Option Value → va_W → Prop := fun v ws => ∃ (r : Int32) (I : gI) (J : gJ) (R : gR), v = some (.int r) ∧ ws = cX ca o I J R L S ∧ Q r I J R
def PXz (L : List Nat) (S : gS) (Q : Bool → gI → gJ → gR → Prop) : Option Value → va_W → Prop := fun v ws => ∃ (r : Bool) (I : gI) (J : gJ) (R : gR), v = some (.int (bI r)) ∧ ws = cX ca o I J R L S ∧ Q r I J R
def PXl (L : List Nat) (S : gS) (Q : Int64 → gI → gJ → gR → Prop) : Option Value → va_W → Prop := fun v ws => ∃ (r : Int64) (I : gI) (J : gJ) (R : gR), v = some (.long r) ∧ ws = cX ca o I J R L S ∧ Q r I J R
def PXv (L : List Nat) (S : gS) (Q : gI → gJ → gR → Prop) : Option Value → va_W → Prop := fun v ws => ∃ (I : gI) (J : gJ) (R : gR), v = none ∧ ws = cX ca o I J R L S ∧ Q I J R
def PXb (L : List Nat) (S : gS) (Q : gI → gJ → gR → Prop) : Option Value → va_W → Prop := fun v ws => ∃ (I : gI) (J : gJ) (R : gR), v = some (.ref (o 1)) ∧ ws = cX ca o I J R L S ∧ Q I J R
def PYi (I : gI) (J : gJ) (R : gR) (L : List Nat) (S : gS) (Q : Int32 → Prop) : Option Value → va_W → Prop := fun v ws => ∃ (r : Int32), v = some (.int r) ∧ ws = cX ca o I J R L S ∧ Q r
def PYz (I : gI) (J : gJ) (R : gR) (L : List Nat) (S : gS) (Q : Bool → Prop) : Option Value → va_W → Prop := fun v ws => ∃ (r : Bool), v = some (.int (bI r)) ∧ ws = cX ca o I J R L S ∧ Q r
def PYl (I : gI) (J : gJ) (R : gR) (L : List Nat) (S : gS) (Q : Int64 → Prop) : Option Value → va_W → Prop := fun v ws => ∃ (r : Int64), v = some (.long r) ∧ ws = cX ca o I J R L S ∧ Q r
def PYv (I : gI) (J : gJ) (R : gR) (L : List Nat) (S : gS) (Q : Prop) : Option Value → va_W → Prop := fun v ws => v = none ∧ ws = cX ca o I J R L S ∧ Q
def PAi (Q : Int32 → gI → gJ → gR → List Nat → gS → Prop) : Option Value → va_W → Prop := fun v ws => ∃ (r : Int32) (I : gI) (J : gJ) (R : gR) (L : List Nat) (S : gS), v = some (.int r) ∧ ws = cX ca o I J R L S ∧ Q r I J R L S
def PAz (Q : Bool → gI → gJ → gR → List Nat → gS → Prop) : Option Value → va_W → Prop := fun v ws => ∃ (r : Bool) (I : gI) (J : gJ) (R : gR) (L : List Nat) (S : gS), v = some (.int (bI r)) ∧ ws = cX ca o I J R L S ∧ Q r I J R L S
def PAr (Q : Nat → gI → gJ → gR → List Nat → gS → Prop) : Option Value → va_W → Prop := fun v ws => ∃ (r : Nat) (I : gI) (J : gJ) (R : gR) (L : List Nat) (S : gS), v = some (.ref r) ∧ ws = cX ca o I J R L S ∧ r ∈ L ∧ Q r I J R L S
def PAv (Q : gI → gJ → gR → List Nat → gS → Prop) : Option Value → va_W → Prop := fun v ws => ∃ (I : gI) (J : gJ) (R : gR) (L : List Nat) (S : gS), v = none ∧ ws = cX ca o I J R L S ∧ Q I J R L S
end PX
def rla (d c n : Nat) : Room := { frames := d, cells := c, slots := n, locals := 100 * d }
theorem rla_ok {d e maxL c n c' n' cn sn : Nat} (h : d < e) (hm : maxL ≤ 81) (h1 : cn + c ≤ c') (h2 : sn + n ≤ n') : gRm (rla d c n) (rla e c' n') maxL c n cn sn := ⟨rfl, rfl, ⟨h, by show 8 + (maxL + 11) + 100 * d ≤ 100 * e; omega⟩, h1, h2⟩
theorem rl_in_rla {d e maxL c' n' cn sn : Nat} (h : d < e) (hm : maxL ≤ 81) (h1 : cn ≤ c') (h2 : sn ≤ n') : gRm (rl d) (rla e c' n') maxL 0 0 cn sn := ⟨rfl, rfl, ⟨h, by show 8 + (maxL + 11) + 100 * d ≤ 100 * e; omega⟩, h1, h2⟩
/-- where the receiver of a call stands -/
def gRcv (ws : va_W) (b : Nat) (C : String) : Prop := ∃ (q0 ci : Nat) (fs : List Value) (T : u_T) (N : Nat), ws[q0]? = some (b, .inr (ci, fs)) ∧ vwCl[ci]? = some (C, T, N)
section RCV
variable {ca : Nat → ClassId} {o : Nat → Nat} {I : gI} {J : gJ} {R : gR} {L : List Nat} {S : gS}
theorem rcv_main : gRcv (cX ca o I J R L S) (o 0) RX11 := ⟨0, 12, _, _, _, cX_0 .., rfl⟩
theorem rcv_sb : gRcv (cX ca o I J R L S) (o 1) RJ4 := ⟨1, 0, _, _, _, cX_1 .., rfl⟩
theorem rcv_reader : gRcv (cX ca o I J R L S) (o 3) RX6 := ⟨3, 7, _, _, _, cX_3 .., rfl⟩
theorem rcv_leaves : gRcv (cX ca o I J R L S) (o 4) RX4 := ⟨4, 5, _, _, _, cX_4 .., rfl⟩
theorem rcv_bug {b : Nat} (hb : b < 2) : gRcv (cX ca o I J R L S) (o (10 + b)) RX1 := ⟨9 + b, 2, _, _, _, cX_B _ _ _ _ _ _ _ hb, rfl⟩
theorem rcv_shelf {s : Nat} (hs : s < 8) : gRcv (cX ca o I J R L S) (o (20 + s)) RX8 := ⟨21 + s, 9, _, _, _, cX_H _ _ _ _ _ _ _ hs, rfl⟩
theorem rcv_1 {q : Nat} (hq : q ∈ L) (h : sC (S q) = 1) : gRcv (cX ca o I J R L S) q RX7 := by
  obtain ⟨i, hi⟩ := cX_L ca o I J R L S hq
  exact ⟨i, 8, _, _, _, hi.trans (congrArg (fun z => some (q, z)) (sE_1 h)), rfl⟩
theorem rcv_2 {q : Nat} (hq : q ∈ L) (h : sC (S q) = 2) : gRcv (cX ca o I J R L S) q RX10 := by
  obtain ⟨i, hi⟩ := cX_L ca o I J R L S hq
  exact ⟨i, 11, _, _, _, hi.trans (congrArg (fun z => some (q, z)) (sE_2 h)), rfl⟩
theorem rcv_3 {q : Nat} (hq : q ∈ L) (h : sC (S q) = 3) : gRcv (cX ca o I J R L S) q RX2 := by
  obtain ⟨i, hi⟩ := cX_L ca o I J R L S hq
  exact ⟨i, 3, _, _, _, hi.trans (congrArg (fun z => some (q, z)) (sE_3 h)), rfl⟩
theorem rcv_4 {q : Nat} (hq : q ∈ L) (h : sC (S q) = 4) : gRcv (cX ca o I J R L S) q RX0 := by
  obtain ⟨i, hi⟩ := cX_L ca o I J R L S hq
  exact ⟨i, 1, _, _, _, hi.trans (congrArg (fun z => some (q, z)) (sE_4 h)), rfl⟩
theorem rcv_5 {q : Nat} (hq : q ∈ L) (h : sC (S q) = 5) : gRcv (cX ca o I J R L S) q RX3 := by
  obtain ⟨i, hi⟩ := cX_L ca o I J R L S hq
  exact ⟨i, 4, _, _, _, hi.trans (congrArg (fun z => some (q, z)) (sE_5 h)), rfl⟩
theorem rcv_6 {q : Nat} (hq : q ∈ L) (h : sC (S q) = 6) : gRcv (cX ca o I J R L S) q RX5 := by
  obtain ⟨i, hi⟩ := cX_L ca o I J R L S hq
  exact ⟨i, 6, _, _, _, hi.trans (congrArg (fun z => some (q, z)) (sE_6 h)), rfl⟩
theorem rcv_0 {q : Nat} (hq : q ∈ L) (h1 : ¬ sC (S q) = 1) (h2 : ¬ sC (S q) = 2) (h3 : ¬ sC (S q) = 3) (h4 : ¬ sC (S q) = 4) (h5 : ¬ sC (S q) = 5) (h6 : ¬ sC (S q) = 6) : gRcv (cX ca o I J R L S) q RX9 := by
  obtain ⟨i, hi⟩ := cX_L ca o I J R L S hq
  exact ⟨i, 10, _, _, _, hi.trans (congrArg (fun z => some (q, z)) (sE_0 h1 h2 h3 h4 h5 h6)), rfl⟩
/-- of whatever class of strips -/
theorem rcv_any {q : Nat} (hq : q ∈ L) : ∃ C, gRcv (cX ca o I J R L S) q C := by
  by_cases h1 : sC (S q) = 1
  · exact ⟨_, rcv_1 hq h1⟩
  by_cases h2 : sC (S q) = 2
  · exact ⟨_, rcv_2 hq h2⟩
  by_cases h3 : sC (S q) = 3
  · exact ⟨_, rcv_3 hq h3⟩
  by_cases h4 : sC (S q) = 4
  · exact ⟨_, rcv_4 hq h4⟩
  by_cases h5 : sC (S q) = 5
  · exact ⟨_, rcv_5 hq h5⟩
  by_cases h6 : sC (S q) = 6
  · exact ⟨_, rcv_6 hq h6⟩
  exact ⟨_, rcv_0 hq h1 h2 h3 h4 h5 h6⟩
end RCV
/-- what a call site of an inherited or overriding method asks of the tables -/
def gSiteU (own C owner : String) (x y : MethodName) (bytes : ByteArray) (maxL : Nat) (ret : Option FieldType) (index n : Nat) : Prop :=
  ∀ (R : Room) (s : State) (args : Array Value) (rm' : Room) (c1 s1 : Nat), rm'.cells = c1 → rm'.slots = s1 → (∀ w ∈ tb, w.before args s = true) → rm'.frames + 1 ≤ R.frames ∧ 8 + (maxL + 11) + rm'.locals ≤ R.locals → va_CU R s args own C owner index x y bytes maxL ret (.code y bytes maxL ret :: tb) rm' c1 s1 n
theorem gSiteU.inh {own C owner : String} {x y : MethodName} {bytes : ByteArray} {maxL : Nat} {ret : Option FieldType} {index n : Nat} (h1 : Cond.methodLink own index x ∈ tb) (h2 : Cond.sameMethod x.cls owner x.name x.desc ∈ tb) (h3 : Cond.selects C x y ∈ tb) (h4 : Cond.instanceMethod y ∈ tb) (h5 : Cond.initialized y.cls ∈ tb) (h6 : Cond.code y bytes maxL ret ∈ tb) (hyx : y = ⟨owner, x.name, x.desc⟩) (hd : owner ≠ "java/lang/invoke/MethodHandle" ∧ owner ≠ "java/lang/invoke/VarHandle" ∧ (parseMethodDescriptor x.desc).map (fun d => d.parameters.length) = some n) : gSiteU own C owner x y bytes maxL ret index n :=
  fun R s args rm' c1 s1 e1 e2 hts hR => va_cwU (own := own) (C := C) (owner := owner) (index := index) (x := x) (y := y) (bytes := bytes) (ret := ret) n hts (gi_app (gi_cons h1 (gi_cons h2 (gi_cons h3 (gi_cons h4 (gi_cons h5 gi_nil))))) (gi_cons h6 gi_tb)) rfl e1 e2 hyx hd hR
theorem gSiteU.ovr {own C owner : String} {x y : MethodName} {bytes : ByteArray} {maxL : Nat} {ret : Option FieldType} {index n : Nat} {b0 : ByteArray} {m0 : Nat} {r0 : Option FieldType} (h1 : Cond.methodLink own index x ∈ tb) (h2 : Cond.sameMethod x.cls owner x.name x.desc ∈ tb) (h7 : Cond.instanceMethod ⟨owner, x.name, x.desc⟩ ∈ tb) (h3 : Cond.selects C x y ∈ tb) (h4 : Cond.instanceMethod y ∈ tb) (h5 : Cond.initialized y.cls ∈ tb) (h6 : Cond.code y bytes maxL ret ∈ tb) (h0 : Cond.code ⟨owner, x.name, x.desc⟩ b0 m0 r0 ∈ tb) (hd : owner ≠ "java/lang/invoke/MethodHandle" ∧ owner ≠ "java/lang/invoke/VarHandle" ∧ (parseMethodDescriptor x.desc).map (fun d => d.parameters.length) = some n) : gSiteU own C owner x y bytes maxL ret index n :=
  fun R s args rm' c1 s1 e1 e2 hts hR => va_cwO (own := own) (C := C) (owner := owner) (index := index) (x := x) (y := y) (bytes := bytes) (ret := ret) n hts (gi_app (gi_cons h1 (gi_cons h2 (gi_cons h7 (gi_cons h3 (gi_cons h4 (gi_cons h5 gi_nil)))))) (gi_cons h6 gi_tb)) rfl e1 e2 h0 hd hR
def gSiteS (own : String) (y : MethodName) (bytes : ByteArray) (maxL : Nat) (ret : Option FieldType) (index n : Nat) : Prop :=
  GoodIn tb (va_wsS own index y (.code y bytes maxL ret :: tb)) ∧ (y.cls ≠ "java/lang/invoke/MethodHandle" ∧ y.cls ≠ "java/lang/invoke/VarHandle" ∧ (parseMethodDescriptor y.desc).map (fun d => d.parameters.length) = some n)
theorem gSiteS.of {own : String} {y : MethodName} {bytes : ByteArray} {maxL : Nat} {ret : Option FieldType} {index n : Nat} (h1 : Cond.methodLink own index y ∈ tb) (h2 : Cond.static y ∈ tb) (h4 : Cond.initialized y.cls ∈ tb) (h5 : Cond.code y bytes maxL ret ∈ tb) (h6 : y.cls ≠ "java/lang/invoke/MethodHandle" ∧ y.cls ≠ "java/lang/invoke/VarHandle" ∧ (parseMethodDescriptor y.desc).map (fun d => d.parameters.length) = some n) : gSiteS own y bytes maxL ret index n :=
  ⟨gi_app (gi_cons h1 (gi_cons h2 (gi_cons h4 gi_nil))) (gi_cons h5 gi_tb), h6⟩
def gSiteP (own : String) (y : MethodName) (bytes : ByteArray) (maxL : Nat) (ret : Option FieldType) (index n : Nat) : Prop :=
  GoodIn tb (va_wsSU own index y (.code y bytes maxL ret :: tb)) ∧ (y.name ≠ "<init>" ∧ (parseMethodDescriptor y.desc).map (fun d => d.parameters.length) = some n)
theorem gSiteP.of {own : String} {y : MethodName} {bytes : ByteArray} {maxL : Nat} {ret : Option FieldType} {index n : Nat} (h1 : Cond.methodLink own index y ∈ tb) (h2 : Cond.sameMethod y.cls y.cls y.name y.desc ∈ tb) (h3 : Cond.superclass own y.cls ∈ tb) (h4 : Cond.instanceMethod y ∈ tb) (h5 : Cond.initialized y.cls ∈ tb) (h6 : Cond.code y bytes maxL ret ∈ tb) (h7 : y.name ≠ "<init>" ∧ (parseMethodDescriptor y.desc).map (fun d => d.parameters.length) = some n) : gSiteP own y bytes maxL ret index n :=
  ⟨gi_app (gi_cons h1 (gi_cons h2 (gi_cons h3 (gi_cons h4 (gi_cons h5 gi_nil))))) (gi_cons h6 gi_tb), h7⟩
section XCALLS
variable {Γ : gT} {cc : ByteArray} {own : String} {nL : Nat} {D : gD} {tys : List (ClassId × FieldType)} {rm : Room} {ret : Option FieldType} {mc ms : Nat} {Post : Option Value → va_W → Prop} {cn sn pc : Nat} {lv : List (Nat × Value)} {st : List Value} {ws : va_W}
variable {y x : MethodName} {bytes : ByteArray} {maxL index c1 s1 b n : Nat} {ret' : Option FieldType} {rm' : Room} {As : List Value} {Post' : Option Value → va_W → Prop} {C owner : String}
theorem x_callV (C0 : Cx Γ cc own nL D tys rm ret mc ms Post) (hc : Ct y bytes maxL ret' rm' D tys c1 s1 (.ref b :: As) ws Post') (hs : gSite own y bytes maxL ret' index n) (hrc : gRcv ws b y.cls) (hr : gRm rm' rm maxL c1 s1 cn sn) (hn : As.length = n) (hst : (st.map fun v => v.category).sum ≤ 8) (st0 : List Value) (hs0 : st0 = As.reverse ++ .ref b :: st) (hd : decode cc pc = .ok (.invokevirtual index, 3))
    (k : ∀ (v : Option Value) (ws' : va_W), Post' v ws' → G Γ (cn + c1) (sn + s1) (pc + 3) lv (v.toList ++ st) ws') : G Γ cn sn pc lv st0 ws := by
  obtain ⟨q0, ci, fs, T, N, h1, h2⟩ := hrc
  exact g_callV C0 hc n hs.1 hs.2 q0 ci h1 h2 hr hn hst st0 hs0 hd k
theorem x_callU (C0 : Cx Γ cc own nL D tys rm ret mc ms Post) (hc : Ct y bytes maxL ret' rm' D tys c1 s1 (.ref b :: As) ws Post') (hs : gSiteU own C owner x y bytes maxL ret' index n) (hrc : gRcv ws b C) (hr : gRm rm' rm maxL c1 s1 cn sn) (hn : As.length = n) (hst : (st.map fun v => v.category).sum ≤ 8) (st0 : List Value) (hs0 : st0 = As.reverse ++ .ref b :: st) (hd : decode cc pc = .ok (.invokevirtual index, 3))
    (k : ∀ (v : Option Value) (ws' : va_W), Post' v ws' → G Γ (cn + c1) (sn + s1) (pc + 3) lv (v.toList ++ st) ws') : G Γ cn sn pc lv st0 ws := by
  obtain ⟨q0, ci, fs, T, N, h1, h2⟩ := hrc
  exact g_callU C0 hc n (fun R s args hts hR => hs R s args rm' c1 s1 hr.1 hr.2.1 hts hR) q0 ci h1 h2 hr hn hst st0 hs0 hd k
theorem x_callS (C0 : Cx Γ cc own nL D tys rm ret mc ms Post) (hc : Ct y bytes maxL ret' rm' D tys c1 s1 As ws Post') (hs : gSiteS own y bytes maxL ret' index n) (hr : gRm rm' rm maxL c1 s1 cn sn) (hn : As.length = n) (hst : (st.map fun v => v.category).sum ≤ 8) (st0 : List Value) (hs0 : st0 = As.reverse ++ st) (hd : decode cc pc = .ok (.invokestatic index, 3))
    (k : ∀ (v : Option Value) (ws' : va_W), Post' v ws' → G Γ (cn + c1) (sn + s1) (pc + 3) lv (v.toList ++ st) ws') : G Γ cn sn pc lv st0 ws :=
  g_callS C0 hc n hs.1 hs.2 hr hn hst st0 hs0 hd k
theorem x_callP (C0 : Cx Γ cc own nL D tys rm ret mc ms Post) (hc : Ct y bytes maxL ret' rm' D tys c1 s1 (.ref b :: As) ws Post') (hs : gSiteP own y bytes maxL ret' index n) (hrc : ∃ C, gRcv ws b C) (hr : gRm rm' rm maxL c1 s1 cn sn) (hn : As.length = n) (hst : (st.map fun v => v.category).sum ≤ 8) (st0 : List Value) (hs0 : st0 = As.reverse ++ .ref b :: st) (hd : decode cc pc = .ok (.invokespecial index, 3))
    (k : ∀ (v : Option Value) (ws' : va_W), Post' v ws' → G Γ (cn + c1) (sn + s1) (pc + 3) lv (v.toList ++ st) ws') : G Γ cn sn pc lv st0 ws := by
  obtain ⟨C, q0, ci, fs, T, N, h1, h2⟩ := hrc
  exact g_callSU C0 hc n hs.1 hs.2 q0 ci h1 h2 hr hn hst st0 hs0 hd k
/-- a static method of a nest mate -/
theorem x_callN (C0 : Cx Γ cc own nL D tys rm ret mc ms Post) (hc : Ct y bytes maxL ret' rm' D tys c1 s1 As ws Post') {host : String} (hq : (own, index, y, host) ∈ gns) (h5 : Cond.code y bytes maxL ret' ∈ tb) (h4 : Cond.initialized y.cls ∈ tb) (h2 : Cond.static y ∈ tb) (hd0 : y.cls ≠ "java/lang/invoke/MethodHandle" ∧ y.cls ≠ "java/lang/invoke/VarHandle" ∧ (parseMethodDescriptor y.desc).map (fun d => d.parameters.length) = some n) (hr : gRm rm' rm maxL c1 s1 cn sn) (hn : As.length = n) (hst : (st.map fun v => v.category).sum ≤ 8) (st0 : List Value) (hs0 : st0 = As.reverse ++ st) (hd : decode cc pc = .ok (.invokestatic index, 3))
    (k : ∀ (v : Option Value) (ws' : va_W), Post' v ws' → G Γ (cn + c1) (sn + s1) (pc + 3) lv (v.toList ++ st) ws') : G Γ cn sn pc lv st0 ws := by
  obtain ⟨p, l, e, R, s, m, args, below, meth, c, nL', D', A, Q⟩ := Γ
  obtain ⟨rfl, rfl, hx, hb, hml, hown, hlk, hts, hK, hA, rfl, hrr, rfl⟩ := C0
  obtain ⟨hr1, hr2, hr3, hr4, hr5⟩ := hr
  subst hs0
  intro H locs ls hP hD hS hl
  have hF := gc_free hD hS hA.1
  refine gc_ans (va_runSN (As := As) (rest := st) ⟨hx, hb, hml, hown, hts⟩ (hc l H.size) ⟨va_cnB n hts (gi_cons h5 gi_tb) rfl hr1 hr2 (hA.2.2.2.2.2.2.2.2.1 _ hq) (hts _ h4) hd0 hr3, hts _ h2, trivial⟩ ⟨gc_blind, fun U hU hW => ⟨rfl, by rw [hU], by rw [hU]; exact hP, va_K.moved hW.alike hK, hD.weaken (fun _ _ _ _ => trivial), by rw [hU]; exact hA.2.go hW hS.2.1 hF⟩⟩ rfl hn hl.1 rfl (gc_room hst) hd ⟨hr4, hr5⟩) hS (fun q _ h => hF q h) hF (fun v ws' H1 locs1 hq hP1 hD1 hz hk hS1 => ?_)
  exact k v ws' hq H1 locs1 ls hP1 (hD1.weaken (fun _ q _ h => hF q.1 h)) hS1 hl
-- what is behind a call, by the kind of its answer
variable {ca : Nat → ClassId} {o : Nat → Nat} {L : List Nat} {S : gS} {I : gI} {J : gJ} {R : gR}
theorem px_i {Q : Int32 → gI → gJ → gR → Prop} (k : ∀ (r : Int32) (I : gI) (J : gJ) (R : gR), Q r I J R → G Γ cn sn pc lv (.int r :: st) (cX ca o I J R L S)) : ∀ (v : Option Value) (ws' : va_W), PXi ca o L S Q v ws' → G Γ cn sn pc lv (v.toList ++ st) ws' := fun v ws' ⟨r, I, J, R, e1, e2, h⟩ => by subst e1; subst e2; exact k r I J R h
theorem px_z {Q : Bool → gI → gJ → gR → Prop} (k : ∀ (r : Bool) (I : gI) (J : gJ) (R : gR), Q r I J R → G Γ cn sn pc lv (.int (bI r) :: st) (cX ca o I J R L S)) : ∀ (v : Option Value) (ws' : va_W), PXz ca o L S Q v ws' → G Γ cn sn pc lv (v.toList ++ st) ws' := fun v ws' ⟨r, I, J, R, e1, e2, h⟩ => by subst e1; subst e2; exact k r I J R h
theorem px_l {Q : Int64 → gI → gJ → gR → Prop} (k : ∀ (r : Int64) (I : gI) (J : gJ) (R : gR), Q r I J R → G Γ cn sn pc lv (.long r :: st) (cX ca o I J R L S)) : ∀ (v : Option Value) (ws' : va_W), PXl ca o L S Q v ws' → G Γ cn sn pc lv (v.toList ++ st) ws' := fun v ws' ⟨r, I, J, R, e1, e2, h⟩ => by subst e1; subst e2; exact k r I J R h
theorem px_v {Q : gI → gJ → gR → Prop} (k : ∀ (I : gI) (J : gJ) (R : gR), Q I J R → G Γ cn sn pc lv st (cX ca o I J R L S)) : ∀ (v : Option Value) (ws' : va_W), PXv ca o L S Q v ws' → G Γ cn sn pc lv (v.toList ++ st) ws' := fun v ws' ⟨I, J, R, e1, e2, h⟩ => by subst e1; subst e2; exact k I J R h
theorem px_b {Q : gI → gJ → gR → Prop} (k : ∀ (I : gI) (J : gJ) (R : gR), Q I J R → G Γ cn sn pc lv (.ref (o 1) :: st) (cX ca o I J R L S)) : ∀ (v : Option Value) (ws' : va_W), PXb ca o L S Q v ws' → G Γ cn sn pc lv (v.toList ++ st) ws' := fun v ws' ⟨I, J, R, e1, e2, h⟩ => by subst e1; subst e2; exact k I J R h
theorem py_i {Q : Int32 → Prop} (k : ∀ (r : Int32), Q r → G Γ cn sn pc lv (.int r :: st) (cX ca o I J R L S)) : ∀ (v : Option Value) (ws' : va_W), PYi ca o I J R L S Q v ws' → G Γ cn sn pc lv (v.toList ++ st) ws' := fun v ws' ⟨r, e1, e2, h⟩ => by subst e1; subst e2; exact k r h
theorem py_z {Q : Bool → Prop} (k : ∀ (r : Bool), Q r → G Γ cn sn pc lv (.int (bI r) :: st) (cX ca o I J R L S)) : ∀ (v : Option Value) (ws' : va_W), PYz ca o I J R L S Q v ws' → G Γ cn sn pc lv (v.toList ++ st) ws' := fun v ws' ⟨r, e1, e2, h⟩ => by subst e1; subst e2; exact k r h
theorem py_l {Q : Int64 → Prop} (k : ∀ (r : Int64), Q r → G Γ cn sn pc lv (.long r :: st) (cX ca o I J R L S)) : ∀ (v : Option Value) (ws' : va_W), PYl ca o I J R L S Q v ws' → G Γ cn sn pc lv (v.toList ++ st) ws' := fun v ws' ⟨r, e1, e2, h⟩ => by subst e1; subst e2; exact k r h
theorem py_v {Q : Prop} (k : Q → G Γ cn sn pc lv st (cX ca o I J R L S)) : ∀ (v : Option Value) (ws' : va_W), PYv ca o I J R L S Q v ws' → G Γ cn sn pc lv (v.toList ++ st) ws' := fun v ws' ⟨e1, e2, h⟩ => by subst e1; subst e2; exact k h
theorem pa_i {Q : Int32 → gI → gJ → gR → List Nat → gS → Prop} (k : ∀ (r : Int32) (I : gI) (J : gJ) (R : gR) (L : List Nat) (S : gS), Q r I J R L S → G Γ cn sn pc lv (.int r :: st) (cX ca o I J R L S)) : ∀ (v : Option Value) (ws' : va_W), PAi ca o Q v ws' → G Γ cn sn pc lv (v.toList ++ st) ws' := fun v ws' ⟨r, I, J, R, L, S, e1, e2, h⟩ => by subst e1; subst e2; exact k r I J R L S h
theorem pa_z {Q : Bool → gI → gJ → gR → List Nat → gS → Prop} (k : ∀ (r : Bool) (I : gI) (J : gJ) (R : gR) (L : List Nat) (S : gS), Q r I J R L S → G Γ cn sn pc lv (.int (bI r) :: st) (cX ca o I J R L S)) : ∀ (v : Option Value) (ws' : va_W), PAz ca o Q v ws' → G Γ cn sn pc lv (v.toList ++ st) ws' := fun v ws' ⟨r, I, J, R, L, S, e1, e2, h⟩ => by subst e1; subst e2; exact k r I J R L S h
theorem pa_v {Q : gI → gJ → gR → List Nat → gS → Prop} (k : ∀ (I : gI) (J : gJ) (R : gR) (L : List Nat) (S : gS), Q I J R L S → G Γ cn sn pc lv st (cX ca o I J R L S)) : ∀ (v : Option Value) (ws' : va_W), PAv ca o Q v ws' → G Γ cn sn pc lv (v.toList ++ st) ws' := fun v ws' ⟨I, J, R, L, S, e1, e2, h⟩ => by subst e1; subst e2; exact k I J R L S h
theorem pa_r {Q : Nat → gI → gJ → gR → List Nat → gS → Prop} (k : ∀ (r : Nat) (I : gI) (J : gJ) (R : gR) (L : List Nat) (S : gS), r ∈ L → Q r I J R L S → G Γ cn sn pc lv (.ref r :: st) (cX ca o I J R L S)) : ∀ (v : Option Value) (ws' : va_W), PAr ca o Q v ws' → G Γ cn sn pc lv (v.toList ++ st) ws' := fun v ws' ⟨r, I, J, R, L, S, e1, e2, h0, h⟩ => by subst e1; subst e2; exact k r I J R L S h0 h
theorem x_nmI (I' : gI) (k : ∀ I1 : gI, I1 = I' → G Γ cn sn pc lv st (cX ca o I1 J R L S)) : G Γ cn sn pc lv st (cX ca o I' J R L S) := k I' rfl
theorem x_nmJ (J' : gJ) (k : ∀ J1 : gJ, J1 = J' → G Γ cn sn pc lv st (cX ca o I J1 R L S)) : G Γ cn sn pc lv st (cX ca o I J' R L S) := k J' rfl
theorem x_nmR (R' : gR) (k : ∀ R1 : gR, R1 = R' → G Γ cn sn pc lv st (cX ca o I J R1 L S)) : G Γ cn sn pc lv st (cX ca o I J R' L S) := k R' rfl
/-! statics and constant texts -/
theorem x_compact (C0 : Cx Γ cc own nL D tys rm ret mc ms Post) {ref : String} (hr : ref = "java/lang/String") (hw : Cond.fieldLink own index ref "COMPACT_STRINGS" "Z" ∈ tb) (hd : decode cc pc = .ok (.getstatic index, 3)) (k : G Γ cn sn (pc + 3) lv (.int 1 :: st) ws) : G Γ cn sn pc lv st ws := by
  obtain ⟨p, l, e, R, s, m, args, below, meth, c, nL', D', A, Q⟩ := Γ
  obtain ⟨rfl, rfl, hx, hb, hml, hown, hlk, hts, hK, hA, rfl, hrr, rfl⟩ := C0
  subst hr
  intro H locs ls hP hD hS hl
  exact va_gets hx hb hA.2.1 hS hown (hts _ hw) (fun _ h => h) hd (k H locs ls hP hD hS hl)
theorem x_above (C0 : Cx Γ cc own nL D tys rm ret mc ms Post) (hw : Cond.fieldLink own index RX11 "KIND_ABOVE" "[I" ∈ tb) (hd : decode cc pc = .ok (.getstatic index, 3)) (k : G Γ cn sn (pc + 3) lv (.ref D.2.1 :: st) ws) : G Γ cn sn pc lv st ws := by
  obtain ⟨p, l, e, R, s, m, args, below, meth, c, nL', D', A, Q⟩ := Γ
  obtain ⟨rfl, rfl, hx, hb, hml, hown, hlk, hts, hK, hA, rfl, hrr, rfl⟩ := C0
  intro H locs ls hP hD hS hl
  exact va_gets hx hb hA.2.2.1 hS hown (hts _ hw) (fun _ h => h) hd (k H locs ls hP hD hS hl)
theorem x_sioobe (C0 : Cx Γ cc own nL D tys rm ret mc ms Post) (hw : Cond.fieldLink own index "jdk/internal/util/Preconditions" "SIOOBE_FORMATTER" "Ljava/util/function/BiFunction;" ∈ tb) (hd : decode cc pc = .ok (.getstatic index, 3)) (k : ∀ r : Option Nat, G Γ cn sn (pc + 3) lv (va_rf r :: st) ws) : G Γ cn sn pc lv st ws := by
  obtain ⟨p, l, e, R, s, m, args, below, meth, c, nL', D', A, Q⟩ := Γ
  obtain ⟨rfl, rfl, hx, hb, hml, hown, hlk, hts, hK, hA, rfl, hrr, rfl⟩ := C0
  intro H locs ls hP hD hS hl
  rcases hA.2.2.2.2.2.2.1 with h | ⟨t, h⟩
  · exact va_gets hx hb h hS hown (hts _ hw) (fun _ h => h) hd (k none H locs ls hP hD hS hl)
  · exact va_gets hx hb h hS hown (hts _ hw) (fun _ h => h) hd (k (some t) H locs ls hP hD hS hl)
theorem x_kind (C0 : Cx Γ cc own nL D tys rm ret mc ms Post) {i : Int32} (hin : vp_in i 7) (hd : decode cc pc = .ok (.iaload, 1)) (k : G Γ cn sn (pc + 1) lv (.int (kaF i.toNatClampNeg) :: st) ws) : G Γ cn sn pc lv (.int i :: .ref D.2.1 :: st) ws := by
  obtain ⟨p, l, e, R, s, m, args, below, meth, c, nL', D', A, Q⟩ := Γ
  obtain ⟨rfl, rfl, hx, hb, hml, hown, hlk, hts, hK, hA, rfl, hrr, rfl⟩ := C0
  intro H locs ls hP hD hS hl
  exact va_ti hx hb hA.2.2.2.1 hS hin rfl hd (k H locs ls hP hD hS hl)
theorem x_text (C0 : Cx Γ cc RX6 nL D tys rm ret mc ms Post) {i : Nat} (hi : i < 5) (hx0 : index = tx_at i) (hd : decode cc pc = .ok (.ldc index, 2)) (k : G Γ cn sn (pc + 2) lv (.ref (D.2.2.1 i) :: st) ws) : G Γ cn sn pc lv st ws := by
  obtain ⟨p, l, e, R, s, m, args, below, meth, c, nL', D', A, Q⟩ := Γ
  obtain ⟨rfl, rfl, hx, hb, hml, hown, hlk, hts, hK, hA, rfl, hrr, rfl⟩ := C0
  subst hx0
  intro H locs ls hP hD hS hl
  exact va_ldcS hx hb hown (hA.2.2.2.2.2.1 i hi) hd (k H locs ls hP hD hS hl)
theorem x_tvalue (C0 : Cx Γ cc own nL D tys rm ret mc ms Post) {i : Nat} (hi : i < 5) (hw : Cond.fieldLink own index "java/lang/String" "value" "[B" ∈ tb) (hd : decode cc pc = .ok (.getfield index, 3)) (k : G Γ cn sn (pc + 3) lv (.ref (D.2.2.2 i) :: st) ws) : G Γ cn sn pc lv (.ref (D.2.2.1 i) :: st) ws := by
  obtain ⟨p, l, e, R, s, m, args, below, meth, c, nL', D', A, Q⟩ := Γ
  obtain ⟨rfl, rfl, hx, hb, hml, hown, hlk, hts, hK, hA, rfl, hrr, rfl⟩ := C0
  intro H locs ls hP hD hS hl
  exact vk_getf hx hb (hA.2.2.2.2.1.1 i hi).2.2.1 hS hown (hts _ hw) (fun _ h => h) hd (k H locs ls hP hD hS hl)
theorem x_tcoder (C0 : Cx Γ cc own nL D tys rm ret mc ms Post) {i : Nat} (hi : i < 5) (hw : Cond.fieldLink own index "java/lang/String" "coder" "B" ∈ tb) (hd : decode cc pc = .ok (.getfield index, 3)) (k : G Γ cn sn (pc + 3) lv (.int 0 :: st) ws) : G Γ cn sn pc lv (.ref (D.2.2.1 i) :: st) ws := by
  obtain ⟨p, l, e, R, s, m, args, below, meth, c, nL', D', A, Q⟩ := Γ
  obtain ⟨rfl, rfl, hx, hb, hml, hown, hlk, hts, hK, hA, rfl, hrr, rfl⟩ := C0
  intro H locs ls hP hD hS hl
  exact vk_getf hx hb (hA.2.2.2.2.1.1 i hi).2.1 hS hown (hts _ hw) (fun _ h => h) hd (k H locs ls hP hD hS hl)
theorem x_tlen (C0 : Cx Γ cc own nL D tys rm ret mc ms Post) {i : Nat} (hi : i < 5) (hd : decode cc pc = .ok (.arraylength, 1)) (k : G Γ cn sn (pc + 1) lv (.int (Int32.ofNat (tx_len.getD i 0)) :: st) ws) : G Γ cn sn pc lv (.ref (D.2.2.2 i) :: st) ws := by
  obtain ⟨p, l, e, R, s, m, args, below, meth, c, nL', D', A, Q⟩ := Γ
  obtain ⟨rfl, rfl, hx, hb, hml, hown, hlk, hts, hK, hA, rfl, hrr, rfl⟩ := C0
  intro H locs ls hP hD hS hl
  exact va_tlen hx hb (hA.2.2.2.2.1.1 i hi).2.2.2 hS rfl hd (k H locs ls hP hD hS hl)
theorem x_tbyte (C0 : Cx Γ cc own nL D tys rm ret mc ms Post) {i : Nat} (hi : i < 5) {j : Int32} (hin : vp_in j (tx_len.getD i 0)) (hd : decode cc pc = .ok (.baload, 1)) (k : G Γ cn sn (pc + 1) lv (.int ((tx_byt.getD i []).getD j.toNatClampNeg 0) :: st) ws) : G Γ cn sn pc lv (.int j :: .ref (D.2.2.2 i) :: st) ws := by
  obtain ⟨p, l, e, R, s, m, args, below, meth, c, nL', D', A, Q⟩ := Γ
  obtain ⟨rfl, rfl, hx, hb, hml, hown, hlk, hts, hK, hA, rfl, hrr, rfl⟩ := C0
  intro H locs ls hP hD hS hl
  exact va_tb hx hb (hA.2.2.2.2.1.1 i hi).2.2.2 hS hin rfl hd (k H locs ls hP hD hS hl)
theorem g_ifnullE (C0 : Cx Γ cc own nL D (tyW ca) rm ret mc ms Post) {r : Option Nat} {f : Nat → Nat} {ws : va_W} {off : Int} (tgt : Nat) (hd : decode cc pc = .ok (.ifnull off, 3)) (ht : (pc : Int) + off = (tgt : Int)) (kt : r = none → G Γ cn sn tgt lv st ws) (kf : ¬ r = none → G Γ cn sn (pc + 3) lv st ws) : G Γ cn sn pc lv (va_re f r :: st) ws :=
  g_ifnull C0 tgt hd ht (fun z => kt (by cases r with | none => rfl | some x => cases z)) (fun z => kf (fun e => z (by rw [e]; rfl)))
theorem x_callT (C0 : Cx Γ cc own nL D tys rm ret mc ms Post) {i : Nat} (hc : Ct y bytes maxL ret' rm' D tys c1 s1 (.ref (D.2.2.1 i) :: As) ws Post') (hs : gSite own y bytes maxL ret' index n) (hy : y.cls = "java/lang/String") (hi : i < 5) (hr : gRm rm' rm maxL c1 s1 cn sn) (hn : As.length = n) (hst : (st.map fun v => v.category).sum ≤ 8) (st0 : List Value) (hs0 : st0 = As.reverse ++ .ref (D.2.2.1 i) :: st) (hd : decode cc pc = .ok (.invokevirtual index, 3))
    (k : ∀ (v : Option Value) (ws' : va_W), Post' v ws' → G Γ (cn + c1) (sn + s1) (pc + 3) lv (v.toList ++ st) ws') : G Γ cn sn pc lv st0 ws := by
  obtain ⟨p, l, e, R, s, m, args, below, meth, c, nL', D', A, Q⟩ := Γ
  obtain ⟨rfl, rfl, hx, hb, hml, hown, hlk, hts, hK, hA, rfl, hrr, rfl⟩ := C0
  obtain ⟨hr1, hr2, hr3, hr4, hr5⟩ := hr
  subst hs0
  intro H locs ls hP hD hS hl
  have hF := gc_free hD hS hA.1
  refine gc_ans (va_runV (As := As) (rest := st) ⟨hx, hb, hml, hown, hts⟩ (hc l H.size) (cwV n hts hs.1 rfl hr1 hr2 ⟨rfl, hs.2⟩ hr3) ⟨gc_blind, by rw [hy]; exact vk_recv hA.2.2.2.2.1 hi hS, fun U hU hW => ⟨rfl, by rw [hU], by rw [hU]; exact hP, va_K.moved hW.alike hK, hD.weaken (fun _ _ _ _ => trivial), by rw [hU]; exact hA.2.go hW hS.2.1 hF⟩⟩ rfl hn hl.1 rfl (gc_room hst) hd ⟨hr4, hr5⟩) hS (fun q _ h => hF q h) hF (fun v ws' H1 locs1 hq hP1 hD1 hz hk hS1 => ?_)
  exact k v ws' hq H1 locs1 ls hP1 (hD1.weaken (fun _ q _ h => hF q.1 h)) hS1 hl
/-- super.m(..) where the superclass has m from its own -/
def gSiteQ (own owner : String) (x y : MethodName) (bytes : ByteArray) (maxL : Nat) (ret : Option FieldType) (index n : Nat) : Prop :=
  Cond.methodLink own index x ∈ tb ∧ Cond.sameMethod x.cls owner x.name x.desc ∈ tb ∧ Cond.superclass own x.cls ∈ tb ∧ Cond.superclass x.cls owner ∈ tb ∧ Cond.instanceMethod y ∈ tb ∧ Cond.initialized y.cls ∈ tb ∧ Cond.code y bytes maxL ret ∈ tb ∧ y = ⟨owner, x.name, x.desc⟩ ∧ (y.name ≠ "<init>" ∧ (parseMethodDescriptor y.desc).map (fun d => d.parameters.length) = some n)
theorem gSiteQ.of (h1 : Cond.methodLink own index x ∈ tb) (h2 : Cond.sameMethod x.cls owner x.name x.desc ∈ tb) (h3 : Cond.superclass own x.cls ∈ tb) (h4 : Cond.superclass x.cls owner ∈ tb) (h5 : Cond.instanceMethod y ∈ tb) (h6 : Cond.initialized y.cls ∈ tb) (h7 : Cond.code y bytes maxL ret ∈ tb) (h8 : y = ⟨owner, x.name, x.desc⟩) (h9 : y.name ≠ "<init>" ∧ (parseMethodDescriptor y.desc).map (fun d => d.parameters.length) = some n) : gSiteQ own owner x y bytes maxL ret index n := ⟨h1, h2, h3, h4, h5, h6, h7, h8, h9⟩
theorem va_callSU2 {p : Program} {l : Launch} {e : Env} {R : Room} {s : State} {m : MethodId} {args : Array Value} {below : List Frame} {meth : Method} {c : Code} {T : State} {locs : List Loc} {cells slots : Nat} (X : Stand p l e R s m args below meth c T locs cells slots) (hexec : p.tables.exec = Jvm.exec) {own owner : String} {index : Nat} {x y : MethodName} {bytes : ByteArray} {maxL : Nat} {ret : Option FieldType}
    (hown : s.vm.findClass own = some m.cls) (hlink : (Cond.methodLink own index x).before args s = true) (hsame : (Cond.sameMethod x.cls owner x.name x.desc).before args s = true) (hsup : (Cond.superclass own x.cls).before args s = true) (hsup2 : (Cond.superclass x.cls owner).before args s = true) (hyx : y = ⟨owner, x.name, x.desc⟩)
    (hinst : (Cond.instanceMethod y).before args s = true) (hcode : (Cond.code y bytes maxL ret).before args s = true) (hno : y.name ≠ "<init>")
    {W : Nat} {Pre : Pt → Array Value → Prop} {Post : Pt → Array Value → Option Value → Pt → Prop} (hK : Back l R p e below s args y 3 W Pre Post)
    {b : Addr} {cellB : Cell} {kB : Class} (hcell : T.heap[b]? = some cellB) (hobj : cellB.vm.isStatics = false) (hkB : s.vm.classes[cellB.cls]? = some kB)
    {g : JFrame} (hg : g.method = m) (hsize : g.locals.size = c.maxLocals) {argsL rest : List Value} (hlen : ∀ sig, parseMethodDescriptor y.desc = some sig → argsL.length = sig.parameters.length)
    (hstack : g.stack = argsL.reverse ++ .ref b :: rest) (hW : 2 * g.monitorRoom + (rest.map fun v => v.category).sum ≤ W) (hdg : decode c.code g.pc = .ok (.invokespecial index, 3))
    (hpre : ∀ vm₁, s.WarmedH vm₁ → Pre ⟨T.setVm vm₁, locs, cells, slots⟩ (Value.ref b :: argsL).toArray) :
    ∃ (v : Option Value) (vm₁ : Vm) (B : Pt), s.WarmedH vm₁ ∧ Stand p l e R s m args below meth c B.U B.locs B.cells B.slots ∧ Post ⟨T.setVm vm₁, locs, cells, slots⟩ (Value.ref b :: argsL).toArray v B ∧
      ∀ target, Steps p.tables e below (B.U.setTop { g with pc := g.pc + 3, stack := v.toList ++ rest }) target → Steps p.tables e below (T.setTop g) target := by
  subst hyx
  obtain ⟨mk, methM, hnamed, hmethM, hstM, habM⟩ := Cond.instanceMethod_spec hinst
  obtain ⟨methM', cM, hmethM', -, -, -, -, -, -, hsigM⟩ := Cond.code_spec hnamed hcode
  cases hmethM.symm.trans hmethM'
  obtain ⟨ps, dk, kp, hps, hdk, hkp, hsuper, -, -, hnid⟩ := Cond.superclass_spec hown hsup
  obtain ⟨pq, dk2, kq, hpq, hdk2, hkq, hsuper2, -, -, hnid2⟩ := Cond.superclass_spec hps hsup2
  have hn : s.methodNamed? ⟨owner, x.name, x.desc⟩ = some mk := hnamed
  have hpm : pq = mk.cls := Option.some.inj (hpq.symm.trans (findClass_of_methodNamed hnamed))
  have hsub : s.vm.isSubclass ps mk.cls = true := by
    have hz : 0 < s.vm.classes.size := Nat.lt_of_le_of_lt (Nat.zero_le _) (Array.getElem?_eq_some_iff.mp hkp).1
    obtain ⟨z, hz⟩ : ∃ z, s.vm.classes.size = z + 1 := ⟨s.vm.classes.size - 1, by omega⟩
    cases hkp.symm.trans hdk2
    unfold Vm.isSubclass
    rw [hz]
    simp [Vm.isSubclassAux, hdk2, hsuper2, hpm]
  obtain ⟨vm₁, X₁, hstep₁⟩ := X.invokespecialUp hexec hown hlink hsame hn hmethM hstM habM hno hdk hnid hps hsuper hsub (a := b) (cell := cellB) hcell
    (fun z h => by rw [h] at hobj; cases hobj) hkB (g := g) hg (argsL := argsL) (rest := rest) (hlen _ hsigM) hstack hdg
  obtain ⟨v, B, X', hpost, hsteps⟩ := hK m meth c ⟨T.setVm vm₁, locs, cells, slots⟩ { g with stack := rest } (.invokespecial index) mk (Value.ref b :: argsL).toArray X₁ hg hsize hdg hW (X₁.named hnamed) (hpre vm₁ X₁.warmed)
  exact ⟨v, vm₁, B, X₁.warmed, X', hpost, fun target h => hstep₁ _ (by rw [doInvoke_state]; exact hsteps.trans h)⟩
theorem x_callP2 (C0 : Cx Γ cc own nL D tys rm ret mc ms Post) (hc : Ct y bytes maxL ret' rm' D tys c1 s1 (.ref b :: As) ws Post') (hs : gSiteQ own owner x y bytes maxL ret' index n) (hrc : ∃ C, gRcv ws b C) (hr : gRm rm' rm maxL c1 s1 cn sn) (hn : As.length = n) (hst : (st.map fun v => v.category).sum ≤ 8) (st0 : List Value) (hs0 : st0 = As.reverse ++ .ref b :: st) (hd : decode cc pc = .ok (.invokespecial index, 3))
    (k : ∀ (v : Option Value) (ws' : va_W), Post' v ws' → G Γ (cn + c1) (sn + s1) (pc + 3) lv (v.toList ++ st) ws') : G Γ cn sn pc lv st0 ws := by
  obtain ⟨p, l, e, R, s, m, args, below, meth, c, nL', D', A, Q⟩ := Γ
  obtain ⟨rfl, rfl, hx, hb, hml, hown, hlk, hts, hK, hA, rfl, hrr, rfl⟩ := C0
  obtain ⟨hr1, hr2, hr3, hr4, hr5⟩ := hr
  obtain ⟨C, q0, ci, fs, T0, N, hrc1, hrc2⟩ := hrc
  obtain ⟨w1, w2, w3, w4, w5, w6, w7, hyx, hno, hdl⟩ := hs
  subst hs0
  intro H locs ls hP hD hS hl
  have hF := gc_free hD hS hA.1
  have hpre : PreV s H C b (va_Pc (.ref b :: As) (fun U => U.heap.size = H.size ∧ va_P D'.1 vwCl ws U.heap ∧ va_K D'.1 vwCl tys U ∧ va_D (fun _ => True) ws ∧ gZ D'.2 (va_A ws H.size) U U.heap)) As := ⟨gc_blind, va_recv hK hP hrc2 hrc1, fun U hU hW => ⟨rfl, by rw [hU], by rw [hU]; exact hP, va_K.moved hW.alike hK, hD.weaken (fun _ _ _ _ => trivial), by rw [hU]; exact hA.2.go hW hS.2.1 hF⟩⟩
  have hlen : ∀ sig, parseMethodDescriptor y.desc = some sig → As.length = sig.parameters.length := fun sig h => by
    rw [h] at hdl
    exact hn.trans (Option.some.inj hdl).symm
  have hws : ∀ w ∈ (Cond.code y bytes maxL ret' :: tb), ∀ (a' : Array Value) (U : State), s.WarmedH U.vm → w.before a' U = true := pay_in hts (gi_cons w7 gi_tb)
  have hK2 : Back l _ p e below s args y 3 8 (PreOf _ c1 s1 _) (PostOf _ c1 s1 _) := back_of (bytes := bytes) (maxL := maxL) (ret := ret') (hc l H.size) hpre.1 hr1 hr2 hr3.1 hr3.2 hws List.mem_cons_self (fun a' U hW => word_at hW (Or.inl (by first | rfl | simp [Cond.onTables, Cond.keeps, Cond.steady])) (hts _ w6))
  obtain ⟨-, ⟨cellB, hcB, hoB, hclB⟩, hPc⟩ := hpre
  obtain ⟨hfc, kB, hkB, -⟩ := (hK.1 ci _ hrc2).2
  have hkB' : s.vm.classes[cellB.cls]? = some kB := by
    have e9 : some cellB.cls = some (D'.1.1 ci) := hclB.symm.trans hfc
    rw [Option.some.inj e9]
    exact hkB
  refine gc_ans (tys := tys) (a := (Value.ref b :: As).toArray) (rest := st) (mc := c1) (ms := s1) (free := va_A ws H.size) (fun T hT X => ?_) hS (fun q _ h => hF q h) hF (fun v ws' H1 locs1 hq hP1 hD1 hz hk hS1 => k v ws' hq H1 locs1 ls hP1 (hD1.weaken (fun _ q _ h => hF q.1 h)) hS1 hl)
  obtain ⟨v, vm₁, ⟨U', l2, c2, s2⟩, hW₁, X', ⟨g', mk, t, L, e1, e2, hq, g1, hL, g2, g3⟩, stp⟩ := va_callSU2 X hx (owner := owner) (x := x) (bytes := bytes) (maxL := maxL) (ret := ret') hown (hts _ w1) (hts _ w2) (hts _ w3) (hts _ w4) hyx (hts _ w5) (hts _ w7) hno hK2 (by rw [hT]; exact hcB) hoB hkB' rfl (hl.1.trans hml.symm) (argsL := As) (rest := st) hlen rfl (gc_room hst) (by rw [hb]; exact hd)
    (fun vm₁ hW₁ => ⟨hr4, hr5, hPc (T.setVm vm₁) hT hW₁⟩)
  dsimp only [Pt.U, Pt.locs, Pt.cells, Pt.slots] at X' e1 e2 g1 g2 g3 stp
  subst g1; subst g2; subst g3
  exact ⟨v, (T.setVm vm₁).calling g' mk (Value.ref b :: As).toArray, t, U', L, hT, X', hL, e1, e2, hq, stp⟩
theorem wac_l : Cond.methodLink RX11 99 arraycopyName ∈ tb := (tb_in (List.mem_of_getElem? (i := 358) (by decide +kernel)) (by decide +kernel))
theorem wac_n : Cond.native arraycopyName ∈ tb := (tb_in (List.mem_of_getElem? (i := 360) (by decide +kernel)) (by decide +kernel))
theorem wac_s : Cond.static arraycopyName ∈ tb := (tb_in (List.mem_of_getElem? (i := 359) (by decide +kernel)) (by decide +kernel))
theorem wac_i : Cond.initialized "java/lang/System" ∈ tb := (tb_in (List.mem_of_getElem? (i := 89) (by decide +kernel)) (by decide +kernel))
theorem x_lcopy (C0 : Cx Γ cc RX11 nL D (tyW ca) rm ret mc ms Post) {a b : Nat} (ha : a < 8) (hb0 : b < 8) {sp dp k0 : Int32} (h1 : ¬ sp < 0) (h2 : ¬ dp < 0) (h3 : ¬ k0 < 0) (h4 : sp.toNatClampNeg + k0.toNatClampNeg ≤ 160) (h5 : dp.toNatClampNeg + k0.toNatClampNeg ≤ 160) (hd : decode cc pc = .ok (.invokestatic 99, 3)) (hfr : 1 ≤ rm.frames) (hlo : (st.map fun v => v.category).sum + (nativeFrameWords "java/lang/System" "arraycopy" 5 + 11) ≤ rm.locals) (kk : G Γ cn sn (pc + 3) lv st (cX ca o I (cpJ J (3 + a) (3 + b) sp.toNatClampNeg dp.toNatClampNeg k0.toNatClampNeg) R L S)) : G Γ cn sn pc lv (.int k0 :: .int dp :: .ref (o (30 + b)) :: .int sp :: .ref (o (30 + a)) :: st) (cX ca o I J R L S) := by
  obtain ⟨p, l, e, R', s, m, args, below, meth, c, nL', D', A, Q⟩ := Γ
  obtain ⟨rfl, rfl, hx, hb, hml, hown, hlk, hts, hK, hA, rfl, hrr, rfl⟩ := C0
  intro H locs ls hP hD hS hl
  exact va_copyl hx hb (hml.trans hl.1.symm) hown (hts _ wac_l) (hts _ wac_n) (hts _ wac_s) (hts _ wac_i) hK hP hD hS (29 + a) (29 + b) 1 1 (cX_T ca o I J R L S ha) (cX_T ca o I J R L S hb0) rfl rfl rfl h1 h2 h3 h4 h5 (fun _ _ => rfl) hfr hlo hd (fun H1 locs1 hP hD hS => kk H1 locs1 ls (by rw [cX_s_jf hb0] at hP; exact hP) (by rw [cX_s_jf hb0] at hD; exact hD) hS hl)
theorem wm_ini : Cond.initialized "java/lang/Math" ∈ tb := (tb_in (List.mem_of_getElem? (i := 99) (by decide +kernel)) (by decide +kernel))
theorem wmmax_s : Cond.static Lib.Math.max.name ∈ tb := (tb_in (List.mem_of_getElem? (i := 910) (by decide +kernel)) (by decide +kernel))
theorem wmmax_c : Cond.code Lib.Math.max.name Lib.Math.max.code 2 (some .int) ∈ tb := (tb_in (List.mem_of_getElem? (i := 911) (by decide +kernel)) (by decide +kernel))
theorem x_mmax (C0 : Cx Γ cc own nL D tys rm ret mc ms Post) (hw : Cond.methodLink own index Lib.Math.max.name ∈ tb) {x y : Int32} (hd : decode cc pc = .ok (.invokestatic index, 3)) (hfr : 1 ≤ rm.frames) (hlo : (st.map fun v => v.category).sum + 13 ≤ rm.locals) (hcn : cn ≤ rm.cells) (hsn : sn ≤ rm.slots) (k : G Γ cn sn (pc + 3) lv (.int (if x < y then y else x) :: st) ws) : G Γ cn sn pc lv (.int y :: .int x :: st) ws := by
  obtain ⟨p, l, e, R, s, m, args, below, meth, c, nL', D', A, Q⟩ := Γ
  obtain ⟨rfl, rfl, hx, hb, hml, hown, hlk, hts, hK, hA, rfl, hrr, rfl⟩ := C0
  intro H locs ls hP hD hS hl
  exact va_mmax hx hb (hml.trans hl.1.symm) hown (hts _ hw) (hts _ wmmax_s) (hts _ wm_ini) (hts _ wmmax_c) hfr hlo hcn hsn hd (k H locs ls hP hD hS hl)
theorem wmmin_s : Cond.static Lib.Math.min.name ∈ tb := (tb_in (List.mem_of_getElem? (i := 996) (by decide +kernel)) (by decide +kernel))
theorem wmmin_c : Cond.code Lib.Math.min.name Lib.Math.min.code 2 (some .int) ∈ tb := (tb_in (List.mem_of_getElem? (i := 997) (by decide +kernel)) (by decide +kernel))
theorem x_mmin (C0 : Cx Γ cc own nL D tys rm ret mc ms Post) (hw : Cond.methodLink own index Lib.Math.min.name ∈ tb) {x y : Int32} (hd : decode cc pc = .ok (.invokestatic index, 3)) (hfr : 1 ≤ rm.frames) (hlo : (st.map fun v => v.category).sum + 13 ≤ rm.locals) (hcn : cn ≤ rm.cells) (hsn : sn ≤ rm.slots) (k : G Γ cn sn (pc + 3) lv (.int (if y < x then y else x) :: st) ws) : G Γ cn sn pc lv (.int y :: .int x :: st) ws := by
  obtain ⟨p, l, e, R, s, m, args, below, meth, c, nL', D', A, Q⟩ := Γ
  obtain ⟨rfl, rfl, hx, hb, hml, hown, hlk, hts, hK, hA, rfl, hrr, rfl⟩ := C0
  intro H locs ls hP hD hS hl
  exact va_mmin hx hb (hml.trans hl.1.symm) hown (hts _ hw) (hts _ wmmin_s) (hts _ wm_ini) (hts _ wmmin_c) hfr hlo hcn hsn hd (k H locs ls hP hD hS hl)
theorem wmlmin_s : Cond.static Lib.MathLoose.min_long.x ∈ tb := (tb_in (List.mem_of_getElem? (i := 930) (by decide +kernel)) (by decide +kernel))
theorem wmlmin_c : Cond.code Lib.MathLoose.min_long.x Lib.MathLoose.min_long.code 4 (some .long) ∈ tb := (tb_in (List.mem_of_getElem? (i := 931) (by decide +kernel)) (by decide +kernel))
theorem x_mlmin (C0 : Cx Γ cc own nL D tys rm ret mc ms Post) (hw : Cond.methodLink own index Lib.MathLoose.min_long.x ∈ tb) {x y : Int64} (hd : decode cc pc = .ok (.invokestatic index, 3)) (hfr : 1 ≤ rm.frames) (hlo : (st.map fun v => v.category).sum + 15 ≤ rm.locals) (hcn : cn ≤ rm.cells) (hsn : sn ≤ rm.slots) (k : G Γ cn sn (pc + 3) lv (.long (if y < x then y else x) :: st) ws) : G Γ cn sn pc lv (.long y :: .long x :: st) ws := by
  obtain ⟨p, l, e, R, s, m, args, below, meth, c, nL', D', A, Q⟩ := Γ
  obtain ⟨rfl, rfl, hx, hb, hml, hown, hlk, hts, hK, hA, rfl, hrr, rfl⟩ := C0
  intro H locs ls hP hD hS hl
  exact va_mmin_long hx hb (hml.trans hl.1.symm) hown (hts _ hw) (hts _ wmlmin_s) (hts _ wm_ini) (hts _ wmlmin_c) hfr hlo hcn hsn hd (k H locs ls hP hD hS hl)
theorem g_astoreN_n (C : Cx Γ cc own nL D tys rm ret mc ms Post) {f : Fin 4} {i : Nat} (lv' : List (Nat × Value)) (hd : decode cc pc = .ok (.astore_n f, 1)) (hi : (f : Nat) = i) (hn : i < nL) (he : gl_put i .null lv = lv') (k : G Γ cn sn (pc + 1) lv' st ws) : G Γ cn sn pc lv (.null :: st) ws := by
  obtain ⟨p, l, e, R, s, m, args, below, meth, c, nL', D', A, Q⟩ := Γ
  obtain ⟨rfl, rfl, hx, hb, hml, hown, hlk, hts, hK, hA, rfl, hr, rfl⟩ := C
  intro H locs ls hP hD hS hl
  subst hi
  obtain ⟨ls', e', h'⟩ := gl_store1 (v := .null) hl hn rfl
  rw [he] at h'
  intro T hT X
  obtain ⟨t, a, b⟩ := k H locs ls' hP hD hS h' T hT X
  refine ⟨t, ?_, b⟩
  jvm_step X.here [X.here.top, ↓top_set X.here.top, hx, hb, hd, e']
  exact ⟨rfl, a⟩
theorem g_astoreN (C : Cx Γ cc own nL D tys rm ret mc ms Post) {i : Nat} (lv' : List (Nat × Value)) (hd : decode cc pc = .ok (.astore i, 2)) (hn : i < nL) (he : gl_put i .null lv = lv') (k : G Γ cn sn (pc + 2) lv' st ws) : G Γ cn sn pc lv (.null :: st) ws := by
  obtain ⟨p, l, e, R, s, m, args, below, meth, c, nL', D', A, Q⟩ := Γ
  obtain ⟨rfl, rfl, hx, hb, hml, hown, hlk, hts, hK, hA, rfl, hr, rfl⟩ := C
  intro H locs ls hP hD hS hl
  obtain ⟨ls', e', h'⟩ := gl_store1 (v := .null) hl hn rfl
  rw [he] at h'
  intro T hT X
  obtain ⟨t, a, b⟩ := k H locs ls' hP hD hS h' T hT X
  refine ⟨t, ?_, b⟩
  jvm_step X.here [X.here.top, ↓top_set X.here.top, hx, hb, hd, e']
  exact ⟨rfl, a⟩
theorem g_astoreq_n (C : Cx Γ cc own nL D tys rm ret mc ms Post) {f : Fin 4} {i : Nat} {x : Option Nat} (lv' : List (Nat × Value)) (hd : decode cc pc = .ok (.astore_n f, 1)) (hi : (f : Nat) = i) (hn : i < nL) (he : gl_put i (va_rf x) lv = lv') (k : G Γ cn sn (pc + 1) lv' st ws) : G Γ cn sn pc lv (va_rf x :: st) ws := by
  cases x with
  | none => exact g_astoreN_n C lv' hd hi hn he k
  | some x => exact g_astore_n C lv' hd hi hn he k
theorem g_astoreq (C : Cx Γ cc own nL D tys rm ret mc ms Post) {i : Nat} {x : Option Nat} (lv' : List (Nat × Value)) (hd : decode cc pc = .ok (.astore i, 2)) (hn : i < nL) (he : gl_put i (va_rf x) lv = lv') (k : G Γ cn sn (pc + 2) lv' st ws) : G Γ cn sn pc lv (va_rf x :: st) ws := by
  cases x with
  | none => exact g_astoreN C lv' hd hn he k
  | some x => exact g_astore C lv' hd hn he k
end XCALLS
