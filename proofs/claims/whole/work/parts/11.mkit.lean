/-! naming, booleans, switches, rooms, and calls within the reference -/
section K11
variable {Γ : gT} {cc : ByteArray} {own : String} {nL : Nat} {D : gD} {tys : List (ClassId × FieldType)} {rm : Room} {ret : Option FieldType} {mc ms : Nat} {Post : Option Value → va_W → Prop} {cn sn pc : Nat} {lv : List (Nat × Value)} {st : List Value} {ws : va_W}
theorem g_topi {x : Int32} (k : ∀ y : Int32, y = x → G Γ cn sn pc lv (.int y :: st) ws) : G Γ cn sn pc lv (.int x :: st) ws := k x rfl
theorem g_topl {x : Int64} (k : ∀ y : Int64, y = x → G Γ cn sn pc lv (.long y :: st) ws) : G Γ cn sn pc lv (.long x :: st) ws := k x rfl
theorem bI_0 {b : Bool} : bI b = 0 ↔ b = false := by cases b <;> decide
theorem bI_n0 {b : Bool} : ¬ bI b = 0 ↔ b = true := by cases b <;> decide
theorem g_zeq (C : Cx Γ cc own nL D tys rm ret mc ms Post) {b : Bool} {off : Int} (tgt : Nat) (hd : decode cc pc = .ok (.ifCond .eq off, 3)) (ht : (pc : Int) + off = (tgt : Int)) (kt : b = false → G Γ cn sn tgt lv st ws) (kf : b = true → G Γ cn sn (pc + 3) lv st ws) : G Γ cn sn pc lv (.int (bI b) :: st) ws :=
  g_if_eq C tgt hd ht (fun z => kt (bI_0.mp z)) (fun z => kf (bI_n0.mp z))
theorem g_zne (C : Cx Γ cc own nL D tys rm ret mc ms Post) {b : Bool} {off : Int} (tgt : Nat) (hd : decode cc pc = .ok (.ifCond .ne off, 3)) (ht : (pc : Int) + off = (tgt : Int)) (kt : b = true → G Γ cn sn tgt lv st ws) (kf : b = false → G Γ cn sn (pc + 3) lv st ws) : G Γ cn sn pc lv (.int (bI b) :: st) ws :=
  g_if_ne C tgt hd ht (fun z => kt (bI_n0.mp z)) (fun z => kf (bI_0.mp z))
theorem g_tin (C : Cx Γ cc own nL D tys rm ret mc ms Post) {x : Int32} {dflt lo hi : Int} {offs : Array Int} {len : Nat} {off : Int} (tgt : Nat) (v : Int32) (hv : x = v) (h1 : ¬ v.toInt < lo) (h2 : ¬ hi < v.toInt) (ho : offs[(v.toInt - lo).toNat]? = some off) (ht : (pc : Int) + off = (tgt : Int)) (hd : decode cc pc = .ok (.tableswitch dflt lo hi offs, len)) (k : G Γ cn sn tgt lv st ws) : G Γ cn sn pc lv (.int x :: st) ws := by
  obtain ⟨p, l, e, R, s, m, args, below, meth, c, nL', D', A, Q⟩ := Γ
  obtain ⟨rfl, rfl, hx, hb, hml, hown, hlk, hts, hK, hA, rfl, hrr, rfl⟩ := C
  subst hv
  intro H locs ls hP hD hS hl
  exact lv_tableIn hx hb hd h1 h2 ho ht (k H locs ls hP hD hS hl)
theorem g_tout (C : Cx Γ cc own nL D tys rm ret mc ms Post) {x : Int32} {dflt lo hi : Int} {offs : Array Int} {len : Nat} (tgt : Nat) (h : x.toInt < lo ∨ hi < x.toInt) (ht : (pc : Int) + dflt = (tgt : Int)) (hd : decode cc pc = .ok (.tableswitch dflt lo hi offs, len)) (k : G Γ cn sn tgt lv st ws) : G Γ cn sn pc lv (.int x :: st) ws := by
  obtain ⟨p, l, e, R, s, m, args, below, meth, c, nL', D', A, Q⟩ := Γ
  obtain ⟨rfl, rfl, hx, hb, hml, hown, hlk, hts, hK, hA, rfl, hrr, rfl⟩ := C
  intro H locs ls hP hD hS hl
  exact lv_tableOut hx hb hd h ht (k H locs ls hP hD hS hl)
theorem g_ne {x v : Int32} {n : Int} (h : ¬ x = v) (hv : v.toInt = n) : x.toInt ≠ n := fun e => h (Int32.toInt_inj.mp (e.trans hv.symm))
/-- a local counted up, its new value named -/
theorem g_iincN (C : Cx Γ cc own nL D tys rm ret mc ms Post) {i : Nat} {n : Int} {x : Int32} (v : Int32) (lv' : Int32 → List (Nat × Value)) (hd : decode cc pc = .ok (.iinc i n, 3)) (hv : gl_at lv i = some (.int x)) (ev : Int32.ofInt n = v) (hn : i < nL) (he : ∀ y : Int32, gl_put i (.int y) lv = lv' y) (k : ∀ y : Int32, y = x + v → G Γ cn sn (pc + 3) (lv' y) st ws) : G Γ cn sn pc lv st ws :=
  g_iinc C v (lv' (x + v)) hd hv ev hn (he _) (k _ rfl)
end K11
/-- rooms of methods that make nothing, by their height over the leaves -/
def rl (d : Nat) : Room := { frames := d, cells := 0, slots := 0, locals := 100 * d }
theorem rl_ok {d e maxL : Nat} (h : d < e) (hm : maxL ≤ 81) : gRm (rl d) (rl e) maxL 0 0 0 0 := ⟨rfl, rfl, ⟨h, by show 8 + (maxL + 11) + 100 * d ≤ 100 * e; omega⟩, Nat.le_refl 0, Nat.le_refl 0⟩
/-! what a method of the reference answers: over its new memory, or over the old one alone -/
section PM
variable (ca : Nat → ClassId) (o : Nat → Nat)
def PMi (Q : Int32 → gI → gJ → Prop) : Option Value → va_W → Prop := fun v ws => ∃ (r : Int32) (I : gI) (J : gJ), v = some (.int r) ∧ ws = cM ca o I J ∧ Q r I J
def PMz (Q : Bool → gI → gJ → Prop) : Option Value → va_W → Prop := fun v ws => ∃ (r : Bool) (I : gI) (J : gJ), v = some (.int (bI r)) ∧ ws = cM ca o I J ∧ Q r I J
def PMl (Q : Int64 → gI → gJ → Prop) : Option Value → va_W → Prop := fun v ws => ∃ (r : Int64) (I : gI) (J : gJ), v = some (.long r) ∧ ws = cM ca o I J ∧ Q r I J
def PMv (Q : gI → gJ → Prop) : Option Value → va_W → Prop := fun v ws => ∃ (I : gI) (J : gJ), v = none ∧ ws = cM ca o I J ∧ Q I J
def PPi (I : gI) (J : gJ) (Q : Int32 → Prop) : Option Value → va_W → Prop := fun v ws => ∃ (r : Int32), v = some (.int r) ∧ ws = cM ca o I J ∧ Q r
def PPz (I : gI) (J : gJ) (Q : Bool → Prop) : Option Value → va_W → Prop := fun v ws => ∃ (r : Bool), v = some (.int (bI r)) ∧ ws = cM ca o I J ∧ Q r
def PPl (I : gI) (J : gJ) (Q : Int64 → Prop) : Option Value → va_W → Prop := fun v ws => ∃ (r : Int64), v = some (.long r) ∧ ws = cM ca o I J ∧ Q r
end PM
/-- what a call site of a virtual method of ours asks of the tables -/
def gSite (own : String) (y : MethodName) (bytes : ByteArray) (maxL : Nat) (ret : Option FieldType) (index n : Nat) : Prop :=
  GoodIn tb (wsV own index y.cls y (.code y bytes maxL ret :: tb)) ∧ (y.cls ≠ "java/lang/invoke/MethodHandle" ∧ y.cls ≠ "java/lang/invoke/VarHandle" ∧ (parseMethodDescriptor y.desc).map (fun d => d.parameters.length) = some n)
theorem gSite.of {own : String} {y : MethodName} {bytes : ByteArray} {maxL : Nat} {ret : Option FieldType} {index n : Nat} (h1 : Cond.methodLink own index y ∈ tb) (h2 : Cond.instanceMethod y ∈ tb) (h3 : Cond.selects y.cls y y ∈ tb) (h4 : Cond.initialized y.cls ∈ tb) (h5 : Cond.code y bytes maxL ret ∈ tb) (h6 : y.cls ≠ "java/lang/invoke/MethodHandle" ∧ y.cls ≠ "java/lang/invoke/VarHandle" ∧ (parseMethodDescriptor y.desc).map (fun d => d.parameters.length) = some n) : gSite own y bytes maxL ret index n :=
  ⟨gi_app (gi_cons h1 (gi_cons h2 (gi_cons h3 (gi_cons h4 gi_nil)))) (gi_cons h5 gi_tb), h6⟩
section MCALLS
variable {Γ : gT} {cc : ByteArray} {nL : Nat} {D : gD} {ca : Nat → ClassId} {rm : Room} {ret : Option FieldType} {mc ms : Nat} {Post : Option Value → va_W → Prop} {cn sn pc : Nat} {lv : List (Nat × Value)} {st : List Value} {o : Nat → Nat} {I : gI} {J : gJ}
variable {y : MethodName} {bytes : ByteArray} {maxL index : Nat} {ret' : Option FieldType} {rm' : Room} {As : List Value} {Post' : Option Value → va_W → Prop}
theorem m_nmI (I' : gI) (k : ∀ I1 : gI, I1 = I' → G Γ cn sn pc lv st (cM ca o I1 J)) : G Γ cn sn pc lv st (cM ca o I' J) := k I' rfl
theorem m_nmJ (J' : gJ) (k : ∀ J1 : gJ, J1 = J' → G Γ cn sn pc lv st (cM ca o I J1)) : G Γ cn sn pc lv st (cM ca o I J') := k J' rfl
theorem m_call (C : Cx Γ cc RX12 nL D (tyW ca) rm ret mc ms Post) (hy : y.cls = RX12) (hc : Ct y bytes maxL ret' rm' D (tyW ca) 0 0 (.ref (o 0) :: As) (cM ca o I J) Post') (n : Nat) (hs : gSite RX12 y bytes maxL ret' index n) (hr : gRm rm' rm maxL 0 0 0 0) (hn : As.length = n) (hst : (st.map fun v => v.category).sum ≤ 8) (hd : decode cc pc = .ok (.invokevirtual index, 3))
    (k : ∀ (v : Option Value) (ws' : va_W), Post' v ws' → G Γ 0 0 (pc + 3) lv (v.toList ++ st) ws') : G Γ 0 0 pc lv (As.reverse ++ .ref (o 0) :: st) (cM ca o I J) :=
  g_callV C hc n hs.1 hs.2 0 13 (cM_0 ca o I J) (by rw [hy]; rfl) hr hn hst _ rfl hd k
theorem m_calli (C : Cx Γ cc RX12 nL D (tyW ca) rm ret mc ms Post) (hy : y.cls = RX12) {Qp : Int32 → gI → gJ → Prop} (hc : Ct y bytes maxL ret' rm' D (tyW ca) 0 0 (.ref (o 0) :: As) (cM ca o I J) (PMi ca o Qp)) (n : Nat) (hs : gSite RX12 y bytes maxL ret' index n) (hr : gRm rm' rm maxL 0 0 0 0) (hn : As.length = n) (hst : (st.map fun v => v.category).sum ≤ 8) (st0 : List Value) (hs0 : st0 = As.reverse ++ .ref (o 0) :: st) (hd : decode cc pc = .ok (.invokevirtual index, 3))
    (k : ∀ (r : Int32) (I1 : gI) (J1 : gJ), Qp r I1 J1 → G Γ 0 0 (pc + 3) lv (.int r :: st) (cM ca o I1 J1)) : G Γ 0 0 pc lv st0 (cM ca o I J) := by
  subst hs0
  refine m_call C hy hc n hs hr hn hst hd (fun v ws' h => ?_)
  obtain ⟨r, I1, J1, rfl, rfl, h⟩ := h
  exact k r I1 J1 h
theorem m_callz (C : Cx Γ cc RX12 nL D (tyW ca) rm ret mc ms Post) (hy : y.cls = RX12) {Qp : Bool → gI → gJ → Prop} (hc : Ct y bytes maxL ret' rm' D (tyW ca) 0 0 (.ref (o 0) :: As) (cM ca o I J) (PMz ca o Qp)) (n : Nat) (hs : gSite RX12 y bytes maxL ret' index n) (hr : gRm rm' rm maxL 0 0 0 0) (hn : As.length = n) (hst : (st.map fun v => v.category).sum ≤ 8) (st0 : List Value) (hs0 : st0 = As.reverse ++ .ref (o 0) :: st) (hd : decode cc pc = .ok (.invokevirtual index, 3))
    (k : ∀ (r : Bool) (I1 : gI) (J1 : gJ), Qp r I1 J1 → G Γ 0 0 (pc + 3) lv (.int (bI r) :: st) (cM ca o I1 J1)) : G Γ 0 0 pc lv st0 (cM ca o I J) := by
  subst hs0
  refine m_call C hy hc n hs hr hn hst hd (fun v ws' h => ?_)
  obtain ⟨r, I1, J1, rfl, rfl, h⟩ := h
  exact k r I1 J1 h
theorem m_calll (C : Cx Γ cc RX12 nL D (tyW ca) rm ret mc ms Post) (hy : y.cls = RX12) {Qp : Int64 → gI → gJ → Prop} (hc : Ct y bytes maxL ret' rm' D (tyW ca) 0 0 (.ref (o 0) :: As) (cM ca o I J) (PMl ca o Qp)) (n : Nat) (hs : gSite RX12 y bytes maxL ret' index n) (hr : gRm rm' rm maxL 0 0 0 0) (hn : As.length = n) (hst : (st.map fun v => v.category).sum ≤ 8) (st0 : List Value) (hs0 : st0 = As.reverse ++ .ref (o 0) :: st) (hd : decode cc pc = .ok (.invokevirtual index, 3))
    (k : ∀ (r : Int64) (I1 : gI) (J1 : gJ), Qp r I1 J1 → G Γ 0 0 (pc + 3) lv (.long r :: st) (cM ca o I1 J1)) : G Γ 0 0 pc lv st0 (cM ca o I J) := by
  subst hs0
  refine m_call C hy hc n hs hr hn hst hd (fun v ws' h => ?_)
  obtain ⟨r, I1, J1, rfl, rfl, h⟩ := h
  exact k r I1 J1 h
theorem m_callv (C : Cx Γ cc RX12 nL D (tyW ca) rm ret mc ms Post) (hy : y.cls = RX12) {Qp : gI → gJ → Prop} (hc : Ct y bytes maxL ret' rm' D (tyW ca) 0 0 (.ref (o 0) :: As) (cM ca o I J) (PMv ca o Qp)) (n : Nat) (hs : gSite RX12 y bytes maxL ret' index n) (hr : gRm rm' rm maxL 0 0 0 0) (hn : As.length = n) (hst : (st.map fun v => v.category).sum ≤ 8) (st0 : List Value) (hs0 : st0 = As.reverse ++ .ref (o 0) :: st) (hd : decode cc pc = .ok (.invokevirtual index, 3))
    (k : ∀ (I1 : gI) (J1 : gJ), Qp I1 J1 → G Γ 0 0 (pc + 3) lv st (cM ca o I1 J1)) : G Γ 0 0 pc lv st0 (cM ca o I J) := by
  subst hs0
  refine m_call C hy hc n hs hr hn hst hd (fun v ws' h => ?_)
  obtain ⟨I1, J1, rfl, rfl, h⟩ := h
  exact k I1 J1 h
theorem m_callPi (C : Cx Γ cc RX12 nL D (tyW ca) rm ret mc ms Post) (hy : y.cls = RX12) {Qp : Int32 → Prop} (hc : Ct y bytes maxL ret' rm' D (tyW ca) 0 0 (.ref (o 0) :: As) (cM ca o I J) (PPi ca o I J Qp)) (n : Nat) (hs : gSite RX12 y bytes maxL ret' index n) (hr : gRm rm' rm maxL 0 0 0 0) (hn : As.length = n) (hst : (st.map fun v => v.category).sum ≤ 8) (st0 : List Value) (hs0 : st0 = As.reverse ++ .ref (o 0) :: st) (hd : decode cc pc = .ok (.invokevirtual index, 3))
    (k : ∀ (r : Int32), Qp r → G Γ 0 0 (pc + 3) lv (.int r :: st) (cM ca o I J)) : G Γ 0 0 pc lv st0 (cM ca o I J) := by
  subst hs0
  refine m_call C hy hc n hs hr hn hst hd (fun v ws' h => ?_)
  obtain ⟨r, rfl, rfl, h⟩ := h
  exact k r h
theorem m_callPz (C : Cx Γ cc RX12 nL D (tyW ca) rm ret mc ms Post) (hy : y.cls = RX12) {Qp : Bool → Prop} (hc : Ct y bytes maxL ret' rm' D (tyW ca) 0 0 (.ref (o 0) :: As) (cM ca o I J) (PPz ca o I J Qp)) (n : Nat) (hs : gSite RX12 y bytes maxL ret' index n) (hr : gRm rm' rm maxL 0 0 0 0) (hn : As.length = n) (hst : (st.map fun v => v.category).sum ≤ 8) (st0 : List Value) (hs0 : st0 = As.reverse ++ .ref (o 0) :: st) (hd : decode cc pc = .ok (.invokevirtual index, 3))
    (k : ∀ (r : Bool), Qp r → G Γ 0 0 (pc + 3) lv (.int (bI r) :: st) (cM ca o I J)) : G Γ 0 0 pc lv st0 (cM ca o I J) := by
  subst hs0
  refine m_call C hy hc n hs hr hn hst hd (fun v ws' h => ?_)
  obtain ⟨r, rfl, rfl, h⟩ := h
  exact k r h
theorem m_callPl (C : Cx Γ cc RX12 nL D (tyW ca) rm ret mc ms Post) (hy : y.cls = RX12) {Qp : Int64 → Prop} (hc : Ct y bytes maxL ret' rm' D (tyW ca) 0 0 (.ref (o 0) :: As) (cM ca o I J) (PPl ca o I J Qp)) (n : Nat) (hs : gSite RX12 y bytes maxL ret' index n) (hr : gRm rm' rm maxL 0 0 0 0) (hn : As.length = n) (hst : (st.map fun v => v.category).sum ≤ 8) (st0 : List Value) (hs0 : st0 = As.reverse ++ .ref (o 0) :: st) (hd : decode cc pc = .ok (.invokevirtual index, 3))
    (k : ∀ (r : Int64), Qp r → G Γ 0 0 (pc + 3) lv (.long r :: st) (cM ca o I J)) : G Γ 0 0 pc lv st0 (cM ca o I J) := by
  subst hs0
  refine m_call C hy hc n hs hr hn hst hd (fun v ws' h => ?_)
  obtain ⟨r, rfl, rfl, h⟩ := h
  exact k r h
end MCALLS
