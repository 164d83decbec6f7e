/-! the words that every method of ours is proved from: all of the law's that keep -/
def tbX : List Cond := [.selects "java/lang/StringBuilder" ⟨"java/lang/AbstractStringBuilder", "ensureCapacityInternal", "(I)V"⟩ ⟨"java/lang/AbstractStringBuilder", "ensureCapacityInternal", "(I)V"⟩]
def tb : List Cond := (tbX ++ lw_tbl).filter goodWord
theorem tb_in {w : Cond} (h : w ∈ lw_tbl) (g : goodWord w = true) : w ∈ tb := List.mem_filter.mpr ⟨List.mem_append_right _ h, g⟩
theorem tb_inX {w : Cond} (h : w ∈ tbX) (g : goodWord w = true) : w ∈ tb := List.mem_filter.mpr ⟨List.mem_append_left _ h, g⟩
theorem tb_good : ∀ w ∈ tb, goodWord w = true := fun w h => (List.mem_filter.mp h).2
theorem tb_law : ∀ w ∈ tb, w ∈ tbX ∨ w ∈ lw_tbl := fun w h => List.mem_append.mp (List.mem_filter.mp h).1
theorem gi_tb : GoodIn tb tb := fun w h => ⟨h, good_of_word (tb_good w h)⟩
theorem gi_app {a b : List Cond} (ha : GoodIn tb a) (hb : GoodIn tb b) : GoodIn tb (a ++ b) := goodIn_app ha hb
theorem gi_cons {a : Cond} {b : List Cond} (ha : a ∈ tb) (hb : GoodIn tb b) : GoodIn tb (a :: b) := fun w h => (List.mem_cons.mp h).elim (fun e => by rw [e]; exact ⟨ha, good_of_word (tb_good a ha)⟩) (hb w)
theorem gi_nil : GoodIn tb [] := fun _ h => absurd h List.not_mem_nil
/-! what stays as it was from the start: two statics, and five constant texts; z: where the table of kinds lies, where the texts and their letters lie -/
abbrev gE : Type := Nat × (Nat → Nat) × (Nat → Nat)
def tx_at : Nat → Nat
  | 0 => 64
  | 1 => 66
  | 2 => 93
  | 3 => 106
  | _ => 58
def tx_tx : Nat → String
  | 0 => "strip"
  | 1 => " "
  | 2 => "turn "
  | 3 => "less "
  | _ => ";"
def gcs : List String := ["FoldedInHalf$Same", "FoldedInHalf$Third", "FoldedInHalf$Cut", "FoldedInHalf$Back", "FoldedInHalf$Glass", "FoldedInHalf$Left"]
def gns : List (String × Nat × MethodName × String) := [("FoldedInHalf", 44, ⟨"FoldedInHalf$Reader","<init>","()V"⟩, "FoldedInHalf"), ("FoldedInHalf", 63, ⟨"FoldedInHalf$Leaves","<init>","()V"⟩, "FoldedInHalf"), ("FoldedInHalf", 68, ⟨"FoldedInHalf$Shelf","<init>","()V"⟩, "FoldedInHalf"), ("FoldedInHalf$Reader", 17, ⟨"FoldedInHalf","copyStrips","([LFoldedInHalf$Strip;[LFoldedInHalf$Strip;)V"⟩, "FoldedInHalf"), ("FoldedInHalf$Reader", 75, ⟨"FoldedInHalf","mostLevels","(I)I"⟩, "FoldedInHalf")]
/-- words that hold throughout, though they aren't of those that keep by themselves -/
def gN (U : State) : Prop := (∀ c ∈ gcs, va_Nw (.castable c "FoldedInHalf$Strip") U) ∧ (∀ q ∈ gns, va_Nw (.methodLinkNest q.1 q.2.1 q.2.2.1 q.2.2.2) U) ∧ va_AO "FoldedInHalf$Strip" U ∧ va_AO "FoldedInHalf$Shelf" U
theorem gN.go {s U : State} (h : gN s) (hW : s.WarmedH U.vm) : gN U := ⟨fun c hc => (h.1 c hc).warmC hW, fun q hq => (h.2.1 q hq).warmM hW, h.2.2.1.moved hW.alike, h.2.2.2.moved hW.alike⟩
theorem gN.same {u U : State} (h : gN u) (e : u.vm = U.vm) : gN U := ⟨fun c hc => (h.1 c hc).same rfl e, fun q hq => (h.2.1 q hq).same rfl e, h.2.2.1.moved (e ▸ Vm.Alike.refl u.vm), h.2.2.2.moved (e ▸ Vm.Alike.refl u.vm)⟩
def gZ (z : gE) (A : Nat → Prop) (U : State) (H : Heap) : Prop :=
  va_Z "java/lang/String" "COMPACT_STRINGS" "Z" (.int 1) A U H ∧ va_Z RX11 "KIND_ABOVE" "[I" (.ref z.1) A U H ∧ va_T .int z.1 7 (fun j => .int (kaF j)) A U H ∧ vk_S 5 tx_len tx_byt z.2.1 z.2.2 A U H ∧ (∀ i, i < 5 → vk_R RX6 (tx_at i) (tx_tx i) (z.2.1 i) U) ∧ va_Zq "jdk/internal/util/Preconditions" "SIOOBE_FORMATTER" "Ljava/util/function/BiFunction;" A U H ∧ gN U
theorem gZq_go {A B : Nat → Prop} {C n d : String} {s U : State} {H : Heap} (h : va_Zq C n d A s s.heap) (hvm : s.vm.Alike U.vm) (hq : ∀ a : Nat, a < s.heap.size → ¬ A a → H[a]? = s.heap[a]?) (hB : ∀ q, B q → A q) : va_Zq C n d B U H := h.elim (fun h => Or.inl (((h.moved hvm).kept hq).narrow hB)) (fun ⟨t, h⟩ => Or.inr ⟨t, ((h.moved hvm).kept hq).narrow hB⟩)
theorem gZ.go {z : gE} {A B : Nat → Prop} {s U : State} {H : Heap} (h : gZ z A s s.heap) (hW : s.WarmedH U.vm) (hq : ∀ a : Nat, a < s.heap.size → ¬ A a → H[a]? = s.heap[a]?) (hB : ∀ q, B q → A q) : gZ z B U H :=
  ⟨((h.1.moved hW.alike).kept hq).narrow hB, ((h.2.1.moved hW.alike).kept hq).narrow hB, ((h.2.2.1.moved hW.alike).kept hq).narrow hB, ((h.2.2.2.1.moved hW.alike).kept hq).narrow hB, fun i hi => (h.2.2.2.2.1 i hi).warm hW, gZq_go h.2.2.2.2.2.1 hW.alike hq hB, h.2.2.2.2.2.2.go hW⟩
theorem gZ.calling {z : gE} {A : Nat → Prop} {U : State} {g : JFrame} {mk : MethodId} {a : Array Value} {H : Heap} (h : gZ z A U H) : gZ z A (U.calling g mk a) H :=
  ⟨h.1.moved (Vm.Alike.refl U.vm), h.2.1.moved (Vm.Alike.refl U.vm), h.2.2.1.moved (Vm.Alike.refl U.vm), h.2.2.2.1.moved (Vm.Alike.refl U.vm), fun i hi => (h.2.2.2.2.1 i hi).same (u := U) rfl, h.2.2.2.2.2.1.elim (fun h => Or.inl (h.moved (Vm.Alike.refl U.vm))) (fun ⟨t, h⟩ => Or.inr ⟨t, h.moved (Vm.Alike.refl U.vm)⟩), h.2.2.2.2.2.2.same rfl⟩
abbrev gD : Type := va_G × gE
/-! one activation: the machine's parts in one tuple -/
abbrev gT : Type := Program × Launch × Env × Room × State × MethodId × Array Value × List Frame × Method × Code × Nat × gD × (Nat → Prop) × (State → Prop)
/-- from here on, with these locals, this stack, these cells: the machine comes to Q -/
def G (Γ : gT) (cn sn pc : Nat) (lv : List (Nat × Value)) (st : List Value) (ws : va_W) : Prop :=
  match Γ with
  | (p, l, e, R, s, m, args, below, meth, c, nL, D, A, Q) => ∀ (H : Heap) (locs : List Loc) (ls : Array Slot), va_P D.1 vwCl ws H → va_D A ws → va_S A s.heap H locs → lv_has ls nL lv → W p l e R s m args below meth c H locs cn sn Q (F0 m pc ls st)
/-- what a method's end must hold: its answer and its cells, and nothing else changed -/
def gQ (D : gD) (tys : List (ClassId × FieldType)) (A : Nat → Prop) (Post : Option Value → va_W → Prop) : Array Value → State → Outcome → State → Prop :=
  fun _ st oc t => (∃ (v : Option Value) (ws : va_W), oc = .returned v ∧ Post v ws ∧ va_P D.1 vwCl ws t.heap ∧ va_K D.1 vwCl tys t ∧ va_D A ws) ∧ va_F A st t
/-- what is known of an activation -/
def Cx (Γ : gT) (cc : ByteArray) (own : String) (nL : Nat) (D : gD) (tys : List (ClassId × FieldType)) (rm : Room) (ret : Option FieldType) (mc ms : Nat) (Post : Option Value → va_W → Prop) : Prop :=
  match Γ with
  | (p, _, _, R, s, m, args, below, meth, c, nL', D', A, Q) => nL' = nL ∧ D' = D ∧ p.tables.exec = Jvm.exec ∧ c.code = cc ∧ c.maxLocals = nL ∧ s.vm.findClass own = some m.cls ∧ meth.locks = false ∧ (∀ w ∈ tb, w.before args s = true) ∧ va_K D.1 vwCl tys s ∧ ((∀ q, s.heap.size ≤ q → A q) ∧ gZ D.2 A s s.heap) ∧ R = rm ∧ meth.sig.returnType = ret ∧ Q = MQ below (gQ D tys A Post) args s mc ms A
/-- a method's contract: from any heap that holds these cells it returns, and Post holds of its answer and the cells behind it; nothing else changed -/
def Ct (y : MethodName) (cc : ByteArray) (nL : Nat) (ret : Option FieldType) (rm : Room) (D : gD) (tys : List (ClassId × FieldType)) (mc ms : Nat) (As : List Value) (ws : va_W) (Post : Option Value → va_W → Prop) : Prop :=
  ∀ (l : Launch) (sz : Nat), Met l y (.code y cc nL ret :: tb) rm (va_Pc As (fun U => U.heap.size = sz ∧ va_P D.1 vwCl ws U.heap ∧ va_K D.1 vwCl tys U ∧ va_D (fun _ => True) ws ∧ gZ D.2 (va_A ws sz) U U.heap)) (gQ D tys (va_A ws sz) Post) mc ms (va_A ws sz)
theorem ct_of {y : MethodName} {cc : ByteArray} {nL : Nat} {ret : Option FieldType} {rm : Room} {D : gD} {tys : List (ClassId × FieldType)} {As : List Value} {ws : va_W} {Post : Option Value → va_W → Prop} (hy : plainName y.cls = true) (hA : (lg_sl As).length ≤ nL)
    (h : ∀ Γ : gT, Cx Γ cc y.cls nL D tys rm ret rm.cells rm.slots Post → G Γ 0 0 0 (lv_args 0 As) [] ws) : Ct y cc nL ret rm D tys rm.cells rm.slots As ws Post := by
  intro l sz
  refine Met.ofW (cc := cc) (maxL := nL) (ret := ret) hy rfl ?_
  intro p e s m args below meth c s₁ B hml hv
  obtain ⟨rfl, hsz, hP, hK, hD0, hZ⟩ := hv
  have hts := atoms_spec (ws := Cond.code y cc nL ret :: tb) B.pre
  have hown : s.vm.findClass y.cls = some m.cls := findClass_of_methodNamed B.named
  subst hsz
  have h1 := h (p, l, e, rm, s, m, As.toArray, below, meth, c, nL, D, va_A ws s.heap.size, MQ below (gQ D tys (va_A ws s.heap.size) Post) As.toArray s rm.cells rm.slots (va_A ws s.heap.size)) ⟨rfl, rfl, B.exec, B.bytes, hml, hown, B.notSynchronized, fun w hw => hts w (List.mem_cons_of_mem _ hw), hK, ⟨fun q hq => Or.inr hq, hZ⟩, rfl, B.returns, rfl⟩
  rw [lg_entry_eq]
  exact h1 s.heap [] _ hP (hD0.self (sz := s.heap.size)) va_S.rf (lv_entry As hA)
/-! locals as a list in order -/
def gl_at : List (Nat × Value) → Nat → Option Value
  | [], _ => none
  | (j, v) :: t, i => if j = i then some v else gl_at t i
theorem gl_mem : ∀ {lv : List (Nat × Value)} {i : Nat} {v : Value}, gl_at lv i = some v → (i, v) ∈ lv
  | [], _, _, h => by cases h
  | (j, u) :: t, i, v, h => by
    unfold gl_at at h
    by_cases e : j = i
    · rw [if_pos e] at h
      cases h
      rw [e]
      exact List.mem_cons_self
    · rw [if_neg e] at h
      exact List.mem_cons_of_mem _ (gl_mem h)
theorem gl_has {ls : Array Slot} {nL : Nat} {lv : List (Nat × Value)} {i : Nat} {v : Value} (h : lv_has ls nL lv) (hl : gl_at lv i = some v) : ls[i]? = some (.val v) := h.2.2 (i, v) (gl_mem hl)
/-- what is left of the locals when v is laid at i -/
def gl_keep (i : Nat) (v : Value) (q : Nat × Value) : Bool := !(q.1 == i) && (!(v.category == 2 && q.1 == i + 1) && !(q.1 + 1 == i && q.2.category == 2))
def gl_put (i : Nat) (v : Value) : List (Nat × Value) → List (Nat × Value)
  | [] => [(i, v)]
  | (j, u) :: t => if j < i then (if gl_keep i v (j, u) = true then (j, u) :: gl_put i v t else gl_put i v t) else (i, v) :: ((j, u) :: t).filter (gl_keep i v)
theorem gl_put_in {i : Nat} {v : Value} : ∀ {lv : List (Nat × Value)} {q : Nat × Value}, q ∈ gl_put i v lv → q = (i, v) ∨ (q ∈ lv ∧ gl_keep i v q = true)
  | [], q, h => Or.inl (List.mem_singleton.mp h)
  | (j, u) :: t, q, h => by
    unfold gl_put at h
    have up : q ∈ gl_put i v t → q = (i, v) ∨ (q ∈ (j, u) :: t ∧ gl_keep i v q = true) := fun h => (gl_put_in h).imp id (fun h => ⟨List.mem_cons_of_mem _ h.1, h.2⟩)
    by_cases h1 : j < i
    · rw [if_pos h1] at h
      by_cases h2 : gl_keep i v (j, u) = true
      · rw [if_pos h2] at h
        rcases List.mem_cons.mp h with e | h
        · subst e
          exact Or.inr ⟨List.mem_cons_self, h2⟩
        · exact up h
      · rw [if_neg h2] at h
        exact up h
    · rw [if_neg h1] at h
      rcases List.mem_cons.mp h with e | h
      · exact Or.inl e
      · exact Or.inr (List.mem_filter.mp h)
theorem gl_store1 {ls : Array Slot} {nL : Nat} {lv : List (Nat × Value)} {i : Nat} {v : Value} (h : lv_has ls nL lv) (hi : i < nL) (hc : v.category = 1) : ∃ ls', storeLocals ls i v = some ls' ∧ lv_has ls' nL (gl_put i v lv) := by
  obtain ⟨ls', e, h'⟩ := lv_store1 h hi hc
  refine ⟨ls', e, h'.1, h'.2.1, fun q hq => ?_⟩
  rcases gl_put_in hq with e | ⟨h1, h2⟩
  · subst e
    exact h'.2.2 _ List.mem_cons_self
  · refine h'.2.2 q (List.mem_cons_of_mem _ (List.mem_filter.mpr ⟨h1, ?_⟩))
    unfold gl_keep at h2
    simp only [hc, Bool.and_eq_true] at h2
    simp only [Bool.and_eq_true]
    exact ⟨h2.1, h2.2.2⟩
theorem gl_store2 {ls : Array Slot} {nL : Nat} {lv : List (Nat × Value)} {i : Nat} {v : Value} (h : lv_has ls nL lv) (hi : i + 1 < nL) (hc : v.category = 2) : ∃ ls', storeLocals ls i v = some ls' ∧ lv_has ls' nL (gl_put i v lv) := by
  obtain ⟨ls', e, h'⟩ := lv_store2 h hi hc
  refine ⟨ls', e, h'.1, h'.2.1, fun q hq => ?_⟩
  rcases gl_put_in hq with e | ⟨h1, h2⟩
  · subst e
    exact h'.2.2 _ List.mem_cons_self
  · refine h'.2.2 q (List.mem_cons_of_mem _ (List.mem_filter.mpr ⟨h1, ?_⟩))
    unfold gl_keep at h2
    rw [hc] at h2
    simpa using h2
theorem gl_sub {ls : Array Slot} {nL : Nat} {lv lv' : List (Nat × Value)} (h : lv_has ls nL lv) (hs : ∀ q ∈ lv', q ∈ lv) : lv_has ls nL lv' := ⟨h.1, h.2.1, fun q hq => h.2.2 q (hs q hq)⟩
