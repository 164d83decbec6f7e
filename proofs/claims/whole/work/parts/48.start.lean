/-! the start: both memories alike; what the statement gives -/
theorem Rl_0 : Rl 0 (fun _ => (0, 0, 0, 0)) I0i J0i X0i Y0i R0i [] S0i := by
  refine ⟨⟨by omega, rfl, rfl, fun i hi => absurd hi (by omega)⟩, fun k _ i q h => (by cases h), Or.inl ⟨rfl, rfl⟩, fun s _ => Or.inl ⟨rfl, rfl, rfl⟩, fun s _ i _ => rfl, fun k hk => ?_, rfl, ⟨0, by omega, rfl, rfl, rfl, fun i hi => absurd hi (by omega)⟩, fun i _ => rfl, ⟨fun _ => false, by decide, rfl, fun m _ => ⟨fun _ => rfl, fun h => Bool.noConfusion h⟩⟩, ⟨0, by omega, rfl, fun h => absurd h (by omega)⟩⟩
  rfl
theorem tbX_ok {args : Array Value} {s : State} (hts : ∀ w ∈ lw_tbl, w.before args s = true) : ∀ w ∈ tbX, w.before args s = true := by
  intro w hw
  obtain rfl := List.mem_singleton.mp hw
  have hpriv := hts (.privateMethod ⟨"java/lang/AbstractStringBuilder","ensureCapacityInternal","(I)V"⟩) (List.mem_of_getElem? (i := 1098) (by decide +kernel))
  have hinst := hts (.instanceMethod ⟨"java/lang/AbstractStringBuilder","ensureCapacityInternal","(I)V"⟩) (List.mem_of_getElem? (i := 1099) (by decide +kernel))
  have hoth := hts (.selects "java/lang/StringBuilder" ⟨"java/lang/AbstractStringBuilder","isLatin1","()Z"⟩ ⟨"java/lang/AbstractStringBuilder","isLatin1","()Z"⟩) (List.mem_of_getElem? (i := 1129) (by decide +kernel))
  obtain ⟨mk, methM, hnamed, hmethM, -, -⟩ := Cond.instanceMethod_spec hinst
  obtain ⟨c, r, m', hc, -, hm', -, k', hk', hni⟩ := Cond.selects_spec hoth
  have hfound : s.methodFound? "java/lang/AbstractStringBuilder" "ensureCapacityInternal" "(I)V" = some mk := State.methodFound?_of_named hnamed (by decide)
  have e1 : s.vm.findClass "java/lang/AbstractStringBuilder" = some m'.cls := findClass_of_methodNamed hm'
  have e2 : s.vm.findClass "java/lang/AbstractStringBuilder" = some mk.cls := findClass_of_methodNamed hnamed
  have hcls : m'.cls = mk.cls := Option.some.inj (e1.symm.trans e2)
  have hsel : selectMethod {} s.vm c mk = .method mk := selectMethod_private hmethM (Cond.privateMethod_at hpriv mk methM hnamed hmethM)
  rw [hcls] at hk'
  simp only [Cond.before, Cond.holds, Cond.value, hc, hfound, hnamed, hsel, hk']
  simp
  exact hni
theorem tb_ok {args : Array Value} {s : State} (hts : ∀ w ∈ lw_tbl, w.before args s = true) : ∀ w ∈ tb, w.before args s = true := fun w hw => (tb_law w hw).elim (tbX_ok hts w) (hts w)
theorem kn_0 {args : Array Value} {s : State} (hts : ∀ w ∈ lw_tbl, w.before args s = true) : ∃ D : va_G, ∀ (k : Nat) (q : vw_C), vwCl[k]? = some q → u_Kn s q.1 q.2.1 q.2.2 (D.1 k) (D.2 k) := by
  have htb := tb_ok hts
  have h : ∀ k : Nat, ∃ d : ClassId × (Nat → Nat), ∀ q : vw_C, vwCl[k]? = some q → u_Kn s q.1 q.2.1 q.2.2 d.1 d.2 := by
    intro k
    match k with
    | 0 =>
      obtain ⟨c, f, h⟩ := u_known (C := RJ4) (T := TJ4) (N := 4) (n := 4) htb inCJ4 (hts _ (List.mem_of_getElem? (i := 116) (by decide +kernel)))
      exact ⟨(c, f), fun q hq => by cases hq; exact h⟩
    | 1 =>
      obtain ⟨c, f, h⟩ := u_known (C := RX0) (T := TX0) (N := 6) (n := 6) htb inCX0 (hts _ (List.mem_of_getElem? (i := 576) (by decide +kernel)))
      exact ⟨(c, f), fun q hq => by cases hq; exact h⟩
    | 2 =>
      obtain ⟨c, f, h⟩ := u_known (C := RX1) (T := TX1) (N := 7) (n := 7) htb inCX1 (hts _ (List.mem_of_getElem? (i := 187) (by decide +kernel)))
      exact ⟨(c, f), fun q hq => by cases hq; exact h⟩
    | 3 =>
      obtain ⟨c, f, h⟩ := u_known (C := RX2) (T := TX2) (N := 6) (n := 6) htb inCX2 (hts _ (List.mem_of_getElem? (i := 562) (by decide +kernel)))
      exact ⟨(c, f), fun q hq => by cases hq; exact h⟩
    | 4 =>
      obtain ⟨c, f, h⟩ := u_known (C := RX3) (T := TX3) (N := 5) (n := 5) htb inCX3 (hts _ (List.mem_of_getElem? (i := 588) (by decide +kernel)))
      exact ⟨(c, f), fun q hq => by cases hq; exact h⟩
    | 5 =>
      obtain ⟨c, f, h⟩ := u_known (C := RX4) (T := TX4) (N := 6) (n := 6) htb inCX4 (hts _ (List.mem_of_getElem? (i := 221) (by decide +kernel)))
      exact ⟨(c, f), fun q hq => by cases hq; exact h⟩
    | 6 =>
      obtain ⟨c, f, h⟩ := u_known (C := RX5) (T := TX5) (N := 5) (n := 5) htb inCX5 (hts _ (List.mem_of_getElem? (i := 599) (by decide +kernel)))
      exact ⟨(c, f), fun q hq => by cases hq; exact h⟩
    | 7 =>
      obtain ⟨c, f, h⟩ := u_known (C := RX6) (T := TX6) (N := 9) (n := 9) htb inCX6 (hts _ (List.mem_of_getElem? (i := 149) (by decide +kernel)))
      exact ⟨(c, f), fun q hq => by cases hq; exact h⟩
    | 8 =>
      obtain ⟨c, f, h⟩ := u_known (C := RX7) (T := TX7) (N := 5) (n := 5) htb inCX7 (hts _ (List.mem_of_getElem? (i := 507) (by decide +kernel)))
      exact ⟨(c, f), fun q hq => by cases hq; exact h⟩
    | 9 =>
      obtain ⟨c, f, h⟩ := u_known (C := RX8) (T := TX8) (N := 3) (n := 3) htb inCX8 (hts _ (List.mem_of_getElem? (i := 245) (by decide +kernel)))
      exact ⟨(c, f), fun q hq => by cases hq; exact h⟩
    | 10 =>
      obtain ⟨c, f, h⟩ := u_known (C := RX9) (T := TX9) (N := 5) (n := 5) htb inCX9 (hts _ (List.mem_of_getElem? (i := 610) (by decide +kernel)))
      exact ⟨(c, f), fun q hq => by cases hq; exact h⟩
    | 11 =>
      obtain ⟨c, f, h⟩ := u_known (C := RX10) (T := TX10) (N := 5) (n := 5) htb inCX10 (hts _ (List.mem_of_getElem? (i := 550) (by decide +kernel)))
      exact ⟨(c, f), fun q hq => by cases hq; exact h⟩
    | 12 =>
      obtain ⟨c, f, h⟩ := u_known (C := RX11) (T := TX11) (N := 12) (n := 12) htb inCX11 (hts _ (List.mem_of_getElem? (i := 104) (by decide +kernel)))
      exact ⟨(c, f), fun q hq => by cases hq; exact h⟩
    | 13 =>
      obtain ⟨c, f, h⟩ := u_known (C := RX12) (T := TX12) (N := 56) (n := 56) htb inM (hts _ (List.mem_of_getElem? (i := 1299) (by decide +kernel)))
      exact ⟨(c, f), fun q hq => by cases hq; exact h⟩
    | n + 14 => exact ⟨(default, fun _ => 0), fun q hq => by
        have := (List.getElem?_eq_some_iff.mp hq).1
        have e : vwCl.length = 14 := rfl
        omega⟩
  obtain ⟨f, hf⟩ := Classical.axiomOfChoice h
  exact ⟨(fun k => (f k).1, fun k => (f k).2), fun k q hq => hf k q hq⟩
theorem ar_prim {args : Array Value} {s : State} {ty : FieldType} (hp : ty = .int ∨ ty = .long ∨ ty = .byte) (h : (Cond.arrayClass ty).before args s = true) : ∃ c : ClassId, ArrOfT s c ty ∧ va_RA s c ty := by
  obtain ⟨c, k, comp, h1, h2, h3⟩ := Cond.arrayClass_spec h
  refine ⟨c, fun n z => ⟨?_, k, h2, comp, h3⟩, ?_⟩
  · intro k h
    cases h
  · rcases hp with rfl | rfl | rfl <;> exact h1
theorem ar_obj {args : Array Value} {s : State} {C : String} (h : (Cond.arrayOver (.object C)).before args s = true) : ∃ c : ClassId, ArrOfT s c (.object C) ∧ va_RA s c (.object C) := by
  obtain ⟨comp, c, k, f1, -, f2, f3, f4⟩ := Cond.arrayOver_spec h
  refine ⟨c, fun n z => ⟨?_, k, f2, comp, f3⟩, k, comp, f2, f3, f1, f4⟩
  intro k h
  cases h
theorem K_0 {args : Array Value} {s : State} (hts : ∀ w ∈ lw_tbl, w.before args s = true) : ∃ (D : va_G) (ca : Nat → ClassId), va_K D vwCl (tyW ca) s := by
  obtain ⟨D, hD⟩ := kn_0 hts
  obtain ⟨c0, a0⟩ := ar_prim (Or.inl rfl) (hts _ (List.mem_of_getElem? (i := 146) (by decide +kernel)))
  obtain ⟨c1, a1⟩ := ar_prim (Or.inr (Or.inl rfl)) (hts _ (List.mem_of_getElem? (i := 264) (by decide +kernel)))
  obtain ⟨c2, a2⟩ := ar_prim (Or.inr (Or.inr rfl)) (hts _ (List.mem_of_getElem? (i := 147) (by decide +kernel)))
  obtain ⟨c3, a3⟩ := ar_obj (C := RX9) (hts _ (List.mem_of_getElem? (i := 112) (by decide +kernel)))
  obtain ⟨c4, a4⟩ := ar_obj (C := RX8) (hts _ (List.mem_of_getElem? (i := 114) (by decide +kernel)))
  refine ⟨D, fun n => ([c0, c1, c2, c3, c4] : List ClassId).getD n c0, hD, fun k q hq => ?_⟩
  match k, hq with
  | 0, hq => cases hq; exact a0
  | 1, hq => cases hq; exact a1
  | 2, hq => cases hq; exact a2
  | 3, hq => cases hq; exact a3
  | 4, hq => cases hq; exact a4
  | n + 5, hq => simp [tyW] at hq
set_option maxHeartbeats 4000000 in
theorem gZ_0 {b : Nat} {s : State} (hts : ∀ w ∈ lw_tbl, w.before #[Value.ref b] s = true) (hgv : (Jvm.Cond.and given_1 narrow_1).before #[Value.ref b] s = true) : ∃ z : gE, gZ z (fun q => s.heap.size ≤ q) s s.heap := by
  have hs := flat_of_before _ hgv
  have hA : ∀ a : Nat, a < s.heap.size → ¬ (fun q => s.heap.size ≤ q) a := fun a h => Nat.not_le.mpr h
  obtain ⟨t, ht, hT⟩ := va_Tof (args := #[Value.ref b]) (s := s) (tm := .static RX11 "KIND_ABOVE" "[I") (ty := .int) (N := 7) (f := fun j => .int (kaF j)) (A := fun q => s.heap.size ≤ q) (by omega) (hs _ (by decide +kernel)) (va_eqt (hs _ (by decide +kernel))) (fun j hj => by
    rcases (show j = 0 ∨ j = 1 ∨ j = 2 ∨ j = 3 ∨ j = 4 ∨ j = 5 ∨ j = 6 by omega) with rfl | rfl | rfl | rfl | rfl | rfl | rfl <;> exact va_eqt (hs _ (by decide +kernel))) hA
  obtain ⟨adK, adV, hS, hK⟩ := vk_Sof (args := #[Value.ref b]) (s := s) (N := 5) (tm := fun i => .string RX6 (tx_at i)) (len := tx_len) (byt := tx_byt) (A := fun q => s.heap.size ≤ q)
    (fun i hi => by rcases (show i = 0 ∨ i = 1 ∨ i = 2 ∨ i = 3 ∨ i = 4 by omega) with rfl | rfl | rfl | rfl | rfl <;> decide)
    (fun i hi => by rcases (show i = 0 ∨ i = 1 ∨ i = 2 ∨ i = 3 ∨ i = 4 by omega) with rfl | rfl | rfl | rfl | rfl <;> exact hs _ (by decide +kernel))
    (fun i hi => by rcases (show i = 0 ∨ i = 1 ∨ i = 2 ∨ i = 3 ∨ i = 4 by omega) with rfl | rfl | rfl | rfl | rfl <;> exact hs _ (by decide +kernel))
    (fun i hi => by rcases (show i = 0 ∨ i = 1 ∨ i = 2 ∨ i = 3 ∨ i = 4 by omega) with rfl | rfl | rfl | rfl | rfl <;> exact hs _ (by decide +kernel))
    (fun i hi => by rcases (show i = 0 ∨ i = 1 ∨ i = 2 ∨ i = 3 ∨ i = 4 by omega) with rfl | rfl | rfl | rfl | rfl <;> exact hs _ (by decide +kernel))
    (fun i hi j hj => by
      rcases (show i = 0 ∨ i = 1 ∨ i = 2 ∨ i = 3 ∨ i = 4 by omega) with rfl | rfl | rfl | rfl | rfl
      · have hj : j < 5 := hj
        rcases (show j = 0 ∨ j = 1 ∨ j = 2 ∨ j = 3 ∨ j = 4 by omega) with rfl | rfl | rfl | rfl | rfl <;> exact hs _ (by decide +kernel)
      · have hj : j < 1 := hj
        obtain rfl : j = 0 := by omega
        exact hs _ (by decide +kernel)
      · have hj : j < 5 := hj
        rcases (show j = 0 ∨ j = 1 ∨ j = 2 ∨ j = 3 ∨ j = 4 by omega) with rfl | rfl | rfl | rfl | rfl <;> exact hs _ (by decide +kernel)
      · have hj : j < 5 := hj
        rcases (show j = 0 ∨ j = 1 ∨ j = 2 ∨ j = 3 ∨ j = 4 by omega) with rfl | rfl | rfl | rfl | rfl <;> exact hs _ (by decide +kernel)
      · have hj : j < 1 := hj
        obtain rfl : j = 0 := by omega
        exact hs _ (by decide +kernel))
    (fun i j hi hj hne => by
      rcases (show i < j ∨ j < i by omega) with h | h
      · refine Or.inl ?_
        rcases (show i = 0 ∨ i = 1 ∨ i = 2 ∨ i = 3 ∨ i = 4 by omega) with rfl | rfl | rfl | rfl | rfl <;> rcases (show j = 0 ∨ j = 1 ∨ j = 2 ∨ j = 3 ∨ j = 4 by omega) with rfl | rfl | rfl | rfl | rfl <;> first | (exfalso; omega) | exact hs _ (by decide +kernel)
      · refine Or.inr ?_
        rcases (show i = 0 ∨ i = 1 ∨ i = 2 ∨ i = 3 ∨ i = 4 by omega) with rfl | rfl | rfl | rfl | rfl <;> rcases (show j = 0 ∨ j = 1 ∨ j = 2 ∨ j = 3 ∨ j = 4 by omega) with rfl | rfl | rfl | rfl | rfl <;> first | (exfalso; omega) | exact hs _ (by decide +kernel)) hA
  refine ⟨(t, adK, adV), va_Zof (hts _ (List.mem_of_getElem? (i := 125) (by decide +kernel))) (hts _ (List.mem_of_getElem? (i := 81) (by decide +kernel))) (va_eqi (hs _ (by decide +kernel))) hA, va_Zref (hts _ (List.mem_of_getElem? (i := 389) (by decide +kernel))) (hts _ (List.mem_of_getElem? (i := 78) (by decide +kernel))) ht hA, hT, hS, fun i hi => vk_R.of ?_ (hK i hi), va_Zqof (hts _ (List.mem_of_getElem? (i := 681) (by decide +kernel))) (hts _ (List.mem_of_getElem? (i := 98) (by decide +kernel))) (hs _ (by decide +kernel)) hA, ?_, ?_, va_AO.of (hts _ (List.mem_of_getElem? (i := 112) (by decide +kernel))), va_AO.of (hts _ (List.mem_of_getElem? (i := 114) (by decide +kernel)))⟩
  · rcases (show i = 0 ∨ i = 1 ∨ i = 2 ∨ i = 3 ∨ i = 4 by omega) with rfl | rfl | rfl | rfl | rfl
    · exact (hts _ (List.mem_of_getElem? (i := 652) (by decide +kernel)))
    · exact (hts _ (List.mem_of_getElem? (i := 708) (by decide +kernel)))
    · exact (hts _ (List.mem_of_getElem? (i := 724) (by decide +kernel)))
    · exact (hts _ (List.mem_of_getElem? (i := 733) (by decide +kernel)))
    · exact (hts _ (List.mem_of_getElem? (i := 734) (by decide +kernel)))
  · exact List.forall_mem_cons.mpr ⟨va_Nw.of rfl (hts _ (List.mem_of_getElem? (i := 1866) (by decide +kernel))), List.forall_mem_cons.mpr ⟨va_Nw.of rfl (hts _ (List.mem_of_getElem? (i := 1867) (by decide +kernel))), List.forall_mem_cons.mpr ⟨va_Nw.of rfl (hts _ (List.mem_of_getElem? (i := 1868) (by decide +kernel))), List.forall_mem_cons.mpr ⟨va_Nw.of rfl (hts _ (List.mem_of_getElem? (i := 1869) (by decide +kernel))), List.forall_mem_cons.mpr ⟨va_Nw.of rfl (hts _ (List.mem_of_getElem? (i := 1870) (by decide +kernel))), List.forall_mem_cons.mpr ⟨va_Nw.of rfl (hts _ (List.mem_of_getElem? (i := 1871) (by decide +kernel))), fun _ h => absurd h List.not_mem_nil⟩⟩⟩⟩⟩⟩
  · exact List.forall_mem_cons.mpr ⟨va_Nw.of rfl (hts _ (List.mem_of_getElem? (i := 150) (by decide +kernel))), List.forall_mem_cons.mpr ⟨va_Nw.of rfl (hts _ (List.mem_of_getElem? (i := 222) (by decide +kernel))), List.forall_mem_cons.mpr ⟨va_Nw.of rfl (hts _ (List.mem_of_getElem? (i := 246) (by decide +kernel))), List.forall_mem_cons.mpr ⟨va_Nw.of rfl (hts _ (List.mem_of_getElem? (i := 635) (by decide +kernel))), List.forall_mem_cons.mpr ⟨va_Nw.of rfl (hts _ (List.mem_of_getElem? (i := 714) (by decide +kernel))), fun _ h => absurd h List.not_mem_nil⟩⟩⟩⟩⟩
