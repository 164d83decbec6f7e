/-! constructors -/
def X0i : gI
  | 0 => fun j => match j with
    | 1 => -1
    | 2 => -1
    | _ => 0
  | 3 => fun _ => -1
  | _ => fun _ => 0
def Y0i : gJ := fun _ _ => 0
def R0i : gR := fun _ _ => none
def S0i : gS := fun _ => (0, 0, 0, 0, 0, 0, 0)
def I0i : gI
  | 0 => fun j => match j with
    | 1 => -1
    | _ => 0
  | 9 => fun i => nI (fh_wt.getD i 0)
  | _ => fun _ => 0
def J0i : gJ := fun _ _ => 0
theorem g_cellq {Γ : gT} {cn sn pc : Nat} {lv : List (Nat × Value)} {st : List Value} {ws : va_W} (j : Nat) {a n : Nat} {cA : ClassId} {f f' : Nat → Option Nat} {cc : ByteArray} {own : String} {nL : Nat} {D : gD} {tys : List (ClassId × FieldType)} {rm : Room} {ret : Option FieldType} {mc ms : Nat} {Post : Option Value → va_W → Prop} (C0 : Cx Γ cc own nL D tys rm ret mc ms Post) (he : ws[j]? = some (a, .inl (cA, n, .inr (.inr (.inr (.inr f)))))) (hf : ∀ i, i < n → f i = f' i) (ws' : va_W) (hw : ws.set j (a, .inl (cA, n, .inr (.inr (.inr (.inr f'))))) = ws') (k : G Γ cn sn pc lv st ws') : G Γ cn sn pc lv st ws := by
  obtain ⟨p, l, e, R', s, m, args, below, meth, c, nL', D', A, Q⟩ := Γ
  subst hw
  obtain ⟨rfl, rfl, -⟩ := C0
  intro H locs ls hP hD hS hl
  have hj : j < ws.length := (List.getElem?_eq_some_iff.mp he).1
  refine k H locs ls (fun i q hq => ?_) ⟨fun i i2 p q hi hi2 e => ?_, fun i q hq => ?_⟩ hS hl
  · by_cases e : i = j
    · subst e
      rw [List.getElem?_set_self hj] at hq
      cases hq
      have h1 := hP i _ he
      show H[a]? = some (vp_cell cA (n, .inr (.inr (.inr (.inr f')))))
      have h1 : H[a]? = some (vp_cell cA (n, .inr (.inr (.inr (.inr f))))) := h1
      rw [h1, vp_cell_q, vp_cell_q]
      congr 1
      unfold arrV
      congr 2
      funext i
      show va_rf (f i.val) = va_rf (f' i.val)
      rw [hf i.val i.isLt]
    · rw [List.getElem?_set_ne (fun h => e h.symm)] at hq
      exact hP i q hq
  · have key : ∀ (i : Nat) (p : Nat × va_E), (ws.set j (a, .inl (cA, n, .inr (.inr (.inr (.inr f'))))))[i]? = some p → ∃ q, ws[i]? = some q ∧ q.1 = p.1 := by
      intro i p hi
      by_cases e : i = j
      · subst e
        rw [List.getElem?_set_self hj] at hi
        cases hi
        exact ⟨_, he, rfl⟩
      · rw [List.getElem?_set_ne (fun h => e h.symm)] at hi
        exact ⟨p, hi, rfl⟩
    obtain ⟨p', hp, e1⟩ := key i p hi
    obtain ⟨q', hq, e2⟩ := key i2 q hi2
    exact hD.1 i i2 p' q' hp hq (e1.trans (e.trans e2.symm))
  · by_cases e : i = j
    · subst e
      rw [List.getElem?_set_self hj] at hq
      cases hq
      show A a
      exact hD.2 i (a, .inl (cA, n, .inr (.inr (.inr (.inr f))))) he
    · rw [List.getElem?_set_ne (fun h => e h.symm)] at hq
      exact hD.2 i q hq
set_option maxRecDepth 100000 in
set_option maxHeartbeats 4000000 in
theorem wX6_k_initN {D : gD} {ca : Nat → ClassId} (q0 : Nat) : Ct yX6_init cX6_init 1 none (rla 1 1 8) D (tyW ca) 1 8 [.ref q0] [(q0, .inr (7, [.null, .int 0, .int 0, .null, .int 0, .int 0, .int 0, .int 0, .long 0]))] (fun v w => v = none ∧ ∃ a1 : Nat, w = [(q0, .inr (7, [.ref a1, .int 0, .int 0, .null, .int 0, .int 0, .int 0, .int 0, .long 0])), (a1, .inl (ca 3, 8, .inr (.inr (.inr (.inr (fun _ => (none : Option Nat)))))))]) := by
  refine ct_ofN (rm := rla 1 1 8) (by decide +kernel) rfl (Nat.le_of_ble_eq_true rfl) (fun Γ hn C => ?_)
  refine W_eqlv (lv' := [(0, .ref q0)]) rfl ?_
  refine g_aload_n C (i := 0) dX6_init_0 rfl rfl ?_
  refine g_objInit C (tb_in (List.mem_of_getElem? (i := 153) (by decide +kernel)) (by decide +kernel)) dX6_init_1 (by decide) (by decide) ?_
  refine g_aload_n C (i := 0) dX6_init_4 rfl rfl ?_
  refine g_bipush C (v := 8) dX6_init_5 (by decide) ?_
  refine g_newq C (C := "FoldedInHalf$Strip") (N := 8) (tb_in (List.mem_of_getElem? (i := 154) (by decide +kernel)) (by decide +kernel)) 3 (by decide) (by decide) (by decide) (Nat.le_of_ble_eq_true rfl) (Nat.le_of_ble_eq_true rfl) (Nat.le_of_ble_eq_true rfl) dX6_init_7 (fun a1 => ?_)
  refine g_eqs (ws' := [(q0, .inr (7, [.null, .int 0, .int 0, .null, .int 0, .int 0, .int 0, .int 0, .long 0])), (a1, .inl (ca 3, 8, .inr (.inr (.inr (.inr (fun _ => (none : Option Nat)))))))]) rfl rfl ?_
  refine g_putF C hn inCX6 tyX6 tyX6_ok nmX6 0 rfl rfl 0 (by decide) (tb_in (List.mem_of_getElem? (i := 155) (by decide +kernel)) (by decide +kernel)) (fun _ _ _ _ h => h) rfl rfl (ty := .array (.object "FoldedInHalf$Strip")) (by decide +kernel) rfl rfl (by show _ < 9; decide) dX6_init_10 ([(q0, .inr (7, [.ref a1, .int 0, .int 0, .null, .int 0, .int 0, .int 0, .int 0, .long 0])), (a1, .inl (ca 3, 8, .inr (.inr (.inr (.inr (fun _ => (none : Option Nat)))))))]) rfl ?_
  exact g_ret_v C dX6_init_13 (Nat.le_of_ble_eq_true rfl) (Nat.le_of_ble_eq_true rfl) ⟨rfl, a1, rfl⟩
set_option maxRecDepth 100000 in
set_option maxHeartbeats 4000000 in
theorem wX8_k_initN {D : gD} {ca : Nat → ClassId} (q0 : Nat) : Ct yX8_init cX8_init 1 none (rla 1 1 160) D (tyW ca) 1 160 [.ref q0] [(q0, .inr (9, [.int 0, .int 0, .null]))] (fun v w => v = none ∧ ∃ a1 : Nat, w = [(q0, .inr (9, [.int (-1), .int 0, .ref a1])), (a1, .inl (ca 1, 160, .inr (.inl (fun _ => (0 : Int64)))))]) := by
  refine ct_ofN (rm := rla 1 1 160) (by decide +kernel) rfl (Nat.le_of_ble_eq_true rfl) (fun Γ hn C => ?_)
  refine W_eqlv (lv' := [(0, .ref q0)]) rfl ?_
  refine g_aload_n C (i := 0) dX8_init_0 rfl rfl ?_
  refine g_objInit C (tb_in (List.mem_of_getElem? (i := 249) (by decide +kernel)) (by decide +kernel)) dX8_init_1 (by decide) (by decide) ?_
  refine g_aload_n C (i := 0) dX8_init_4 rfl rfl ?_
  refine g_iconst_m1 C dX8_init_5 ?_
  refine g_put C inCX8 tyX8 tyX8_ok nmX8 0 rfl rfl 0 (by decide) (tb_in (List.mem_of_getElem? (i := 250) (by decide +kernel)) (by decide +kernel)) (fun _ _ _ _ h => h) rfl (ty := .int) (by decide +kernel) rfl rfl (by show _ < 3; decide) dX8_init_6 ([(q0, .inr (9, [.int (-1), .int 0, .null]))]) rfl ?_
  refine g_aload_n C (i := 0) dX8_init_9 rfl rfl ?_
  refine g_sipush C (v := 160) dX8_init_10 (by decide) ?_
  refine g_newa C (N := 160) (ty := .long) (a0 := (160, .inr (.inl (fun _ => (0 : Int64))))) rfl (tb_in (List.mem_of_getElem? (i := 264) (by decide +kernel)) (by decide +kernel)) 1 rfl (fun _ => rfl) (by decide) (by decide) (Nat.le_of_ble_eq_true rfl) (Nat.le_of_ble_eq_true rfl) (Nat.le_of_ble_eq_true rfl) dX8_init_13 (fun a1 => ?_)
  refine g_eqs (ws' := [(q0, .inr (9, [.int (-1), .int 0, .null])), (a1, .inl (ca 1, 160, .inr (.inl (fun _ => (0 : Int64)))))]) rfl rfl ?_
  refine g_putF C hn inCX8 tyX8 tyX8_ok nmX8 0 rfl rfl 2 (by decide) (tb_in (List.mem_of_getElem? (i := 255) (by decide +kernel)) (by decide +kernel)) (fun _ _ _ _ h => h) rfl rfl (ty := .array .long) (by decide +kernel) rfl rfl (by show _ < 3; decide) dX8_init_15 ([(q0, .inr (9, [.int (-1), .int 0, .ref a1])), (a1, .inl (ca 1, 160, .inr (.inl (fun _ => (0 : Int64)))))]) rfl ?_
  exact g_ret_v C dX8_init_18 (Nat.le_of_ble_eq_true rfl) (Nat.le_of_ble_eq_true rfl) ⟨rfl, a1, rfl⟩
set_option maxRecDepth 100000 in
set_option maxHeartbeats 4000000 in
theorem wX4_k_initN {D : gD} {ca : Nat → ClassId} (q0 : Nat) : Ct yX4_init cX4_init 1 none (rla 1 5 2107) D (tyW ca) 5 2107 [.ref q0] [(q0, .inr (5, [.null, .null, .null, .null, .null, .int 0]))] (fun v w => v = none ∧ ∃ a1 a2 a3 a4 a5 : Nat, w = [(q0, .inr (5, [.ref a1, .ref a2, .ref a3, .ref a4, .ref a5, .int 0])), (a1, .inl (ca 0, 8, .inl (fun _ => (0 : Int32)))), (a2, .inl (ca 0, 8, .inl (fun _ => (0 : Int32)))), (a3, .inl (ca 0, 2073, .inl (fun _ => (0 : Int32)))), (a4, .inl (ca 0, 9, .inl (fun _ => (0 : Int32)))), (a5, .inl (ca 0, 9, .inl (fun _ => (0 : Int32))))]) := by
  refine ct_ofN (rm := rla 1 5 2107) (by decide +kernel) rfl (Nat.le_of_ble_eq_true rfl) (fun Γ hn C => ?_)
  refine W_eqlv (lv' := [(0, .ref q0)]) rfl ?_
  refine g_aload_n C (i := 0) dX4_init_0 rfl rfl ?_
  refine g_objInit C (tb_in (List.mem_of_getElem? (i := 225) (by decide +kernel)) (by decide +kernel)) dX4_init_1 (by decide) (by decide) ?_
  refine g_aload_n C (i := 0) dX4_init_4 rfl rfl ?_
  refine g_bipush C (v := 8) dX4_init_5 (by decide) ?_
  refine g_newa C (N := 8) (ty := .int) (a0 := (8, .inl (fun _ => (0 : Int32)))) rfl (tb_in (List.mem_of_getElem? (i := 146) (by decide +kernel)) (by decide +kernel)) 0 rfl (fun _ => rfl) (by decide) (by decide) (Nat.le_of_ble_eq_true rfl) (Nat.le_of_ble_eq_true rfl) (Nat.le_of_ble_eq_true rfl) dX4_init_7 (fun a1 => ?_)
  refine g_eqs (ws' := [(q0, .inr (5, [.null, .null, .null, .null, .null, .int 0])), (a1, .inl (ca 0, 8, .inl (fun _ => (0 : Int32))))]) rfl rfl ?_
  refine g_putF C hn inCX4 tyX4 tyX4_ok nmX4 0 rfl rfl 0 (by decide) (tb_in (List.mem_of_getElem? (i := 226) (by decide +kernel)) (by decide +kernel)) (fun _ _ _ _ h => h) rfl rfl (ty := .array .int) (by decide +kernel) rfl rfl (by show _ < 6; decide) dX4_init_9 ([(q0, .inr (5, [.ref a1, .null, .null, .null, .null, .int 0])), (a1, .inl (ca 0, 8, .inl (fun _ => (0 : Int32))))]) rfl ?_
  refine g_aload_n C (i := 0) dX4_init_12 rfl rfl ?_
  refine g_bipush C (v := 8) dX4_init_13 (by decide) ?_
  refine g_newa C (N := 8) (ty := .int) (a0 := (8, .inl (fun _ => (0 : Int32)))) rfl (tb_in (List.mem_of_getElem? (i := 146) (by decide +kernel)) (by decide +kernel)) 0 rfl (fun _ => rfl) (by decide) (by decide) (Nat.le_of_ble_eq_true rfl) (Nat.le_of_ble_eq_true rfl) (Nat.le_of_ble_eq_true rfl) dX4_init_15 (fun a2 => ?_)
  refine g_eqs (ws' := [(q0, .inr (5, [.ref a1, .null, .null, .null, .null, .int 0])), (a1, .inl (ca 0, 8, .inl (fun _ => (0 : Int32)))), (a2, .inl (ca 0, 8, .inl (fun _ => (0 : Int32))))]) rfl rfl ?_
  refine g_putF C hn inCX4 tyX4 tyX4_ok nmX4 0 rfl rfl 1 (by decide) (tb_in (List.mem_of_getElem? (i := 227) (by decide +kernel)) (by decide +kernel)) (fun _ _ _ _ h => h) rfl rfl (ty := .array .int) (by decide +kernel) rfl rfl (by show _ < 6; decide) dX4_init_17 ([(q0, .inr (5, [.ref a1, .ref a2, .null, .null, .null, .int 0])), (a1, .inl (ca 0, 8, .inl (fun _ => (0 : Int32)))), (a2, .inl (ca 0, 8, .inl (fun _ => (0 : Int32))))]) rfl ?_
  refine g_aload_n C (i := 0) dX4_init_20 rfl rfl ?_
  refine g_sipush C (v := 2073) dX4_init_21 (by decide) ?_
  refine g_newa C (N := 2073) (ty := .int) (a0 := (2073, .inl (fun _ => (0 : Int32)))) rfl (tb_in (List.mem_of_getElem? (i := 146) (by decide +kernel)) (by decide +kernel)) 0 rfl (fun _ => rfl) (by decide) (by decide) (Nat.le_of_ble_eq_true rfl) (Nat.le_of_ble_eq_true rfl) (Nat.le_of_ble_eq_true rfl) dX4_init_24 (fun a3 => ?_)
  refine g_eqs (ws' := [(q0, .inr (5, [.ref a1, .ref a2, .null, .null, .null, .int 0])), (a1, .inl (ca 0, 8, .inl (fun _ => (0 : Int32)))), (a2, .inl (ca 0, 8, .inl (fun _ => (0 : Int32)))), (a3, .inl (ca 0, 2073, .inl (fun _ => (0 : Int32))))]) rfl rfl ?_
  refine g_putF C hn inCX4 tyX4 tyX4_ok nmX4 0 rfl rfl 2 (by decide) (tb_in (List.mem_of_getElem? (i := 228) (by decide +kernel)) (by decide +kernel)) (fun _ _ _ _ h => h) rfl rfl (ty := .array .int) (by decide +kernel) rfl rfl (by show _ < 6; decide) dX4_init_26 ([(q0, .inr (5, [.ref a1, .ref a2, .ref a3, .null, .null, .int 0])), (a1, .inl (ca 0, 8, .inl (fun _ => (0 : Int32)))), (a2, .inl (ca 0, 8, .inl (fun _ => (0 : Int32)))), (a3, .inl (ca 0, 2073, .inl (fun _ => (0 : Int32))))]) rfl ?_
  refine g_aload_n C (i := 0) dX4_init_29 rfl rfl ?_
  refine g_bipush C (v := 9) dX4_init_30 (by decide) ?_
  refine g_newa C (N := 9) (ty := .int) (a0 := (9, .inl (fun _ => (0 : Int32)))) rfl (tb_in (List.mem_of_getElem? (i := 146) (by decide +kernel)) (by decide +kernel)) 0 rfl (fun _ => rfl) (by decide) (by decide) (Nat.le_of_ble_eq_true rfl) (Nat.le_of_ble_eq_true rfl) (Nat.le_of_ble_eq_true rfl) dX4_init_32 (fun a4 => ?_)
  refine g_eqs (ws' := [(q0, .inr (5, [.ref a1, .ref a2, .ref a3, .null, .null, .int 0])), (a1, .inl (ca 0, 8, .inl (fun _ => (0 : Int32)))), (a2, .inl (ca 0, 8, .inl (fun _ => (0 : Int32)))), (a3, .inl (ca 0, 2073, .inl (fun _ => (0 : Int32)))), (a4, .inl (ca 0, 9, .inl (fun _ => (0 : Int32))))]) rfl rfl ?_
  refine g_putF C hn inCX4 tyX4 tyX4_ok nmX4 0 rfl rfl 3 (by decide) (tb_in (List.mem_of_getElem? (i := 229) (by decide +kernel)) (by decide +kernel)) (fun _ _ _ _ h => h) rfl rfl (ty := .array .int) (by decide +kernel) rfl rfl (by show _ < 6; decide) dX4_init_34 ([(q0, .inr (5, [.ref a1, .ref a2, .ref a3, .ref a4, .null, .int 0])), (a1, .inl (ca 0, 8, .inl (fun _ => (0 : Int32)))), (a2, .inl (ca 0, 8, .inl (fun _ => (0 : Int32)))), (a3, .inl (ca 0, 2073, .inl (fun _ => (0 : Int32)))), (a4, .inl (ca 0, 9, .inl (fun _ => (0 : Int32))))]) rfl ?_
  refine g_aload_n C (i := 0) dX4_init_37 rfl rfl ?_
  refine g_bipush C (v := 9) dX4_init_38 (by decide) ?_
  refine g_newa C (N := 9) (ty := .int) (a0 := (9, .inl (fun _ => (0 : Int32)))) rfl (tb_in (List.mem_of_getElem? (i := 146) (by decide +kernel)) (by decide +kernel)) 0 rfl (fun _ => rfl) (by decide) (by decide) (Nat.le_of_ble_eq_true rfl) (Nat.le_of_ble_eq_true rfl) (Nat.le_of_ble_eq_true rfl) dX4_init_40 (fun a5 => ?_)
  refine g_eqs (ws' := [(q0, .inr (5, [.ref a1, .ref a2, .ref a3, .ref a4, .null, .int 0])), (a1, .inl (ca 0, 8, .inl (fun _ => (0 : Int32)))), (a2, .inl (ca 0, 8, .inl (fun _ => (0 : Int32)))), (a3, .inl (ca 0, 2073, .inl (fun _ => (0 : Int32)))), (a4, .inl (ca 0, 9, .inl (fun _ => (0 : Int32)))), (a5, .inl (ca 0, 9, .inl (fun _ => (0 : Int32))))]) rfl rfl ?_
  refine g_putF C hn inCX4 tyX4 tyX4_ok nmX4 0 rfl rfl 4 (by decide) (tb_in (List.mem_of_getElem? (i := 230) (by decide +kernel)) (by decide +kernel)) (fun _ _ _ _ h => h) rfl rfl (ty := .array .int) (by decide +kernel) rfl rfl (by show _ < 6; decide) dX4_init_42 ([(q0, .inr (5, [.ref a1, .ref a2, .ref a3, .ref a4, .ref a5, .int 0])), (a1, .inl (ca 0, 8, .inl (fun _ => (0 : Int32)))), (a2, .inl (ca 0, 8, .inl (fun _ => (0 : Int32)))), (a3, .inl (ca 0, 2073, .inl (fun _ => (0 : Int32)))), (a4, .inl (ca 0, 9, .inl (fun _ => (0 : Int32)))), (a5, .inl (ca 0, 9, .inl (fun _ => (0 : Int32))))]) rfl ?_
  exact g_ret_v C dX4_init_45 (Nat.le_of_ble_eq_true rfl) (Nat.le_of_ble_eq_true rfl) ⟨rfl, a1, a2, a3, a4, a5, rfl⟩
set_option maxRecDepth 100000 in
set_option maxHeartbeats 4000000 in
theorem wX1_k_initA {D : gD} {ca : Nat → ClassId} (q0 : Nat) : Ct yX1_init cX1_init 2 none (rla 1 2 16384) D (tyW ca) 2 16384 [.ref q0, .int 8192] [(q0, .inr (2, [.long 0, .long 0, .null, .int 0, .int 0, .null, .null]))] (fun v w => v = none ∧ ∃ a1 a2 : Nat, w = [(q0, .inr (2, [.long 0, .long 0, .null, .int 0, .int 0, .ref a1, .ref a2])), (a1, .inl (ca 0, 8192, .inl (fun _ => (0 : Int32)))), (a2, .inl (ca 0, 8192, .inl (fun _ => (0 : Int32))))]) := by
  refine ct_ofN (rm := rla 1 2 16384) (by decide +kernel) rfl (Nat.le_of_ble_eq_true rfl) (fun Γ hn C => ?_)
  refine W_eqlv (lv' := [(0, .ref q0), (1, .int 8192)]) rfl ?_
  refine g_aload_n C (i := 0) dX1_init_0 rfl rfl ?_
  refine g_objInit C (tb_in (List.mem_of_getElem? (i := 191) (by decide +kernel)) (by decide +kernel)) dX1_init_1 (by decide) (by decide) ?_
  refine g_aload_n C (i := 0) dX1_init_4 rfl rfl ?_
  refine g_iload_n C (i := 1) dX1_init_5 rfl rfl ?_
  refine g_newa C (N := 8192) (ty := .int) (a0 := (8192, .inl (fun _ => (0 : Int32)))) rfl (tb_in (List.mem_of_getElem? (i := 146) (by decide +kernel)) (by decide +kernel)) 0 rfl (fun _ => rfl) (by decide) (by decide) (Nat.le_of_ble_eq_true rfl) (Nat.le_of_ble_eq_true rfl) (Nat.le_of_ble_eq_true rfl) dX1_init_6 (fun a1 => ?_)
  refine g_eqs (ws' := [(q0, .inr (2, [.long 0, .long 0, .null, .int 0, .int 0, .null, .null])), (a1, .inl (ca 0, 8192, .inl (fun _ => (0 : Int32))))]) rfl rfl ?_
  refine g_putF C hn inCX1 tyX1 tyX1_ok nmX1 0 rfl rfl 5 (by decide) (tb_in (List.mem_of_getElem? (i := 203) (by decide +kernel)) (by decide +kernel)) (fun _ _ _ _ h => h) rfl rfl (ty := .array .int) (by decide +kernel) rfl rfl (by show _ < 7; decide) dX1_init_8 ([(q0, .inr (2, [.long 0, .long 0, .null, .int 0, .int 0, .ref a1, .null])), (a1, .inl (ca 0, 8192, .inl (fun _ => (0 : Int32))))]) rfl ?_
  refine g_aload_n C (i := 0) dX1_init_11 rfl rfl ?_
  refine g_iload_n C (i := 1) dX1_init_12 rfl rfl ?_
  refine g_newa C (N := 8192) (ty := .int) (a0 := (8192, .inl (fun _ => (0 : Int32)))) rfl (tb_in (List.mem_of_getElem? (i := 146) (by decide +kernel)) (by decide +kernel)) 0 rfl (fun _ => rfl) (by decide) (by decide) (Nat.le_of_ble_eq_true rfl) (Nat.le_of_ble_eq_true rfl) (Nat.le_of_ble_eq_true rfl) dX1_init_13 (fun a2 => ?_)
  refine g_eqs (ws' := [(q0, .inr (2, [.long 0, .long 0, .null, .int 0, .int 0, .ref a1, .null])), (a1, .inl (ca 0, 8192, .inl (fun _ => (0 : Int32)))), (a2, .inl (ca 0, 8192, .inl (fun _ => (0 : Int32))))]) rfl rfl ?_
  refine g_putF C hn inCX1 tyX1 tyX1_ok nmX1 0 rfl rfl 6 (by decide) (tb_in (List.mem_of_getElem? (i := 204) (by decide +kernel)) (by decide +kernel)) (fun _ _ _ _ h => h) rfl rfl (ty := .array .int) (by decide +kernel) rfl rfl (by show _ < 7; decide) dX1_init_15 ([(q0, .inr (2, [.long 0, .long 0, .null, .int 0, .int 0, .ref a1, .ref a2])), (a1, .inl (ca 0, 8192, .inl (fun _ => (0 : Int32)))), (a2, .inl (ca 0, 8192, .inl (fun _ => (0 : Int32))))]) rfl ?_
  exact g_ret_v C dX1_init_18 (Nat.le_of_ble_eq_true rfl) (Nat.le_of_ble_eq_true rfl) ⟨rfl, a1, a2, rfl⟩
set_option maxRecDepth 100000 in
set_option maxHeartbeats 4000000 in
theorem wX1_k_initB {D : gD} {ca : Nat → ClassId} (q0 : Nat) : Ct yX1_init cX1_init 2 none (rla 1 2 0) D (tyW ca) 2 0 [.ref q0, .int 0] [(q0, .inr (2, [.long 0, .long 0, .null, .int 0, .int 0, .null, .null]))] (fun v w => v = none ∧ ∃ a1 a2 : Nat, w = [(q0, .inr (2, [.long 0, .long 0, .null, .int 0, .int 0, .ref a1, .ref a2])), (a1, .inl (ca 0, 0, .inl (fun _ => (0 : Int32)))), (a2, .inl (ca 0, 0, .inl (fun _ => (0 : Int32))))]) := by
  refine ct_ofN (rm := rla 1 2 0) (by decide +kernel) rfl (Nat.le_of_ble_eq_true rfl) (fun Γ hn C => ?_)
  refine W_eqlv (lv' := [(0, .ref q0), (1, .int 0)]) rfl ?_
  refine g_aload_n C (i := 0) dX1_init_0 rfl rfl ?_
  refine g_objInit C (tb_in (List.mem_of_getElem? (i := 191) (by decide +kernel)) (by decide +kernel)) dX1_init_1 (by decide) (by decide) ?_
  refine g_aload_n C (i := 0) dX1_init_4 rfl rfl ?_
  refine g_iload_n C (i := 1) dX1_init_5 rfl rfl ?_
  refine g_newa C (N := 0) (ty := .int) (a0 := (0, .inl (fun _ => (0 : Int32)))) rfl (tb_in (List.mem_of_getElem? (i := 146) (by decide +kernel)) (by decide +kernel)) 0 rfl (fun _ => rfl) (by decide) (by decide) (Nat.le_of_ble_eq_true rfl) (Nat.le_of_ble_eq_true rfl) (Nat.le_of_ble_eq_true rfl) dX1_init_6 (fun a1 => ?_)
  refine g_eqs (ws' := [(q0, .inr (2, [.long 0, .long 0, .null, .int 0, .int 0, .null, .null])), (a1, .inl (ca 0, 0, .inl (fun _ => (0 : Int32))))]) rfl rfl ?_
  refine g_putF C hn inCX1 tyX1 tyX1_ok nmX1 0 rfl rfl 5 (by decide) (tb_in (List.mem_of_getElem? (i := 203) (by decide +kernel)) (by decide +kernel)) (fun _ _ _ _ h => h) rfl rfl (ty := .array .int) (by decide +kernel) rfl rfl (by show _ < 7; decide) dX1_init_8 ([(q0, .inr (2, [.long 0, .long 0, .null, .int 0, .int 0, .ref a1, .null])), (a1, .inl (ca 0, 0, .inl (fun _ => (0 : Int32))))]) rfl ?_
  refine g_aload_n C (i := 0) dX1_init_11 rfl rfl ?_
  refine g_iload_n C (i := 1) dX1_init_12 rfl rfl ?_
  refine g_newa C (N := 0) (ty := .int) (a0 := (0, .inl (fun _ => (0 : Int32)))) rfl (tb_in (List.mem_of_getElem? (i := 146) (by decide +kernel)) (by decide +kernel)) 0 rfl (fun _ => rfl) (by decide) (by decide) (Nat.le_of_ble_eq_true rfl) (Nat.le_of_ble_eq_true rfl) (Nat.le_of_ble_eq_true rfl) dX1_init_13 (fun a2 => ?_)
  refine g_eqs (ws' := [(q0, .inr (2, [.long 0, .long 0, .null, .int 0, .int 0, .ref a1, .null])), (a1, .inl (ca 0, 0, .inl (fun _ => (0 : Int32)))), (a2, .inl (ca 0, 0, .inl (fun _ => (0 : Int32))))]) rfl rfl ?_
  refine g_putF C hn inCX1 tyX1 tyX1_ok nmX1 0 rfl rfl 6 (by decide) (tb_in (List.mem_of_getElem? (i := 204) (by decide +kernel)) (by decide +kernel)) (fun _ _ _ _ h => h) rfl rfl (ty := .array .int) (by decide +kernel) rfl rfl (by show _ < 7; decide) dX1_init_15 ([(q0, .inr (2, [.long 0, .long 0, .null, .int 0, .int 0, .ref a1, .ref a2])), (a1, .inl (ca 0, 0, .inl (fun _ => (0 : Int32)))), (a2, .inl (ca 0, 0, .inl (fun _ => (0 : Int32))))]) rfl ?_
  exact g_ret_v C dX1_init_18 (Nat.le_of_ble_eq_true rfl) (Nat.le_of_ble_eq_true rfl) ⟨rfl, a1, a2, rfl⟩
set_option maxRecDepth 100000 in
set_option maxHeartbeats 4000000 in
theorem wJ5_k_initN {D : gD} {ca : Nat → ClassId} (q0 : Nat) : Ct yJ5_init_d00df cJ5_init_d00df 2 none (rla 1 1 16) D (tyW ca) 1 16 [.ref q0, .int 16] [(q0, .inr (0, [.null, .int 0, .int 0, .int 0]))] (fun v w => v = none ∧ ∃ a1 : Nat, w = [(q0, .inr (0, [.ref a1, .int 0, .int 0, .int 0])), (a1, .inl (ca 2, 16, .inl (fun _ => (0 : Int32))))]) := by
  refine ct_ofN (rm := rla 1 1 16) (by decide +kernel) rfl (Nat.le_of_ble_eq_true rfl) (fun Γ hn C => ?_)
  refine W_eqlv (lv' := [(0, .ref q0), (1, .int 16)]) rfl ?_
  refine g_aload_n C (i := 0) dJ5_init_d00df_0 rfl rfl ?_
  refine g_objInit C (tb_in (List.mem_of_getElem? (i := 123) (by decide +kernel)) (by decide +kernel)) dJ5_init_d00df_1 (by decide) (by decide) ?_
  refine x_compact C rfl (tb_in (List.mem_of_getElem? (i := 124) (by decide +kernel)) (by decide +kernel)) dJ5_init_d00df_4 ?_
  refine g_if_eq C 25 dJ5_init_d00df_7 rfl (fun e => absurd e (by decide)) (fun _ => ?_)
  refine g_aload_n C (i := 0) dJ5_init_d00df_10 rfl rfl ?_
  refine g_iload_n C (i := 1) dJ5_init_d00df_11 rfl rfl ?_
  refine g_newa C (N := 16) (ty := .byte) (a0 := (16, .inl (fun _ => (0 : Int32)))) rfl (tb_in (List.mem_of_getElem? (i := 147) (by decide +kernel)) (by decide +kernel)) 2 rfl (fun _ => rfl) (by decide) (by decide) (Nat.le_of_ble_eq_true rfl) (Nat.le_of_ble_eq_true rfl) (Nat.le_of_ble_eq_true rfl) dJ5_init_d00df_12 (fun a1 => ?_)
  refine g_eqs (ws' := [(q0, .inr (0, [.null, .int 0, .int 0, .int 0])), (a1, .inl (ca 2, 16, .inl (fun _ => (0 : Int32))))]) rfl rfl ?_
  refine g_put C inCJ4 tyJ4 tyJ4_ok nmJ4 0 rfl rfl 0 (by decide) (tb_in (List.mem_of_getElem? (i := 133) (by decide +kernel)) (by decide +kernel)) (fun _ _ _ _ h => h) rfl (ty := .array .byte) (by decide +kernel) rfl rfl (by show _ < 4; decide) dJ5_init_d00df_14 ([(q0, .inr (0, [.ref a1, .int 0, .int 0, .int 0])), (a1, .inl (ca 2, 16, .inl (fun _ => (0 : Int32))))]) rfl ?_
  refine g_aload_n C (i := 0) dJ5_init_d00df_17 rfl rfl ?_
  refine g_iconst_0 C dJ5_init_d00df_18 ?_
  refine g_put C inCJ4 tyJ4 tyJ4_ok nmJ4 0 rfl rfl 1 (by decide) (tb_in (List.mem_of_getElem? (i := 134) (by decide +kernel)) (by decide +kernel)) (fun _ _ _ _ h => h) rfl (ty := .byte) (by decide +kernel) rfl rfl (by show _ < 4; decide) dJ5_init_d00df_19 ([(q0, .inr (0, [.ref a1, .int 0, .int 0, .int 0])), (a1, .inl (ca 2, 16, .inl (fun _ => (0 : Int32))))]) rfl ?_
  refine g_goto C 38 dJ5_init_d00df_22 rfl ?_
  exact g_ret_v C dJ5_init_d00df_38 (Nat.le_of_ble_eq_true rfl) (Nat.le_of_ble_eq_true rfl) ⟨rfl, a1, rfl⟩
set_option maxRecDepth 100000 in
set_option maxHeartbeats 4000000 in
theorem wJ4_k_initN {D : gD} {ca : Nat → ClassId} (q0 : Nat) : Ct yJ4_init_da8c8 cJ4_init_da8c8 1 none (rla 2 1 16) D (tyW ca) 1 16 [.ref q0] [(q0, .inr (0, [.null, .int 0, .int 0, .int 0]))] (fun v w => v = none ∧ ∃ a1 : Nat, w = [(q0, .inr (0, [.ref a1, .int 0, .int 0, .int 0])), (a1, .inl (ca 2, 16, .inl (fun _ => (0 : Int32))))]) := by
  refine ct_ofN (rm := rla 2 1 16) (by decide +kernel) rfl (Nat.le_of_ble_eq_true rfl) (fun Γ hn C => ?_)
  refine W_eqlv (lv' := [(0, .ref q0)]) rfl ?_
  refine g_aload_n C (i := 0) dJ4_init_da8c8_0 rfl rfl ?_
  refine g_bipush C (v := 16) dJ4_init_da8c8_1 (by decide) ?_
  refine g_callI C (show Ct _ _ _ _ _ _ _ _ _ _ ([(q0, .inr (0, [.null, .int 0, .int 0, .int 0]))]) _ from ct_frame (wJ5_k_initN (D := D) (ca := ca) q0) ([]) []) 1 (tb_in (List.mem_of_getElem? (i := 79) (by decide +kernel)) (by decide +kernel)) (tb_in (List.mem_of_getElem? (i := 120) (by decide +kernel)) (by decide +kernel)) (tb_in (List.mem_of_getElem? (i := 121) (by decide +kernel)) (by decide +kernel)) (tb_in (List.mem_of_getElem? (i := 122) (by decide +kernel)) (by decide +kernel)) rfl (by decide +kernel) (rla_ok (by decide) (by decide) (Nat.le_of_ble_eq_true rfl) (Nat.le_of_ble_eq_true rfl)) rfl (Nat.le_of_ble_eq_true rfl) (st := []) _ rfl dJ4_init_da8c8_3 (fun v ws h => ?_)
  obtain ⟨w1, ⟨rfl, a1, rfl⟩, rfl⟩ := h
  refine g_eqs (st' := []) (ws' := [(q0, .inr (0, [.ref a1, .int 0, .int 0, .int 0])), (a1, .inl (ca 2, 16, .inl (fun _ => (0 : Int32))))]) rfl rfl ?_
  exact g_ret_v C dJ4_init_da8c8_6 (Nat.le_of_ble_eq_true rfl) (Nat.le_of_ble_eq_true rfl) ⟨rfl, a1, rfl⟩
