def PXs (ca : Nat → ClassId) (o : Nat → Nat) (I : gI) (J : gJ) (R : gR) (L : List Nat) (S : gS) (q : Nat) (u : gV) : Option Value → va_W → Prop := fun v ws => v = none ∧ ws = cX ca o I J R L (va_up S q u)
theorem wS_oi : Cond.methodLink RX9 3 Lib.objectInit ∈ tb := (tb_in (List.mem_of_getElem? (i := 514) (by decide +kernel)) (by decide +kernel))
theorem W_eqlv {Γ : gT} {cn sn pc : Nat} {lv lv' : List (Nat × Value)} {st : List Value} {ws : va_W} (h : lv = lv') (k : G Γ cn sn pc lv' st ws) : G Γ cn sn pc lv st ws := by subst h; exact k
set_option maxRecDepth 100000 in
theorem wX9_k_init {D : gD} {ca : Nat → ClassId} {o : Nat → Nat} {L : List Nat} {S : gS} {q0 : Nat} (hq0 : q0 ∈ L) (u : gV) (v1 v2 v3 v4 : Int32) (v5 : Int64) (I : gI) (J : gJ) (R : gR) : Ct yX9_init cX9_init 7 none (rl 1) D (tyW ca) 0 0 [.ref q0, .int v1, .int v2, .int v3, .int v4, .long v5] (cX ca o I J R L (va_up S q0 u)) (PXs ca o I J R L S q0 (sC u, v1, v2, v3, v4, v5, sF u)) := by
  refine ct_ofN (rm := rl 1) (by decide +kernel) rfl (Nat.le_of_ble_eq_true rfl) (fun Γ hn C => ?_)
  refine W_eqlv (lv' := [(0, .ref q0), (1, .int v1), (2, .int v2), (3, .int v3), (4, .int v4), (5, .long v5)]) rfl ?_
  refine g_aload_n C (i := 0) dX9_init_0 rfl rfl ?_
  refine g_objInit C wS_oi dX9_init_1 (by decide) (by decide) ?_
  refine g_aload_n C (i := 0) dX9_init_4 rfl rfl ?_
  refine g_iload_n C (i := 1) dX9_init_5 rfl rfl ?_
  refine x_putS_X9_9 C hn hq0 dX9_init_6 ?_
  refine g_aload_n C (i := 0) dX9_init_9 rfl rfl ?_
  refine g_iload_n C (i := 2) dX9_init_10 rfl rfl ?_
  refine x_putS_X9_15 C hn hq0 dX9_init_11 ?_
  refine g_aload_n C (i := 0) dX9_init_14 rfl rfl ?_
  refine g_iload_n C (i := 3) dX9_init_15 rfl rfl ?_
  refine x_putS_X9_18 C hn hq0 dX9_init_16 ?_
  refine g_aload_n C (i := 0) dX9_init_19 rfl rfl ?_
  refine g_iload C (i := 4) dX9_init_20 rfl ?_
  refine x_putS_X9_21 C hn hq0 dX9_init_22 ?_
  refine g_aload_n C (i := 0) dX9_init_25 rfl rfl ?_
  refine g_lload C (i := 5) dX9_init_26 rfl ?_
  refine x_putS_X9_24 C hn hq0 dX9_init_28 ?_
  exact g_ret_v C dX9_init_31 (Nat.le_refl _) (Nat.le_refl _) ⟨rfl, rfl⟩
set_option maxRecDepth 100000 in
theorem wX7_k_init {D : gD} {ca : Nat → ClassId} {o : Nat → Nat} {L : List Nat} {S : gS} {q0 : Nat} (hq0 : q0 ∈ L) (u : gV) (v1 v2 v3 : Int32) (v4 : Int64) (I : gI) (J : gJ) (R : gR) : Ct yX7_init cX7_init 6 none (rl 2) D (tyW ca) 0 0 [.ref q0, .int v1, .int v2, .int v3, .long v4] (cX ca o I J R L (va_up S q0 u)) (PXs ca o I J R L S q0 (sC u, 1, v1, v2, v3, v4, sF u)) := by
  refine ct_ofN (rm := rl 2) (by decide +kernel) rfl (Nat.le_of_ble_eq_true rfl) (fun Γ hn C => ?_)
  refine W_eqlv (lv' := [(0, .ref q0), (1, .int v1), (2, .int v2), (3, .int v3), (4, .long v4)]) rfl ?_
  refine g_aload_n C (i := 0) dX7_init_0 rfl rfl ?_
  refine g_iconst_1 C dX7_init_1 ?_
  refine g_iload_n C (i := 1) dX7_init_2 rfl rfl ?_
  refine g_iload_n C (i := 2) dX7_init_3 rfl rfl ?_
  refine g_iload_n C (i := 3) dX7_init_4 rfl rfl ?_
  refine g_lload C (i := 4) dX7_init_5 rfl ?_
  refine g_callI C (wX9_k_init (D := D) (ca := ca) (o := o) (S := S) hq0 u 1 v1 v2 v3 v4 I J R) 5 (tb_in (List.mem_of_getElem? (i := 90) (by decide +kernel)) (by decide +kernel)) (tb_in (List.mem_of_getElem? (i := 511) (by decide +kernel)) (by decide +kernel)) (tb_in (List.mem_of_getElem? (i := 512) (by decide +kernel)) (by decide +kernel)) (tb_in (List.mem_of_getElem? (i := 513) (by decide +kernel)) (by decide +kernel)) rfl (by decide +kernel) (rl_ok (by decide) (by decide)) rfl (Nat.le_of_ble_eq_true rfl) (st := []) _ rfl dX7_init_7 (fun v ws h => ?_)
  obtain ⟨rfl, rfl⟩ := h
  exact g_ret_v C dX7_init_10 (Nat.le_refl _) (Nat.le_refl _) ⟨rfl, rfl⟩
set_option maxRecDepth 100000 in
theorem wX10_k_init {D : gD} {ca : Nat → ClassId} {o : Nat → Nat} {L : List Nat} {S : gS} {q0 : Nat} (hq0 : q0 ∈ L) (u : gV) (v1 v2 v3 : Int32) (v4 : Int64) (I : gI) (J : gJ) (R : gR) : Ct yX10_init cX10_init 6 none (rl 2) D (tyW ca) 0 0 [.ref q0, .int v1, .int v2, .int v3, .long v4] (cX ca o I J R L (va_up S q0 u)) (PXs ca o I J R L S q0 (sC u, 2, v1, v2, v3, v4, sF u)) := by
  refine ct_ofN (rm := rl 2) (by decide +kernel) rfl (Nat.le_of_ble_eq_true rfl) (fun Γ hn C => ?_)
  refine W_eqlv (lv' := [(0, .ref q0), (1, .int v1), (2, .int v2), (3, .int v3), (4, .long v4)]) rfl ?_
  refine g_aload_n C (i := 0) dX10_init_0 rfl rfl ?_
  refine g_iconst_2 C dX10_init_1 ?_
  refine g_iload_n C (i := 1) dX10_init_2 rfl rfl ?_
  refine g_iload_n C (i := 2) dX10_init_3 rfl rfl ?_
  refine g_iload_n C (i := 3) dX10_init_4 rfl rfl ?_
  refine g_lload C (i := 4) dX10_init_5 rfl ?_
  refine g_callI C (wX9_k_init (D := D) (ca := ca) (o := o) (S := S) hq0 u 2 v1 v2 v3 v4 I J R) 5 (tb_in (List.mem_of_getElem? (i := 90) (by decide +kernel)) (by decide +kernel)) (tb_in (List.mem_of_getElem? (i := 554) (by decide +kernel)) (by decide +kernel)) (tb_in (List.mem_of_getElem? (i := 512) (by decide +kernel)) (by decide +kernel)) (tb_in (List.mem_of_getElem? (i := 513) (by decide +kernel)) (by decide +kernel)) rfl (by decide +kernel) (rl_ok (by decide) (by decide)) rfl (Nat.le_of_ble_eq_true rfl) (st := []) _ rfl dX10_init_7 (fun v ws h => ?_)
  obtain ⟨rfl, rfl⟩ := h
  exact g_ret_v C dX10_init_10 (Nat.le_refl _) (Nat.le_refl _) ⟨rfl, rfl⟩
set_option maxRecDepth 100000 in
theorem wX3_k_init {D : gD} {ca : Nat → ClassId} {o : Nat → Nat} {L : List Nat} {S : gS} {q0 : Nat} (hq0 : q0 ∈ L) (u : gV) (v1 v2 v3 v4 : Int32) (v5 : Int64) (I : gI) (J : gJ) (R : gR) : Ct yX3_init cX3_init 7 none (rl 2) D (tyW ca) 0 0 [.ref q0, .int v1, .int v2, .int v3, .int v4, .long v5] (cX ca o I J R L (va_up S q0 u)) (PXs ca o I J R L S q0 (sC u, v1, v2, v3, v4, v5, sF u)) := by
  refine ct_ofN (rm := rl 2) (by decide +kernel) rfl (Nat.le_of_ble_eq_true rfl) (fun Γ hn C => ?_)
  refine W_eqlv (lv' := [(0, .ref q0), (1, .int v1), (2, .int v2), (3, .int v3), (4, .int v4), (5, .long v5)]) rfl ?_
  refine g_aload_n C (i := 0) dX3_init_0 rfl rfl ?_
  refine g_iload_n C (i := 1) dX3_init_1 rfl rfl ?_
  refine g_iload_n C (i := 2) dX3_init_2 rfl rfl ?_
  refine g_iload_n C (i := 3) dX3_init_3 rfl rfl ?_
  refine g_iload C (i := 4) dX3_init_4 rfl ?_
  refine g_lload C (i := 5) dX3_init_6 rfl ?_
  refine g_callI C (wX9_k_init (D := D) (ca := ca) (o := o) (S := S) hq0 u v1 v2 v3 v4 v5 I J R) 5 (tb_in (List.mem_of_getElem? (i := 90) (by decide +kernel)) (by decide +kernel)) (tb_in (List.mem_of_getElem? (i := 592) (by decide +kernel)) (by decide +kernel)) (tb_in (List.mem_of_getElem? (i := 512) (by decide +kernel)) (by decide +kernel)) (tb_in (List.mem_of_getElem? (i := 513) (by decide +kernel)) (by decide +kernel)) rfl (by decide +kernel) (rl_ok (by decide) (by decide)) rfl (Nat.le_of_ble_eq_true rfl) (st := []) _ rfl dX3_init_8 (fun v ws h => ?_)
  obtain ⟨rfl, rfl⟩ := h
  exact g_ret_v C dX3_init_11 (Nat.le_refl _) (Nat.le_refl _) ⟨rfl, rfl⟩
theorem mkF_0 {a n : Int32} (h : ((1 : Int64) <<< (n.toInt64 &&& 63)) - 1 ≤ 0) : mkF a n = 0 := if_neg (Int64.not_lt.mpr h)
theorem mkF_1 {a n : Int32} (h : ¬ ((1 : Int64) <<< (n.toInt64 &&& 63)) - 1 ≤ 0) : mkF a n = a.toInt64 % (((1 : Int64) <<< (n.toInt64 &&& 63)) - 1) := if_pos (Int64.not_le.mp h)
set_option maxRecDepth 100000 in
theorem wX2_k_init {D : gD} {ca : Nat → ClassId} {o : Nat → Nat} {L : List Nat} {S : gS} {q0 : Nat} (hq0 : q0 ∈ L) (u : gV) (hc : sC u = 3 ∨ sC u = 4) (v1 v2 v3 v4 : Int32) (v5 : Int64) (I : gI) (J : gJ) (R : gR) : Ct yX2_init cX2_init 9 none (rl 2) D (tyW ca) 0 0 [.ref q0, .int v1, .int v2, .int v3, .int v4, .long v5] (cX ca o I J R L (va_up S q0 u)) (PXs ca o I J R L S q0 (sC u, v1, v2, v3, v4, v5, mkF v3 v4)) := by
  refine ct_ofN (rm := rl 2) (by decide +kernel) rfl (Nat.le_of_ble_eq_true rfl) (fun Γ hn C => ?_)
  refine W_eqlv (lv' := [(0, .ref q0), (1, .int v1), (2, .int v2), (3, .int v3), (4, .int v4), (5, .long v5)]) rfl ?_
  refine g_aload_n C (i := 0) dX2_init_0 rfl rfl ?_
  refine g_iload_n C (i := 1) dX2_init_1 rfl rfl ?_
  refine g_iload_n C (i := 2) dX2_init_2 rfl rfl ?_
  refine g_iload_n C (i := 3) dX2_init_3 rfl rfl ?_
  refine g_iload C (i := 4) dX2_init_4 rfl ?_
  refine g_lload C (i := 5) dX2_init_6 rfl ?_
  refine g_callI C (wX9_k_init (D := D) (ca := ca) (o := o) (S := S) hq0 u v1 v2 v3 v4 v5 I J R) 5 (tb_in (List.mem_of_getElem? (i := 90) (by decide +kernel)) (by decide +kernel)) (tb_in (List.mem_of_getElem? (i := 566) (by decide +kernel)) (by decide +kernel)) (tb_in (List.mem_of_getElem? (i := 512) (by decide +kernel)) (by decide +kernel)) (tb_in (List.mem_of_getElem? (i := 513) (by decide +kernel)) (by decide +kernel)) rfl (by decide +kernel) (rl_ok (by decide) (by decide)) rfl (Nat.le_of_ble_eq_true rfl) (st := []) _ rfl dX2_init_8 (fun v ws h => ?_)
  obtain ⟨rfl, rfl⟩ := h
  refine g_lconst_1 C dX2_init_11 ?_
  refine g_iload C (i := 4) dX2_init_12 rfl ?_
  refine g_lshl C dX2_init_14 ?_
  refine g_lconst_1 C dX2_init_15 ?_
  refine g_lsub C dX2_init_16 ?_
  refine g_topl (fun x ex => ?_)
  refine g_lstore C (i := 7) ([(0, .ref q0), (1, .int v1), (2, .int v2), (3, .int v3), (4, .int v4), (5, .long v5)] ++ [(7, .long x)]) dX2_init_17 (by decide) rfl ?_
  refine g_aload_n C (i := 0) dX2_init_19 rfl rfl ?_
  refine g_lload C (i := 7) dX2_init_20 rfl ?_
  refine g_lconst_0 C dX2_init_22 ?_
  refine g_lle C 35 dX2_init_23 dX2_init_24 rfl (fun c1 => ?_) (fun c1 => ?_)
  · refine g_lconst_0 C dX2_init_35 ?_
    refine x_putS_X2_7 C hn hq0 (u := (sC u, v1, v2, v3, v4, v5, sF u)) hc (v := 0) dX2_init_36 ?_
    exact g_ret_v C dX2_init_39 (Nat.le_refl _) (Nat.le_refl _) ⟨rfl, congrArg (fun z => cX ca o I J R L (va_up S q0 (sC u, v1, v2, v3, v4, v5, z))) (mkF_0 (ex ▸ c1)).symm⟩
  · refine g_iload_n C (i := 3) dX2_init_27 rfl rfl ?_
    refine g_i2l C dX2_init_28 ?_
    refine g_lload C (i := 7) dX2_init_29 rfl ?_
    refine g_lrem C dX2_init_31 (fun e => c1 (by rw [e]; decide)) ?_
    refine g_goto C 36 dX2_init_32 rfl ?_
    refine x_putS_X2_7 C hn hq0 (u := (sC u, v1, v2, v3, v4, v5, sF u)) hc (v := v3.toInt64 % x) dX2_init_36 ?_
    exact g_ret_v C dX2_init_39 (Nat.le_refl _) (Nat.le_refl _) ⟨rfl, congrArg (fun z => cX ca o I J R L (va_up S q0 (sC u, v1, v2, v3, v4, v5, z))) (by rw [ex]; exact (mkF_1 (ex ▸ c1)).symm)⟩
set_option maxRecDepth 100000 in
theorem wX0_k_init {D : gD} {ca : Nat → ClassId} {o : Nat → Nat} {L : List Nat} {S : gS} {q0 : Nat} (hq0 : q0 ∈ L) (u : gV) (hc : sC u = 4) (v1 v2 v3 : Int32) (v4 : Int64) (I : gI) (J : gJ) (R : gR) : Ct yX0_init cX0_init 6 none (rl 3) D (tyW ca) 0 0 [.ref q0, .int v1, .int v2, .int v3, .long v4] (cX ca o I J R L (va_up S q0 u)) (PXs ca o I J R L S q0 (sC u, 4, v1, v2, v3, v4, mkF v2 v3)) := by
  refine ct_ofN (rm := rl 3) (by decide +kernel) rfl (Nat.le_of_ble_eq_true rfl) (fun Γ hn C => ?_)
  refine W_eqlv (lv' := [(0, .ref q0), (1, .int v1), (2, .int v2), (3, .int v3), (4, .long v4)]) rfl ?_
  refine g_aload_n C (i := 0) dX0_init_0 rfl rfl ?_
  refine g_iconst_4 C dX0_init_1 ?_
  refine g_iload_n C (i := 1) dX0_init_2 rfl rfl ?_
  refine g_iload_n C (i := 2) dX0_init_3 rfl rfl ?_
  refine g_iload_n C (i := 3) dX0_init_4 rfl rfl ?_
  refine g_lload C (i := 4) dX0_init_5 rfl ?_
  refine g_callI C (wX2_k_init (D := D) (ca := ca) (o := o) (S := S) hq0 u (Or.inr hc) 4 v1 v2 v3 v4 I J R) 5 (tb_in (List.mem_of_getElem? (i := 93) (by decide +kernel)) (by decide +kernel)) (tb_in (List.mem_of_getElem? (i := 580) (by decide +kernel)) (by decide +kernel)) (tb_in (List.mem_of_getElem? (i := 564) (by decide +kernel)) (by decide +kernel)) (tb_in (List.mem_of_getElem? (i := 565) (by decide +kernel)) (by decide +kernel)) rfl (by decide +kernel) (rl_ok (by decide) (by decide)) rfl (Nat.le_of_ble_eq_true rfl) (st := []) _ rfl dX0_init_7 (fun v ws h => ?_)
  obtain ⟨rfl, rfl⟩ := h
  exact g_ret_v C dX0_init_10 (Nat.le_refl _) (Nat.le_refl _) ⟨rfl, rfl⟩
set_option maxRecDepth 100000 in
theorem wX5_k_init {D : gD} {ca : Nat → ClassId} {o : Nat → Nat} {L : List Nat} {S : gS} {q0 : Nat} (hq0 : q0 ∈ L) (u : gV) (v1 v2 v3 : Int32) (v4 : Int64) (I : gI) (J : gJ) (R : gR) : Ct yX5_init cX5_init 6 none (rl 3) D (tyW ca) 0 0 [.ref q0, .int v1, .int v2, .int v3, .long v4] (cX ca o I J R L (va_up S q0 u)) (PXs ca o I J R L S q0 (sC u, 6, v1, v2, v3, v4, sF u)) := by
  refine ct_ofN (rm := rl 3) (by decide +kernel) rfl (Nat.le_of_ble_eq_true rfl) (fun Γ hn C => ?_)
  refine W_eqlv (lv' := [(0, .ref q0), (1, .int v1), (2, .int v2), (3, .int v3), (4, .long v4)]) rfl ?_
  refine g_aload_n C (i := 0) dX5_init_0 rfl rfl ?_
  refine g_bipush C (v := 6) dX5_init_1 (by decide) ?_
  refine g_iload_n C (i := 1) dX5_init_3 rfl rfl ?_
  refine g_iload_n C (i := 2) dX5_init_4 rfl rfl ?_
  refine g_iload_n C (i := 3) dX5_init_5 rfl rfl ?_
  refine g_lload C (i := 4) dX5_init_6 rfl ?_
  refine g_callI C (wX3_k_init (D := D) (ca := ca) (o := o) (S := S) hq0 u 6 v1 v2 v3 v4 I J R) 5 (tb_in (List.mem_of_getElem? (i := 95) (by decide +kernel)) (by decide +kernel)) (tb_in (List.mem_of_getElem? (i := 603) (by decide +kernel)) (by decide +kernel)) (tb_in (List.mem_of_getElem? (i := 590) (by decide +kernel)) (by decide +kernel)) (tb_in (List.mem_of_getElem? (i := 591) (by decide +kernel)) (by decide +kernel)) rfl (by decide +kernel) (rl_ok (by decide) (by decide)) rfl (Nat.le_of_ble_eq_true rfl) (st := []) _ rfl dX5_init_8 (fun v ws h => ?_)
  obtain ⟨rfl, rfl⟩ := h
  exact g_ret_v C dX5_init_11 (Nat.le_refl _) (Nat.le_refl _) ⟨rfl, rfl⟩
theorem x_new_0 {Γ : gT} {cc : ByteArray} {nL : Nat} {D : gD} {ca : Nat → ClassId} {rm : Room} {ret : Option FieldType} {mc ms : Nat} {Post : Option Value → va_W → Prop} {cn sn pc : Nat} {lv : List (Nat × Value)} {st : List Value} {o : Nat → Nat} {I : gI} {J : gJ} {R : gR} {L : List Nat} {S : gS} (C0 : Cx Γ cc RX9 nL D (tyW ca) rm ret mc ms Post) (hd : decode cc pc = .ok (.new 10, 3)) (h1 : cn + 1 ≤ rm.cells) (h2 : sn + 5 ≤ rm.slots) (kk : ∀ q, q ∉ L → G Γ (cn + 1) (sn + 5) (pc + 3) lv (.ref q :: st) (cX ca o I J R (L ++ [q]) (va_up S q (0, 0, 0, 0, 0, 0, 0)))) : G Γ cn sn pc lv st (cX ca o I J R L S) := by
  obtain ⟨p, l, e, R', s, m, args, below, meth, c, nL', D', A, Q⟩ := Γ
  obtain ⟨rfl, rfl, hx, hb, hml, hown, hlk, hts, hK, hA, rfl, hrr, rfl⟩ := C0
  intro H locs ls hP hD hS hl
  refine va_new (ci := 10) (fs := [.int 0, .int 0, .int 0, .int 0, .long 0]) (C := RX9) (T := TX9) (N := 5) hx hb hts inCX9 tyX9 tyX9_ok hown (hts _ (tb_in (List.mem_of_getElem? (i := 609) (by decide +kernel)) (by decide +kernel))) (hts _ (tb_in (List.mem_of_getElem? (i := 610) (by decide +kernel)) (by decide +kernel))) (hts _ (tb_in (List.mem_of_getElem? (i := 90) (by decide +kernel)) (by decide +kernel))) hK hP hD hS hA.1 rfl (fun j hj => by rcases (show j = 0 ∨ j = 1 ∨ j = 2 ∨ j = 3 ∨ j = 4 by omega) with rfl | rfl | rfl | rfl | rfl <;> rfl) h1 h2 hd (fun q H1 hP1 hD1 hS1 => ?_)
  have hq : q ∉ L := by
    intro h
    obtain ⟨i, hi⟩ := List.getElem?_of_mem h
    have hil : i < L.length := (List.getElem?_eq_some_iff.mp hi).1
    have a1 : ((cX ca o I J R L S) ++ [(q, Sum.inr (10, [.int 0, .int 0, .int 0, .int 0, .long 0]))])[37 + i]? = some (q, sE (S q)) := by
      rw [List.getElem?_append_left (by rw [cX_len]; omega), cX_P, hi]; rfl
    have a2 : ((cX ca o I J R L S) ++ [(q, Sum.inr (10, [.int 0, .int 0, .int 0, .int 0, .long 0]))])[37 + L.length]? = some (q, Sum.inr (10, [.int 0, .int 0, .int 0, .int 0, .long 0])) := by
      rw [List.getElem?_append_right (by rw [cX_len]; omega), cX_len, Nat.sub_self]; rfl
    have := hD1.1 _ _ _ _ a1 a2 rfl
    omega
  have e9 : (cX ca o I J R L S) ++ [(q, Sum.inr (10, [.int 0, .int 0, .int 0, .int 0, .long 0]))] = cX ca o I J R (L ++ [q]) (va_up S q (0, 0, 0, 0, 0, 0, 0)) := cX_new ca o I J R L S (v := (0, 0, 0, 0, 0, 0, 0)) hq
  rw [e9] at hP1 hD1
  exact kk q hq H1 locs ls hP1 hD1 hS1 hl
theorem x_new_1 {Γ : gT} {cc : ByteArray} {nL : Nat} {D : gD} {ca : Nat → ClassId} {rm : Room} {ret : Option FieldType} {mc ms : Nat} {Post : Option Value → va_W → Prop} {cn sn pc : Nat} {lv : List (Nat × Value)} {st : List Value} {o : Nat → Nat} {I : gI} {J : gJ} {R : gR} {L : List Nat} {S : gS} (C0 : Cx Γ cc RX9 nL D (tyW ca) rm ret mc ms Post) (hd : decode cc pc = .ok (.new 28, 3)) (h1 : cn + 1 ≤ rm.cells) (h2 : sn + 5 ≤ rm.slots) (kk : ∀ q, q ∉ L → G Γ (cn + 1) (sn + 5) (pc + 3) lv (.ref q :: st) (cX ca o I J R (L ++ [q]) (va_up S q (1, 0, 0, 0, 0, 0, 0)))) : G Γ cn sn pc lv st (cX ca o I J R L S) := by
  obtain ⟨p, l, e, R', s, m, args, below, meth, c, nL', D', A, Q⟩ := Γ
  obtain ⟨rfl, rfl, hx, hb, hml, hown, hlk, hts, hK, hA, rfl, hrr, rfl⟩ := C0
  intro H locs ls hP hD hS hl
  refine va_new (ci := 8) (fs := [.int 0, .int 0, .int 0, .int 0, .long 0]) (C := RX7) (T := TX7) (N := 5) hx hb hts inCX7 tyX7 tyX7_ok hown (hts _ (tb_in (List.mem_of_getElem? (i := 506) (by decide +kernel)) (by decide +kernel))) (hts _ (tb_in (List.mem_of_getElem? (i := 507) (by decide +kernel)) (by decide +kernel))) (hts _ (tb_in (List.mem_of_getElem? (i := 91) (by decide +kernel)) (by decide +kernel))) hK hP hD hS hA.1 rfl (fun j hj => by rcases (show j = 0 ∨ j = 1 ∨ j = 2 ∨ j = 3 ∨ j = 4 by omega) with rfl | rfl | rfl | rfl | rfl <;> rfl) h1 h2 hd (fun q H1 hP1 hD1 hS1 => ?_)
  have hq : q ∉ L := by
    intro h
    obtain ⟨i, hi⟩ := List.getElem?_of_mem h
    have hil : i < L.length := (List.getElem?_eq_some_iff.mp hi).1
    have a1 : ((cX ca o I J R L S) ++ [(q, Sum.inr (8, [.int 0, .int 0, .int 0, .int 0, .long 0]))])[37 + i]? = some (q, sE (S q)) := by
      rw [List.getElem?_append_left (by rw [cX_len]; omega), cX_P, hi]; rfl
    have a2 : ((cX ca o I J R L S) ++ [(q, Sum.inr (8, [.int 0, .int 0, .int 0, .int 0, .long 0]))])[37 + L.length]? = some (q, Sum.inr (8, [.int 0, .int 0, .int 0, .int 0, .long 0])) := by
      rw [List.getElem?_append_right (by rw [cX_len]; omega), cX_len, Nat.sub_self]; rfl
    have := hD1.1 _ _ _ _ a1 a2 rfl
    omega
  have e9 : (cX ca o I J R L S) ++ [(q, Sum.inr (8, [.int 0, .int 0, .int 0, .int 0, .long 0]))] = cX ca o I J R (L ++ [q]) (va_up S q (1, 0, 0, 0, 0, 0, 0)) := cX_new ca o I J R L S (v := (1, 0, 0, 0, 0, 0, 0)) hq
  rw [e9] at hP1 hD1
  exact kk q hq H1 locs ls hP1 hD1 hS1 hl
theorem x_new_2 {Γ : gT} {cc : ByteArray} {nL : Nat} {D : gD} {ca : Nat → ClassId} {rm : Room} {ret : Option FieldType} {mc ms : Nat} {Post : Option Value → va_W → Prop} {cn sn pc : Nat} {lv : List (Nat × Value)} {st : List Value} {o : Nat → Nat} {I : gI} {J : gJ} {R : gR} {L : List Nat} {S : gS} (C0 : Cx Γ cc RX9 nL D (tyW ca) rm ret mc ms Post) (hd : decode cc pc = .ok (.new 33, 3)) (h1 : cn + 1 ≤ rm.cells) (h2 : sn + 5 ≤ rm.slots) (kk : ∀ q, q ∉ L → G Γ (cn + 1) (sn + 5) (pc + 3) lv (.ref q :: st) (cX ca o I J R (L ++ [q]) (va_up S q (2, 0, 0, 0, 0, 0, 0)))) : G Γ cn sn pc lv st (cX ca o I J R L S) := by
  obtain ⟨p, l, e, R', s, m, args, below, meth, c, nL', D', A, Q⟩ := Γ
  obtain ⟨rfl, rfl, hx, hb, hml, hown, hlk, hts, hK, hA, rfl, hrr, rfl⟩ := C0
  intro H locs ls hP hD hS hl
  refine va_new (ci := 11) (fs := [.int 0, .int 0, .int 0, .int 0, .long 0]) (C := RX10) (T := TX10) (N := 5) hx hb hts inCX10 tyX10 tyX10_ok hown (hts _ (tb_in (List.mem_of_getElem? (i := 549) (by decide +kernel)) (by decide +kernel))) (hts _ (tb_in (List.mem_of_getElem? (i := 550) (by decide +kernel)) (by decide +kernel))) (hts _ (tb_in (List.mem_of_getElem? (i := 92) (by decide +kernel)) (by decide +kernel))) hK hP hD hS hA.1 rfl (fun j hj => by rcases (show j = 0 ∨ j = 1 ∨ j = 2 ∨ j = 3 ∨ j = 4 by omega) with rfl | rfl | rfl | rfl | rfl <;> rfl) h1 h2 hd (fun q H1 hP1 hD1 hS1 => ?_)
  have hq : q ∉ L := by
    intro h
    obtain ⟨i, hi⟩ := List.getElem?_of_mem h
    have hil : i < L.length := (List.getElem?_eq_some_iff.mp hi).1
    have a1 : ((cX ca o I J R L S) ++ [(q, Sum.inr (11, [.int 0, .int 0, .int 0, .int 0, .long 0]))])[37 + i]? = some (q, sE (S q)) := by
      rw [List.getElem?_append_left (by rw [cX_len]; omega), cX_P, hi]; rfl
    have a2 : ((cX ca o I J R L S) ++ [(q, Sum.inr (11, [.int 0, .int 0, .int 0, .int 0, .long 0]))])[37 + L.length]? = some (q, Sum.inr (11, [.int 0, .int 0, .int 0, .int 0, .long 0])) := by
      rw [List.getElem?_append_right (by rw [cX_len]; omega), cX_len, Nat.sub_self]; rfl
    have := hD1.1 _ _ _ _ a1 a2 rfl
    omega
  have e9 : (cX ca o I J R L S) ++ [(q, Sum.inr (11, [.int 0, .int 0, .int 0, .int 0, .long 0]))] = cX ca o I J R (L ++ [q]) (va_up S q (2, 0, 0, 0, 0, 0, 0)) := cX_new ca o I J R L S (v := (2, 0, 0, 0, 0, 0, 0)) hq
  rw [e9] at hP1 hD1
  exact kk q hq H1 locs ls hP1 hD1 hS1 hl
theorem x_new_3 {Γ : gT} {cc : ByteArray} {nL : Nat} {D : gD} {ca : Nat → ClassId} {rm : Room} {ret : Option FieldType} {mc ms : Nat} {Post : Option Value → va_W → Prop} {cn sn pc : Nat} {lv : List (Nat × Value)} {st : List Value} {o : Nat → Nat} {I : gI} {J : gJ} {R : gR} {L : List Nat} {S : gS} (C0 : Cx Γ cc RX9 nL D (tyW ca) rm ret mc ms Post) (hd : decode cc pc = .ok (.new 36, 3)) (h1 : cn + 1 ≤ rm.cells) (h2 : sn + 6 ≤ rm.slots) (kk : ∀ q, q ∉ L → G Γ (cn + 1) (sn + 6) (pc + 3) lv (.ref q :: st) (cX ca o I J R (L ++ [q]) (va_up S q (3, 0, 0, 0, 0, 0, 0)))) : G Γ cn sn pc lv st (cX ca o I J R L S) := by
  obtain ⟨p, l, e, R', s, m, args, below, meth, c, nL', D', A, Q⟩ := Γ
  obtain ⟨rfl, rfl, hx, hb, hml, hown, hlk, hts, hK, hA, rfl, hrr, rfl⟩ := C0
  intro H locs ls hP hD hS hl
  refine va_new (ci := 3) (fs := [.int 0, .int 0, .int 0, .int 0, .long 0, .long 0]) (C := RX2) (T := TX2) (N := 6) hx hb hts inCX2 tyX2 tyX2_ok hown (hts _ (tb_in (List.mem_of_getElem? (i := 561) (by decide +kernel)) (by decide +kernel))) (hts _ (tb_in (List.mem_of_getElem? (i := 562) (by decide +kernel)) (by decide +kernel))) (hts _ (tb_in (List.mem_of_getElem? (i := 93) (by decide +kernel)) (by decide +kernel))) hK hP hD hS hA.1 rfl (fun j hj => by rcases (show j = 0 ∨ j = 1 ∨ j = 2 ∨ j = 3 ∨ j = 4 ∨ j = 5 by omega) with rfl | rfl | rfl | rfl | rfl | rfl <;> rfl) h1 h2 hd (fun q H1 hP1 hD1 hS1 => ?_)
  have hq : q ∉ L := by
    intro h
    obtain ⟨i, hi⟩ := List.getElem?_of_mem h
    have hil : i < L.length := (List.getElem?_eq_some_iff.mp hi).1
    have a1 : ((cX ca o I J R L S) ++ [(q, Sum.inr (3, [.int 0, .int 0, .int 0, .int 0, .long 0, .long 0]))])[37 + i]? = some (q, sE (S q)) := by
      rw [List.getElem?_append_left (by rw [cX_len]; omega), cX_P, hi]; rfl
    have a2 : ((cX ca o I J R L S) ++ [(q, Sum.inr (3, [.int 0, .int 0, .int 0, .int 0, .long 0, .long 0]))])[37 + L.length]? = some (q, Sum.inr (3, [.int 0, .int 0, .int 0, .int 0, .long 0, .long 0])) := by
      rw [List.getElem?_append_right (by rw [cX_len]; omega), cX_len, Nat.sub_self]; rfl
    have := hD1.1 _ _ _ _ a1 a2 rfl
    omega
  have e9 : (cX ca o I J R L S) ++ [(q, Sum.inr (3, [.int 0, .int 0, .int 0, .int 0, .long 0, .long 0]))] = cX ca o I J R (L ++ [q]) (va_up S q (3, 0, 0, 0, 0, 0, 0)) := cX_new ca o I J R L S (v := (3, 0, 0, 0, 0, 0, 0)) hq
  rw [e9] at hP1 hD1
  exact kk q hq H1 locs ls hP1 hD1 hS1 hl
theorem x_new_4 {Γ : gT} {cc : ByteArray} {nL : Nat} {D : gD} {ca : Nat → ClassId} {rm : Room} {ret : Option FieldType} {mc ms : Nat} {Post : Option Value → va_W → Prop} {cn sn pc : Nat} {lv : List (Nat × Value)} {st : List Value} {o : Nat → Nat} {I : gI} {J : gJ} {R : gR} {L : List Nat} {S : gS} (C0 : Cx Γ cc RX9 nL D (tyW ca) rm ret mc ms Post) (hd : decode cc pc = .ok (.new 41, 3)) (h1 : cn + 1 ≤ rm.cells) (h2 : sn + 6 ≤ rm.slots) (kk : ∀ q, q ∉ L → G Γ (cn + 1) (sn + 6) (pc + 3) lv (.ref q :: st) (cX ca o I J R (L ++ [q]) (va_up S q (4, 0, 0, 0, 0, 0, 0)))) : G Γ cn sn pc lv st (cX ca o I J R L S) := by
  obtain ⟨p, l, e, R', s, m, args, below, meth, c, nL', D', A, Q⟩ := Γ
  obtain ⟨rfl, rfl, hx, hb, hml, hown, hlk, hts, hK, hA, rfl, hrr, rfl⟩ := C0
  intro H locs ls hP hD hS hl
  refine va_new (ci := 1) (fs := [.long 0, .int 0, .int 0, .int 0, .int 0, .long 0]) (C := RX0) (T := TX0) (N := 6) hx hb hts inCX0 tyX0 tyX0_ok hown (hts _ (tb_in (List.mem_of_getElem? (i := 575) (by decide +kernel)) (by decide +kernel))) (hts _ (tb_in (List.mem_of_getElem? (i := 576) (by decide +kernel)) (by decide +kernel))) (hts _ (tb_in (List.mem_of_getElem? (i := 94) (by decide +kernel)) (by decide +kernel))) hK hP hD hS hA.1 rfl (fun j hj => by rcases (show j = 0 ∨ j = 1 ∨ j = 2 ∨ j = 3 ∨ j = 4 ∨ j = 5 by omega) with rfl | rfl | rfl | rfl | rfl | rfl <;> rfl) h1 h2 hd (fun q H1 hP1 hD1 hS1 => ?_)
  have hq : q ∉ L := by
    intro h
    obtain ⟨i, hi⟩ := List.getElem?_of_mem h
    have hil : i < L.length := (List.getElem?_eq_some_iff.mp hi).1
    have a1 : ((cX ca o I J R L S) ++ [(q, Sum.inr (1, [.long 0, .int 0, .int 0, .int 0, .int 0, .long 0]))])[37 + i]? = some (q, sE (S q)) := by
      rw [List.getElem?_append_left (by rw [cX_len]; omega), cX_P, hi]; rfl
    have a2 : ((cX ca o I J R L S) ++ [(q, Sum.inr (1, [.long 0, .int 0, .int 0, .int 0, .int 0, .long 0]))])[37 + L.length]? = some (q, Sum.inr (1, [.long 0, .int 0, .int 0, .int 0, .int 0, .long 0])) := by
      rw [List.getElem?_append_right (by rw [cX_len]; omega), cX_len, Nat.sub_self]; rfl
    have := hD1.1 _ _ _ _ a1 a2 rfl
    omega
  have e9 : (cX ca o I J R L S) ++ [(q, Sum.inr (1, [.long 0, .int 0, .int 0, .int 0, .int 0, .long 0]))] = cX ca o I J R (L ++ [q]) (va_up S q (4, 0, 0, 0, 0, 0, 0)) := cX_new ca o I J R L S (v := (4, 0, 0, 0, 0, 0, 0)) hq
  rw [e9] at hP1 hD1
  exact kk q hq H1 locs ls hP1 hD1 hS1 hl
theorem x_new_5 {Γ : gT} {cc : ByteArray} {nL : Nat} {D : gD} {ca : Nat → ClassId} {rm : Room} {ret : Option FieldType} {mc ms : Nat} {Post : Option Value → va_W → Prop} {cn sn pc : Nat} {lv : List (Nat × Value)} {st : List Value} {o : Nat → Nat} {I : gI} {J : gJ} {R : gR} {L : List Nat} {S : gS} (C0 : Cx Γ cc RX9 nL D (tyW ca) rm ret mc ms Post) (hd : decode cc pc = .ok (.new 44, 3)) (h1 : cn + 1 ≤ rm.cells) (h2 : sn + 5 ≤ rm.slots) (kk : ∀ q, q ∉ L → G Γ (cn + 1) (sn + 5) (pc + 3) lv (.ref q :: st) (cX ca o I J R (L ++ [q]) (va_up S q (5, 0, 0, 0, 0, 0, 0)))) : G Γ cn sn pc lv st (cX ca o I J R L S) := by
  obtain ⟨p, l, e, R', s, m, args, below, meth, c, nL', D', A, Q⟩ := Γ
  obtain ⟨rfl, rfl, hx, hb, hml, hown, hlk, hts, hK, hA, rfl, hrr, rfl⟩ := C0
  intro H locs ls hP hD hS hl
  refine va_new (ci := 4) (fs := [.int 0, .int 0, .int 0, .int 0, .long 0]) (C := RX3) (T := TX3) (N := 5) hx hb hts inCX3 tyX3 tyX3_ok hown (hts _ (tb_in (List.mem_of_getElem? (i := 587) (by decide +kernel)) (by decide +kernel))) (hts _ (tb_in (List.mem_of_getElem? (i := 588) (by decide +kernel)) (by decide +kernel))) (hts _ (tb_in (List.mem_of_getElem? (i := 95) (by decide +kernel)) (by decide +kernel))) hK hP hD hS hA.1 rfl (fun j hj => by rcases (show j = 0 ∨ j = 1 ∨ j = 2 ∨ j = 3 ∨ j = 4 by omega) with rfl | rfl | rfl | rfl | rfl <;> rfl) h1 h2 hd (fun q H1 hP1 hD1 hS1 => ?_)
  have hq : q ∉ L := by
    intro h
    obtain ⟨i, hi⟩ := List.getElem?_of_mem h
    have hil : i < L.length := (List.getElem?_eq_some_iff.mp hi).1
    have a1 : ((cX ca o I J R L S) ++ [(q, Sum.inr (4, [.int 0, .int 0, .int 0, .int 0, .long 0]))])[37 + i]? = some (q, sE (S q)) := by
      rw [List.getElem?_append_left (by rw [cX_len]; omega), cX_P, hi]; rfl
    have a2 : ((cX ca o I J R L S) ++ [(q, Sum.inr (4, [.int 0, .int 0, .int 0, .int 0, .long 0]))])[37 + L.length]? = some (q, Sum.inr (4, [.int 0, .int 0, .int 0, .int 0, .long 0])) := by
      rw [List.getElem?_append_right (by rw [cX_len]; omega), cX_len, Nat.sub_self]; rfl
    have := hD1.1 _ _ _ _ a1 a2 rfl
    omega
  have e9 : (cX ca o I J R L S) ++ [(q, Sum.inr (4, [.int 0, .int 0, .int 0, .int 0, .long 0]))] = cX ca o I J R (L ++ [q]) (va_up S q (5, 0, 0, 0, 0, 0, 0)) := cX_new ca o I J R L S (v := (5, 0, 0, 0, 0, 0, 0)) hq
  rw [e9] at hP1 hD1
  exact kk q hq H1 locs ls hP1 hD1 hS1 hl
theorem x_new_6 {Γ : gT} {cc : ByteArray} {nL : Nat} {D : gD} {ca : Nat → ClassId} {rm : Room} {ret : Option FieldType} {mc ms : Nat} {Post : Option Value → va_W → Prop} {cn sn pc : Nat} {lv : List (Nat × Value)} {st : List Value} {o : Nat → Nat} {I : gI} {J : gJ} {R : gR} {L : List Nat} {S : gS} (C0 : Cx Γ cc RX9 nL D (tyW ca) rm ret mc ms Post) (hd : decode cc pc = .ok (.new 47, 3)) (h1 : cn + 1 ≤ rm.cells) (h2 : sn + 5 ≤ rm.slots) (kk : ∀ q, q ∉ L → G Γ (cn + 1) (sn + 5) (pc + 3) lv (.ref q :: st) (cX ca o I J R (L ++ [q]) (va_up S q (6, 0, 0, 0, 0, 0, 0)))) : G Γ cn sn pc lv st (cX ca o I J R L S) := by
  obtain ⟨p, l, e, R', s, m, args, below, meth, c, nL', D', A, Q⟩ := Γ
  obtain ⟨rfl, rfl, hx, hb, hml, hown, hlk, hts, hK, hA, rfl, hrr, rfl⟩ := C0
  intro H locs ls hP hD hS hl
  refine va_new (ci := 6) (fs := [.int 0, .int 0, .int 0, .int 0, .long 0]) (C := RX5) (T := TX5) (N := 5) hx hb hts inCX5 tyX5 tyX5_ok hown (hts _ (tb_in (List.mem_of_getElem? (i := 598) (by decide +kernel)) (by decide +kernel))) (hts _ (tb_in (List.mem_of_getElem? (i := 599) (by decide +kernel)) (by decide +kernel))) (hts _ (tb_in (List.mem_of_getElem? (i := 96) (by decide +kernel)) (by decide +kernel))) hK hP hD hS hA.1 rfl (fun j hj => by rcases (show j = 0 ∨ j = 1 ∨ j = 2 ∨ j = 3 ∨ j = 4 by omega) with rfl | rfl | rfl | rfl | rfl <;> rfl) h1 h2 hd (fun q H1 hP1 hD1 hS1 => ?_)
  have hq : q ∉ L := by
    intro h
    obtain ⟨i, hi⟩ := List.getElem?_of_mem h
    have hil : i < L.length := (List.getElem?_eq_some_iff.mp hi).1
    have a1 : ((cX ca o I J R L S) ++ [(q, Sum.inr (6, [.int 0, .int 0, .int 0, .int 0, .long 0]))])[37 + i]? = some (q, sE (S q)) := by
      rw [List.getElem?_append_left (by rw [cX_len]; omega), cX_P, hi]; rfl
    have a2 : ((cX ca o I J R L S) ++ [(q, Sum.inr (6, [.int 0, .int 0, .int 0, .int 0, .long 0]))])[37 + L.length]? = some (q, Sum.inr (6, [.int 0, .int 0, .int 0, .int 0, .long 0])) := by
      rw [List.getElem?_append_right (by rw [cX_len]; omega), cX_len, Nat.sub_self]; rfl
    have := hD1.1 _ _ _ _ a1 a2 rfl
    omega
  have e9 : (cX ca o I J R L S) ++ [(q, Sum.inr (6, [.int 0, .int 0, .int 0, .int 0, .long 0]))] = cX ca o I J R (L ++ [q]) (va_up S q (6, 0, 0, 0, 0, 0, 0)) := cX_new ca o I J R L S (v := (6, 0, 0, 0, 0, 0, 0)) hq
  rw [e9] at hP1 hD1
  exact kk q hq H1 locs ls hP1 hD1 hS1 hl
theorem mkV_1 {v0 : Int32} (v1 v2 v3 : Int32) (v4 : Int64) (h : v0 = 1) : mkV v0 v1 v2 v3 v4 = (1, 1, v1, v2, v3, v4, 0) := by subst h; rfl
theorem mkV_2 {v0 : Int32} (v1 v2 v3 : Int32) (v4 : Int64) (h : v0 = 2) : mkV v0 v1 v2 v3 v4 = (2, 2, v1, v2, v3, v4, 0) := by subst h; rfl
theorem mkV_3 {v0 : Int32} (v1 v2 v3 : Int32) (v4 : Int64) (h : v0 = 3) : mkV v0 v1 v2 v3 v4 = (3, 3, v1, v2, v3, v4, mkF v2 v3) := by subst h; rfl
theorem mkV_4 {v0 : Int32} (v1 v2 v3 : Int32) (v4 : Int64) (h : v0 = 4) : mkV v0 v1 v2 v3 v4 = (4, 4, v1, v2, v3, v4, mkF v2 v3) := by subst h; rfl
theorem mkV_5 {v0 : Int32} (v1 v2 v3 : Int32) (v4 : Int64) (h : v0 = 5) : mkV v0 v1 v2 v3 v4 = (5, 5, v1, v2, v3, v4, 0) := by subst h; rfl
theorem mkV_6 {v0 : Int32} (v1 v2 v3 : Int32) (v4 : Int64) (h : v0 = 6) : mkV v0 v1 v2 v3 v4 = (6, 6, v1, v2, v3, v4, 0) := by subst h; rfl
theorem mkV_0 {v0 : Int32} (v1 v2 v3 : Int32) (v4 : Int64) (h1 : ¬ v0 = 1) (h2 : ¬ v0 = 2) (h3 : ¬ v0 = 3) (h4 : ¬ v0 = 4) (h5 : ¬ v0 = 5) (h6 : ¬ v0 = 6) : mkV v0 v1 v2 v3 v4 = (0, 0, v1, v2, v3, v4, 0) := by simp [mkV, mkC, h1, h2, h3, h4, h5, h6]
set_option maxRecDepth 100000 in
theorem wX9_k_made {D : gD} {ca : Nat → ClassId} {o : Nat → Nat} {L : List Nat} {S : gS} (v0 v1 v2 v3 : Int32) (v4 : Int64) (I : gI) (J : gJ) (R : gR) (L0 : List Nat) (S0 : gS) (Q : Nat → gI → gJ → gR → List Nat → gS → Prop) (h : wX9_made v0 v1 v2 v3 v4 I J R L S Q) : Ct yX9_made cX9_made 6 (some (.object "FoldedInHalf$Strip")) (rla 6 1 6) D (tyW ca) 1 6 [.int v0, .int v1, .int v2, .int v3, .long v4] (cX ca o I J R L S) (PAr ca o Q) := by
  refine ct_of (rm := rla 6 1 6) (by decide +kernel) (Nat.le_of_ble_eq_true rfl) (fun Γ C => ?_)
  unfold wX9_made at h
  refine W_eqlv (lv' := [(0, .int v0), (1, .int v1), (2, .int v2), (3, .int v3), (4, .long v4)]) rfl ?_
  refine g_iload_n C (i := 0) dX9_made_0 rfl rfl ?_
  by_cases c1 : v0 = 1
  · refine g_tin C 40 1 c1 (by decide) (by decide) rfl rfl dX9_made_1 ?_
    refine x_new_1 C dX9_made_40 (by decide) (by decide) (fun q hq => ?_)
    refine g_dup C dX9_made_43 rfl ?_
    refine g_iload_n C (i := 1) dX9_made_44 rfl rfl ?_
    refine g_iload_n C (i := 2) dX9_made_45 rfl rfl ?_
    refine g_iload_n C (i := 3) dX9_made_46 rfl rfl ?_
    refine g_lload C (i := 4) dX9_made_47 rfl ?_
    refine g_callI C (wX7_k_init (D := D) (ca := ca) (o := o) (S := S) (List.mem_append_right L (List.mem_singleton.mpr rfl)) (1, 0, 0, 0, 0, 0, 0) v1 v2 v3 v4 I J R) 4 (tb_in (List.mem_of_getElem? (i := 91) (by decide +kernel)) (by decide +kernel)) (tb_in (List.mem_of_getElem? (i := 508) (by decide +kernel)) (by decide +kernel)) (tb_in (List.mem_of_getElem? (i := 509) (by decide +kernel)) (by decide +kernel)) (tb_in (List.mem_of_getElem? (i := 510) (by decide +kernel)) (by decide +kernel)) rfl (by decide +kernel) (rl_in_rla (by decide) (by decide) (by decide) (by decide)) rfl (Nat.le_of_ble_eq_true rfl) (st := [.ref q]) _ rfl dX9_made_49 (fun v ws h => ?_)
    obtain ⟨rfl, rfl⟩ := h
    exact g_ret_a C dX9_made_52 (by decide) (by decide) ⟨q, I, J, R, _, _, rfl, rfl, List.mem_append_right L (List.mem_singleton.mpr rfl), (mkV_1 v1 v2 v3 v4 c1) ▸ h q hq⟩
  by_cases c2 : v0 = 2
  · refine g_tin C 53 2 c2 (by decide) (by decide) rfl rfl dX9_made_1 ?_
    refine x_new_2 C dX9_made_53 (by decide) (by decide) (fun q hq => ?_)
    refine g_dup C dX9_made_56 rfl ?_
    refine g_iload_n C (i := 1) dX9_made_57 rfl rfl ?_
    refine g_iload_n C (i := 2) dX9_made_58 rfl rfl ?_
    refine g_iload_n C (i := 3) dX9_made_59 rfl rfl ?_
    refine g_lload C (i := 4) dX9_made_60 rfl ?_
    refine g_callI C (wX10_k_init (D := D) (ca := ca) (o := o) (S := S) (List.mem_append_right L (List.mem_singleton.mpr rfl)) (2, 0, 0, 0, 0, 0, 0) v1 v2 v3 v4 I J R) 4 (tb_in (List.mem_of_getElem? (i := 92) (by decide +kernel)) (by decide +kernel)) (tb_in (List.mem_of_getElem? (i := 551) (by decide +kernel)) (by decide +kernel)) (tb_in (List.mem_of_getElem? (i := 552) (by decide +kernel)) (by decide +kernel)) (tb_in (List.mem_of_getElem? (i := 553) (by decide +kernel)) (by decide +kernel)) rfl (by decide +kernel) (rl_in_rla (by decide) (by decide) (by decide) (by decide)) rfl (Nat.le_of_ble_eq_true rfl) (st := [.ref q]) _ rfl dX9_made_62 (fun v ws h => ?_)
    obtain ⟨rfl, rfl⟩ := h
    exact g_ret_a C dX9_made_65 (by decide) (by decide) ⟨q, I, J, R, _, _, rfl, rfl, List.mem_append_right L (List.mem_singleton.mpr rfl), (mkV_2 v1 v2 v3 v4 c2) ▸ h q hq⟩
  by_cases c3 : v0 = 3
  · refine g_tin C 66 3 c3 (by decide) (by decide) rfl rfl dX9_made_1 ?_
    refine x_new_3 C dX9_made_66 (by decide) (by decide) (fun q hq => ?_)
    refine g_dup C dX9_made_69 rfl ?_
    refine g_iconst_3 C dX9_made_70 ?_
    refine g_iload_n C (i := 1) dX9_made_71 rfl rfl ?_
    refine g_iload_n C (i := 2) dX9_made_72 rfl rfl ?_
    refine g_iload_n C (i := 3) dX9_made_73 rfl rfl ?_
    refine g_lload C (i := 4) dX9_made_74 rfl ?_
    refine g_callI C (wX2_k_init (D := D) (ca := ca) (o := o) (S := S) (List.mem_append_right L (List.mem_singleton.mpr rfl)) (3, 0, 0, 0, 0, 0, 0) (Or.inl rfl) 3 v1 v2 v3 v4 I J R) 5 (tb_in (List.mem_of_getElem? (i := 93) (by decide +kernel)) (by decide +kernel)) (tb_in (List.mem_of_getElem? (i := 563) (by decide +kernel)) (by decide +kernel)) (tb_in (List.mem_of_getElem? (i := 564) (by decide +kernel)) (by decide +kernel)) (tb_in (List.mem_of_getElem? (i := 565) (by decide +kernel)) (by decide +kernel)) rfl (by decide +kernel) (rl_in_rla (by decide) (by decide) (by decide) (by decide)) rfl (Nat.le_of_ble_eq_true rfl) (st := [.ref q]) _ rfl dX9_made_76 (fun v ws h => ?_)
    obtain ⟨rfl, rfl⟩ := h
    exact g_ret_a C dX9_made_79 (by decide) (by decide) ⟨q, I, J, R, _, _, rfl, rfl, List.mem_append_right L (List.mem_singleton.mpr rfl), (mkV_3 v1 v2 v3 v4 c3) ▸ h q hq⟩
  by_cases c4 : v0 = 4
  · refine g_tin C 80 4 c4 (by decide) (by decide) rfl rfl dX9_made_1 ?_
    refine x_new_4 C dX9_made_80 (by decide) (by decide) (fun q hq => ?_)
    refine g_dup C dX9_made_83 rfl ?_
    refine g_iload_n C (i := 1) dX9_made_84 rfl rfl ?_
    refine g_iload_n C (i := 2) dX9_made_85 rfl rfl ?_
    refine g_iload_n C (i := 3) dX9_made_86 rfl rfl ?_
    refine g_lload C (i := 4) dX9_made_87 rfl ?_
    refine g_callI C (wX0_k_init (D := D) (ca := ca) (o := o) (S := S) (List.mem_append_right L (List.mem_singleton.mpr rfl)) (4, 0, 0, 0, 0, 0, 0) rfl v1 v2 v3 v4 I J R) 4 (tb_in (List.mem_of_getElem? (i := 94) (by decide +kernel)) (by decide +kernel)) (tb_in (List.mem_of_getElem? (i := 577) (by decide +kernel)) (by decide +kernel)) (tb_in (List.mem_of_getElem? (i := 578) (by decide +kernel)) (by decide +kernel)) (tb_in (List.mem_of_getElem? (i := 579) (by decide +kernel)) (by decide +kernel)) rfl (by decide +kernel) (rl_in_rla (by decide) (by decide) (by decide) (by decide)) rfl (Nat.le_of_ble_eq_true rfl) (st := [.ref q]) _ rfl dX9_made_89 (fun v ws h => ?_)
    obtain ⟨rfl, rfl⟩ := h
    exact g_ret_a C dX9_made_92 (by decide) (by decide) ⟨q, I, J, R, _, _, rfl, rfl, List.mem_append_right L (List.mem_singleton.mpr rfl), (mkV_4 v1 v2 v3 v4 c4) ▸ h q hq⟩
  by_cases c5 : v0 = 5
  · refine g_tin C 93 5 c5 (by decide) (by decide) rfl rfl dX9_made_1 ?_
    refine x_new_5 C dX9_made_93 (by decide) (by decide) (fun q hq => ?_)
    refine g_dup C dX9_made_96 rfl ?_
    refine g_iconst_5 C dX9_made_97 ?_
    refine g_iload_n C (i := 1) dX9_made_98 rfl rfl ?_
    refine g_iload_n C (i := 2) dX9_made_99 rfl rfl ?_
    refine g_iload_n C (i := 3) dX9_made_100 rfl rfl ?_
    refine g_lload C (i := 4) dX9_made_101 rfl ?_
    refine g_callI C (wX3_k_init (D := D) (ca := ca) (o := o) (S := S) (List.mem_append_right L (List.mem_singleton.mpr rfl)) (5, 0, 0, 0, 0, 0, 0) 5 v1 v2 v3 v4 I J R) 5 (tb_in (List.mem_of_getElem? (i := 95) (by decide +kernel)) (by decide +kernel)) (tb_in (List.mem_of_getElem? (i := 589) (by decide +kernel)) (by decide +kernel)) (tb_in (List.mem_of_getElem? (i := 590) (by decide +kernel)) (by decide +kernel)) (tb_in (List.mem_of_getElem? (i := 591) (by decide +kernel)) (by decide +kernel)) rfl (by decide +kernel) (rl_in_rla (by decide) (by decide) (by decide) (by decide)) rfl (Nat.le_of_ble_eq_true rfl) (st := [.ref q]) _ rfl dX9_made_103 (fun v ws h => ?_)
    obtain ⟨rfl, rfl⟩ := h
    exact g_ret_a C dX9_made_106 (by decide) (by decide) ⟨q, I, J, R, _, _, rfl, rfl, List.mem_append_right L (List.mem_singleton.mpr rfl), (mkV_5 v1 v2 v3 v4 c5) ▸ h q hq⟩
  by_cases c6 : v0 = 6
  · refine g_tin C 107 6 c6 (by decide) (by decide) rfl rfl dX9_made_1 ?_
    refine x_new_6 C dX9_made_107 (by decide) (by decide) (fun q hq => ?_)
    refine g_dup C dX9_made_110 rfl ?_
    refine g_iload_n C (i := 1) dX9_made_111 rfl rfl ?_
    refine g_iload_n C (i := 2) dX9_made_112 rfl rfl ?_
    refine g_iload_n C (i := 3) dX9_made_113 rfl rfl ?_
    refine g_lload C (i := 4) dX9_made_114 rfl ?_
    refine g_callI C (wX5_k_init (D := D) (ca := ca) (o := o) (S := S) (List.mem_append_right L (List.mem_singleton.mpr rfl)) (6, 0, 0, 0, 0, 0, 0) v1 v2 v3 v4 I J R) 4 (tb_in (List.mem_of_getElem? (i := 96) (by decide +kernel)) (by decide +kernel)) (tb_in (List.mem_of_getElem? (i := 600) (by decide +kernel)) (by decide +kernel)) (tb_in (List.mem_of_getElem? (i := 601) (by decide +kernel)) (by decide +kernel)) (tb_in (List.mem_of_getElem? (i := 602) (by decide +kernel)) (by decide +kernel)) rfl (by decide +kernel) (rl_in_rla (by decide) (by decide) (by decide) (by decide)) rfl (Nat.le_of_ble_eq_true rfl) (st := [.ref q]) _ rfl dX9_made_116 (fun v ws h => ?_)
    obtain ⟨rfl, rfl⟩ := h
    exact g_ret_a C dX9_made_119 (by decide) (by decide) ⟨q, I, J, R, _, _, rfl, rfl, List.mem_append_right L (List.mem_singleton.mpr rfl), (mkV_6 v1 v2 v3 v4 c6) ▸ h q hq⟩
  refine g_tout C 120 (by have := g_ne (v := 1) (n := 1) c1 (by decide); have := g_ne (v := 2) (n := 2) c2 (by decide); have := g_ne (v := 3) (n := 3) c3 (by decide); have := g_ne (v := 4) (n := 4) c4 (by decide); have := g_ne (v := 5) (n := 5) c5 (by decide); have := g_ne (v := 6) (n := 6) c6 (by decide); omega) rfl dX9_made_1 ?_
  refine x_new_0 C dX9_made_120 (by decide) (by decide) (fun q hq => ?_)
  refine g_dup C dX9_made_123 rfl ?_
  refine g_iconst_0 C dX9_made_124 ?_
  refine g_iload_n C (i := 1) dX9_made_125 rfl rfl ?_
  refine g_iload_n C (i := 2) dX9_made_126 rfl rfl ?_
  refine g_iload_n C (i := 3) dX9_made_127 rfl rfl ?_
  refine g_lload C (i := 4) dX9_made_128 rfl ?_
  refine g_callI C (wX9_k_init (D := D) (ca := ca) (o := o) (S := S) (List.mem_append_right L (List.mem_singleton.mpr rfl)) (0, 0, 0, 0, 0, 0, 0) 0 v1 v2 v3 v4 I J R) 5 (tb_in (List.mem_of_getElem? (i := 90) (by decide +kernel)) (by decide +kernel)) (tb_in (List.mem_of_getElem? (i := 611) (by decide +kernel)) (by decide +kernel)) (tb_in (List.mem_of_getElem? (i := 512) (by decide +kernel)) (by decide +kernel)) (tb_in (List.mem_of_getElem? (i := 513) (by decide +kernel)) (by decide +kernel)) rfl (by decide +kernel) (rl_in_rla (by decide) (by decide) (by decide) (by decide)) rfl (Nat.le_of_ble_eq_true rfl) (st := [.ref q]) _ rfl dX9_made_130 (fun v ws h => ?_)
  obtain ⟨rfl, rfl⟩ := h
  exact g_ret_a C dX9_made_133 (by decide) (by decide) ⟨q, I, J, R, _, _, rfl, rfl, List.mem_append_right L (List.mem_singleton.mpr rfl), (mkV_0 v1 v2 v3 v4 c1 c2 c3 c4 c5 c6) ▸ h q hq⟩
