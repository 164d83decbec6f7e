theorem sX11_84 : gSite RX11 yX8_has cX8_has 2 (some .boolean) 84 1 := gSite.of (tb_in (List.mem_of_getElem? (i := 337) (by decide +kernel)) (by decide +kernel)) (tb_in (List.mem_of_getElem? (i := 338) (by decide +kernel)) (by decide +kernel)) (tb_in (List.mem_of_getElem? (i := 339) (by decide +kernel)) (by decide +kernel)) (tb_in (List.mem_of_getElem? (i := 86) (by decide +kernel)) (by decide +kernel)) (tb_in (List.mem_of_getElem? (i := 340) (by decide +kernel)) (by decide +kernel)) (by decide +kernel)
set_option maxRecDepth 100000 in
theorem wX11_element_g {Γ : gT} {D : gD} {ca : Nat → ClassId} {o : Nat → Nat} {I : gI} {J : gJ} {R : gR} {L : List Nat} {S : gS} {Q : Int64 → Prop} (v1 : Int32) (v2 : Int32) (C : Cx Γ cX11_element RX11 3 D (tyW ca) (rl 1) (some .long) 0 0 (PYl ca o I J R L S Q)) (h : wX11_element v1 v2 I J R L S Q) : G Γ 0 0 0 [(0, .ref (o 0)), (1, .int v1), (2, .int v2)] [] (cX ca o I J R L S) := by
  unfold wX11_element at h
  refine g_aload_n C (i := 0) dX11_element_0 rfl rfl ?_
  refine g_iload_n C (i := 1) dX11_element_1 rfl rfl ?_
  refine x_callV C (wX11_k_isShelf v1 I J R L S _ h) sX11_69 rcv_main (rl_ok (by decide) (by decide)) rfl (Nat.le_of_ble_eq_true rfl) (st := []) _ rfl dX11_element_2 (py_z (fun r1 h => ?_))
  refine g_zeq C 21 dX11_element_5 rfl (fun c2 => ?_) (fun c2 => ?_)
  · replace h := h.1 c2
    refine g_lconst_0 C dX11_element_21 ?_
    exact g_ret_l C dX11_element_22 (Nat.le_refl _) (Nat.le_refl _) ⟨_, rfl, rfl, h⟩
  · replace h := h.2 c2
    refine g_aload_n C (i := 0) dX11_element_8 rfl rfl ?_
    refine x_get_X11_24 C dX11_element_9 ?_
    refine g_iload_n C (i := 1) dX11_element_12 rfl rfl ?_
    obtain ⟨h3, h⟩ := h
    refine x_shelf C h3 dX11_element_13 ?_
    refine g_iload_n C (i := 2) dX11_element_14 rfl rfl ?_
    refine x_callV C (wX8_k_has (vp_lt h3) v2 I J R L S _ h) sX11_84 (rcv_shelf (s := v1.toNatClampNeg) (vp_lt h3)) (rl_ok (by decide) (by decide)) rfl (Nat.le_of_ble_eq_true rfl) (st := []) _ rfl dX11_element_15 (py_z (fun r4 h => ?_))
    refine g_zne C 23 dX11_element_18 rfl (fun c5 => ?_) (fun c5 => ?_)
    · replace h := h.1 c5
      refine g_aload_n C (i := 0) dX11_element_23 rfl rfl ?_
      refine x_get_X11_24 C dX11_element_24 ?_
      refine g_iload_n C (i := 1) dX11_element_27 rfl rfl ?_
      refine x_shelf C h3 dX11_element_28 ?_
      refine x_get_X11_95 C (s := v1.toNatClampNeg) (vp_lt h3) dX11_element_29 ?_
      refine g_iload_n C (i := 2) dX11_element_32 rfl rfl ?_
      obtain ⟨h6, h⟩ := h
      refine x_lald C (s := v1.toNatClampNeg) (vp_lt h3) h6 dX11_element_33 ?_
      exact g_ret_l C dX11_element_34 (Nat.le_refl _) (Nat.le_refl _) ⟨_, rfl, rfl, h⟩
    · replace h := h.2 c5
      refine g_lconst_0 C dX11_element_21 ?_
      exact g_ret_l C dX11_element_22 (Nat.le_refl _) (Nat.le_refl _) ⟨_, rfl, rfl, h⟩
theorem wX11_k_element {D : gD} {ca : Nat → ClassId} {o : Nat → Nat} {L : List Nat} {S : gS} (v1 : Int32) (v2 : Int32) (I : gI) (J : gJ) (R : gR) (L0 : List Nat) (S0 : gS) (Q : Int64 → Prop) (h : wX11_element v1 v2 I J R L S Q) : Ct yX11_element cX11_element 3 (some .long) (rl 1) D (tyW ca) 0 0 [.ref (o 0), .int v1, .int v2] (cX ca o I J R L S) (PYl ca o I J R L S Q) := ct_of (rm := (rl 1)) (by decide +kernel) (Nat.le_of_ble_eq_true rfl) (fun Γ C => wX11_element_g v1 v2 C h)
theorem sX11_118 : gSite RX11 yX11_isStrip cX11_isStrip 2 (some .boolean) 118 1 := gSite.of (tb_in (List.mem_of_getElem? (i := 369) (by decide +kernel)) (by decide +kernel)) (tb_in (List.mem_of_getElem? (i := 371) (by decide +kernel)) (by decide +kernel)) (tb_in (List.mem_of_getElem? (i := 5) (by decide +kernel)) (by decide +kernel)) (tb_in (List.mem_of_getElem? (i := 78) (by decide +kernel)) (by decide +kernel)) (tb_in (List.mem_of_getElem? (i := 372) (by decide +kernel)) (by decide +kernel)) (by decide +kernel)
theorem sX11_121 : gSite RX11 yX8_hold cX8_hold 2 none 121 1 := gSite.of (tb_in (List.mem_of_getElem? (i := 373) (by decide +kernel)) (by decide +kernel)) (tb_in (List.mem_of_getElem? (i := 374) (by decide +kernel)) (by decide +kernel)) (tb_in (List.mem_of_getElem? (i := 375) (by decide +kernel)) (by decide +kernel)) (tb_in (List.mem_of_getElem? (i := 86) (by decide +kernel)) (by decide +kernel)) (tb_in (List.mem_of_getElem? (i := 376) (by decide +kernel)) (by decide +kernel)) (by decide +kernel)
theorem sX11_73 : gSite RX11 yX11_refuse cX11_refuse 2 (some .int) 73 1 := gSite.of (tb_in (List.mem_of_getElem? (i := 310) (by decide +kernel)) (by decide +kernel)) (tb_in (List.mem_of_getElem? (i := 312) (by decide +kernel)) (by decide +kernel)) (tb_in (List.mem_of_getElem? (i := 1) (by decide +kernel)) (by decide +kernel)) (tb_in (List.mem_of_getElem? (i := 78) (by decide +kernel)) (by decide +kernel)) (tb_in (List.mem_of_getElem? (i := 313) (by decide +kernel)) (by decide +kernel)) (by decide +kernel)
set_option maxRecDepth 100000 in
theorem wX11_show_gc27 {Γ : gT} {D : gD} {ca : Nat → ClassId} {o : Nat → Nat} {Q : Int32 → gI → gJ → gR → Prop} {L : List Nat} {S : gS} (C : Cx Γ cX11_show RX11 3 D (tyW ca) (rl 1) (some .int) 0 0 (PXi ca o L S Q)) (v1 : Int32) (v2 : Int32) (I : gI) (J : gJ) (R : gR) (h : wX11_show_c27 L S v1 v2 I J R Q) : G Γ 0 0 27 [(0, .ref (o 0)), (1, .int v1), (2, .int v2)] [] (cX ca o I J R L S) := by
  unfold wX11_show_c27 at h
  refine g_aload_n C (i := 0) dX11_show_27 rfl rfl ?_
  refine x_get_X11_24 C dX11_show_28 ?_
  refine g_iload_n C (i := 1) dX11_show_31 rfl rfl ?_
  obtain ⟨h1, h⟩ := h
  refine x_shelf C h1 dX11_show_32 ?_
  refine g_iload_n C (i := 2) dX11_show_33 rfl rfl ?_
  refine x_callV C (wX8_k_hold (vp_lt h1) v2 I J R L S _ h) sX11_121 (rcv_shelf (s := v1.toNatClampNeg) (vp_lt h1)) (rl_ok (by decide) (by decide)) rfl (Nat.le_of_ble_eq_true rfl) (st := []) _ rfl dX11_show_34 (px_v (fun I3 J4 R5 h => ?_))
  refine g_iload_n C (i := 2) dX11_show_37 rfl rfl ?_
  refine g_iconst_m1 C dX11_show_38 ?_
  refine g_icmp_ne C 46 dX11_show_39 rfl (fun c6 => ?_) (fun c6 => ?_)
  · replace h := h.1 c6
    refine g_iconst_1 C dX11_show_46 ?_
    exact g_ret_i C dX11_show_47 (Nat.le_refl _) (Nat.le_refl _) ⟨_, _, _, _, rfl, rfl, h⟩
  · replace h := h.2 c6
    refine g_iconst_0 C dX11_show_42 ?_
    refine g_goto C 47 dX11_show_43 rfl ?_
    exact g_ret_i C dX11_show_47 (Nat.le_refl _) (Nat.le_refl _) ⟨_, _, _, _, rfl, rfl, h⟩
set_option maxRecDepth 100000 in
theorem wX11_show_gc21 {Γ : gT} {D : gD} {ca : Nat → ClassId} {o : Nat → Nat} {Q : Int32 → gI → gJ → gR → Prop} {L : List Nat} {S : gS} (C : Cx Γ cX11_show RX11 3 D (tyW ca) (rl 1) (some .int) 0 0 (PXi ca o L S Q)) (I : gI) (J : gJ) (R : gR) (h : wX11_show_c21 L S I J R Q) : G Γ 0 0 21 [(0, .ref (o 0))] [] (cX ca o I J R L S) := by
  unfold wX11_show_c21 at h
  refine g_aload_n C (i := 0) dX11_show_21 rfl rfl ?_
  refine g_iconst_m1 C dX11_show_22 ?_
  refine x_callV C (wX11_k_refuse (-1) I J R L S _ h) sX11_73 rcv_main (rl_ok (by decide) (by decide)) rfl (Nat.le_of_ble_eq_true rfl) (st := []) _ rfl dX11_show_23 (px_i (fun r1 I2 J3 R4 h => ?_))
  exact g_ret_i C dX11_show_26 (Nat.le_refl _) (Nat.le_refl _) ⟨_, _, _, _, rfl, rfl, h⟩
set_option maxRecDepth 100000 in
theorem wX11_show_g {Γ : gT} {D : gD} {ca : Nat → ClassId} {o : Nat → Nat} {I : gI} {J : gJ} {R : gR} {L : List Nat} {S : gS} {Q : Int32 → gI → gJ → gR → Prop} (v1 : Int32) (v2 : Int32) (C : Cx Γ cX11_show RX11 3 D (tyW ca) (rl 1) (some .int) 0 0 (PXi ca o L S Q)) (h : wX11_show v1 v2 I J R L S Q) : G Γ 0 0 0 [(0, .ref (o 0)), (1, .int v1), (2, .int v2)] [] (cX ca o I J R L S) := by
  unfold wX11_show at h
  refine g_aload_n C (i := 0) dX11_show_0 rfl rfl ?_
  refine g_iload_n C (i := 1) dX11_show_1 rfl rfl ?_
  refine x_callV C (wX11_k_isShelf v1 I J R L S _ h) sX11_69 rcv_main (rl_ok (by decide) (by decide)) rfl (Nat.le_of_ble_eq_true rfl) (st := []) _ rfl dX11_show_2 (py_z (fun r1 h => ?_))
  refine g_zeq C 21 dX11_show_5 rfl (fun c2 => ?_) (fun c2 => ?_)
  · replace h := h.1 c2
    exact g_weak [0] rfl (Nat.le_refl _) (Nat.le_refl _) (wX11_show_gc21  C   I J R h)
  · replace h := h.2 c2
    refine g_iload_n C (i := 2) dX11_show_8 rfl rfl ?_
    refine g_iconst_m1 C dX11_show_9 ?_
    refine g_icmp_eq C 27 dX11_show_10 rfl (fun c3 => ?_) (fun c3 => ?_)
    · replace h := h.1 c3
      exact g_weak [0, 1, 2] rfl (Nat.le_refl _) (Nat.le_refl _) (wX11_show_gc27  C  v1 v2 I J R h)
    · replace h := h.2 c3
      refine g_aload_n C (i := 0) dX11_show_13 rfl rfl ?_
      refine g_iload_n C (i := 2) dX11_show_14 rfl rfl ?_
      refine x_callV C (wX11_k_isStrip v2 I J R L S _ h) sX11_118 rcv_main (rl_ok (by decide) (by decide)) rfl (Nat.le_of_ble_eq_true rfl) (st := []) _ rfl dX11_show_15 (py_z (fun r4 h => ?_))
      refine g_zne C 27 dX11_show_18 rfl (fun c5 => ?_) (fun c5 => ?_)
      · replace h := h.1 c5
        exact g_weak [0, 1, 2] rfl (Nat.le_refl _) (Nat.le_refl _) (wX11_show_gc27  C  v1 v2 I J R h)
      · replace h := h.2 c5
        exact g_weak [0] rfl (Nat.le_refl _) (Nat.le_refl _) (wX11_show_gc21  C   I J R h)
theorem wX11_k_show {D : gD} {ca : Nat → ClassId} {o : Nat → Nat} {L : List Nat} {S : gS} (v1 : Int32) (v2 : Int32) (I : gI) (J : gJ) (R : gR) (L0 : List Nat) (S0 : gS) (Q : Int32 → gI → gJ → gR → Prop) (h : wX11_show v1 v2 I J R L S Q) : Ct yX11_show cX11_show 3 (some .int) (rl 1) D (tyW ca) 0 0 [.ref (o 0), .int v1, .int v2] (cX ca o I J R L S) (PXi ca o L S Q) := ct_of (rm := (rl 1)) (by decide +kernel) (Nat.le_of_ble_eq_true rfl) (fun Γ C => wX11_show_g v1 v2 C h)
set_option maxRecDepth 100000 in
theorem wX11_holds_g {Γ : gT} {D : gD} {ca : Nat → ClassId} {o : Nat → Nat} {I : gI} {J : gJ} {R : gR} {L : List Nat} {S : gS} {Q : Int32 → Prop} (v1 : Int32) (C : Cx Γ cX11_holds RX11 2 D (tyW ca) (rl 1) (some .int) 0 0 (PYi ca o I J R L S Q)) (h : wX11_holds v1 I J R L S Q) : G Γ 0 0 0 [(0, .ref (o 0)), (1, .int v1)] [] (cX ca o I J R L S) := by
  unfold wX11_holds at h
  refine g_aload_n C (i := 0) dX11_holds_0 rfl rfl ?_
  refine g_iload_n C (i := 1) dX11_holds_1 rfl rfl ?_
  refine x_callV C (wX11_k_isShelf v1 I J R L S _ h) sX11_69 rcv_main (rl_ok (by decide) (by decide)) rfl (Nat.le_of_ble_eq_true rfl) (st := []) _ rfl dX11_holds_2 (py_z (fun r1 h => ?_))
  refine g_zeq C 20 dX11_holds_5 rfl (fun c2 => ?_) (fun c2 => ?_)
  · replace h := h.1 c2
    refine g_iconst_m1 C dX11_holds_20 ?_
    exact g_ret_i C dX11_holds_21 (Nat.le_refl _) (Nat.le_refl _) ⟨_, rfl, rfl, h⟩
  · replace h := h.2 c2
    refine g_aload_n C (i := 0) dX11_holds_8 rfl rfl ?_
    refine x_get_X11_24 C dX11_holds_9 ?_
    refine g_iload_n C (i := 1) dX11_holds_12 rfl rfl ?_
    obtain ⟨h3, h⟩ := h
    refine x_shelf C h3 dX11_holds_13 ?_
    refine x_get_X11_112 C (s := v1.toNatClampNeg) (vp_lt h3) dX11_holds_14 ?_
    refine g_goto C 21 dX11_holds_17 rfl ?_
    exact g_ret_i C dX11_holds_21 (Nat.le_refl _) (Nat.le_refl _) ⟨_, rfl, rfl, h⟩
theorem wX11_k_holds {D : gD} {ca : Nat → ClassId} {o : Nat → Nat} {L : List Nat} {S : gS} (v1 : Int32) (I : gI) (J : gJ) (R : gR) (L0 : List Nat) (S0 : gS) (Q : Int32 → Prop) (h : wX11_holds v1 I J R L S Q) : Ct yX11_holds cX11_holds 2 (some .int) (rl 1) D (tyW ca) 0 0 [.ref (o 0), .int v1] (cX ca o I J R L S) (PYi ca o I J R L S Q) := ct_of (rm := (rl 1)) (by decide +kernel) (Nat.le_of_ble_eq_true rfl) (fun Γ C => wX11_holds_g v1 C h)
theorem sX11_179_1 : gSiteU RX11 "FoldedInHalf$Same" "FoldedInHalf$Strip" ⟨"FoldedInHalf$Strip", "letter", "(I)I"⟩ yX9_letter cX9_letter 2 (some .int) 179 1 := gSiteU.inh (tb_in (List.mem_of_getElem? (i := 622) (by decide +kernel)) (by decide +kernel)) (tb_in (List.mem_of_getElem? (i := 1832) (by decide +kernel)) (by decide +kernel)) (tb_in (List.mem_of_getElem? (i := 1837) (by decide +kernel)) (by decide +kernel)) (tb_in (List.mem_of_getElem? (i := 463) (by decide +kernel)) (by decide +kernel)) (tb_in (List.mem_of_getElem? (i := 90) (by decide +kernel)) (by decide +kernel)) (tb_in (List.mem_of_getElem? (i := 464) (by decide +kernel)) (by decide +kernel)) rfl (by decide +kernel)
theorem sX11_179_2 : gSiteU RX11 "FoldedInHalf$Third" "FoldedInHalf$Strip" ⟨"FoldedInHalf$Strip", "letter", "(I)I"⟩ yX9_letter cX9_letter 2 (some .int) 179 1 := gSiteU.inh (tb_in (List.mem_of_getElem? (i := 622) (by decide +kernel)) (by decide +kernel)) (tb_in (List.mem_of_getElem? (i := 1832) (by decide +kernel)) (by decide +kernel)) (tb_in (List.mem_of_getElem? (i := 1839) (by decide +kernel)) (by decide +kernel)) (tb_in (List.mem_of_getElem? (i := 463) (by decide +kernel)) (by decide +kernel)) (tb_in (List.mem_of_getElem? (i := 90) (by decide +kernel)) (by decide +kernel)) (tb_in (List.mem_of_getElem? (i := 464) (by decide +kernel)) (by decide +kernel)) rfl (by decide +kernel)
theorem sX11_179_3 : gSiteU RX11 "FoldedInHalf$Cut" "FoldedInHalf$Strip" ⟨"FoldedInHalf$Strip", "letter", "(I)I"⟩ yX9_letter cX9_letter 2 (some .int) 179 1 := gSiteU.inh (tb_in (List.mem_of_getElem? (i := 622) (by decide +kernel)) (by decide +kernel)) (tb_in (List.mem_of_getElem? (i := 1832) (by decide +kernel)) (by decide +kernel)) (tb_in (List.mem_of_getElem? (i := 1834) (by decide +kernel)) (by decide +kernel)) (tb_in (List.mem_of_getElem? (i := 463) (by decide +kernel)) (by decide +kernel)) (tb_in (List.mem_of_getElem? (i := 90) (by decide +kernel)) (by decide +kernel)) (tb_in (List.mem_of_getElem? (i := 464) (by decide +kernel)) (by decide +kernel)) rfl (by decide +kernel)
theorem sX11_179_4 : gSiteU RX11 "FoldedInHalf$Back" "FoldedInHalf$Strip" ⟨"FoldedInHalf$Strip", "letter", "(I)I"⟩ yX9_letter cX9_letter 2 (some .int) 179 1 := gSiteU.inh (tb_in (List.mem_of_getElem? (i := 622) (by decide +kernel)) (by decide +kernel)) (tb_in (List.mem_of_getElem? (i := 1832) (by decide +kernel)) (by decide +kernel)) (tb_in (List.mem_of_getElem? (i := 1833) (by decide +kernel)) (by decide +kernel)) (tb_in (List.mem_of_getElem? (i := 463) (by decide +kernel)) (by decide +kernel)) (tb_in (List.mem_of_getElem? (i := 90) (by decide +kernel)) (by decide +kernel)) (tb_in (List.mem_of_getElem? (i := 464) (by decide +kernel)) (by decide +kernel)) rfl (by decide +kernel)
theorem sX11_179_5 : gSiteU RX11 "FoldedInHalf$Glass" "FoldedInHalf$Strip" ⟨"FoldedInHalf$Strip", "letter", "(I)I"⟩ yX9_letter cX9_letter 2 (some .int) 179 1 := gSiteU.inh (tb_in (List.mem_of_getElem? (i := 622) (by decide +kernel)) (by decide +kernel)) (tb_in (List.mem_of_getElem? (i := 1832) (by decide +kernel)) (by decide +kernel)) (tb_in (List.mem_of_getElem? (i := 1835) (by decide +kernel)) (by decide +kernel)) (tb_in (List.mem_of_getElem? (i := 463) (by decide +kernel)) (by decide +kernel)) (tb_in (List.mem_of_getElem? (i := 90) (by decide +kernel)) (by decide +kernel)) (tb_in (List.mem_of_getElem? (i := 464) (by decide +kernel)) (by decide +kernel)) rfl (by decide +kernel)
theorem sX11_179_6 : gSiteU RX11 "FoldedInHalf$Left" "FoldedInHalf$Strip" ⟨"FoldedInHalf$Strip", "letter", "(I)I"⟩ yX9_letter cX9_letter 2 (some .int) 179 1 := gSiteU.inh (tb_in (List.mem_of_getElem? (i := 622) (by decide +kernel)) (by decide +kernel)) (tb_in (List.mem_of_getElem? (i := 1832) (by decide +kernel)) (by decide +kernel)) (tb_in (List.mem_of_getElem? (i := 1836) (by decide +kernel)) (by decide +kernel)) (tb_in (List.mem_of_getElem? (i := 463) (by decide +kernel)) (by decide +kernel)) (tb_in (List.mem_of_getElem? (i := 90) (by decide +kernel)) (by decide +kernel)) (tb_in (List.mem_of_getElem? (i := 464) (by decide +kernel)) (by decide +kernel)) rfl (by decide +kernel)
theorem sX11_179_0 : gSite RX11 yX9_letter cX9_letter 2 (some .int) 179 1 := gSite.of (tb_in (List.mem_of_getElem? (i := 622) (by decide +kernel)) (by decide +kernel)) (tb_in (List.mem_of_getElem? (i := 463) (by decide +kernel)) (by decide +kernel)) (tb_in (List.mem_of_getElem? (i := 1838) (by decide +kernel)) (by decide +kernel)) (tb_in (List.mem_of_getElem? (i := 90) (by decide +kernel)) (by decide +kernel)) (tb_in (List.mem_of_getElem? (i := 464) (by decide +kernel)) (by decide +kernel)) (by decide +kernel)
theorem xv_X11_179 {Γ : gT} {cc : ByteArray} {nL : Nat} {D : gD} {ca : Nat → ClassId} {rm : Room} {ret : Option FieldType} {mc ms : Nat} {Post : Option Value → va_W → Prop} {cn sn pc : Nat} {lv : List (Nat × Value)} {st : List Value} {o : Nat → Nat} {L : List Nat} {S : gS} (C0 : Cx Γ cc RX11 nL D (tyW ca) rm ret mc ms Post) {q0 : Nat} (hq0 : q0 ∈ L) (v1 : Int32) (I : gI) (J : gJ) (R : gR) (L0 : List Nat) (S0 : gS) (Q : Int32 → Prop) (h : wv_letter q0 v1 I J R L S Q) (hroom : ∀ l maxL : Nat, l ≤ 0 → maxL ≤ 81 → gRm (rl l) rm maxL 0 0 cn sn) (hst : (st.map fun v => v.category).sum ≤ 8) (st0 : List Value) (hs0 : st0 = ([.int v1] : List Value).reverse ++ .ref q0 :: st) (hd : decode cc pc = .ok (.invokevirtual 179, 3)) (k : ∀ (r : Int32) , Q r  → G Γ cn sn (pc + 3) lv (.int r :: st) (cX ca o I J R L S)) : G Γ cn sn pc lv st0 (cX ca o I J R L S) := by
  unfold wv_letter at h
  by_cases h1 : sC (S q0) = 1
  · exact x_callU C0 (wX9_k_letter hq0  v1 I J R L S Q (h.1 h1)) sX11_179_1 (rcv_1 hq0 h1) (hroom _ _ (by decide) (by decide)) rfl hst st0 hs0 hd (py_i k)
  replace h := h.2 h1
  by_cases h2 : sC (S q0) = 2
  · exact x_callU C0 (wX9_k_letter hq0  v1 I J R L S Q (h.1 h2)) sX11_179_2 (rcv_2 hq0 h2) (hroom _ _ (by decide) (by decide)) rfl hst st0 hs0 hd (py_i k)
  replace h := h.2 h2
  by_cases h3 : sC (S q0) = 3
  · exact x_callU C0 (wX9_k_letter hq0  v1 I J R L S Q (h.1 h3)) sX11_179_3 (rcv_3 hq0 h3) (hroom _ _ (by decide) (by decide)) rfl hst st0 hs0 hd (py_i k)
  replace h := h.2 h3
  by_cases h4 : sC (S q0) = 4
  · exact x_callU C0 (wX9_k_letter hq0  v1 I J R L S Q (h.1 h4)) sX11_179_4 (rcv_4 hq0 h4) (hroom _ _ (by decide) (by decide)) rfl hst st0 hs0 hd (py_i k)
  replace h := h.2 h4
  by_cases h5 : sC (S q0) = 5
  · exact x_callU C0 (wX9_k_letter hq0  v1 I J R L S Q (h.1 h5)) sX11_179_5 (rcv_5 hq0 h5) (hroom _ _ (by decide) (by decide)) rfl hst st0 hs0 hd (py_i k)
  replace h := h.2 h5
  by_cases h6 : sC (S q0) = 6
  · exact x_callU C0 (wX9_k_letter hq0  v1 I J R L S Q (h.1 h6)) sX11_179_6 (rcv_6 hq0 h6) (hroom _ _ (by decide) (by decide)) rfl hst st0 hs0 hd (py_i k)
  replace h := h.2 h6
  exact x_callV C0 (wX9_k_letter hq0  v1 I J R L S Q h) sX11_179_0 (rcv_0 hq0 h1 h2 h3 h4 h5 h6) (hroom _ _ (by decide) (by decide)) rfl hst st0 hs0 hd (py_i k)
set_option maxRecDepth 100000 in
theorem wX11_stripOf_gc70 {Γ : gT} {D : gD} {ca : Nat → ClassId} {o : Nat → Nat} {Q : Int32 → gI → gJ → gR → Prop} {L : List Nat} {S : gS} (C : Cx Γ cX11_stripOf RX11 4 D (tyW ca) (rl 1) (some .int) 0 0 (PXi ca o L S Q)) (I : gI) (J : gJ) (R : gR) (h : wX11_stripOf_c70 L S I J R Q) : G Γ 0 0 70 [(0, .ref (o 0))] [] (cX ca o I J R L S) := by
  unfold wX11_stripOf_c70 at h
  refine g_aload_n C (i := 0) dX11_stripOf_70 rfl rfl ?_
  refine g_bipush C (v := (-5)) dX11_stripOf_71 (by decide) ?_
  refine x_callV C (wX11_k_refuse (-5) I J R L S _ h) sX11_73 rcv_main (rl_ok (by decide) (by decide)) rfl (Nat.le_of_ble_eq_true rfl) (st := []) _ rfl dX11_stripOf_73 (px_i (fun r1 I2 J3 R4 h => ?_))
  exact g_ret_i C dX11_stripOf_76 (Nat.le_refl _) (Nat.le_refl _) ⟨_, _, _, _, rfl, rfl, h⟩
set_option maxRecDepth 100000 in
theorem wX11_stripOf_g {Γ : gT} {D : gD} {ca : Nat → ClassId} {o : Nat → Nat} {I : gI} {J : gJ} {R : gR} {L : List Nat} {S : gS} {Q : Int32 → gI → gJ → gR → Prop} (v1 : Int32) (v2 : Int32) (C : Cx Γ cX11_stripOf RX11 4 D (tyW ca) (rl 1) (some .int) 0 0 (PXi ca o L S Q)) (h : wX11_stripOf v1 v2 I J R L S Q) : G Γ 0 0 0 [(0, .ref (o 0)), (1, .int v1), (2, .int v2)] [] (cX ca o I J R L S) := by
  unfold wX11_stripOf at h
  refine g_aload_n C (i := 0) dX11_stripOf_0 rfl rfl ?_
  refine g_iload_n C (i := 1) dX11_stripOf_1 rfl rfl ?_
  refine x_callV C (wX11_k_isStrip v1 I J R L S _ h) sX11_118 rcv_main (rl_ok (by decide) (by decide)) rfl (Nat.le_of_ble_eq_true rfl) (st := []) _ rfl dX11_stripOf_2 (py_z (fun r1 h => ?_))
  refine g_zeq C 70 dX11_stripOf_5 rfl (fun c2 => ?_) (fun c2 => ?_)
  · replace h := h.1 c2
    exact g_weak [0] rfl (Nat.le_refl _) (Nat.le_refl _) (wX11_stripOf_gc70  C   I J R h)
  · replace h := h.2 c2
    refine g_aload_n C (i := 0) dX11_stripOf_8 rfl rfl ?_
    refine x_get_X11_11 C dX11_stripOf_9 ?_
    refine g_iload_n C (i := 1) dX11_stripOf_12 rfl rfl ?_
    obtain ⟨h3, h⟩ := h
    refine x_aald C (k := 0) (by decide) h3 dX11_stripOf_13 ?_
    refine g_astoreq_n C (i := 3) [(0, .ref (o 0)), (1, .int v1), (2, .int v2), (3, va_rf (R 0 v1.toNatClampNeg))] dX11_stripOf_14 rfl (by decide) (by cases (R 0 v1.toNatClampNeg) <;> rfl) ?_
    refine g_iload_n C (i := 2) dX11_stripOf_15 rfl rfl ?_
    refine g_if_ne C 24 dX11_stripOf_16 rfl (fun c4 => ?_) (fun c4 => ?_)
    · replace h := h.1 c4
      refine g_iload_n C (i := 2) dX11_stripOf_24 rfl rfl ?_
      refine g_iconst_1 C dX11_stripOf_25 ?_
      refine g_icmp_ne C 34 dX11_stripOf_26 rfl (fun c5 => ?_) (fun c5 => ?_)
      · replace h := h.1 c5
        refine g_iload_n C (i := 2) dX11_stripOf_34 rfl rfl ?_
        refine g_iconst_2 C dX11_stripOf_35 ?_
        refine g_icmp_ne C 44 dX11_stripOf_36 rfl (fun c6 => ?_) (fun c6 => ?_)
        · replace h := h.1 c6
          refine g_iload_n C (i := 2) dX11_stripOf_44 rfl rfl ?_
          refine g_bipush C (v := 10) dX11_stripOf_45 (by decide) ?_
          refine g_icmp_lt C 70 dX11_stripOf_47 rfl (fun c7 => ?_) (fun c7 => ?_)
          · replace h := h.1 c7
            exact g_weak [0] rfl (Nat.le_refl _) (Nat.le_refl _) (wX11_stripOf_gc70  C   I J R h)
          · replace h := h.2 c7
            refine g_iload_n C (i := 2) dX11_stripOf_50 rfl rfl ?_
            refine g_bipush C (v := 10) dX11_stripOf_51 (by decide) ?_
            refine g_isub C dX11_stripOf_53 ?_
            refine g_aloadq_n C (i := 3) dX11_stripOf_54 rfl rfl ?_
            obtain ⟨z8, h9, h10, h⟩ := h
            refine g_eqs (st' := [.ref z8, .int (v2 - 10)]) (by rw [h9]; rfl) rfl ?_
            refine x_get_X11_135 C h10 dX11_stripOf_55 ?_
            refine g_icmp_ge C 70 dX11_stripOf_58 rfl (fun c11 => ?_) (fun c11 => ?_)
            · replace h := h.1 c11
              exact g_weak [0] rfl (Nat.le_refl _) (Nat.le_refl _) (wX11_stripOf_gc70  C   I J R h)
            · replace h := h.2 c11
              refine g_aloadq_n C (i := 3) dX11_stripOf_61 rfl rfl ?_
              refine g_iload_n C (i := 2) dX11_stripOf_62 rfl rfl ?_
              refine g_bipush C (v := 10) dX11_stripOf_63 (by decide) ?_
              refine g_isub C dX11_stripOf_65 ?_
              refine g_eqs (st' := [.int (v2 - 10), .ref z8]) (by rw [h9]; rfl) rfl ?_
              refine xv_X11_179 C h10 (v2 - 10) I J R L S _ h (fun l m h1 h2 => rl_ok (by omega) h2) (Nat.le_of_ble_eq_true rfl) (st := []) _ rfl dX11_stripOf_66 (fun r12 h => ?_)
              exact g_ret_i C dX11_stripOf_69 (Nat.le_refl _) (Nat.le_refl _) ⟨_, _, _, _, rfl, rfl, h⟩
        · replace h := h.2 c6
          refine g_aloadq_n C (i := 3) dX11_stripOf_39 rfl rfl ?_
          obtain ⟨z13, h14, h15, h⟩ := h
          refine g_eqs (st' := [.ref z13]) (by rw [h14]; rfl) rfl ?_
          refine x_get_X11_135 C h15 dX11_stripOf_40 ?_
          exact g_ret_i C dX11_stripOf_43 (Nat.le_refl _) (Nat.le_refl _) ⟨_, _, _, _, rfl, rfl, h⟩
      · replace h := h.2 c5
        refine g_aloadq_n C (i := 3) dX11_stripOf_29 rfl rfl ?_
        obtain ⟨z16, h17, h18, h⟩ := h
        refine g_eqs (st' := [.ref z16]) (by rw [h17]; rfl) rfl ?_
        refine x_get_X11_138 C h18 dX11_stripOf_30 ?_
        exact g_ret_i C dX11_stripOf_33 (Nat.le_refl _) (Nat.le_refl _) ⟨_, _, _, _, rfl, rfl, h⟩
    · replace h := h.2 c4
      refine g_aloadq_n C (i := 3) dX11_stripOf_19 rfl rfl ?_
      obtain ⟨z19, h20, h21, h⟩ := h
      refine g_eqs (st' := [.ref z19]) (by rw [h20]; rfl) rfl ?_
      refine x_get_X11_124 C h21 dX11_stripOf_20 ?_
      exact g_ret_i C dX11_stripOf_23 (Nat.le_refl _) (Nat.le_refl _) ⟨_, _, _, _, rfl, rfl, h⟩
theorem wX11_k_stripOf {D : gD} {ca : Nat → ClassId} {o : Nat → Nat} {L : List Nat} {S : gS} (v1 : Int32) (v2 : Int32) (I : gI) (J : gJ) (R : gR) (L0 : List Nat) (S0 : gS) (Q : Int32 → gI → gJ → gR → Prop) (h : wX11_stripOf v1 v2 I J R L S Q) : Ct yX11_stripOf cX11_stripOf 4 (some .int) (rl 1) D (tyW ca) 0 0 [.ref (o 0), .int v1, .int v2] (cX ca o I J R L S) (PXi ca o L S Q) := ct_of (rm := (rl 1)) (by decide +kernel) (Nat.le_of_ble_eq_true rfl) (fun Γ C => wX11_stripOf_g v1 v2 C h)
theorem sX11_299 : gSiteS RX11 yJ6_numberOfLeadingZeros_0f7a4 cJ6_numberOfLeadingZeros_0f7a4 2 (some .int) 299 1 := gSiteS.of (tb_in (List.mem_of_getElem? (i := 971) (by decide +kernel)) (by decide +kernel)) (tb_in (List.mem_of_getElem? (i := 972) (by decide +kernel)) (by decide +kernel)) (tb_in (List.mem_of_getElem? (i := 100) (by decide +kernel)) (by decide +kernel)) (tb_in (List.mem_of_getElem? (i := 973) (by decide +kernel)) (by decide +kernel)) (by decide +kernel)
set_option maxRecDepth 100000 in
theorem wX11_levelsReached_g {Γ : gT} {D : gD} {ca : Nat → ClassId} {o : Nat → Nat} {I : gI} {J : gJ} {R : gR} {L : List Nat} {S : gS} {Q : Int32 → Prop} (v0 : Int32) (C : Cx Γ cX11_levelsReached RX11 1 D (tyW ca) (rl 1) (some .int) 0 0 (PYi ca o I J R L S Q)) (h : wX11_levelsReached v0 I J R L S Q) : G Γ 0 0 0 [(0, .int v0)] [] (cX ca o I J R L S) := by
  unfold wX11_levelsReached at h
  refine g_bipush C (v := 32) dX11_levelsReached_0 (by decide) ?_
  refine g_iload_n C (i := 0) dX11_levelsReached_2 rfl rfl ?_
  refine x_callS C (wJ6_k_numberOfLeadingZeros_0f7a4 v0 I J R L S _ h) sX11_299 (rl_ok (by decide) (by decide)) rfl (Nat.le_of_ble_eq_true rfl) (st := [.int 32]) _ rfl dX11_levelsReached_3 (py_i (fun r1 h => ?_))
  refine g_isub C dX11_levelsReached_6 ?_
  exact g_ret_i C dX11_levelsReached_7 (Nat.le_refl _) (Nat.le_refl _) ⟨_, rfl, rfl, h⟩
theorem wX11_k_levelsReached {D : gD} {ca : Nat → ClassId} {o : Nat → Nat} {L : List Nat} {S : gS} (v0 : Int32) (I : gI) (J : gJ) (R : gR) (L0 : List Nat) (S0 : gS) (Q : Int32 → Prop) (h : wX11_levelsReached v0 I J R L S Q) : Ct yX11_levelsReached cX11_levelsReached 1 (some .int) (rl 1) D (tyW ca) 0 0 [.int v0] (cX ca o I J R L S) (PYi ca o I J R L S Q) := ct_of (rm := (rl 1)) (by decide +kernel) (Nat.le_of_ble_eq_true rfl) (fun Γ C => wX11_levelsReached_g v0 C h)
theorem sX11_285 : gSiteS RX11 yJ6_bitCount_0f7a4 cJ6_bitCount_0f7a4 1 (some .int) 285 1 := gSiteS.of (tb_in (List.mem_of_getElem? (i := 981) (by decide +kernel)) (by decide +kernel)) (tb_in (List.mem_of_getElem? (i := 982) (by decide +kernel)) (by decide +kernel)) (tb_in (List.mem_of_getElem? (i := 100) (by decide +kernel)) (by decide +kernel)) (tb_in (List.mem_of_getElem? (i := 983) (by decide +kernel)) (by decide +kernel)) (by decide +kernel)
theorem sX11_302 : gSiteS RX11 yX11_endsAt cX11_endsAt 9 (some .boolean) 302 4 := gSiteS.of (tb_in (List.mem_of_getElem? (i := 1011) (by decide +kernel)) (by decide +kernel)) (tb_in (List.mem_of_getElem? (i := 1012) (by decide +kernel)) (by decide +kernel)) (tb_in (List.mem_of_getElem? (i := 78) (by decide +kernel)) (by decide +kernel)) (tb_in (List.mem_of_getElem? (i := 1013) (by decide +kernel)) (by decide +kernel)) (by decide +kernel)
set_option maxRecDepth 100000 in
theorem wX11_ends_gb45 {Γ : gT} {D : gD} {ca : Nat → ClassId} {o : Nat → Nat} {Q : Int32 → gI → gJ → gR → Prop} {L : List Nat} {S : gS} (C : Cx Γ cX11_ends RX11 8 D (tyW ca) (rl 1) (some .int) 0 0 (PXi ca o L S Q)) {B45 : Int32 → Int32 → Int32 → Int32 → Int32 → Int32 → Int32 → gI → gJ → gR → Prop} (hB45 : ∀ (v1 : Int32) (v2 : Int32) (v3 : Int32) (v4 : Int32) (v5 : Int32) (v6 : Int32) (v7 : Int32) (I : gI) (J : gJ) (R : gR), B45 v1 v2 v3 v4 v5 v6 v7 I J R → G Γ 0 0 45 [(0, .ref (o 0)), (1, .int v1), (2, .int v2), (3, .int v3), (4, .int v4), (5, .int v5), (6, .int v6), (7, .int v7)] [] (cX ca o I J R L S)) (v1 : Int32) (v2 : Int32) (v3 : Int32) (v4 : Int32) (v5 : Int32) (v6 : Int32) (v7 : Int32) (I : gI) (J : gJ) (R : gR) (h : wX11_ends_b45 L S B45 v1 v2 v3 v4 v5 v6 v7 I J R Q) : G Γ 0 0 45 [(0, .ref (o 0)), (1, .int v1), (2, .int v2), (3, .int v3), (4, .int v4), (5, .int v5), (6, .int v6), (7, .int v7)] [] (cX ca o I J R L S) := by
  unfold wX11_ends_b45 at h
  refine g_iload C (i := 7) dX11_ends_45 rfl ?_
  refine g_iconst_1 C dX11_ends_47 ?_
  refine g_iload_n C (i := 1) dX11_ends_48 rfl rfl ?_
  refine g_ishl C dX11_ends_49 ?_
  refine g_icmp_ge C 91 dX11_ends_50 rfl (fun c1 => ?_) (fun c1 => ?_)
  · replace h := h.1 c1
    refine g_iload C (i := 4) dX11_ends_91 rfl ?_
    refine g_if_ne C 99 dX11_ends_93 rfl (fun c2 => ?_) (fun c2 => ?_)
    · replace h := h.1 c2
      refine g_iload C (i := 6) dX11_ends_99 rfl ?_
      refine g_iconst_m1 C dX11_ends_101 ?_
      refine g_icmp_ne C 114 dX11_ends_102 rfl (fun c3 => ?_) (fun c3 => ?_)
      · replace h := h.1 c3
        refine g_iload C (i := 6) dX11_ends_114 rfl ?_
        exact g_ret_i C dX11_ends_116 (Nat.le_refl _) (Nat.le_refl _) ⟨_, _, _, _, rfl, rfl, h⟩
      · replace h := h.2 c3
        refine g_aload_n C (i := 0) dX11_ends_105 rfl rfl ?_
        refine g_bipush C (v := (-5)) dX11_ends_106 (by decide) ?_
        refine x_callV C (wX11_k_refuse (-5) I J R L S _ h) sX11_73 rcv_main (rl_ok (by decide) (by decide)) rfl (Nat.le_of_ble_eq_true rfl) (st := []) _ rfl dX11_ends_108 (px_i (fun r4 I5 J6 R7 h => ?_))
        refine g_goto C 116 dX11_ends_111 rfl ?_
        exact g_ret_i C dX11_ends_116 (Nat.le_refl _) (Nat.le_refl _) ⟨_, _, _, _, rfl, rfl, h⟩
    · replace h := h.2 c2
      refine g_iload C (i := 5) dX11_ends_96 rfl ?_
      exact g_ret_i C dX11_ends_98 (Nat.le_refl _) (Nat.le_refl _) ⟨_, _, _, _, rfl, rfl, h⟩
  · replace h := h.2 c1
    refine g_iload_n C (i := 1) dX11_ends_53 rfl rfl ?_
    refine g_iload C (i := 7) dX11_ends_54 rfl ?_
    refine x_callS C (wJ6_k_bitCount_0f7a4 v7 I J R L S _ h) sX11_285 (rl_ok (by decide) (by decide)) rfl (Nat.le_of_ble_eq_true rfl) (st := [.int v1]) _ rfl dX11_ends_56 (py_i (fun r8 h => ?_))
    refine g_iload_n C (i := 2) dX11_ends_59 rfl rfl ?_
    refine g_iload_n C (i := 3) dX11_ends_60 rfl rfl ?_
    refine x_callS C (wX11_k_endsAt v1 r8 v2 v3 I J R L S _ h) sX11_302 (rl_ok (by decide) (by decide)) rfl (Nat.le_of_ble_eq_true rfl) (st := []) _ rfl dX11_ends_61 (py_z (fun r9 h => ?_))
    refine g_zeq C 85 dX11_ends_64 rfl (fun c10 => ?_) (fun c10 => ?_)
    · replace h := h.1 c10
      refine g_iinc C 1 [(0, .ref (o 0)), (1, .int v1), (2, .int v2), (3, .int v3), (4, .int v4), (5, .int v5), (6, .int v6), (7, .int (v7 + 1))] dX11_ends_85 rfl (by decide) (by decide) rfl ?_
      refine g_goto C 45 dX11_ends_88 rfl ?_
      exact g_weak [0, 1, 2, 3, 4, 5, 6, 7] rfl (Nat.le_refl _) (Nat.le_refl _) (hB45 v1 v2 v3 v4 v5 v6 (v7 + 1) I J R h)
    · replace h := h.2 c10
      refine g_iinc C 1 [(0, .ref (o 0)), (1, .int v1), (2, .int v2), (3, .int v3), (4, .int v4), (5, .int (v5 + 1)), (6, .int v6), (7, .int v7)] dX11_ends_67 rfl (by decide) (by decide) rfl ?_
      refine g_iload C (i := 6) dX11_ends_70 rfl ?_
      refine g_iconst_m1 C dX11_ends_72 ?_
      refine g_icmp_ne C 81 dX11_ends_73 rfl (fun c11 => ?_) (fun c11 => ?_)
      · replace h := h.1 c11
        refine g_iload C (i := 6) dX11_ends_81 rfl ?_
        refine g_istore C (i := 6) [(0, .ref (o 0)), (1, .int v1), (2, .int v2), (3, .int v3), (4, .int v4), (5, .int (v5 + 1)), (6, .int v6), (7, .int v7)] dX11_ends_83 (by decide) rfl ?_
        refine g_iinc C 1 [(0, .ref (o 0)), (1, .int v1), (2, .int v2), (3, .int v3), (4, .int v4), (5, .int (v5 + 1)), (6, .int v6), (7, .int (v7 + 1))] dX11_ends_85 rfl (by decide) (by decide) rfl ?_
        refine g_goto C 45 dX11_ends_88 rfl ?_
        exact g_weak [0, 1, 2, 3, 4, 5, 6, 7] rfl (Nat.le_refl _) (Nat.le_refl _) (hB45 v1 v2 v3 v4 (v5 + 1) v6 (v7 + 1) I J R h)
      · replace h := h.2 c11
        refine g_iload C (i := 7) dX11_ends_76 rfl ?_
        refine g_goto C 83 dX11_ends_78 rfl ?_
        refine g_istore C (i := 6) [(0, .ref (o 0)), (1, .int v1), (2, .int v2), (3, .int v3), (4, .int v4), (5, .int (v5 + 1)), (6, .int v7), (7, .int v7)] dX11_ends_83 (by decide) rfl ?_
        refine g_iinc C 1 [(0, .ref (o 0)), (1, .int v1), (2, .int v2), (3, .int v3), (4, .int v4), (5, .int (v5 + 1)), (6, .int v7), (7, .int (v7 + 1))] dX11_ends_85 rfl (by decide) (by decide) rfl ?_
        refine g_goto C 45 dX11_ends_88 rfl ?_
        exact g_weak [0, 1, 2, 3, 4, 5, 6, 7] rfl (Nat.le_refl _) (Nat.le_refl _) (hB45 v1 v2 v3 v4 (v5 + 1) v7 (v7 + 1) I J R h)
theorem wX11_ends_gl45 {Γ : gT} {D : gD} {ca : Nat → ClassId} {o : Nat → Nat} {Q : Int32 → gI → gJ → gR → Prop} {L : List Nat} {S : gS} (C : Cx Γ cX11_ends RX11 8 D (tyW ca) (rl 1) (some .int) 0 0 (PXi ca o L S Q)) : ∀ (n : Nat) (v1 : Int32) (v2 : Int32) (v3 : Int32) (v4 : Int32) (v5 : Int32) (v6 : Int32) (v7 : Int32) (I : gI) (J : gJ) (R : gR) (_ : wX11_ends_l45 L S Q n v1 v2 v3 v4 v5 v6 v7 I J R), G Γ 0 0 45 [(0, .ref (o 0)), (1, .int v1), (2, .int v2), (3, .int v3), (4, .int v4), (5, .int v5), (6, .int v6), (7, .int v7)] [] (cX ca o I J R L S) := by
  intro n
  induction n with
  | zero => intro v1 v2 v3 v4 v5 v6 v7 I J R h; exact h.elim
  | succ n ih => intro v1 v2 v3 v4 v5 v6 v7 I J R h; exact wX11_ends_gb45 C ih v1 v2 v3 v4 v5 v6 v7 I J R h
set_option maxRecDepth 100000 in
theorem wX11_ends_gc29 {Γ : gT} {D : gD} {ca : Nat → ClassId} {o : Nat → Nat} {Q : Int32 → gI → gJ → gR → Prop} {L : List Nat} {S : gS} (C : Cx Γ cX11_ends RX11 8 D (tyW ca) (rl 1) (some .int) 0 0 (PXi ca o L S Q)) (I : gI) (J : gJ) (R : gR) (h : wX11_ends_c29 L S I J R Q) : G Γ 0 0 29 [(0, .ref (o 0))] [] (cX ca o I J R L S) := by
  unfold wX11_ends_c29 at h
  refine g_aload_n C (i := 0) dX11_ends_29 rfl rfl ?_
  refine g_bipush C (v := (-6)) dX11_ends_30 (by decide) ?_
  refine x_callV C (wX11_k_refuse (-6) I J R L S _ h) sX11_73 rcv_main (rl_ok (by decide) (by decide)) rfl (Nat.le_of_ble_eq_true rfl) (st := []) _ rfl dX11_ends_32 (px_i (fun r1 I2 J3 R4 h => ?_))
  exact g_ret_i C dX11_ends_35 (Nat.le_refl _) (Nat.le_refl _) ⟨_, _, _, _, rfl, rfl, h⟩
set_option maxRecDepth 100000 in
theorem wX11_ends_gc18 {Γ : gT} {D : gD} {ca : Nat → ClassId} {o : Nat → Nat} {Q : Int32 → gI → gJ → gR → Prop} {L : List Nat} {S : gS} (C : Cx Γ cX11_ends RX11 8 D (tyW ca) (rl 1) (some .int) 0 0 (PXi ca o L S Q)) (v1 : Int32) (v2 : Int32) (v3 : Int32) (v4 : Int32) (I : gI) (J : gJ) (R : gR) (h : wX11_ends_c18 L S v1 v2 v3 v4 I J R Q) : G Γ 0 0 18 [(0, .ref (o 0)), (1, .int v1), (2, .int v2), (3, .int v3), (4, .int v4)] [] (cX ca o I J R L S) := by
  unfold wX11_ends_c18 at h
  refine g_iload_n C (i := 1) dX11_ends_18 rfl rfl ?_
  refine g_iconst_1 C dX11_ends_19 ?_
  refine g_icmp_lt C 29 dX11_ends_20 rfl (fun c1 => ?_) (fun c1 => ?_)
  · replace h := h.1 c1
    exact g_weak [0] rfl (Nat.le_refl _) (Nat.le_refl _) (wX11_ends_gc29  C   I J R h)
  · replace h := h.2 c1
    refine g_iload_n C (i := 1) dX11_ends_23 rfl rfl ?_
    refine g_bipush C (v := 10) dX11_ends_24 (by decide) ?_
    refine g_icmp_le C 36 dX11_ends_26 rfl (fun c2 => ?_) (fun c2 => ?_)
    · replace h := h.1 c2
      refine g_iconst_0 C dX11_ends_36 ?_
      refine g_istore C (i := 5) [(0, .ref (o 0)), (1, .int v1), (2, .int v2), (3, .int v3), (4, .int v4), (5, .int 0)] dX11_ends_37 (by decide) rfl ?_
      refine g_iconst_m1 C dX11_ends_39 ?_
      refine g_istore C (i := 6) [(0, .ref (o 0)), (1, .int v1), (2, .int v2), (3, .int v3), (4, .int v4), (5, .int 0), (6, .int (-1))] dX11_ends_40 (by decide) rfl ?_
      refine g_iconst_0 C dX11_ends_42 ?_
      refine g_istore C (i := 7) [(0, .ref (o 0)), (1, .int v1), (2, .int v2), (3, .int v3), (4, .int v4), (5, .int 0), (6, .int (-1)), (7, .int 0)] dX11_ends_43 (by decide) rfl ?_
      obtain ⟨n, h⟩ := h
      exact g_weak [0, 1, 2, 3, 4, 5, 6, 7] rfl (Nat.le_refl _) (Nat.le_refl _) (wX11_ends_gl45  C  n v1 v2 v3 v4 0 (-1) 0 I J R h)
    · replace h := h.2 c2
      exact g_weak [0] rfl (Nat.le_refl _) (Nat.le_refl _) (wX11_ends_gc29  C   I J R h)
set_option maxRecDepth 100000 in
theorem wX11_ends_g {Γ : gT} {D : gD} {ca : Nat → ClassId} {o : Nat → Nat} {I : gI} {J : gJ} {R : gR} {L : List Nat} {S : gS} {Q : Int32 → gI → gJ → gR → Prop} (v1 : Int32) (v2 : Int32) (v3 : Int32) (v4 : Int32) (C : Cx Γ cX11_ends RX11 8 D (tyW ca) (rl 1) (some .int) 0 0 (PXi ca o L S Q)) (h : wX11_ends v1 v2 v3 v4 I J R L S Q) : G Γ 0 0 0 [(0, .ref (o 0)), (1, .int v1), (2, .int v2), (3, .int v3), (4, .int v4)] [] (cX ca o I J R L S) := by
  unfold wX11_ends at h
  refine g_iload C (i := 4) dX11_ends_0 rfl ?_
  refine g_if_eq C 18 dX11_ends_2 rfl (fun c1 => ?_) (fun c1 => ?_)
  · replace h := h.1 c1
    exact g_weak [0, 1, 2, 3, 4] rfl (Nat.le_refl _) (Nat.le_refl _) (wX11_ends_gc18  C  v1 v2 v3 v4 I J R h)
  · replace h := h.2 c1
    refine g_iload C (i := 4) dX11_ends_5 rfl ?_
    refine g_iconst_1 C dX11_ends_7 ?_
    refine g_icmp_eq C 18 dX11_ends_8 rfl (fun c2 => ?_) (fun c2 => ?_)
    · replace h := h.1 c2
      exact g_weak [0, 1, 2, 3, 4] rfl (Nat.le_refl _) (Nat.le_refl _) (wX11_ends_gc18  C  v1 v2 v3 v4 I J R h)
    · replace h := h.2 c2
      refine g_aload_n C (i := 0) dX11_ends_11 rfl rfl ?_
      refine g_bipush C (v := (-5)) dX11_ends_12 (by decide) ?_
      refine x_callV C (wX11_k_refuse (-5) I J R L S _ h) sX11_73 rcv_main (rl_ok (by decide) (by decide)) rfl (Nat.le_of_ble_eq_true rfl) (st := []) _ rfl dX11_ends_14 (px_i (fun r3 I4 J5 R6 h => ?_))
      exact g_ret_i C dX11_ends_17 (Nat.le_refl _) (Nat.le_refl _) ⟨_, _, _, _, rfl, rfl, h⟩
theorem wX11_k_ends {D : gD} {ca : Nat → ClassId} {o : Nat → Nat} {L : List Nat} {S : gS} (v1 : Int32) (v2 : Int32) (v3 : Int32) (v4 : Int32) (I : gI) (J : gJ) (R : gR) (L0 : List Nat) (S0 : gS) (Q : Int32 → gI → gJ → gR → Prop) (h : wX11_ends v1 v2 v3 v4 I J R L S Q) : Ct yX11_ends cX11_ends 8 (some .int) (rl 1) D (tyW ca) 0 0 [.ref (o 0), .int v1, .int v2, .int v3, .int v4] (cX ca o I J R L S) (PXi ca o L S Q) := ct_of (rm := (rl 1)) (by decide +kernel) (Nat.le_of_ble_eq_true rfl) (fun Γ C => wX11_ends_g v1 v2 v3 v4 C h)
set_option maxRecDepth 100000 in
theorem wX11_page_gb51 {Γ : gT} {D : gD} {ca : Nat → ClassId} {o : Nat → Nat} {Q : Int32 → gI → gJ → gR → Prop} {L : List Nat} {S : gS} (C : Cx Γ cX11_page RX11 7 D (tyW ca) (rl 1) (some .int) 0 0 (PXi ca o L S Q)) {B51 : Int32 → Int32 → Int32 → Int32 → gI → gJ → gR → Prop} (hB51 : ∀ (v1 : Int32) (v3 : Int32) (v4 : Int32) (v5 : Int32) (I : gI) (J : gJ) (R : gR), B51 v1 v3 v4 v5 I J R → G Γ 0 0 51 [(1, .int v1), (3, .int v3), (4, .int v4), (5, .int v5)] [] (cX ca o I J R L S)) (v1 : Int32) (v3 : Int32) (v4 : Int32) (v5 : Int32) (I : gI) (J : gJ) (R : gR) (h : wX11_page_b51 L S B51 v1 v3 v4 v5 I J R Q) : G Γ 0 0 51 [(1, .int v1), (3, .int v3), (4, .int v4), (5, .int v5)] [] (cX ca o I J R L S) := by
  unfold wX11_page_b51 at h
  refine g_iload C (i := 5) dX11_page_51 rfl ?_
  refine g_if_le C 107 dX11_page_53 rfl (fun c1 => ?_) (fun c1 => ?_)
  · replace h := h.1 c1
    refine g_iload_n C (i := 3) dX11_page_107 rfl rfl ?_
    exact g_ret_i C dX11_page_108 (Nat.le_refl _) (Nat.le_refl _) ⟨_, _, _, _, rfl, rfl, h⟩
  · replace h := h.2 c1
    refine g_iconst_1 C dX11_page_56 ?_
    refine g_iload C (i := 5) dX11_page_57 rfl ?_
    refine g_iconst_1 C dX11_page_59 ?_
    refine g_isub C dX11_page_60 ?_
    refine g_ishl C dX11_page_61 ?_
    refine g_istore C (i := 6) [(1, .int v1), (3, .int v3), (4, .int v4), (5, .int v5), (6, .int (1 <<< ((v5 - 1) &&& 31)))] dX11_page_62 (by decide) rfl ?_
    refine g_iload C (i := 4) dX11_page_64 rfl ?_
    refine g_iload C (i := 6) dX11_page_66 rfl ?_
    refine g_icmp_ge C 94 dX11_page_68 rfl (fun c2 => ?_) (fun c2 => ?_)
    · replace h := h.1 c2
      refine g_iload C (i := 4) dX11_page_94 rfl ?_
      refine g_iload C (i := 6) dX11_page_96 rfl ?_
      refine g_isub C dX11_page_98 ?_
      refine g_istore C (i := 4) [(1, .int v1), (3, .int v3), (4, .int (v4 - (1 <<< ((v5 - 1) &&& 31)))), (5, .int v5), (6, .int (1 <<< ((v5 - 1) &&& 31)))] dX11_page_99 (by decide) rfl ?_
      refine g_iinc C (-1) [(1, .int v1), (3, .int v3), (4, .int (v4 - (1 <<< ((v5 - 1) &&& 31)))), (5, .int (v5 + (-1))), (6, .int (1 <<< ((v5 - 1) &&& 31)))] dX11_page_101 rfl (by decide) (by decide) rfl ?_
      refine g_goto C 51 dX11_page_104 rfl ?_
      exact g_weak [0, 1, 2, 3] rfl (Nat.le_refl _) (Nat.le_refl _) (hB51 v1 v3 (v4 - (1 <<< ((v5 - 1) &&& 31))) (v5 + (-1)) I J R h)
    · replace h := h.2 c2
      refine g_iconst_2 C dX11_page_71 ?_
      refine g_iload_n C (i := 1) dX11_page_72 rfl rfl ?_
      refine g_iload C (i := 5) dX11_page_73 rfl ?_
      refine g_isub C dX11_page_75 ?_
      refine g_ishl C dX11_page_76 ?_
      refine g_iconst_1 C dX11_page_77 ?_
      refine g_isub C dX11_page_78 ?_
      refine g_iload_n C (i := 3) dX11_page_79 rfl rfl ?_
      refine g_isub C dX11_page_80 ?_
      refine g_istore_n C (i := 3) [(1, .int v1), (3, .int (((2 <<< ((v1 - v5) &&& 31)) - 1) - v3)), (4, .int v4), (5, .int v5), (6, .int (1 <<< ((v5 - 1) &&& 31)))] dX11_page_81 rfl (by decide) rfl ?_
      refine g_iload C (i := 6) dX11_page_82 rfl ?_
      refine g_iconst_1 C dX11_page_84 ?_
      refine g_isub C dX11_page_85 ?_
      refine g_iload C (i := 4) dX11_page_86 rfl ?_
      refine g_isub C dX11_page_88 ?_
      refine g_istore C (i := 4) [(1, .int v1), (3, .int (((2 <<< ((v1 - v5) &&& 31)) - 1) - v3)), (4, .int (((1 <<< ((v5 - 1) &&& 31)) - 1) - v4)), (5, .int v5), (6, .int (1 <<< ((v5 - 1) &&& 31)))] dX11_page_89 (by decide) rfl ?_
      refine g_goto C 101 dX11_page_91 rfl ?_
      refine g_iinc C (-1) [(1, .int v1), (3, .int (((2 <<< ((v1 - v5) &&& 31)) - 1) - v3)), (4, .int (((1 <<< ((v5 - 1) &&& 31)) - 1) - v4)), (5, .int (v5 + (-1))), (6, .int (1 <<< ((v5 - 1) &&& 31)))] dX11_page_101 rfl (by decide) (by decide) rfl ?_
      refine g_goto C 51 dX11_page_104 rfl ?_
      exact g_weak [0, 1, 2, 3] rfl (Nat.le_refl _) (Nat.le_refl _) (hB51 v1 (((2 <<< ((v1 - v5) &&& 31)) - 1) - v3) (((1 <<< ((v5 - 1) &&& 31)) - 1) - v4) (v5 + (-1)) I J R h)
theorem wX11_page_gl51 {Γ : gT} {D : gD} {ca : Nat → ClassId} {o : Nat → Nat} {Q : Int32 → gI → gJ → gR → Prop} {L : List Nat} {S : gS} (C : Cx Γ cX11_page RX11 7 D (tyW ca) (rl 1) (some .int) 0 0 (PXi ca o L S Q)) : ∀ (n : Nat) (v1 : Int32) (v3 : Int32) (v4 : Int32) (v5 : Int32) (I : gI) (J : gJ) (R : gR) (_ : wX11_page_l51 L S Q n v1 v3 v4 v5 I J R), G Γ 0 0 51 [(1, .int v1), (3, .int v3), (4, .int v4), (5, .int v5)] [] (cX ca o I J R L S) := by
  intro n
  induction n with
  | zero => intro v1 v3 v4 v5 I J R h; exact h.elim
  | succ n ih => intro v1 v3 v4 v5 I J R h; exact wX11_page_gb51 C ih v1 v3 v4 v5 I J R h
set_option maxRecDepth 100000 in
theorem wX11_page_gc22 {Γ : gT} {D : gD} {ca : Nat → ClassId} {o : Nat → Nat} {Q : Int32 → gI → gJ → gR → Prop} {L : List Nat} {S : gS} (C : Cx Γ cX11_page RX11 7 D (tyW ca) (rl 1) (some .int) 0 0 (PXi ca o L S Q)) (I : gI) (J : gJ) (R : gR) (h : wX11_page_c22 L S I J R Q) : G Γ 0 0 22 [(0, .ref (o 0))] [] (cX ca o I J R L S) := by
  unfold wX11_page_c22 at h
  refine g_aload_n C (i := 0) dX11_page_22 rfl rfl ?_
  refine g_bipush C (v := (-6)) dX11_page_23 (by decide) ?_
  refine x_callV C (wX11_k_refuse (-6) I J R L S _ h) sX11_73 rcv_main (rl_ok (by decide) (by decide)) rfl (Nat.le_of_ble_eq_true rfl) (st := []) _ rfl dX11_page_25 (px_i (fun r1 I2 J3 R4 h => ?_))
  exact g_ret_i C dX11_page_28 (Nat.le_refl _) (Nat.le_refl _) ⟨_, _, _, _, rfl, rfl, h⟩
set_option maxRecDepth 100000 in
theorem wX11_page_g {Γ : gT} {D : gD} {ca : Nat → ClassId} {o : Nat → Nat} {I : gI} {J : gJ} {R : gR} {L : List Nat} {S : gS} {Q : Int32 → gI → gJ → gR → Prop} (v1 : Int32) (v2 : Int32) (C : Cx Γ cX11_page RX11 7 D (tyW ca) (rl 1) (some .int) 0 0 (PXi ca o L S Q)) (h : wX11_page v1 v2 I J R L S Q) : G Γ 0 0 0 [(0, .ref (o 0)), (1, .int v1), (2, .int v2)] [] (cX ca o I J R L S) := by
  unfold wX11_page at h
  refine g_iload_n C (i := 2) dX11_page_0 rfl rfl ?_
  refine g_if_ge C 11 dX11_page_1 rfl (fun c1 => ?_) (fun c1 => ?_)
  · replace h := h.1 c1
    refine g_iload_n C (i := 1) dX11_page_11 rfl rfl ?_
    refine g_iconst_1 C dX11_page_12 ?_
    refine g_icmp_lt C 22 dX11_page_13 rfl (fun c2 => ?_) (fun c2 => ?_)
    · replace h := h.1 c2
      exact g_weak [0] rfl (Nat.le_refl _) (Nat.le_refl _) (wX11_page_gc22  C   I J R h)
    · replace h := h.2 c2
      refine g_iload_n C (i := 1) dX11_page_16 rfl rfl ?_
      refine g_bipush C (v := 6) dX11_page_17 (by decide) ?_
      refine g_icmp_le C 29 dX11_page_19 rfl (fun c3 => ?_) (fun c3 => ?_)
      · replace h := h.1 c3
        refine g_iload_n C (i := 2) dX11_page_29 rfl rfl ?_
        refine g_iconst_1 C dX11_page_30 ?_
        refine g_iload_n C (i := 1) dX11_page_31 rfl rfl ?_
        refine g_ishl C dX11_page_32 ?_
        refine g_icmp_lt C 43 dX11_page_33 rfl (fun c4 => ?_) (fun c4 => ?_)
        · replace h := h.1 c4
          refine g_iconst_0 C dX11_page_43 ?_
          refine g_istore_n C (i := 3) [(0, .ref (o 0)), (1, .int v1), (2, .int v2), (3, .int 0)] dX11_page_44 rfl (by decide) rfl ?_
          refine g_iload_n C (i := 2) dX11_page_45 rfl rfl ?_
          refine g_istore C (i := 4) [(0, .ref (o 0)), (1, .int v1), (2, .int v2), (3, .int 0), (4, .int v2)] dX11_page_46 (by decide) rfl ?_
          refine g_iload_n C (i := 1) dX11_page_48 rfl rfl ?_
          refine g_istore C (i := 5) [(0, .ref (o 0)), (1, .int v1), (2, .int v2), (3, .int 0), (4, .int v2), (5, .int v1)] dX11_page_49 (by decide) rfl ?_
          obtain ⟨n, h⟩ := h
          exact g_weak [1, 3, 4, 5] rfl (Nat.le_refl _) (Nat.le_refl _) (wX11_page_gl51  C  n v1 0 v2 v1 I J R h)
        · replace h := h.2 c4
          refine g_aload_n C (i := 0) dX11_page_36 rfl rfl ?_
          refine g_bipush C (v := (-5)) dX11_page_37 (by decide) ?_
          refine x_callV C (wX11_k_refuse (-5) I J R L S _ h) sX11_73 rcv_main (rl_ok (by decide) (by decide)) rfl (Nat.le_of_ble_eq_true rfl) (st := []) _ rfl dX11_page_39 (px_i (fun r5 I6 J7 R8 h => ?_))
          exact g_ret_i C dX11_page_42 (Nat.le_refl _) (Nat.le_refl _) ⟨_, _, _, _, rfl, rfl, h⟩
      · replace h := h.2 c3
        exact g_weak [0] rfl (Nat.le_refl _) (Nat.le_refl _) (wX11_page_gc22  C   I J R h)
  · replace h := h.2 c1
    refine g_aload_n C (i := 0) dX11_page_4 rfl rfl ?_
    refine g_bipush C (v := (-5)) dX11_page_5 (by decide) ?_
    refine x_callV C (wX11_k_refuse (-5) I J R L S _ h) sX11_73 rcv_main (rl_ok (by decide) (by decide)) rfl (Nat.le_of_ble_eq_true rfl) (st := []) _ rfl dX11_page_7 (px_i (fun r9 I10 J11 R12 h => ?_))
    exact g_ret_i C dX11_page_10 (Nat.le_refl _) (Nat.le_refl _) ⟨_, _, _, _, rfl, rfl, h⟩
theorem wX11_k_page {D : gD} {ca : Nat → ClassId} {o : Nat → Nat} {L : List Nat} {S : gS} (v1 : Int32) (v2 : Int32) (I : gI) (J : gJ) (R : gR) (L0 : List Nat) (S0 : gS) (Q : Int32 → gI → gJ → gR → Prop) (h : wX11_page v1 v2 I J R L S Q) : Ct yX11_page cX11_page 7 (some .int) (rl 1) D (tyW ca) 0 0 [.ref (o 0), .int v1, .int v2] (cX ca o I J R L S) (PXi ca o L S Q) := ct_of (rm := (rl 1)) (by decide +kernel) (Nat.le_of_ble_eq_true rfl) (fun Γ C => wX11_page_g v1 v2 C h)
theorem sX11_196 : gSiteS RX11 yX11_copyStrips cX11_copyStrips 3 none 196 2 := gSiteS.of (tb_in (List.mem_of_getElem? (i := 735) (by decide +kernel)) (by decide +kernel)) (tb_in (List.mem_of_getElem? (i := 636) (by decide +kernel)) (by decide +kernel)) (tb_in (List.mem_of_getElem? (i := 78) (by decide +kernel)) (by decide +kernel)) (tb_in (List.mem_of_getElem? (i := 637) (by decide +kernel)) (by decide +kernel)) (by decide +kernel)
set_option maxRecDepth 100000 in
theorem wX11_image_g {Γ : gT} {D : gD} {ca : Nat → ClassId} {o : Nat → Nat} {I : gI} {J : gJ} {R : gR} {L : List Nat} {S : gS} {Q : Int32 → gI → gJ → gR → Prop} (C : Cx Γ cX11_image RX11 1 D (tyW ca) (rl 1) (some .int) 0 0 (PXi ca o L S Q)) (h : wX11_image I J R L S Q) : G Γ 0 0 0 [(0, .ref (o 0))] [] (cX ca o I J R L S) := by
  unfold wX11_image at h
  refine g_aload_n C (i := 0) dX11_image_0 rfl rfl ?_
  refine x_get_X11_11 C dX11_image_1 ?_
  refine g_aload_n C (i := 0) dX11_image_4 rfl rfl ?_
  refine x_get_X11_15 C dX11_image_5 ?_
  refine x_callS C (wX11_k_copyStrips (by decide) (by decide) I J R L S _ h) sX11_196 (rl_ok (by decide) (by decide)) rfl (Nat.le_of_ble_eq_true rfl) (st := []) _ rfl dX11_image_8 (px_v (fun I2 J3 R4 h => ?_))
  refine g_aload_n C (i := 0) dX11_image_11 rfl rfl ?_
  refine g_aload_n C (i := 0) dX11_image_12 rfl rfl ?_
  refine x_get_X11_164 C dX11_image_13 ?_
  refine x_put_X11_18 C dX11_image_16 ?_
  refine x_nmI _ (fun I5 e6 => ?_)
  replace h := h I5 e6
  refine g_aload_n C (i := 0) dX11_image_19 rfl rfl ?_
  refine x_get_X11_164 C dX11_image_20 ?_
  exact g_ret_i C dX11_image_23 (Nat.le_refl _) (Nat.le_refl _) ⟨_, _, _, _, rfl, rfl, h⟩
theorem wX11_k_image {D : gD} {ca : Nat → ClassId} {o : Nat → Nat} {L : List Nat} {S : gS} (I : gI) (J : gJ) (R : gR) (L0 : List Nat) (S0 : gS) (Q : Int32 → gI → gJ → gR → Prop) (h : wX11_image I J R L S Q) : Ct yX11_image cX11_image 1 (some .int) (rl 1) D (tyW ca) 0 0 [.ref (o 0)] (cX ca o I J R L S) (PXi ca o L S Q) := ct_of (rm := (rl 1)) (by decide +kernel) (Nat.le_of_ble_eq_true rfl) (fun Γ C => wX11_image_g C h)
theorem sX11_352 : gSiteS RX11 yJ13_bitCount_95d88 cJ13_bitCount_95d88 2 (some .int) 352 1 := gSiteS.of (tb_in (List.mem_of_getElem? (i := 1292) (by decide +kernel)) (by decide +kernel)) (tb_in (List.mem_of_getElem? (i := 1293) (by decide +kernel)) (by decide +kernel)) (tb_in (List.mem_of_getElem? (i := 102) (by decide +kernel)) (by decide +kernel)) (tb_in (List.mem_of_getElem? (i := 1294) (by decide +kernel)) (by decide +kernel)) (by decide +kernel)
set_option maxRecDepth 100000 in
theorem wX11_onesOfAll_gb4 {Γ : gT} {D : gD} {ca : Nat → ClassId} {o : Nat → Nat} {Q : Int32 → Prop} {I : gI} {J : gJ} {R : gR} {L : List Nat} {S : gS} (C : Cx Γ cX11_onesOfAll RX11 3 D (tyW ca) (rl 1) (some .int) 0 0 (PYi ca o I J R L S Q)) {B4 : Int32 → Int32 → Prop} (hB4 : ∀ (v1 : Int32) (v2 : Int32) , B4 v1 v2 → G Γ 0 0 4 [(0, .ref (o 0)), (1, .int v1), (2, .int v2)] [] (cX ca o I J R L S)) (v1 : Int32) (v2 : Int32) (h : wX11_onesOfAll_b4 I J R L S B4 v1 v2 Q) : G Γ 0 0 4 [(0, .ref (o 0)), (1, .int v1), (2, .int v2)] [] (cX ca o I J R L S) := by
  unfold wX11_onesOfAll_b4 at h
  refine g_iload_n C (i := 2) dX11_onesOfAll_4 rfl rfl ?_
  refine g_aload_n C (i := 0) dX11_onesOfAll_5 rfl rfl ?_
  refine x_get_X11_164 C dX11_onesOfAll_6 ?_
  refine g_icmp_ge C 33 dX11_onesOfAll_9 rfl (fun c1 => ?_) (fun c1 => ?_)
  · replace h := h.1 c1
    refine g_iload_n C (i := 1) dX11_onesOfAll_33 rfl rfl ?_
    exact g_ret_i C dX11_onesOfAll_34 (Nat.le_refl _) (Nat.le_refl _) ⟨_, rfl, rfl, h⟩
  · replace h := h.2 c1
    refine g_iload_n C (i := 1) dX11_onesOfAll_12 rfl rfl ?_
    refine g_aload_n C (i := 0) dX11_onesOfAll_13 rfl rfl ?_
    refine x_get_X11_11 C dX11_onesOfAll_14 ?_
    refine g_iload_n C (i := 2) dX11_onesOfAll_17 rfl rfl ?_
    obtain ⟨h2, h⟩ := h
    refine x_aald C (k := 0) (by decide) h2 dX11_onesOfAll_18 ?_
    obtain ⟨z3, h4, h5, h⟩ := h
    refine g_eqs (st' := [.ref z3, .int v1]) (by rw [h4]; rfl) rfl ?_
    refine x_get_X11_182 C h5 dX11_onesOfAll_19 ?_
    refine x_callS C (wJ13_k_bitCount_95d88 (sW (S z3)) I J R L S _ h) sX11_352 (rl_ok (by decide) (by decide)) rfl (Nat.le_of_ble_eq_true rfl) (st := [.int v1]) _ rfl dX11_onesOfAll_22 (py_i (fun r6 h => ?_))
    refine g_iadd C dX11_onesOfAll_25 ?_
    refine g_istore_n C (i := 1) [(0, .ref (o 0)), (1, .int (v1 + r6)), (2, .int v2)] dX11_onesOfAll_26 rfl (by decide) rfl ?_
    refine g_iinc C 1 [(0, .ref (o 0)), (1, .int (v1 + r6)), (2, .int (v2 + 1))] dX11_onesOfAll_27 rfl (by decide) (by decide) rfl ?_
    refine g_goto C 4 dX11_onesOfAll_30 rfl ?_
    exact g_weak [0, 1, 2] rfl (Nat.le_refl _) (Nat.le_refl _) (hB4 (v1 + r6) (v2 + 1)  h)
theorem wX11_onesOfAll_gl4 {Γ : gT} {D : gD} {ca : Nat → ClassId} {o : Nat → Nat} {Q : Int32 → Prop} {I : gI} {J : gJ} {R : gR} {L : List Nat} {S : gS} (C : Cx Γ cX11_onesOfAll RX11 3 D (tyW ca) (rl 1) (some .int) 0 0 (PYi ca o I J R L S Q)) : ∀ (n : Nat) (v1 : Int32) (v2 : Int32) (_ : wX11_onesOfAll_l4 I J R L S Q n v1 v2 ), G Γ 0 0 4 [(0, .ref (o 0)), (1, .int v1), (2, .int v2)] [] (cX ca o I J R L S) := by
  intro n
  induction n with
  | zero => intro v1 v2  h; exact h.elim
  | succ n ih => intro v1 v2  h; exact wX11_onesOfAll_gb4 C ih v1 v2 h
set_option maxRecDepth 100000 in
theorem wX11_onesOfAll_g {Γ : gT} {D : gD} {ca : Nat → ClassId} {o : Nat → Nat} {I : gI} {J : gJ} {R : gR} {L : List Nat} {S : gS} {Q : Int32 → Prop} (C : Cx Γ cX11_onesOfAll RX11 3 D (tyW ca) (rl 1) (some .int) 0 0 (PYi ca o I J R L S Q)) (h : wX11_onesOfAll I J R L S Q) : G Γ 0 0 0 [(0, .ref (o 0))] [] (cX ca o I J R L S) := by
  unfold wX11_onesOfAll at h
  refine g_iconst_0 C dX11_onesOfAll_0 ?_
  refine g_istore_n C (i := 1) [(0, .ref (o 0)), (1, .int 0)] dX11_onesOfAll_1 rfl (by decide) rfl ?_
  refine g_iconst_0 C dX11_onesOfAll_2 ?_
  refine g_istore_n C (i := 2) [(0, .ref (o 0)), (1, .int 0), (2, .int 0)] dX11_onesOfAll_3 rfl (by decide) rfl ?_
  obtain ⟨n, h⟩ := h
  exact g_weak [0, 1, 2] rfl (Nat.le_refl _) (Nat.le_refl _) (wX11_onesOfAll_gl4  C  n 0 0  h)
theorem wX11_k_onesOfAll {D : gD} {ca : Nat → ClassId} {o : Nat → Nat} {L : List Nat} {S : gS} (I : gI) (J : gJ) (R : gR) (L0 : List Nat) (S0 : gS) (Q : Int32 → Prop) (h : wX11_onesOfAll I J R L S Q) : Ct yX11_onesOfAll cX11_onesOfAll 3 (some .int) (rl 1) D (tyW ca) 0 0 [.ref (o 0)] (cX ca o I J R L S) (PYi ca o I J R L S Q) := ct_of (rm := (rl 1)) (by decide +kernel) (Nat.le_of_ble_eq_true rfl) (fun Γ C => wX11_onesOfAll_g C h)
set_option maxRecDepth 100000 in
theorem wX11_noRow_g {Γ : gT} {D : gD} {ca : Nat → ClassId} {o : Nat → Nat} {I : gI} {J : gJ} {R : gR} {L : List Nat} {S : gS} {Q : Int32 → Prop} (v1 : Int32) (C : Cx Γ cX11_noRow RX11 2 D (tyW ca) (rl 1) (some .int) 0 0 (PYi ca o I J R L S Q)) (h : wX11_noRow v1 I J R L S Q) : G Γ 0 0 0 [(0, .ref (o 0)), (1, .int v1)] [] (cX ca o I J R L S) := by
  unfold wX11_noRow at h
  refine g_aload_n C (i := 0) dX11_noRow_0 rfl rfl ?_
  refine g_iload_n C (i := 1) dX11_noRow_1 rfl rfl ?_
  refine x_callV C (wX11_k_isShelf v1 I J R L S _ h) sX11_69 rcv_main (rl_ok (by decide) (by decide)) rfl (Nat.le_of_ble_eq_true rfl) (st := []) _ rfl dX11_noRow_2 (py_z (fun r1 h => ?_))
  refine g_zne C 10 dX11_noRow_5 rfl (fun c2 => ?_) (fun c2 => ?_)
  · replace h := h.1 c2
    refine g_aload_n C (i := 0) dX11_noRow_10 rfl rfl ?_
    refine x_get_X11_24 C dX11_noRow_11 ?_
    refine g_iload_n C (i := 1) dX11_noRow_14 rfl rfl ?_
    obtain ⟨h3, h⟩ := h
    refine x_shelf C h3 dX11_noRow_15 ?_
    refine x_callV C (wX8_k_holdsRow (vp_lt h3) I J R L S _ h) sX11_109 (rcv_shelf (s := v1.toNatClampNeg) (vp_lt h3)) (rl_ok (by decide) (by decide)) rfl (Nat.le_of_ble_eq_true rfl) (st := []) _ rfl dX11_noRow_16 (py_z (fun r4 h => ?_))
    refine g_zeq C 24 dX11_noRow_19 rfl (fun c5 => ?_) (fun c5 => ?_)
    · replace h := h.1 c5
      refine g_aload_n C (i := 0) dX11_noRow_24 rfl rfl ?_
      refine x_get_X11_24 C dX11_noRow_25 ?_
      refine g_iload_n C (i := 1) dX11_noRow_28 rfl rfl ?_
      refine x_shelf C h3 dX11_noRow_29 ?_
      refine x_callV C (wX8_k_holdsStrip (vp_lt h3) I J R L S _ h) sX11_105 (rcv_shelf (s := v1.toNatClampNeg) (vp_lt h3)) (rl_ok (by decide) (by decide)) rfl (Nat.le_of_ble_eq_true rfl) (st := []) _ rfl dX11_noRow_30 (py_z (fun r6 h => ?_))
      refine g_zeq C 41 dX11_noRow_33 rfl (fun c7 => ?_) (fun c7 => ?_)
      · replace h := h.1 c7
        refine g_bipush C (v := (-3)) dX11_noRow_41 (by decide) ?_
        exact g_ret_i C dX11_noRow_43 (Nat.le_refl _) (Nat.le_refl _) ⟨_, rfl, rfl, h⟩
      · replace h := h.2 c7
        refine g_bipush C (v := (-2)) dX11_noRow_36 (by decide) ?_
        refine g_goto C 43 dX11_noRow_38 rfl ?_
        exact g_ret_i C dX11_noRow_43 (Nat.le_refl _) (Nat.le_refl _) ⟨_, rfl, rfl, h⟩
    · replace h := h.2 c5
      refine g_iconst_0 C dX11_noRow_22 ?_
      exact g_ret_i C dX11_noRow_23 (Nat.le_refl _) (Nat.le_refl _) ⟨_, rfl, rfl, h⟩
  · replace h := h.2 c2
    refine g_iconst_m1 C dX11_noRow_8 ?_
    exact g_ret_i C dX11_noRow_9 (Nat.le_refl _) (Nat.le_refl _) ⟨_, rfl, rfl, h⟩
theorem wX11_k_noRow {D : gD} {ca : Nat → ClassId} {o : Nat → Nat} {L : List Nat} {S : gS} (v1 : Int32) (I : gI) (J : gJ) (R : gR) (L0 : List Nat) (S0 : gS) (Q : Int32 → Prop) (h : wX11_noRow v1 I J R L S Q) : Ct yX11_noRow cX11_noRow 2 (some .int) (rl 1) D (tyW ca) 0 0 [.ref (o 0), .int v1] (cX ca o I J R L S) (PYi ca o I J R L S Q) := ct_of (rm := (rl 1)) (by decide +kernel) (Nat.le_of_ble_eq_true rfl) (fun Γ C => wX11_noRow_g v1 C h)
set_option maxRecDepth 100000 in
theorem wX11_clearShelvesOfLostStrips_gb2 {Γ : gT} {D : gD} {ca : Nat → ClassId} {o : Nat → Nat} {Q : gI → gJ → gR → Prop} {L : List Nat} {S : gS} (C : Cx Γ cX11_clearShelvesOfLostStrips RX11 2 D (tyW ca) (rl 1) none 0 0 (PXv ca o L S Q)) {B2 : Int32 → gI → gJ → gR → Prop} (hB2 : ∀ (v1 : Int32) (I : gI) (J : gJ) (R : gR), B2 v1 I J R → G Γ 0 0 2 [(0, .ref (o 0)), (1, .int v1)] [] (cX ca o I J R L S)) (v1 : Int32) (I : gI) (J : gJ) (R : gR) (h : wX11_clearShelvesOfLostStrips_b2 L S B2 v1 I J R Q) : G Γ 0 0 2 [(0, .ref (o 0)), (1, .int v1)] [] (cX ca o I J R L S) := by
  unfold wX11_clearShelvesOfLostStrips_b2 at h
  refine g_iload_n C (i := 1) dX11_clearShelvesOfLostStrips_2 rfl rfl ?_
  refine g_aload_n C (i := 0) dX11_clearShelvesOfLostStrips_3 rfl rfl ?_
  refine x_get_X11_24 C dX11_clearShelvesOfLostStrips_4 ?_
  refine x_slen C dX11_clearShelvesOfLostStrips_7 ?_
  refine g_icmp_ge C 55 dX11_clearShelvesOfLostStrips_8 rfl (fun c1 => ?_) (fun c1 => ?_)
  · replace h := h.1 c1
    exact g_ret_v C dX11_clearShelvesOfLostStrips_55 (Nat.le_refl _) (Nat.le_refl _) ⟨_, _, _, rfl, rfl, h⟩
  · replace h := h.2 c1
    refine g_aload_n C (i := 0) dX11_clearShelvesOfLostStrips_11 rfl rfl ?_
    refine x_get_X11_24 C dX11_clearShelvesOfLostStrips_12 ?_
    refine g_iload_n C (i := 1) dX11_clearShelvesOfLostStrips_15 rfl rfl ?_
    obtain ⟨h2, h⟩ := h
    refine x_shelf C h2 dX11_clearShelvesOfLostStrips_16 ?_
    refine x_callV C (wX8_k_holdsStrip (vp_lt h2) I J R L S _ h) sX11_105 (rcv_shelf (s := v1.toNatClampNeg) (vp_lt h2)) (rl_ok (by decide) (by decide)) rfl (Nat.le_of_ble_eq_true rfl) (st := []) _ rfl dX11_clearShelvesOfLostStrips_17 (py_z (fun r3 h => ?_))
    refine g_zeq C 49 dX11_clearShelvesOfLostStrips_20 rfl (fun c4 => ?_) (fun c4 => ?_)
    · replace h := h.1 c4
      refine g_iinc C 1 [(0, .ref (o 0)), (1, .int (v1 + 1))] dX11_clearShelvesOfLostStrips_49 rfl (by decide) (by decide) rfl ?_
      refine g_goto C 2 dX11_clearShelvesOfLostStrips_52 rfl ?_
      exact g_weak [0, 1] rfl (Nat.le_refl _) (Nat.le_refl _) (hB2 (v1 + 1) I J R h)
    · replace h := h.2 c4
      refine g_aload_n C (i := 0) dX11_clearShelvesOfLostStrips_23 rfl rfl ?_
      refine x_get_X11_24 C dX11_clearShelvesOfLostStrips_24 ?_
      refine g_iload_n C (i := 1) dX11_clearShelvesOfLostStrips_27 rfl rfl ?_
      refine x_shelf C h2 dX11_clearShelvesOfLostStrips_28 ?_
      refine x_get_X11_112 C (s := v1.toNatClampNeg) (vp_lt h2) dX11_clearShelvesOfLostStrips_29 ?_
      refine g_aload_n C (i := 0) dX11_clearShelvesOfLostStrips_32 rfl rfl ?_
      refine x_get_X11_164 C dX11_clearShelvesOfLostStrips_33 ?_
      refine g_icmp_lt C 49 dX11_clearShelvesOfLostStrips_36 rfl (fun c5 => ?_) (fun c5 => ?_)
      · replace h := h.1 c5
        refine g_iinc C 1 [(0, .ref (o 0)), (1, .int (v1 + 1))] dX11_clearShelvesOfLostStrips_49 rfl (by decide) (by decide) rfl ?_
        refine g_goto C 2 dX11_clearShelvesOfLostStrips_52 rfl ?_
        exact g_weak [0, 1] rfl (Nat.le_refl _) (Nat.le_refl _) (hB2 (v1 + 1) I J R h)
      · replace h := h.2 c5
        refine g_aload_n C (i := 0) dX11_clearShelvesOfLostStrips_39 rfl rfl ?_
        refine x_get_X11_24 C dX11_clearShelvesOfLostStrips_40 ?_
        refine g_iload_n C (i := 1) dX11_clearShelvesOfLostStrips_43 rfl rfl ?_
        refine x_shelf C h2 dX11_clearShelvesOfLostStrips_44 ?_
        refine g_iconst_m1 C dX11_clearShelvesOfLostStrips_45 ?_
        refine x_callV C (wX8_k_hold (vp_lt h2) (-1) I J R L S _ h) sX11_121 (rcv_shelf (s := v1.toNatClampNeg) (vp_lt h2)) (rl_ok (by decide) (by decide)) rfl (Nat.le_of_ble_eq_true rfl) (st := []) _ rfl dX11_clearShelvesOfLostStrips_46 (px_v (fun I7 J8 R9 h => ?_))
        refine g_iinc C 1 [(0, .ref (o 0)), (1, .int (v1 + 1))] dX11_clearShelvesOfLostStrips_49 rfl (by decide) (by decide) rfl ?_
        refine g_goto C 2 dX11_clearShelvesOfLostStrips_52 rfl ?_
        exact g_weak [0, 1] rfl (Nat.le_refl _) (Nat.le_refl _) (hB2 (v1 + 1) I7 J8 R9 h)
theorem wX11_clearShelvesOfLostStrips_gl2 {Γ : gT} {D : gD} {ca : Nat → ClassId} {o : Nat → Nat} {Q : gI → gJ → gR → Prop} {L : List Nat} {S : gS} (C : Cx Γ cX11_clearShelvesOfLostStrips RX11 2 D (tyW ca) (rl 1) none 0 0 (PXv ca o L S Q)) : ∀ (n : Nat) (v1 : Int32) (I : gI) (J : gJ) (R : gR) (_ : wX11_clearShelvesOfLostStrips_l2 L S Q n v1 I J R), G Γ 0 0 2 [(0, .ref (o 0)), (1, .int v1)] [] (cX ca o I J R L S) := by
  intro n
  induction n with
  | zero => intro v1 I J R h; exact h.elim
  | succ n ih => intro v1 I J R h; exact wX11_clearShelvesOfLostStrips_gb2 C ih v1 I J R h
set_option maxRecDepth 100000 in
theorem wX11_clearShelvesOfLostStrips_g {Γ : gT} {D : gD} {ca : Nat → ClassId} {o : Nat → Nat} {I : gI} {J : gJ} {R : gR} {L : List Nat} {S : gS} {Q : gI → gJ → gR → Prop} (C : Cx Γ cX11_clearShelvesOfLostStrips RX11 2 D (tyW ca) (rl 1) none 0 0 (PXv ca o L S Q)) (h : wX11_clearShelvesOfLostStrips I J R L S Q) : G Γ 0 0 0 [(0, .ref (o 0))] [] (cX ca o I J R L S) := by
  unfold wX11_clearShelvesOfLostStrips at h
  refine g_iconst_0 C dX11_clearShelvesOfLostStrips_0 ?_
  refine g_istore_n C (i := 1) [(0, .ref (o 0)), (1, .int 0)] dX11_clearShelvesOfLostStrips_1 rfl (by decide) rfl ?_
  obtain ⟨n, h⟩ := h
  exact g_weak [0, 1] rfl (Nat.le_refl _) (Nat.le_refl _) (wX11_clearShelvesOfLostStrips_gl2  C  n 0 I J R h)
theorem wX11_k_clearShelvesOfLostStrips {D : gD} {ca : Nat → ClassId} {o : Nat → Nat} {L : List Nat} {S : gS} (I : gI) (J : gJ) (R : gR) (L0 : List Nat) (S0 : gS) (Q : gI → gJ → gR → Prop) (h : wX11_clearShelvesOfLostStrips I J R L S Q) : Ct yX11_clearShelvesOfLostStrips cX11_clearShelvesOfLostStrips 2 none (rl 1) D (tyW ca) 0 0 [.ref (o 0)] (cX ca o I J R L S) (PXv ca o L S Q) := ct_of (rm := (rl 1)) (by decide +kernel) (Nat.le_of_ble_eq_true rfl) (fun Γ C => wX11_clearShelvesOfLostStrips_g C h)
theorem sX1_29 : gSite RX1 yX1_standAt cX1_standAt 5 none 29 2 := gSite.of (tb_in (List.mem_of_getElem? (i := 826) (by decide +kernel)) (by decide +kernel)) (tb_in (List.mem_of_getElem? (i := 819) (by decide +kernel)) (by decide +kernel)) (tb_in (List.mem_of_getElem? (i := 820) (by decide +kernel)) (by decide +kernel)) (tb_in (List.mem_of_getElem? (i := 84) (by decide +kernel)) (by decide +kernel)) (tb_in (List.mem_of_getElem? (i := 821) (by decide +kernel)) (by decide +kernel)) (by decide +kernel)
set_option maxRecDepth 100000 in
theorem wX1_setOut_g {Γ : gT} {D : gD} {ca : Nat → ClassId} {o : Nat → Nat} {I : gI} {J : gJ} {R : gR} {L : List Nat} {S : gS} {Q : gI → gJ → gR → Prop} {n0 : Nat} (hn0 : n0 < 2) {q1 : Nat} (hq1 : q1 ∈ L) (v2 : Int64) (v4 : Int64) (v6 : Int32) (C : Cx Γ cX1_setOut RX1 7 D (tyW ca) (rl 1) none 0 0 (PXv ca o L S Q)) (h : wX1_setOut n0 q1 v2 v4 v6 I J R L S Q) : G Γ 0 0 0 [(0, .ref (o (10 + n0))), (1, .ref q1), (2, .long v2), (4, .long v4), (6, .int v6)] [] (cX ca o I J R L S) := by
  unfold wX1_setOut at h
  refine g_aload_n C (i := 0) dX1_setOut_0 rfl rfl ?_
  refine g_aload_n C (i := 1) dX1_setOut_1 rfl rfl ?_
  refine x_put_X1_18 C (b := n0) (v := (some q1)) hn0 dX1_setOut_2 ?_
  refine x_nmR _ (fun R1 e2 => ?_)
  replace h := h R1 e2
  refine g_aload_n C (i := 0) dX1_setOut_5 rfl rfl ?_
  refine g_iconst_0 C dX1_setOut_6 ?_
  refine x_put_X1_22 C (b := n0) hn0 dX1_setOut_7 ?_
  refine x_nmI _ (fun I3 e4 => ?_)
  replace h := h I3 e4
  refine g_aload_n C (i := 0) dX1_setOut_10 rfl rfl ?_
  refine g_iload C (i := 6) dX1_setOut_11 rfl ?_
  refine x_put_X1_26 C (b := n0) hn0 dX1_setOut_13 ?_
  refine x_nmI _ (fun I5 e6 => ?_)
  replace h := h I5 e6
  refine g_aload_n C (i := 0) dX1_setOut_16 rfl rfl ?_
  refine g_lload_n C (i := 2) dX1_setOut_17 rfl rfl ?_
  refine g_lload C (i := 4) dX1_setOut_18 rfl ?_
  refine x_callV C (wX1_k_standAt hn0 v2 v4 I5 J R1 L S _ h) sX1_29 (rcv_bug (b := n0) hn0) (rl_ok (by decide) (by decide)) rfl (Nat.le_of_ble_eq_true rfl) (st := []) _ rfl dX1_setOut_20 (px_v (fun I8 J9 R10 h => ?_))
  exact g_ret_v C dX1_setOut_23 (Nat.le_refl _) (Nat.le_refl _) ⟨_, _, _, rfl, rfl, h⟩
theorem wX1_k_setOut {D : gD} {ca : Nat → ClassId} {o : Nat → Nat} {L : List Nat} {S : gS} {n0 : Nat} (hn0 : n0 < 2) {q1 : Nat} (hq1 : q1 ∈ L) (v2 : Int64) (v4 : Int64) (v6 : Int32) (I : gI) (J : gJ) (R : gR) (L0 : List Nat) (S0 : gS) (Q : gI → gJ → gR → Prop) (h : wX1_setOut n0 q1 v2 v4 v6 I J R L S Q) : Ct yX1_setOut cX1_setOut 7 none (rl 1) D (tyW ca) 0 0 [.ref (o (10 + n0)), .ref q1, .long v2, .long v4, .int v6] (cX ca o I J R L S) (PXv ca o L S Q) := ct_of (rm := (rl 1)) (by decide +kernel) (Nat.le_of_ble_eq_true rfl) (fun Γ C => wX1_setOut_g hn0 hq1 v2 v4 v6 C h)
set_option maxRecDepth 100000 in
theorem wX1_stretch_g {Γ : gT} {D : gD} {ca : Nat → ClassId} {o : Nat → Nat} {I : gI} {J : gJ} {R : gR} {L : List Nat} {S : gS} {Q : gI → gJ → gR → Prop} {n0 : Nat} (hn0 : n0 < 2) (v1 : Int32) (v2 : Int32) (C : Cx Γ cX1_stretch RX1 3 D (tyW ca) (rl 1) none 0 0 (PXv ca o L S Q)) (h : wX1_stretch n0 v1 v2 I J R L S Q) : G Γ 0 0 0 [(0, .ref (o (10 + n0))), (1, .int v1), (2, .int v2)] [] (cX ca o I J R L S) := by
  unfold wX1_stretch at h
  refine g_aload_n C (i := 0) dX1_stretch_0 rfl rfl ?_
  refine g_iload_n C (i := 1) dX1_stretch_1 rfl rfl ?_
  refine g_i2l C dX1_stretch_2 ?_
  refine g_aload_n C (i := 0) dX1_stretch_3 rfl rfl ?_
  refine x_get_X1_47 C (b := n0) hn0 dX1_stretch_4 ?_
  refine g_lmul C dX1_stretch_7 ?_
  refine g_iload_n C (i := 2) dX1_stretch_8 rfl rfl ?_
  refine g_i2l C dX1_stretch_9 ?_
  refine g_aload_n C (i := 0) dX1_stretch_10 rfl rfl ?_
  refine x_get_X1_51 C (b := n0) hn0 dX1_stretch_11 ?_
  refine g_lmul C dX1_stretch_14 ?_
  refine g_lsub C dX1_stretch_15 ?_
  refine g_iload_n C (i := 1) dX1_stretch_16 rfl rfl ?_
  refine g_i2l C dX1_stretch_17 ?_
  refine g_aload_n C (i := 0) dX1_stretch_18 rfl rfl ?_
  refine x_get_X1_51 C (b := n0) hn0 dX1_stretch_19 ?_
  refine g_lmul C dX1_stretch_22 ?_
  refine g_iload_n C (i := 2) dX1_stretch_23 rfl rfl ?_
  refine g_i2l C dX1_stretch_24 ?_
  refine g_aload_n C (i := 0) dX1_stretch_25 rfl rfl ?_
  refine x_get_X1_47 C (b := n0) hn0 dX1_stretch_26 ?_
  refine g_lmul C dX1_stretch_29 ?_
  refine g_ladd C dX1_stretch_30 ?_
  refine x_callV C (wX1_k_standAt hn0 ((v1.toInt64 * (J 1 n0)) - (v2.toInt64 * (J 2 n0))) ((v1.toInt64 * (J 2 n0)) + (v2.toInt64 * (J 1 n0))) I J R L S _ h) sX1_29 (rcv_bug (b := n0) hn0) (rl_ok (by decide) (by decide)) rfl (Nat.le_of_ble_eq_true rfl) (st := []) _ rfl dX1_stretch_31 (px_v (fun I2 J3 R4 h => ?_))
  exact g_ret_v C dX1_stretch_34 (Nat.le_refl _) (Nat.le_refl _) ⟨_, _, _, rfl, rfl, h⟩
theorem wX1_k_stretch {D : gD} {ca : Nat → ClassId} {o : Nat → Nat} {L : List Nat} {S : gS} {n0 : Nat} (hn0 : n0 < 2) (v1 : Int32) (v2 : Int32) (I : gI) (J : gJ) (R : gR) (L0 : List Nat) (S0 : gS) (Q : gI → gJ → gR → Prop) (h : wX1_stretch n0 v1 v2 I J R L S Q) : Ct yX1_stretch cX1_stretch 3 none (rl 1) D (tyW ca) 0 0 [.ref (o (10 + n0)), .int v1, .int v2] (cX ca o I J R L S) (PXv ca o L S Q) := ct_of (rm := (rl 1)) (by decide +kernel) (Nat.le_of_ble_eq_true rfl) (fun Γ C => wX1_stretch_g hn0 v1 v2 C h)
set_option maxRecDepth 100000 in
theorem wX1_turnRound_gb2 {Γ : gT} {D : gD} {ca : Nat → ClassId} {o : Nat → Nat} {Q : gI → gJ → gR → Prop} {L : List Nat} {S : gS} {n0 : Nat} (hn0 : n0 < 2) (C : Cx Γ cX1_turnRound RX1 3 D (tyW ca) (rl 1) none 0 0 (PXv ca o L S Q)) {B2 : Int32 → Int32 → gI → gJ → gR → Prop} (hB2 : ∀ (v1 : Int32) (v2 : Int32) (I : gI) (J : gJ) (R : gR), B2 v1 v2 I J R → G Γ 0 0 2 [(0, .ref (o (10 + n0))), (1, .int v1), (2, .int v2)] [] (cX ca o I J R L S)) (v1 : Int32) (v2 : Int32) (I : gI) (J : gJ) (R : gR) (h : wX1_turnRound_b2 n0 L S B2 v1 v2 I J R Q) : G Γ 0 0 2 [(0, .ref (o (10 + n0))), (1, .int v1), (2, .int v2)] [] (cX ca o I J R L S) := by
  unfold wX1_turnRound_b2 at h
  refine g_iload_n C (i := 2) dX1_turnRound_2 rfl rfl ?_
  refine g_iload_n C (i := 1) dX1_turnRound_3 rfl rfl ?_
  refine g_iconst_3 C dX1_turnRound_4 ?_
  refine g_iand C dX1_turnRound_5 ?_
  refine g_icmp_ge C 28 dX1_turnRound_6 rfl (fun c1 => ?_) (fun c1 => ?_)
  · replace h := h.1 c1
    exact g_ret_v C dX1_turnRound_28 (Nat.le_refl _) (Nat.le_refl _) ⟨_, _, _, rfl, rfl, h⟩
  · replace h := h.2 c1
    refine g_aload_n C (i := 0) dX1_turnRound_9 rfl rfl ?_
    refine g_aload_n C (i := 0) dX1_turnRound_10 rfl rfl ?_
    refine x_get_X1_51 C (b := n0) hn0 dX1_turnRound_11 ?_
    refine g_lneg C dX1_turnRound_14 ?_
    refine g_aload_n C (i := 0) dX1_turnRound_15 rfl rfl ?_
    refine x_get_X1_47 C (b := n0) hn0 dX1_turnRound_16 ?_
    refine x_callV C (wX1_k_standAt hn0 (-(J 2 n0)) (J 1 n0) I J R L S _ h) sX1_29 (rcv_bug (b := n0) hn0) (rl_ok (by decide) (by decide)) rfl (Nat.le_of_ble_eq_true rfl) (st := []) _ rfl dX1_turnRound_19 (px_v (fun I3 J4 R5 h => ?_))
    refine g_iinc C 1 [(0, .ref (o (10 + n0))), (1, .int v1), (2, .int (v2 + 1))] dX1_turnRound_22 rfl (by decide) (by decide) rfl ?_
    refine g_goto C 2 dX1_turnRound_25 rfl ?_
    exact g_weak [0, 1, 2] rfl (Nat.le_refl _) (Nat.le_refl _) (hB2 v1 (v2 + 1) I3 J4 R5 h)
theorem wX1_turnRound_gl2 {Γ : gT} {D : gD} {ca : Nat → ClassId} {o : Nat → Nat} {Q : gI → gJ → gR → Prop} {L : List Nat} {S : gS} {n0 : Nat} (hn0 : n0 < 2) (C : Cx Γ cX1_turnRound RX1 3 D (tyW ca) (rl 1) none 0 0 (PXv ca o L S Q)) : ∀ (n : Nat) (v1 : Int32) (v2 : Int32) (I : gI) (J : gJ) (R : gR) (_ : wX1_turnRound_l2 n0 L S Q n v1 v2 I J R), G Γ 0 0 2 [(0, .ref (o (10 + n0))), (1, .int v1), (2, .int v2)] [] (cX ca o I J R L S) := by
  intro n
  induction n with
  | zero => intro v1 v2 I J R h; exact h.elim
  | succ n ih => intro v1 v2 I J R h; exact wX1_turnRound_gb2 hn0 C ih v1 v2 I J R h
set_option maxRecDepth 100000 in
theorem wX1_turnRound_g {Γ : gT} {D : gD} {ca : Nat → ClassId} {o : Nat → Nat} {I : gI} {J : gJ} {R : gR} {L : List Nat} {S : gS} {Q : gI → gJ → gR → Prop} {n0 : Nat} (hn0 : n0 < 2) (v1 : Int32) (C : Cx Γ cX1_turnRound RX1 3 D (tyW ca) (rl 1) none 0 0 (PXv ca o L S Q)) (h : wX1_turnRound n0 v1 I J R L S Q) : G Γ 0 0 0 [(0, .ref (o (10 + n0))), (1, .int v1)] [] (cX ca o I J R L S) := by
  unfold wX1_turnRound at h
  refine g_iconst_0 C dX1_turnRound_0 ?_
  refine g_istore_n C (i := 2) [(0, .ref (o (10 + n0))), (1, .int v1), (2, .int 0)] dX1_turnRound_1 rfl (by decide) rfl ?_
  obtain ⟨n, h⟩ := h
  exact g_weak [0, 1, 2] rfl (Nat.le_refl _) (Nat.le_refl _) (wX1_turnRound_gl2 hn0 C  n v1 0 I J R h)
theorem wX1_k_turnRound {D : gD} {ca : Nat → ClassId} {o : Nat → Nat} {L : List Nat} {S : gS} {n0 : Nat} (hn0 : n0 < 2) (v1 : Int32) (I : gI) (J : gJ) (R : gR) (L0 : List Nat) (S0 : gS) (Q : gI → gJ → gR → Prop) (h : wX1_turnRound n0 v1 I J R L S Q) : Ct yX1_turnRound cX1_turnRound 3 none (rl 1) D (tyW ca) 0 0 [.ref (o (10 + n0)), .int v1] (cX ca o I J R L S) (PXv ca o L S Q) := ct_of (rm := (rl 1)) (by decide +kernel) (Nat.le_of_ble_eq_true rfl) (fun Γ C => wX1_turnRound_g hn0 v1 C h)
theorem sX1_54 : gSiteS RX1 yX1_key cX1_key 7 (some .int) 54 3 := gSiteS.of (tb_in (List.mem_of_getElem? (i := 897) (by decide +kernel)) (by decide +kernel)) (tb_in (List.mem_of_getElem? (i := 898) (by decide +kernel)) (by decide +kernel)) (tb_in (List.mem_of_getElem? (i := 84) (by decide +kernel)) (by decide +kernel)) (tb_in (List.mem_of_getElem? (i := 899) (by decide +kernel)) (by decide +kernel)) (by decide +kernel)
set_option maxRecDepth 100000 in
theorem wX1_placeKey_g {Γ : gT} {D : gD} {ca : Nat → ClassId} {o : Nat → Nat} {I : gI} {J : gJ} {R : gR} {L : List Nat} {S : gS} {Q : Int32 → Prop} {n0 : Nat} (hn0 : n0 < 2) (C : Cx Γ cX1_placeKey RX1 1 D (tyW ca) (rl 1) (some .int) 0 0 (PYi ca o I J R L S Q)) (h : wX1_placeKey n0 I J R L S Q) : G Γ 0 0 0 [(0, .ref (o (10 + n0)))] [] (cX ca o I J R L S) := by
  unfold wX1_placeKey at h
  refine g_aload_n C (i := 0) dX1_placeKey_0 rfl rfl ?_
  refine x_get_X1_47 C (b := n0) hn0 dX1_placeKey_1 ?_
  refine g_aload_n C (i := 0) dX1_placeKey_4 rfl rfl ?_
  refine x_get_X1_51 C (b := n0) hn0 dX1_placeKey_5 ?_
  refine g_iconst_0 C dX1_placeKey_8 ?_
  refine x_callS C (wX1_k_key (J 1 n0) (J 2 n0) 0 I J R L S _ h) sX1_54 (rl_ok (by decide) (by decide)) rfl (Nat.le_of_ble_eq_true rfl) (st := []) _ rfl dX1_placeKey_9 (py_i (fun r1 h => ?_))
  exact g_ret_i C dX1_placeKey_12 (Nat.le_refl _) (Nat.le_refl _) ⟨_, rfl, rfl, h⟩
theorem wX1_k_placeKey {D : gD} {ca : Nat → ClassId} {o : Nat → Nat} {L : List Nat} {S : gS} {n0 : Nat} (hn0 : n0 < 2) (I : gI) (J : gJ) (R : gR) (L0 : List Nat) (S0 : gS) (Q : Int32 → Prop) (h : wX1_placeKey n0 I J R L S Q) : Ct yX1_placeKey cX1_placeKey 1 (some .int) (rl 1) D (tyW ca) 0 0 [.ref (o (10 + n0))] (cX ca o I J R L S) (PYi ca o I J R L S Q) := ct_of (rm := (rl 1)) (by decide +kernel) (Nat.le_of_ble_eq_true rfl) (fun Γ C => wX1_placeKey_g hn0 C h)
set_option maxRecDepth 100000 in
theorem wX1_sideKey_g {Γ : gT} {D : gD} {ca : Nat → ClassId} {o : Nat → Nat} {I : gI} {J : gJ} {R : gR} {L : List Nat} {S : gS} {Q : Int32 → Prop} {n0 : Nat} (hn0 : n0 < 2) (C : Cx Γ cX1_sideKey RX1 1 D (tyW ca) (rl 1) (some .int) 0 0 (PYi ca o I J R L S Q)) (h : wX1_sideKey n0 I J R L S Q) : G Γ 0 0 0 [(0, .ref (o (10 + n0)))] [] (cX ca o I J R L S) := by
  unfold wX1_sideKey at h
  refine g_aload_n C (i := 0) dX1_sideKey_0 rfl rfl ?_
  refine x_get_X1_26 C (b := n0) hn0 dX1_sideKey_1 ?_
  refine g_iconst_3 C dX1_sideKey_4 ?_
  refine g_iand C dX1_sideKey_5 ?_
  by_cases c1 : ((I 2 n0) &&& 3) = 0
  · replace h := h.1 c1
    refine g_tin C 32 0 c1 (by decide) (by decide) rfl rfl dX1_sideKey_6 ?_
    refine g_aload_n C (i := 0) dX1_sideKey_32 rfl rfl ?_
    refine x_get_X1_47 C (b := n0) hn0 dX1_sideKey_33 ?_
    refine g_lconst_1 C dX1_sideKey_36 ?_
    refine g_lsub C dX1_sideKey_37 ?_
    refine g_aload_n C (i := 0) dX1_sideKey_38 rfl rfl ?_
    refine x_get_X1_51 C (b := n0) hn0 dX1_sideKey_39 ?_
    refine g_iconst_0 C dX1_sideKey_42 ?_
    refine x_callS C (wX1_k_key ((J 1 n0) - 1) (J 2 n0) 0 I J R L S _ h) sX1_54 (rl_ok (by decide) (by decide)) rfl (Nat.le_of_ble_eq_true rfl) (st := []) _ rfl dX1_sideKey_43 (py_i (fun r2 h => ?_))
    exact g_ret_i C dX1_sideKey_46 (Nat.le_refl _) (Nat.le_refl _) ⟨_, rfl, rfl, h⟩
  replace h := h.2 c1
  by_cases c3 : ((I 2 n0) &&& 3) = 1
  · replace h := h.1 c3
    refine g_tin C 47 1 c3 (by decide) (by decide) rfl rfl dX1_sideKey_6 ?_
    refine g_aload_n C (i := 0) dX1_sideKey_47 rfl rfl ?_
    refine x_get_X1_47 C (b := n0) hn0 dX1_sideKey_48 ?_
    refine g_aload_n C (i := 0) dX1_sideKey_51 rfl rfl ?_
    refine x_get_X1_51 C (b := n0) hn0 dX1_sideKey_52 ?_
    refine g_lconst_1 C dX1_sideKey_55 ?_
    refine g_lsub C dX1_sideKey_56 ?_
    refine g_iconst_1 C dX1_sideKey_57 ?_
    refine x_callS C (wX1_k_key (J 1 n0) ((J 2 n0) - 1) 1 I J R L S _ h) sX1_54 (rl_ok (by decide) (by decide)) rfl (Nat.le_of_ble_eq_true rfl) (st := []) _ rfl dX1_sideKey_58 (py_i (fun r4 h => ?_))
    exact g_ret_i C dX1_sideKey_61 (Nat.le_refl _) (Nat.le_refl _) ⟨_, rfl, rfl, h⟩
  replace h := h.2 c3
  by_cases c5 : ((I 2 n0) &&& 3) = 2
  · replace h := h.1 c5
    refine g_tin C 62 2 c5 (by decide) (by decide) rfl rfl dX1_sideKey_6 ?_
    refine g_aload_n C (i := 0) dX1_sideKey_62 rfl rfl ?_
    refine x_get_X1_47 C (b := n0) hn0 dX1_sideKey_63 ?_
    refine g_aload_n C (i := 0) dX1_sideKey_66 rfl rfl ?_
    refine x_get_X1_51 C (b := n0) hn0 dX1_sideKey_67 ?_
    refine g_iconst_0 C dX1_sideKey_70 ?_
    refine x_callS C (wX1_k_key (J 1 n0) (J 2 n0) 0 I J R L S _ h) sX1_54 (rl_ok (by decide) (by decide)) rfl (Nat.le_of_ble_eq_true rfl) (st := []) _ rfl dX1_sideKey_71 (py_i (fun r6 h => ?_))
    exact g_ret_i C dX1_sideKey_74 (Nat.le_refl _) (Nat.le_refl _) ⟨_, rfl, rfl, h⟩
  replace h := h.2 c5
  refine g_tout C 75 (by have := g_ne (v := 0) (n := 0) c1 (by decide); have := g_ne (v := 1) (n := 1) c3 (by decide); have := g_ne (v := 2) (n := 2) c5 (by decide); omega) rfl dX1_sideKey_6 ?_
  refine g_aload_n C (i := 0) dX1_sideKey_75 rfl rfl ?_
  refine x_get_X1_47 C (b := n0) hn0 dX1_sideKey_76 ?_
  refine g_aload_n C (i := 0) dX1_sideKey_79 rfl rfl ?_
  refine x_get_X1_51 C (b := n0) hn0 dX1_sideKey_80 ?_
  refine g_iconst_1 C dX1_sideKey_83 ?_
  refine x_callS C (wX1_k_key (J 1 n0) (J 2 n0) 1 I J R L S _ h) sX1_54 (rl_ok (by decide) (by decide)) rfl (Nat.le_of_ble_eq_true rfl) (st := []) _ rfl dX1_sideKey_84 (py_i (fun r7 h => ?_))
  exact g_ret_i C dX1_sideKey_87 (Nat.le_refl _) (Nat.le_refl _) ⟨_, rfl, rfl, h⟩
theorem wX1_k_sideKey {D : gD} {ca : Nat → ClassId} {o : Nat → Nat} {L : List Nat} {S : gS} {n0 : Nat} (hn0 : n0 < 2) (I : gI) (J : gJ) (R : gR) (L0 : List Nat) (S0 : gS) (Q : Int32 → Prop) (h : wX1_sideKey n0 I J R L S Q) : Ct yX1_sideKey cX1_sideKey 1 (some .int) (rl 1) D (tyW ca) 0 0 [.ref (o (10 + n0))] (cX ca o I J R L S) (PYi ca o I J R L S Q) := ct_of (rm := (rl 1)) (by decide +kernel) (Nat.le_of_ble_eq_true rfl) (fun Γ C => wX1_sideKey_g hn0 C h)
theorem sX1_58 : gSiteS RX1 yJ7_fill_53178 cJ7_fill_53178 4 none 58 2 := gSiteS.of (tb_in (List.mem_of_getElem? (i := 890) (by decide +kernel)) (by decide +kernel)) (tb_in (List.mem_of_getElem? (i := 891) (by decide +kernel)) (by decide +kernel)) (tb_in (List.mem_of_getElem? (i := 88) (by decide +kernel)) (by decide +kernel)) (tb_in (List.mem_of_getElem? (i := 892) (by decide +kernel)) (by decide +kernel)) (by decide +kernel)
set_option maxRecDepth 100000 in
theorem wX1_forget_g {Γ : gT} {D : gD} {ca : Nat → ClassId} {o : Nat → Nat} {I : gI} {J : gJ} {R : gR} {L : List Nat} {S : gS} {Q : gI → gJ → gR → Prop} {n0 : Nat} (hn0 : n0 < 2) (C : Cx Γ cX1_forget RX1 1 D (tyW ca) (rl 1) none 0 0 (PXv ca o L S Q)) (h : wX1_forget n0 I J R L S Q) : G Γ 0 0 0 [(0, .ref (o (10 + n0)))] [] (cX ca o I J R L S) := by
  unfold wX1_forget at h
  refine g_aload_n C (i := 0) dX1_forget_0 rfl rfl ?_
  refine x_get_X1_15 C (b := n0) hn0 dX1_forget_1 ?_
  refine g_iconst_0 C dX1_forget_4 ?_
  refine x_callS C (wJ7_k_fill_53178 (by have := hn0; omega) 0 I J R L S _ h) sX1_58 (rl_ok (by decide) (by decide)) rfl (Nat.le_of_ble_eq_true rfl) (st := []) _ rfl dX1_forget_5 (px_v (fun I2 J3 R4 h => ?_))
  exact g_ret_v C dX1_forget_8 (Nat.le_refl _) (Nat.le_refl _) ⟨_, _, _, rfl, rfl, h⟩
theorem wX1_k_forget {D : gD} {ca : Nat → ClassId} {o : Nat → Nat} {L : List Nat} {S : gS} {n0 : Nat} (hn0 : n0 < 2) (I : gI) (J : gJ) (R : gR) (L0 : List Nat) (S0 : gS) (Q : gI → gJ → gR → Prop) (h : wX1_forget n0 I J R L S Q) : Ct yX1_forget cX1_forget 1 none (rl 1) D (tyW ca) 0 0 [.ref (o (10 + n0))] (cX ca o I J R L S) (PXv ca o L S Q) := ct_of (rm := (rl 1)) (by decide +kernel) (Nat.le_of_ble_eq_true rfl) (fun Γ C => wX1_forget_g hn0 C h)
theorem sX1_64 : gSite RX1 yX1_slotOf cX1_slotOf 5 (some .int) 64 1 := gSite.of (tb_in (List.mem_of_getElem? (i := 904) (by decide +kernel)) (by decide +kernel)) (tb_in (List.mem_of_getElem? (i := 906) (by decide +kernel)) (by decide +kernel)) (tb_in (List.mem_of_getElem? (i := 18) (by decide +kernel)) (by decide +kernel)) (tb_in (List.mem_of_getElem? (i := 84) (by decide +kernel)) (by decide +kernel)) (tb_in (List.mem_of_getElem? (i := 907) (by decide +kernel)) (by decide +kernel)) (by decide +kernel)
set_option maxRecDepth 100000 in
theorem wX1_note_g {Γ : gT} {D : gD} {ca : Nat → ClassId} {o : Nat → Nat} {I : gI} {J : gJ} {R : gR} {L : List Nat} {S : gS} {Q : Int32 → gI → gJ → gR → Prop} {n0 : Nat} (hn0 : n0 < 2) (v1 : Int32) (C : Cx Γ cX1_note RX1 3 D (tyW ca) (rl 1) (some .int) 0 0 (PXi ca o L S Q)) (h : wX1_note n0 v1 I J R L S Q) : G Γ 0 0 0 [(0, .ref (o (10 + n0))), (1, .int v1)] [] (cX ca o I J R L S) := by
  unfold wX1_note at h
  refine g_aload_n C (i := 0) dX1_note_0 rfl rfl ?_
  refine g_iload_n C (i := 1) dX1_note_1 rfl rfl ?_
  refine x_callV C (wX1_k_slotOf hn0 v1 I J R L S _ h) sX1_64 (rcv_bug (b := n0) hn0) (rl_ok (by decide) (by decide)) rfl (Nat.le_of_ble_eq_true rfl) (st := []) _ rfl dX1_note_2 (py_i (fun r1 h => ?_))
  refine g_istore_n C (i := 2) [(0, .ref (o (10 + n0))), (1, .int v1), (2, .int r1)] dX1_note_5 rfl (by decide) rfl ?_
  refine g_iload_n C (i := 2) dX1_note_6 rfl rfl ?_
  refine g_iconst_m1 C dX1_note_7 ?_
  refine g_icmp_ne C 13 dX1_note_8 rfl (fun c2 => ?_) (fun c2 => ?_)
  · replace h := h.1 c2
    refine g_aload_n C (i := 0) dX1_note_13 rfl rfl ?_
    refine x_get_X1_9 C (b := n0) hn0 dX1_note_14 ?_
    refine g_iload_n C (i := 2) dX1_note_17 rfl rfl ?_
    refine g_iload_n C (i := 1) dX1_note_18 rfl rfl ?_
    obtain ⟨h3, h⟩ := h
    refine x_iast C (k := (6 + n0)) (by have := hn0; omega) h3 dX1_note_19 ?_
    refine x_nmI _ (fun I4 e5 => ?_)
    replace h := h I4 e5
    refine g_aload_n C (i := 0) dX1_note_20 rfl rfl ?_
    refine x_get_X1_15 C (b := n0) hn0 dX1_note_21 ?_
    refine g_iload_n C (i := 2) dX1_note_24 rfl rfl ?_
    refine g_dup2 C dX1_note_25 rfl rfl ?_
    obtain ⟨h6, h⟩ := h
    refine x_iald C (k := (8 + n0)) (by have := hn0; omega) h6 dX1_note_26 ?_
    refine g_iconst_1 C dX1_note_27 ?_
    refine g_iadd C dX1_note_28 ?_
    refine x_iast C (k := (8 + n0)) (by have := hn0; omega) h6 dX1_note_29 ?_
    refine x_nmI _ (fun I7 e8 => ?_)
    replace h := h I7 e8
    refine g_aload_n C (i := 0) dX1_note_30 rfl rfl ?_
    refine x_get_X1_15 C (b := n0) hn0 dX1_note_31 ?_
    refine g_iload_n C (i := 2) dX1_note_34 rfl rfl ?_
    refine x_iald C (k := (8 + n0)) (by have := hn0; omega) h6 dX1_note_35 ?_
    exact g_ret_i C dX1_note_36 (Nat.le_refl _) (Nat.le_refl _) ⟨_, _, _, _, rfl, rfl, h⟩
  · replace h := h.2 c2
    refine g_iconst_0 C dX1_note_11 ?_
    exact g_ret_i C dX1_note_12 (Nat.le_refl _) (Nat.le_refl _) ⟨_, _, _, _, rfl, rfl, h⟩
theorem wX1_k_note {D : gD} {ca : Nat → ClassId} {o : Nat → Nat} {L : List Nat} {S : gS} {n0 : Nat} (hn0 : n0 < 2) (v1 : Int32) (I : gI) (J : gJ) (R : gR) (L0 : List Nat) (S0 : gS) (Q : Int32 → gI → gJ → gR → Prop) (h : wX1_note n0 v1 I J R L S Q) : Ct yX1_note cX1_note 3 (some .int) (rl 1) D (tyW ca) 0 0 [.ref (o (10 + n0)), .int v1] (cX ca o I J R L S) (PXi ca o L S Q) := ct_of (rm := (rl 1)) (by decide +kernel) (Nat.le_of_ble_eq_true rfl) (fun Γ C => wX1_note_g hn0 v1 C h)
set_option maxRecDepth 100000 in
theorem wX1_timesOf_g {Γ : gT} {D : gD} {ca : Nat → ClassId} {o : Nat → Nat} {I : gI} {J : gJ} {R : gR} {L : List Nat} {S : gS} {Q : Int32 → Prop} {n0 : Nat} (hn0 : n0 < 2) (v1 : Int32) (C : Cx Γ cX1_timesOf RX1 3 D (tyW ca) (rl 1) (some .int) 0 0 (PYi ca o I J R L S Q)) (h : wX1_timesOf n0 v1 I J R L S Q) : G Γ 0 0 0 [(0, .ref (o (10 + n0))), (1, .int v1)] [] (cX ca o I J R L S) := by
  unfold wX1_timesOf at h
  refine g_aload_n C (i := 0) dX1_timesOf_0 rfl rfl ?_
  refine g_iload_n C (i := 1) dX1_timesOf_1 rfl rfl ?_
  refine x_callV C (wX1_k_slotOf hn0 v1 I J R L S _ h) sX1_64 (rcv_bug (b := n0) hn0) (rl_ok (by decide) (by decide)) rfl (Nat.le_of_ble_eq_true rfl) (st := []) _ rfl dX1_timesOf_2 (py_i (fun r1 h => ?_))
  refine g_istore_n C (i := 2) [(0, .ref (o (10 + n0))), (1, .int v1), (2, .int r1)] dX1_timesOf_5 rfl (by decide) rfl ?_
  refine g_iload_n C (i := 2) dX1_timesOf_6 rfl rfl ?_
  refine g_iconst_m1 C dX1_timesOf_7 ?_
  refine g_icmp_ne C 15 dX1_timesOf_8 rfl (fun c2 => ?_) (fun c2 => ?_)
  · replace h := h.1 c2
    refine g_aload_n C (i := 0) dX1_timesOf_15 rfl rfl ?_
    refine x_get_X1_15 C (b := n0) hn0 dX1_timesOf_16 ?_
    refine g_iload_n C (i := 2) dX1_timesOf_19 rfl rfl ?_
    obtain ⟨h3, h⟩ := h
    refine x_iald C (k := (8 + n0)) (by have := hn0; omega) h3 dX1_timesOf_20 ?_
    exact g_ret_i C dX1_timesOf_21 (Nat.le_refl _) (Nat.le_refl _) ⟨_, rfl, rfl, h⟩
  · replace h := h.2 c2
    refine g_iconst_0 C dX1_timesOf_11 ?_
    refine g_goto C 21 dX1_timesOf_12 rfl ?_
    exact g_ret_i C dX1_timesOf_21 (Nat.le_refl _) (Nat.le_refl _) ⟨_, rfl, rfl, h⟩
theorem wX1_k_timesOf {D : gD} {ca : Nat → ClassId} {o : Nat → Nat} {L : List Nat} {S : gS} {n0 : Nat} (hn0 : n0 < 2) (v1 : Int32) (I : gI) (J : gJ) (R : gR) (L0 : List Nat) (S0 : gS) (Q : Int32 → Prop) (h : wX1_timesOf n0 v1 I J R L S Q) : Ct yX1_timesOf cX1_timesOf 3 (some .int) (rl 1) D (tyW ca) 0 0 [.ref (o (10 + n0)), .int v1] (cX ca o I J R L S) (PYi ca o I J R L S Q) := ct_of (rm := (rl 1)) (by decide +kernel) (Nat.le_of_ble_eq_true rfl) (fun Γ C => wX1_timesOf_g hn0 v1 C h)
theorem sX2_13 : gSiteP RX2 yX9_creaseCount cX9_creaseCount 1 (some .long) 13 0 := gSiteP.of (tb_in (List.mem_of_getElem? (i := 400) (by decide +kernel)) (by decide +kernel)) (tb_in (List.mem_of_getElem? (i := 396) (by decide +kernel)) (by decide +kernel)) (tb_in (List.mem_of_getElem? (i := 401) (by decide +kernel)) (by decide +kernel)) (tb_in (List.mem_of_getElem? (i := 394) (by decide +kernel)) (by decide +kernel)) (tb_in (List.mem_of_getElem? (i := 90) (by decide +kernel)) (by decide +kernel)) (tb_in (List.mem_of_getElem? (i := 410) (by decide +kernel)) (by decide +kernel)) (by decide +kernel)
set_option maxRecDepth 100000 in
theorem wX2_creaseCount_g {Γ : gT} {D : gD} {ca : Nat → ClassId} {o : Nat → Nat} {I : gI} {J : gJ} {R : gR} {L : List Nat} {S : gS} {Q : Int64 → Prop} {q0 : Nat} (hq0 : q0 ∈ L) (hc0 : sC (S q0) = 3 ∨ sC (S q0) = 4) (C : Cx Γ cX2_creaseCount RX2 1 D (tyW ca) (rl 1) (some .long) 0 0 (PYl ca o I J R L S Q)) (h : wX2_creaseCount q0 I J R L S Q) : G Γ 0 0 0 [(0, .ref q0)] [] (cX ca o I J R L S) := by
  unfold wX2_creaseCount at h
  refine g_aload_n C (i := 0) dX2_creaseCount_0 rfl rfl ?_
  refine x_callP C (wX9_k_creaseCount hq0 I J R L S _ h) sX2_13 (rcv_any hq0) (rl_ok (by decide) (by decide)) rfl (Nat.le_of_ble_eq_true rfl) (st := []) _ rfl dX2_creaseCount_1 (py_l (fun r1 h => ?_))
  refine g_aload_n C (i := 0) dX2_creaseCount_4 rfl rfl ?_
  refine x_get_X2_7 C hq0 hc0 dX2_creaseCount_5 ?_
  refine g_lsub C dX2_creaseCount_8 ?_
  exact g_ret_l C dX2_creaseCount_9 (Nat.le_refl _) (Nat.le_refl _) ⟨_, rfl, rfl, h⟩
theorem wX2_k_creaseCount {D : gD} {ca : Nat → ClassId} {o : Nat → Nat} {L : List Nat} {S : gS} {q0 : Nat} (hq0 : q0 ∈ L) (hc0 : sC (S q0) = 3 ∨ sC (S q0) = 4) (I : gI) (J : gJ) (R : gR) (L0 : List Nat) (S0 : gS) (Q : Int64 → Prop) (h : wX2_creaseCount q0 I J R L S Q) : Ct yX2_creaseCount cX2_creaseCount 1 (some .long) (rl 1) D (tyW ca) 0 0 [.ref q0] (cX ca o I J R L S) (PYl ca o I J R L S Q) := ct_of (rm := (rl 1)) (by decide +kernel) (Nat.le_of_ble_eq_true rfl) (fun Γ C => wX2_creaseCount_g hq0 hc0 C h)
theorem sX4_55 : gSiteS RX4 yJ7_fill_53178 cJ7_fill_53178 4 none 55 2 := gSiteS.of (tb_in (List.mem_of_getElem? (i := 1038) (by decide +kernel)) (by decide +kernel)) (tb_in (List.mem_of_getElem? (i := 891) (by decide +kernel)) (by decide +kernel)) (tb_in (List.mem_of_getElem? (i := 88) (by decide +kernel)) (by decide +kernel)) (tb_in (List.mem_of_getElem? (i := 892) (by decide +kernel)) (by decide +kernel)) (by decide +kernel)
set_option maxRecDepth 100000 in
theorem wX4_clear_g {Γ : gT} {D : gD} {ca : Nat → ClassId} {o : Nat → Nat} {I : gI} {J : gJ} {R : gR} {L : List Nat} {S : gS} {Q : gI → gJ → gR → Prop} (C : Cx Γ cX4_clear RX4 1 D (tyW ca) (rl 1) none 0 0 (PXv ca o L S Q)) (h : wX4_clear I J R L S Q) : G Γ 0 0 0 [(0, .ref (o 4))] [] (cX ca o I J R L S) := by
  unfold wX4_clear at h
  refine g_aload_n C (i := 0) dX4_clear_0 rfl rfl ?_
  refine x_get_X4_15 C dX4_clear_1 ?_
  refine g_iconst_m1 C dX4_clear_4 ?_
  refine x_callS C (wJ7_k_fill_53178 (by decide) (-1) I J R L S _ h) sX4_55 (rl_ok (by decide) (by decide)) rfl (Nat.le_of_ble_eq_true rfl) (st := []) _ rfl dX4_clear_5 (px_v (fun I2 J3 R4 h => ?_))
  exact g_ret_v C dX4_clear_8 (Nat.le_refl _) (Nat.le_refl _) ⟨_, _, _, rfl, rfl, h⟩
theorem wX4_k_clear {D : gD} {ca : Nat → ClassId} {o : Nat → Nat} {L : List Nat} {S : gS} (I : gI) (J : gJ) (R : gR) (L0 : List Nat) (S0 : gS) (Q : gI → gJ → gR → Prop) (h : wX4_clear I J R L S Q) : Ct yX4_clear cX4_clear 1 none (rl 1) D (tyW ca) 0 0 [.ref (o 4)] (cX ca o I J R L S) (PXv ca o L S Q) := ct_of (rm := (rl 1)) (by decide +kernel) (Nat.le_of_ble_eq_true rfl) (fun Γ C => wX4_clear_g C h)
theorem sX4_64 : gSiteS RX4 yX4_mateOf cX4_mateOf 4 (some .int) 64 3 := gSiteS.of (tb_in (List.mem_of_getElem? (i := 1047) (by decide +kernel)) (by decide +kernel)) (tb_in (List.mem_of_getElem? (i := 1048) (by decide +kernel)) (by decide +kernel)) (tb_in (List.mem_of_getElem? (i := 85) (by decide +kernel)) (by decide +kernel)) (tb_in (List.mem_of_getElem? (i := 1049) (by decide +kernel)) (by decide +kernel)) (by decide +kernel)
set_option maxRecDepth 100000 in
theorem wX4_closes_gb47 {Γ : gT} {D : gD} {ca : Nat → ClassId} {o : Nat → Nat} {Q : Bool → Prop} {I : gI} {J : gJ} {R : gR} {L : List Nat} {S : gS} (C : Cx Γ cX4_closes RX4 8 D (tyW ca) (rl 1) (some .boolean) 0 0 (PYz ca o I J R L S Q)) {B47 : Int32 → Int32 → Int32 → Int32 → Int32 → Prop} (hB47 : ∀ (v1 : Int32) (v2 : Int32) (v3 : Int32) (v5 : Int32) (v6 : Int32) , B47 v1 v2 v3 v5 v6 → G Γ 0 0 47 [(0, .ref (o 4)), (1, .int v1), (2, .int v2), (3, .int v3), (5, .int v5), (6, .int v6)] [] (cX ca o I J R L S)) (v1 : Int32) (v2 : Int32) (v3 : Int32) (v5 : Int32) (v6 : Int32) (h : wX4_closes_b47 I J R L S B47 v1 v2 v3 v5 v6 Q) : G Γ 0 0 47 [(0, .ref (o 4)), (1, .int v1), (2, .int v2), (3, .int v3), (5, .int v5), (6, .int v6)] [] (cX ca o I J R L S) := by
  unfold wX4_closes_b47 at h
  refine g_iload C (i := 6) dX4_closes_47 rfl ?_
  refine g_iload_n C (i := 1) dX4_closes_49 rfl rfl ?_
  refine g_icmp_ge C 93 dX4_closes_50 rfl (fun c1 => ?_) (fun c1 => ?_)
  · replace h := h.1 c1
    refine g_iconst_1 C dX4_closes_93 ?_
    exact g_ret_z C true rfl dX4_closes_94 (Nat.le_refl _) (Nat.le_refl _) ⟨_, rfl, rfl, h⟩
  · replace h := h.2 c1
    refine g_aload_n C (i := 0) dX4_closes_53 rfl rfl ?_
    refine x_get_X4_9 C dX4_closes_54 ?_
    refine g_iload C (i := 6) dX4_closes_57 rfl ?_
    obtain ⟨h2, h⟩ := h
    refine x_iald C (k := 10) (by decide) h2 dX4_closes_59 ?_
    refine g_iload_n C (i := 2) dX4_closes_60 rfl rfl ?_
    refine g_iload_n C (i := 3) dX4_closes_61 rfl rfl ?_
    refine x_callS C (wX4_k_mateOf (I 10 v6.toNatClampNeg) v2 v3 I J R L S _ h) sX4_64 (rl_ok (by decide) (by decide)) rfl (Nat.le_of_ble_eq_true rfl) (st := []) _ rfl dX4_closes_62 (py_i (fun r3 h => ?_))
    refine g_istore C (i := 7) [(0, .ref (o 4)), (1, .int v1), (2, .int v2), (3, .int v3), (5, .int v5), (6, .int v6), (7, .int r3)] dX4_closes_65 (by decide) rfl ?_
    refine g_iload C (i := 7) dX4_closes_67 rfl ?_
    refine g_iconst_m1 C dX4_closes_69 ?_
    refine g_icmp_eq C 87 dX4_closes_70 rfl (fun c4 => ?_) (fun c4 => ?_)
    · replace h := h.1 c4
      refine g_iinc C 1 [(0, .ref (o 4)), (1, .int v1), (2, .int v2), (3, .int v3), (5, .int v5), (6, .int (v6 + 1)), (7, .int r3)] dX4_closes_87 rfl (by decide) (by decide) rfl ?_
      refine g_goto C 47 dX4_closes_90 rfl ?_
      exact g_weak [0, 1, 2, 3, 4, 5] rfl (Nat.le_refl _) (Nat.le_refl _) (hB47 v1 v2 v3 v5 (v6 + 1)  h)
    · replace h := h.2 c4
      refine g_aload_n C (i := 0) dX4_closes_73 rfl rfl ?_
      refine x_get_X4_15 C dX4_closes_74 ?_
      refine g_iload C (i := 7) dX4_closes_77 rfl ?_
      obtain ⟨h5, h⟩ := h
      refine x_iald C (k := 11) (by decide) h5 dX4_closes_79 ?_
      refine g_iload C (i := 5) dX4_closes_80 rfl ?_
      refine g_icmp_ge C 87 dX4_closes_82 rfl (fun c6 => ?_) (fun c6 => ?_)
      · replace h := h.1 c6
        refine g_iinc C 1 [(0, .ref (o 4)), (1, .int v1), (2, .int v2), (3, .int v3), (5, .int v5), (6, .int (v6 + 1)), (7, .int r3)] dX4_closes_87 rfl (by decide) (by decide) rfl ?_
        refine g_goto C 47 dX4_closes_90 rfl ?_
        exact g_weak [0, 1, 2, 3, 4, 5] rfl (Nat.le_refl _) (Nat.le_refl _) (hB47 v1 v2 v3 v5 (v6 + 1)  h)
      · replace h := h.2 c6
        refine g_iconst_0 C dX4_closes_85 ?_
        exact g_ret_z C false rfl dX4_closes_86 (Nat.le_refl _) (Nat.le_refl _) ⟨_, rfl, rfl, h⟩
theorem wX4_closes_gl47 {Γ : gT} {D : gD} {ca : Nat → ClassId} {o : Nat → Nat} {Q : Bool → Prop} {I : gI} {J : gJ} {R : gR} {L : List Nat} {S : gS} (C : Cx Γ cX4_closes RX4 8 D (tyW ca) (rl 1) (some .boolean) 0 0 (PYz ca o I J R L S Q)) : ∀ (n : Nat) (v1 : Int32) (v2 : Int32) (v3 : Int32) (v5 : Int32) (v6 : Int32) (_ : wX4_closes_l47 I J R L S Q n v1 v2 v3 v5 v6 ), G Γ 0 0 47 [(0, .ref (o 4)), (1, .int v1), (2, .int v2), (3, .int v3), (5, .int v5), (6, .int v6)] [] (cX ca o I J R L S) := by
  intro n
  induction n with
  | zero => intro v1 v2 v3 v5 v6  h; exact h.elim
  | succ n ih => intro v1 v2 v3 v5 v6  h; exact wX4_closes_gb47 C ih v1 v2 v3 v5 v6 h
set_option maxRecDepth 100000 in
theorem wX4_closes_g {Γ : gT} {D : gD} {ca : Nat → ClassId} {o : Nat → Nat} {I : gI} {J : gJ} {R : gR} {L : List Nat} {S : gS} {Q : Bool → Prop} (v1 : Int32) (v2 : Int32) (v3 : Int32) (C : Cx Γ cX4_closes RX4 8 D (tyW ca) (rl 1) (some .boolean) 0 0 (PYz ca o I J R L S Q)) (h : wX4_closes v1 v2 v3 I J R L S Q) : G Γ 0 0 0 [(0, .ref (o 4)), (1, .int v1), (2, .int v2), (3, .int v3)] [] (cX ca o I J R L S) := by
  unfold wX4_closes at h
  refine g_aload_n C (i := 0) dX4_closes_0 rfl rfl ?_
  refine x_get_X4_9 C dX4_closes_1 ?_
  refine g_iload_n C (i := 1) dX4_closes_4 rfl rfl ?_
  obtain ⟨h1, h⟩ := h
  refine x_iald C (k := 10) (by decide) h1 dX4_closes_5 ?_
  refine g_iload_n C (i := 2) dX4_closes_6 rfl rfl ?_
  refine g_iload_n C (i := 3) dX4_closes_7 rfl rfl ?_
  refine x_callS C (wX4_k_mateOf (I 10 v1.toNatClampNeg) v2 v3 I J R L S _ h) sX4_64 (rl_ok (by decide) (by decide)) rfl (Nat.le_of_ble_eq_true rfl) (st := []) _ rfl dX4_closes_8 (py_i (fun r2 h => ?_))
  refine g_istore C (i := 4) [(0, .ref (o 4)), (1, .int v1), (2, .int v2), (3, .int v3), (4, .int r2)] dX4_closes_11 (by decide) rfl ?_
  refine g_iload C (i := 4) dX4_closes_13 rfl ?_
  refine g_iconst_m1 C dX4_closes_15 ?_
  refine g_icmp_eq C 30 dX4_closes_16 rfl (fun c3 => ?_) (fun c3 => ?_)
  · replace h := h.1 c3
    refine g_iconst_1 C dX4_closes_30 ?_
    exact g_ret_z C true rfl dX4_closes_31 (Nat.le_refl _) (Nat.le_refl _) ⟨_, rfl, rfl, h⟩
  · replace h := h.2 c3
    refine g_aload_n C (i := 0) dX4_closes_19 rfl rfl ?_
    refine x_get_X4_15 C dX4_closes_20 ?_
    refine g_iload C (i := 4) dX4_closes_23 rfl ?_
    obtain ⟨h4, h⟩ := h
    refine x_iald C (k := 11) (by decide) h4 dX4_closes_25 ?_
    refine g_iconst_m1 C dX4_closes_26 ?_
    refine g_icmp_ne C 32 dX4_closes_27 rfl (fun c5 => ?_) (fun c5 => ?_)
    · replace h := h.1 c5
      refine g_aload_n C (i := 0) dX4_closes_32 rfl rfl ?_
      refine x_get_X4_15 C dX4_closes_33 ?_
      refine g_iload C (i := 4) dX4_closes_36 rfl ?_
      refine x_iald C (k := 11) (by decide) h4 dX4_closes_38 ?_
      refine g_istore C (i := 5) [(0, .ref (o 4)), (1, .int v1), (2, .int v2), (3, .int v3), (4, .int r2), (5, .int (I 11 r2.toNatClampNeg))] dX4_closes_39 (by decide) rfl ?_
      refine g_iload C (i := 5) dX4_closes_41 rfl ?_
      refine g_iconst_1 C dX4_closes_43 ?_
      refine g_iadd C dX4_closes_44 ?_
      refine g_istore C (i := 6) [(0, .ref (o 4)), (1, .int v1), (2, .int v2), (3, .int v3), (4, .int r2), (5, .int (I 11 r2.toNatClampNeg)), (6, .int ((I 11 r2.toNatClampNeg) + 1))] dX4_closes_45 (by decide) rfl ?_
      obtain ⟨n, h⟩ := h
      exact g_weak [0, 1, 2, 3, 5, 6] rfl (Nat.le_refl _) (Nat.le_refl _) (wX4_closes_gl47  C  n v1 v2 v3 (I 11 r2.toNatClampNeg) ((I 11 r2.toNatClampNeg) + 1)  h)
    · replace h := h.2 c5
      refine g_iconst_1 C dX4_closes_30 ?_
      exact g_ret_z C true rfl dX4_closes_31 (Nat.le_refl _) (Nat.le_refl _) ⟨_, rfl, rfl, h⟩
theorem wX4_k_closes {D : gD} {ca : Nat → ClassId} {o : Nat → Nat} {L : List Nat} {S : gS} (v1 : Int32) (v2 : Int32) (v3 : Int32) (I : gI) (J : gJ) (R : gR) (L0 : List Nat) (S0 : gS) (Q : Bool → Prop) (h : wX4_closes v1 v2 v3 I J R L S Q) : Ct yX4_closes cX4_closes 8 (some .boolean) (rl 1) D (tyW ca) 0 0 [.ref (o 4), .int v1, .int v2, .int v3] (cX ca o I J R L S) (PYz ca o I J R L S Q) := ct_of (rm := (rl 1)) (by decide +kernel) (Nat.le_of_ble_eq_true rfl) (fun Γ C => wX4_closes_g v1 v2 v3 C h)
set_option maxRecDepth 100000 in
theorem wX6_beginWith_g {Γ : gT} {D : gD} {ca : Nat → ClassId} {o : Nat → Nat} {I : gI} {J : gJ} {R : gR} {L : List Nat} {S : gS} {Q : gI → gJ → gR → Prop} {k1 : Nat} (hk1 : k1 < 3) (v2 : Int32) (C : Cx Γ cX6_beginWith RX6 3 D (tyW ca) (rl 1) none 0 0 (PXv ca o L S Q)) (h : wX6_beginWith k1 v2 I J R L S Q) : G Γ 0 0 0 [(0, .ref (o 3)), (1, .ref (o (5 + k1))), (2, .int v2)] [] (cX ca o I J R L S) := by
  unfold wX6_beginWith at h
  refine g_aload_n C (i := 1) dX6_beginWith_0 rfl rfl ?_
  refine g_aload_n C (i := 0) dX6_beginWith_1 rfl rfl ?_
  refine x_get_X6_11 C dX6_beginWith_2 ?_
  refine x_callN C (n := 2) (wX11_k_copyStrips hk1 (by decide) I J R L S _ h) (host := "FoldedInHalf") (by decide) (tb_in (List.mem_of_getElem? (i := 637) (by decide +kernel)) (by decide +kernel)) (tb_in (List.mem_of_getElem? (i := 78) (by decide +kernel)) (by decide +kernel)) (tb_in (List.mem_of_getElem? (i := 636) (by decide +kernel)) (by decide +kernel)) (by decide +kernel) (rl_ok (by decide) (by decide)) rfl (Nat.le_of_ble_eq_true rfl) (st := []) _ rfl dX6_beginWith_5 (px_v (fun I2 J3 R4 h => ?_))
  refine g_aload_n C (i := 0) dX6_beginWith_8 rfl rfl ?_
  refine g_iload_n C (i := 2) dX6_beginWith_9 rfl rfl ?_
  refine x_put_X6_21 C dX6_beginWith_10 ?_
  refine x_nmI _ (fun I5 e6 => ?_)
  replace h := h I5 e6
  refine g_aload_n C (i := 0) dX6_beginWith_13 rfl rfl ?_
  refine g_iconst_m1 C dX6_beginWith_14 ?_
  refine x_put_X6_25 C dX6_beginWith_15 ?_
  refine x_nmI _ (fun I7 e8 => ?_)
  replace h := h I7 e8
  refine g_aload_n C (i := 0) dX6_beginWith_18 rfl rfl ?_
  refine g_iconst_0 C dX6_beginWith_19 ?_
  refine x_put_X6_28 C dX6_beginWith_20 ?_
  refine x_nmI _ (fun I9 e10 => ?_)
  replace h := h I9 e10
  exact g_ret_v C dX6_beginWith_23 (Nat.le_refl _) (Nat.le_refl _) ⟨_, _, _, rfl, rfl, h⟩
theorem wX6_k_beginWith {D : gD} {ca : Nat → ClassId} {o : Nat → Nat} {L : List Nat} {S : gS} {k1 : Nat} (hk1 : k1 < 3) (v2 : Int32) (I : gI) (J : gJ) (R : gR) (L0 : List Nat) (S0 : gS) (Q : gI → gJ → gR → Prop) (h : wX6_beginWith k1 v2 I J R L S Q) : Ct yX6_beginWith cX6_beginWith 3 none (rl 1) D (tyW ca) 0 0 [.ref (o 3), .ref (o (5 + k1)), .int v2] (cX ca o I J R L S) (PXv ca o L S Q) := ct_of (rm := (rl 1)) (by decide +kernel) (Nat.le_of_ble_eq_true rfl) (fun Γ C => wX6_beginWith_g hk1 v2 C h)
theorem sX8_22 : gSiteS RX8 yJ7_fill_d0a16 cJ7_fill_d0a16 5 none 22 2 := gSiteS.of (tb_in (List.mem_of_getElem? (i := 318) (by decide +kernel)) (by decide +kernel)) (tb_in (List.mem_of_getElem? (i := 319) (by decide +kernel)) (by decide +kernel)) (tb_in (List.mem_of_getElem? (i := 88) (by decide +kernel)) (by decide +kernel)) (tb_in (List.mem_of_getElem? (i := 320) (by decide +kernel)) (by decide +kernel)) (by decide +kernel)
set_option maxRecDepth 100000 in
theorem wX8_holdNewRow_g {Γ : gT} {D : gD} {ca : Nat → ClassId} {o : Nat → Nat} {I : gI} {J : gJ} {R : gR} {L : List Nat} {S : gS} {Q : gI → gJ → gR → Prop} {n0 : Nat} (hn0 : n0 < 8) (v1 : Int32) (v2 : Int32) (C : Cx Γ cX8_holdNewRow RX8 3 D (tyW ca) (rl 1) none 0 0 (PXv ca o L S Q)) (h : wX8_holdNewRow n0 v1 v2 I J R L S Q) : G Γ 0 0 0 [(0, .ref (o (20 + n0))), (1, .int v1), (2, .int v2)] [] (cX ca o I J R L S) := by
  unfold wX8_holdNewRow at h
  refine g_aload_n C (i := 0) dX8_holdNewRow_0 rfl rfl ?_
  refine g_bipush C (v := 100) dX8_holdNewRow_1 (by decide) ?_
  refine g_iload_n C (i := 1) dX8_holdNewRow_3 rfl rfl ?_
  refine g_iadd C dX8_holdNewRow_4 ?_
  refine x_put_X8_9 C (s := n0) hn0 dX8_holdNewRow_5 ?_
  refine x_nmI _ (fun I1 e2 => ?_)
  replace h := h I1 e2
  refine g_aload_n C (i := 0) dX8_holdNewRow_8 rfl rfl ?_
  refine g_iload_n C (i := 2) dX8_holdNewRow_9 rfl rfl ?_
  refine x_put_X8_19 C (s := n0) hn0 dX8_holdNewRow_10 ?_
  refine x_nmI _ (fun I3 e4 => ?_)
  replace h := h I3 e4
  refine g_aload_n C (i := 0) dX8_holdNewRow_13 rfl rfl ?_
  refine x_get_X8_15 C (s := n0) hn0 dX8_holdNewRow_14 ?_
  refine g_lconst_0 C dX8_holdNewRow_17 ?_
  refine x_callS C (wJ7_k_fill_d0a16 hn0 0 I3 J R L S _ h) sX8_22 (rl_ok (by decide) (by decide)) rfl (Nat.le_of_ble_eq_true rfl) (st := []) _ rfl dX8_holdNewRow_18 (px_v (fun I6 J7 R8 h => ?_))
  exact g_ret_v C dX8_holdNewRow_21 (Nat.le_refl _) (Nat.le_refl _) ⟨_, _, _, rfl, rfl, h⟩
theorem wX8_k_holdNewRow {D : gD} {ca : Nat → ClassId} {o : Nat → Nat} {L : List Nat} {S : gS} {n0 : Nat} (hn0 : n0 < 8) (v1 : Int32) (v2 : Int32) (I : gI) (J : gJ) (R : gR) (L0 : List Nat) (S0 : gS) (Q : gI → gJ → gR → Prop) (h : wX8_holdNewRow n0 v1 v2 I J R L S Q) : Ct yX8_holdNewRow cX8_holdNewRow 3 none (rl 1) D (tyW ca) 0 0 [.ref (o (20 + n0)), .int v1, .int v2] (cX ca o I J R L S) (PXv ca o L S Q) := ct_of (rm := (rl 1)) (by decide +kernel) (Nat.le_of_ble_eq_true rfl) (fun Γ C => wX8_holdNewRow_g hn0 v1 v2 C h)
theorem sX8_28 : gSite RX8 yX8_has cX8_has 2 (some .boolean) 28 1 := gSite.of (tb_in (List.mem_of_getElem? (i := 345) (by decide +kernel)) (by decide +kernel)) (tb_in (List.mem_of_getElem? (i := 338) (by decide +kernel)) (by decide +kernel)) (tb_in (List.mem_of_getElem? (i := 339) (by decide +kernel)) (by decide +kernel)) (tb_in (List.mem_of_getElem? (i := 86) (by decide +kernel)) (by decide +kernel)) (tb_in (List.mem_of_getElem? (i := 340) (by decide +kernel)) (by decide +kernel)) (by decide +kernel)
theorem sX8_32 : gSite RX8 yX8_cutToSort cX8_cutToSort 3 (some .long) 32 1 := gSite.of (tb_in (List.mem_of_getElem? (i := 346) (by decide +kernel)) (by decide +kernel)) (tb_in (List.mem_of_getElem? (i := 348) (by decide +kernel)) (by decide +kernel)) (tb_in (List.mem_of_getElem? (i := 3) (by decide +kernel)) (by decide +kernel)) (tb_in (List.mem_of_getElem? (i := 86) (by decide +kernel)) (by decide +kernel)) (tb_in (List.mem_of_getElem? (i := 349) (by decide +kernel)) (by decide +kernel)) (by decide +kernel)
set_option maxRecDepth 100000 in
theorem wX8_put_g {Γ : gT} {D : gD} {ca : Nat → ClassId} {o : Nat → Nat} {I : gI} {J : gJ} {R : gR} {L : List Nat} {S : gS} {Q : gI → gJ → gR → Prop} {n0 : Nat} (hn0 : n0 < 8) (v1 : Int32) (v2 : Int64) (C : Cx Γ cX8_put RX8 4 D (tyW ca) (rl 1) none 0 0 (PXv ca o L S Q)) (h : wX8_put n0 v1 v2 I J R L S Q) : G Γ 0 0 0 [(0, .ref (o (20 + n0))), (1, .int v1), (2, .long v2)] [] (cX ca o I J R L S) := by
  unfold wX8_put at h
  refine g_aload_n C (i := 0) dX8_put_0 rfl rfl ?_
  refine g_iload_n C (i := 1) dX8_put_1 rfl rfl ?_
  refine x_callV C (wX8_k_has hn0 v1 I J R L S _ h) sX8_28 (rcv_shelf (s := n0) hn0) (rl_ok (by decide) (by decide)) rfl (Nat.le_of_ble_eq_true rfl) (st := []) _ rfl dX8_put_2 (py_z (fun r1 h => ?_))
  refine g_zeq C 19 dX8_put_5 rfl (fun c2 => ?_) (fun c2 => ?_)
  · replace h := h.1 c2
    exact g_ret_v C dX8_put_19 (Nat.le_refl _) (Nat.le_refl _) ⟨_, _, _, rfl, rfl, h⟩
  · replace h := h.2 c2
    refine g_aload_n C (i := 0) dX8_put_8 rfl rfl ?_
    refine x_get_X8_15 C (s := n0) hn0 dX8_put_9 ?_
    refine g_iload_n C (i := 1) dX8_put_12 rfl rfl ?_
    refine g_aload_n C (i := 0) dX8_put_13 rfl rfl ?_
    refine g_lload_n C (i := 2) dX8_put_14 rfl rfl ?_
    refine x_callV C (wX8_k_cutToSort hn0 v2 I J R L S _ h) sX8_32 (rcv_shelf (s := n0) hn0) (rl_ok (by decide) (by decide)) rfl (Nat.le_of_ble_eq_true rfl) (st := [.int v1, .ref (o (30 + n0))]) _ rfl dX8_put_15 (py_l (fun r3 h => ?_))
    obtain ⟨h4, h⟩ := h
    refine x_last C (s := n0) hn0 h4 dX8_put_18 ?_
    refine x_nmJ _ (fun J5 e6 => ?_)
    replace h := h J5 e6
    exact g_ret_v C dX8_put_19 (Nat.le_refl _) (Nat.le_refl _) ⟨_, _, _, rfl, rfl, h⟩
theorem wX8_k_put {D : gD} {ca : Nat → ClassId} {o : Nat → Nat} {L : List Nat} {S : gS} {n0 : Nat} (hn0 : n0 < 8) (v1 : Int32) (v2 : Int64) (I : gI) (J : gJ) (R : gR) (L0 : List Nat) (S0 : gS) (Q : gI → gJ → gR → Prop) (h : wX8_put n0 v1 v2 I J R L S Q) : Ct yX8_put cX8_put 4 none (rl 1) D (tyW ca) 0 0 [.ref (o (20 + n0)), .int v1, .long v2] (cX ca o I J R L S) (PXv ca o L S Q) := ct_of (rm := (rl 1)) (by decide +kernel) (Nat.le_of_ble_eq_true rfl) (fun Γ C => wX8_put_g hn0 v1 v2 C h)
set_option maxRecDepth 100000 in
theorem wX8_asInt_g {Γ : gT} {D : gD} {ca : Nat → ClassId} {o : Nat → Nat} {I : gI} {J : gJ} {R : gR} {L : List Nat} {S : gS} {Q : Int32 → Prop} {n0 : Nat} (hn0 : n0 < 8) (v1 : Int32) (C : Cx Γ cX8_asInt RX8 2 D (tyW ca) (rl 1) (some .int) 0 0 (PYi ca o I J R L S Q)) (h : wX8_asInt n0 v1 I J R L S Q) : G Γ 0 0 0 [(0, .ref (o (20 + n0))), (1, .int v1)] [] (cX ca o I J R L S) := by
  unfold wX8_asInt at h
  refine g_aload_n C (i := 0) dX8_asInt_0 rfl rfl ?_
  refine g_iload_n C (i := 1) dX8_asInt_1 rfl rfl ?_
  refine x_callV C (wX8_k_has hn0 v1 I J R L S _ h) sX8_28 (rcv_shelf (s := n0) hn0) (rl_ok (by decide) (by decide)) rfl (Nat.le_of_ble_eq_true rfl) (st := []) _ rfl dX8_asInt_2 (py_z (fun r1 h => ?_))
  refine g_zeq C 18 dX8_asInt_5 rfl (fun c2 => ?_) (fun c2 => ?_)
  · replace h := h.1 c2
    refine g_iconst_0 C dX8_asInt_18 ?_
    exact g_ret_i C dX8_asInt_19 (Nat.le_refl _) (Nat.le_refl _) ⟨_, rfl, rfl, h⟩
  · replace h := h.2 c2
    refine g_aload_n C (i := 0) dX8_asInt_8 rfl rfl ?_
    refine x_get_X8_15 C (s := n0) hn0 dX8_asInt_9 ?_
    refine g_iload_n C (i := 1) dX8_asInt_12 rfl rfl ?_
    obtain ⟨h3, h⟩ := h
    refine x_lald C (s := n0) hn0 h3 dX8_asInt_13 ?_
    refine g_l2i C dX8_asInt_14 ?_
    refine g_goto C 19 dX8_asInt_15 rfl ?_
    exact g_ret_i C dX8_asInt_19 (Nat.le_refl _) (Nat.le_refl _) ⟨_, rfl, rfl, h⟩
theorem wX8_k_asInt {D : gD} {ca : Nat → ClassId} {o : Nat → Nat} {L : List Nat} {S : gS} {n0 : Nat} (hn0 : n0 < 8) (v1 : Int32) (I : gI) (J : gJ) (R : gR) (L0 : List Nat) (S0 : gS) (Q : Int32 → Prop) (h : wX8_asInt n0 v1 I J R L S Q) : Ct yX8_asInt cX8_asInt 2 (some .int) (rl 1) D (tyW ca) 0 0 [.ref (o (20 + n0)), .int v1] (cX ca o I J R L S) (PYi ca o I J R L S Q) := ct_of (rm := (rl 1)) (by decide +kernel) (Nat.le_of_ble_eq_true rfl) (fun Γ C => wX8_asInt_g hn0 v1 C h)
theorem sX9_51_1 : gSiteU RX9 "FoldedInHalf$Same" "FoldedInHalf$Strip" ⟨"FoldedInHalf$Strip", "creaseLetters", "()J"⟩ yX7_creaseLetters cX7_creaseLetters 1 (some .long) 51 0 := gSiteU.ovr (b0 := cX9_creaseLetters) (m0 := 1) (r0 := (some .long)) (tb_in (List.mem_of_getElem? (i := 466) (by decide +kernel)) (by decide +kernel)) (tb_in (List.mem_of_getElem? (i := 469) (by decide +kernel)) (by decide +kernel)) (tb_in (List.mem_of_getElem? (i := 467) (by decide +kernel)) (by decide +kernel)) (tb_in (List.mem_of_getElem? (i := 477) (by decide +kernel)) (by decide +kernel)) (tb_in (List.mem_of_getElem? (i := 478) (by decide +kernel)) (by decide +kernel)) (tb_in (List.mem_of_getElem? (i := 91) (by decide +kernel)) (by decide +kernel)) (tb_in (List.mem_of_getElem? (i := 479) (by decide +kernel)) (by decide +kernel)) (tb_in (List.mem_of_getElem? (i := 482) (by decide +kernel)) (by decide +kernel)) (by decide +kernel)
theorem sX9_51_2 : gSiteU RX9 "FoldedInHalf$Third" "FoldedInHalf$Strip" ⟨"FoldedInHalf$Strip", "creaseLetters", "()J"⟩ yX9_creaseLetters cX9_creaseLetters 1 (some .long) 51 0 := gSiteU.inh (tb_in (List.mem_of_getElem? (i := 466) (by decide +kernel)) (by decide +kernel)) (tb_in (List.mem_of_getElem? (i := 469) (by decide +kernel)) (by decide +kernel)) (tb_in (List.mem_of_getElem? (i := 481) (by decide +kernel)) (by decide +kernel)) (tb_in (List.mem_of_getElem? (i := 467) (by decide +kernel)) (by decide +kernel)) (tb_in (List.mem_of_getElem? (i := 90) (by decide +kernel)) (by decide +kernel)) (tb_in (List.mem_of_getElem? (i := 482) (by decide +kernel)) (by decide +kernel)) rfl (by decide +kernel)
theorem sX9_51_3 : gSiteU RX9 "FoldedInHalf$Cut" "FoldedInHalf$Strip" ⟨"FoldedInHalf$Strip", "creaseLetters", "()J"⟩ yX9_creaseLetters cX9_creaseLetters 1 (some .long) 51 0 := gSiteU.inh (tb_in (List.mem_of_getElem? (i := 466) (by decide +kernel)) (by decide +kernel)) (tb_in (List.mem_of_getElem? (i := 469) (by decide +kernel)) (by decide +kernel)) (tb_in (List.mem_of_getElem? (i := 471) (by decide +kernel)) (by decide +kernel)) (tb_in (List.mem_of_getElem? (i := 467) (by decide +kernel)) (by decide +kernel)) (tb_in (List.mem_of_getElem? (i := 90) (by decide +kernel)) (by decide +kernel)) (tb_in (List.mem_of_getElem? (i := 482) (by decide +kernel)) (by decide +kernel)) rfl (by decide +kernel)
theorem sX9_51_4 : gSiteU RX9 "FoldedInHalf$Back" "FoldedInHalf$Strip" ⟨"FoldedInHalf$Strip", "creaseLetters", "()J"⟩ yX9_creaseLetters cX9_creaseLetters 1 (some .long) 51 0 := gSiteU.inh (tb_in (List.mem_of_getElem? (i := 466) (by decide +kernel)) (by decide +kernel)) (tb_in (List.mem_of_getElem? (i := 469) (by decide +kernel)) (by decide +kernel)) (tb_in (List.mem_of_getElem? (i := 470) (by decide +kernel)) (by decide +kernel)) (tb_in (List.mem_of_getElem? (i := 467) (by decide +kernel)) (by decide +kernel)) (tb_in (List.mem_of_getElem? (i := 90) (by decide +kernel)) (by decide +kernel)) (tb_in (List.mem_of_getElem? (i := 482) (by decide +kernel)) (by decide +kernel)) rfl (by decide +kernel)
theorem sX9_51_5 : gSiteU RX9 "FoldedInHalf$Glass" "FoldedInHalf$Strip" ⟨"FoldedInHalf$Strip", "creaseLetters", "()J"⟩ yX3_creaseLetters cX3_creaseLetters 1 (some .long) 51 0 := gSiteU.ovr (b0 := cX9_creaseLetters) (m0 := 1) (r0 := (some .long)) (tb_in (List.mem_of_getElem? (i := 466) (by decide +kernel)) (by decide +kernel)) (tb_in (List.mem_of_getElem? (i := 469) (by decide +kernel)) (by decide +kernel)) (tb_in (List.mem_of_getElem? (i := 467) (by decide +kernel)) (by decide +kernel)) (tb_in (List.mem_of_getElem? (i := 472) (by decide +kernel)) (by decide +kernel)) (tb_in (List.mem_of_getElem? (i := 473) (by decide +kernel)) (by decide +kernel)) (tb_in (List.mem_of_getElem? (i := 95) (by decide +kernel)) (by decide +kernel)) (tb_in (List.mem_of_getElem? (i := 474) (by decide +kernel)) (by decide +kernel)) (tb_in (List.mem_of_getElem? (i := 482) (by decide +kernel)) (by decide +kernel)) (by decide +kernel)
theorem sX9_51_6 : gSiteU RX9 "FoldedInHalf$Left" "FoldedInHalf$Strip" ⟨"FoldedInHalf$Strip", "creaseLetters", "()J"⟩ yX3_creaseLetters cX3_creaseLetters 1 (some .long) 51 0 := gSiteU.ovr (b0 := cX9_creaseLetters) (m0 := 1) (r0 := (some .long)) (tb_in (List.mem_of_getElem? (i := 466) (by decide +kernel)) (by decide +kernel)) (tb_in (List.mem_of_getElem? (i := 469) (by decide +kernel)) (by decide +kernel)) (tb_in (List.mem_of_getElem? (i := 467) (by decide +kernel)) (by decide +kernel)) (tb_in (List.mem_of_getElem? (i := 476) (by decide +kernel)) (by decide +kernel)) (tb_in (List.mem_of_getElem? (i := 473) (by decide +kernel)) (by decide +kernel)) (tb_in (List.mem_of_getElem? (i := 95) (by decide +kernel)) (by decide +kernel)) (tb_in (List.mem_of_getElem? (i := 474) (by decide +kernel)) (by decide +kernel)) (tb_in (List.mem_of_getElem? (i := 482) (by decide +kernel)) (by decide +kernel)) (by decide +kernel)
theorem sX9_51_0 : gSite RX9 yX9_creaseLetters cX9_creaseLetters 1 (some .long) 51 0 := gSite.of (tb_in (List.mem_of_getElem? (i := 466) (by decide +kernel)) (by decide +kernel)) (tb_in (List.mem_of_getElem? (i := 467) (by decide +kernel)) (by decide +kernel)) (tb_in (List.mem_of_getElem? (i := 468) (by decide +kernel)) (by decide +kernel)) (tb_in (List.mem_of_getElem? (i := 90) (by decide +kernel)) (by decide +kernel)) (tb_in (List.mem_of_getElem? (i := 482) (by decide +kernel)) (by decide +kernel)) (by decide +kernel)
theorem xv_X9_51 {Γ : gT} {cc : ByteArray} {nL : Nat} {D : gD} {ca : Nat → ClassId} {rm : Room} {ret : Option FieldType} {mc ms : Nat} {Post : Option Value → va_W → Prop} {cn sn pc : Nat} {lv : List (Nat × Value)} {st : List Value} {o : Nat → Nat} {L : List Nat} {S : gS} (C0 : Cx Γ cc RX9 nL D (tyW ca) rm ret mc ms Post) {q0 : Nat} (hq0 : q0 ∈ L)  (I : gI) (J : gJ) (R : gR) (L0 : List Nat) (S0 : gS) (Q : Int64 → Prop) (h : wv_creaseLetters q0  I J R L S Q) (hroom : ∀ l maxL : Nat, l ≤ 0 → maxL ≤ 81 → gRm (rl l) rm maxL 0 0 cn sn) (hst : (st.map fun v => v.category).sum ≤ 8) (st0 : List Value) (hs0 : st0 = ([] : List Value).reverse ++ .ref q0 :: st) (hd : decode cc pc = .ok (.invokevirtual 51, 3)) (k : ∀ (r : Int64) , Q r  → G Γ cn sn (pc + 3) lv (.long r :: st) (cX ca o I J R L S)) : G Γ cn sn pc lv st0 (cX ca o I J R L S) := by
  unfold wv_creaseLetters at h
  by_cases h1 : sC (S q0) = 1
  · exact x_callU C0 (wX7_k_creaseLetters hq0 h1   I J R L S Q (h.1 h1)) sX9_51_1 (rcv_1 hq0 h1) (hroom _ _ (by decide) (by decide)) rfl hst st0 hs0 hd (py_l k)
  replace h := h.2 h1
  by_cases h2 : sC (S q0) = 2
  · exact x_callU C0 (wX9_k_creaseLetters hq0   I J R L S Q (h.1 h2)) sX9_51_2 (rcv_2 hq0 h2) (hroom _ _ (by decide) (by decide)) rfl hst st0 hs0 hd (py_l k)
  replace h := h.2 h2
  by_cases h3 : sC (S q0) = 3
  · exact x_callU C0 (wX9_k_creaseLetters hq0   I J R L S Q (h.1 h3)) sX9_51_3 (rcv_3 hq0 h3) (hroom _ _ (by decide) (by decide)) rfl hst st0 hs0 hd (py_l k)
  replace h := h.2 h3
  by_cases h4 : sC (S q0) = 4
  · exact x_callU C0 (wX9_k_creaseLetters hq0   I J R L S Q (h.1 h4)) sX9_51_4 (rcv_4 hq0 h4) (hroom _ _ (by decide) (by decide)) rfl hst st0 hs0 hd (py_l k)
  replace h := h.2 h4
  by_cases h5 : sC (S q0) = 5
  · exact x_callU C0 (wX3_k_creaseLetters hq0 (Or.inl h5)   I J R L S Q (h.1 h5)) sX9_51_5 (rcv_5 hq0 h5) (hroom _ _ (by decide) (by decide)) rfl hst st0 hs0 hd (py_l k)
  replace h := h.2 h5
  by_cases h6 : sC (S q0) = 6
  · exact x_callU C0 (wX3_k_creaseLetters hq0 (Or.inr h6)   I J R L S Q (h.1 h6)) sX9_51_6 (rcv_6 hq0 h6) (hroom _ _ (by decide) (by decide)) rfl hst st0 hs0 hd (py_l k)
  replace h := h.2 h6
  exact x_callV C0 (wX9_k_creaseLetters hq0   I J R L S Q h) sX9_51_0 (rcv_0 hq0 h1 h2 h3 h4 h5 h6) (hroom _ _ (by decide) (by decide)) rfl hst st0 hs0 hd (py_l k)
set_option maxRecDepth 100000 in
theorem wX9_toward_g {Γ : gT} {D : gD} {ca : Nat → ClassId} {o : Nat → Nat} {I : gI} {J : gJ} {R : gR} {L : List Nat} {S : gS} {Q : Int32 → Prop} {q0 : Nat} (hq0 : q0 ∈ L) (v1 : Int32) (C : Cx Γ cX9_toward RX9 2 D (tyW ca) (rl 1) (some .int) 0 0 (PYi ca o I J R L S Q)) (h : wX9_toward q0 v1 I J R L S Q) : G Γ 0 0 0 [(0, .ref q0), (1, .int v1)] [] (cX ca o I J R L S) := by
  unfold wX9_toward at h
  refine g_aload_n C (i := 0) dX9_toward_0 rfl rfl ?_
  refine xv_X9_51 C hq0 I J R L S _ h (fun l m h1 h2 => rl_ok (by omega) h2) (Nat.le_of_ble_eq_true rfl) (st := []) _ rfl dX9_toward_1 (fun r1 h => ?_)
  refine g_iload_n C (i := 1) dX9_toward_4 rfl rfl ?_
  refine g_lshr C dX9_toward_5 ?_
  refine g_lconst_1 C dX9_toward_6 ?_
  refine g_land C dX9_toward_7 ?_
  refine g_lconst_1 C dX9_toward_8 ?_
  refine g_lne C 17 dX9_toward_9 dX9_toward_10 rfl (fun c2 => ?_) (fun c2 => ?_)
  · replace h := h.1 c2
    refine g_iconst_m1 C dX9_toward_17 ?_
    exact g_ret_i C dX9_toward_18 (Nat.le_refl _) (Nat.le_refl _) ⟨_, rfl, rfl, h⟩
  · replace h := h.2 c2
    refine g_iconst_1 C dX9_toward_13 ?_
    refine g_goto C 18 dX9_toward_14 rfl ?_
    exact g_ret_i C dX9_toward_18 (Nat.le_refl _) (Nat.le_refl _) ⟨_, rfl, rfl, h⟩
theorem wX9_k_toward {D : gD} {ca : Nat → ClassId} {o : Nat → Nat} {L : List Nat} {S : gS} {q0 : Nat} (hq0 : q0 ∈ L) (v1 : Int32) (I : gI) (J : gJ) (R : gR) (L0 : List Nat) (S0 : gS) (Q : Int32 → Prop) (h : wX9_toward q0 v1 I J R L S Q) : Ct yX9_toward cX9_toward 2 (some .int) (rl 1) D (tyW ca) 0 0 [.ref q0, .int v1] (cX ca o I J R L S) (PYi ca o I J R L S Q) := ct_of (rm := (rl 1)) (by decide +kernel) (Nat.le_of_ble_eq_true rfl) (fun Γ C => wX9_toward_g hq0 v1 C h)
set_option maxRecDepth 100000 in
theorem wX9_creaseAt_gc21 {Γ : gT} {D : gD} {ca : Nat → ClassId} {o : Nat → Nat} {Q : Int32 → Prop} {I : gI} {J : gJ} {R : gR} {L : List Nat} {S : gS} {q0 : Nat} (hq0 : q0 ∈ L) (C : Cx Γ cX9_creaseAt RX9 6 D (tyW ca) (rl 1) (some .int) 0 0 (PYi ca o I J R L S Q)) (v1 : Int64) (v3 : Int64) (s0 : Int32) (h : wX9_creaseAt_c21 q0 I J R L S v1 v3 s0 Q) : G Γ 0 0 21 [(1, .long v1), (3, .long v3)] [.int s0] (cX ca o I J R L S) := by
  unfold wX9_creaseAt_c21 at h
  refine g_istore C (i := 5) [(1, .long v1), (3, .long v3), (5, .int s0)] dX9_creaseAt_21 (by decide) rfl ?_
  refine g_lload_n C (i := 1) dX9_creaseAt_23 rfl rfl ?_
  refine g_lload_n C (i := 3) dX9_creaseAt_24 rfl rfl ?_
  refine g_iconst_1 C dX9_creaseAt_25 ?_
  refine g_lshl C dX9_creaseAt_26 ?_
  refine g_land C dX9_creaseAt_27 ?_
  refine g_lconst_0 C dX9_creaseAt_28 ?_
  refine g_lne C 38 dX9_creaseAt_29 dX9_creaseAt_30 rfl (fun c1 => ?_) (fun c1 => ?_)
  · replace h := h.1 c1
    refine g_iconst_1 C dX9_creaseAt_38 ?_
    refine g_iload C (i := 5) dX9_creaseAt_39 rfl ?_
    refine g_isub C dX9_creaseAt_41 ?_
    exact g_ret_i C dX9_creaseAt_42 (Nat.le_refl _) (Nat.le_refl _) ⟨_, rfl, rfl, h⟩
  · replace h := h.2 c1
    refine g_iload C (i := 5) dX9_creaseAt_33 rfl ?_
    refine g_goto C 42 dX9_creaseAt_35 rfl ?_
    exact g_ret_i C dX9_creaseAt_42 (Nat.le_refl _) (Nat.le_refl _) ⟨_, rfl, rfl, h⟩
set_option maxRecDepth 100000 in
theorem wX9_creaseAt_g {Γ : gT} {D : gD} {ca : Nat → ClassId} {o : Nat → Nat} {I : gI} {J : gJ} {R : gR} {L : List Nat} {S : gS} {Q : Int32 → Prop} {q0 : Nat} (hq0 : q0 ∈ L) (v1 : Int64) (C : Cx Γ cX9_creaseAt RX9 6 D (tyW ca) (rl 1) (some .int) 0 0 (PYi ca o I J R L S Q)) (h : wX9_creaseAt q0 v1 I J R L S Q) : G Γ 0 0 0 [(0, .ref q0), (1, .long v1)] [] (cX ca o I J R L S) := by
  unfold wX9_creaseAt at h
  refine g_lload_n C (i := 1) dX9_creaseAt_0 rfl rfl ?_
  refine g_lload_n C (i := 1) dX9_creaseAt_1 rfl rfl ?_
  refine g_lneg C dX9_creaseAt_2 ?_
  refine g_land C dX9_creaseAt_3 ?_
  refine g_lstore_n C (i := 3) [(0, .ref q0), (1, .long v1), (3, .long (v1 &&& (-v1)))] dX9_creaseAt_4 rfl (by decide) rfl ?_
  refine g_aload_n C (i := 0) dX9_creaseAt_5 rfl rfl ?_
  refine xv_X9_51 C hq0 I J R L S _ h (fun l m h1 h2 => rl_ok (by omega) h2) (Nat.le_of_ble_eq_true rfl) (st := []) _ rfl dX9_creaseAt_6 (fun r1 h => ?_)
  refine g_lload_n C (i := 3) dX9_creaseAt_9 rfl rfl ?_
  refine g_land C dX9_creaseAt_10 ?_
  refine g_lconst_0 C dX9_creaseAt_11 ?_
  refine g_leq C 20 dX9_creaseAt_12 dX9_creaseAt_13 rfl (fun c2 => ?_) (fun c2 => ?_)
  · replace h := h.1 c2
    refine g_iconst_0 C dX9_creaseAt_20 ?_
    exact g_weak [1, 2] rfl (Nat.le_refl _) (Nat.le_refl _) (wX9_creaseAt_gc21 hq0 C  v1 (v1 &&& (-v1)) 0  h)
  · replace h := h.2 c2
    refine g_iconst_1 C dX9_creaseAt_16 ?_
    refine g_goto C 21 dX9_creaseAt_17 rfl ?_
    exact g_weak [1, 2] rfl (Nat.le_refl _) (Nat.le_refl _) (wX9_creaseAt_gc21 hq0 C  v1 (v1 &&& (-v1)) 1  h)
theorem wX9_k_creaseAt {D : gD} {ca : Nat → ClassId} {o : Nat → Nat} {L : List Nat} {S : gS} {q0 : Nat} (hq0 : q0 ∈ L) (v1 : Int64) (I : gI) (J : gJ) (R : gR) (L0 : List Nat) (S0 : gS) (Q : Int32 → Prop) (h : wX9_creaseAt q0 v1 I J R L S Q) : Ct yX9_creaseAt cX9_creaseAt 6 (some .int) (rl 1) D (tyW ca) 0 0 [.ref q0, .long v1] (cX ca o I J R L S) (PYi ca o I J R L S Q) := ct_of (rm := (rl 1)) (by decide +kernel) (Nat.le_of_ble_eq_true rfl) (fun Γ C => wX9_creaseAt_g hq0 v1 C h)
theorem sX10_17_2 : gSiteU RX10 "FoldedInHalf$Third" "FoldedInHalf$Strip" ⟨"FoldedInHalf$Third", "letter", "(I)I"⟩ yX9_letter cX9_letter 2 (some .int) 17 1 := gSiteU.inh (tb_in (List.mem_of_getElem? (i := 459) (by decide +kernel)) (by decide +kernel)) (tb_in (List.mem_of_getElem? (i := 460) (by decide +kernel)) (by decide +kernel)) (tb_in (List.mem_of_getElem? (i := 462) (by decide +kernel)) (by decide +kernel)) (tb_in (List.mem_of_getElem? (i := 463) (by decide +kernel)) (by decide +kernel)) (tb_in (List.mem_of_getElem? (i := 90) (by decide +kernel)) (by decide +kernel)) (tb_in (List.mem_of_getElem? (i := 464) (by decide +kernel)) (by decide +kernel)) rfl (by decide +kernel)
set_option maxRecDepth 100000 in
theorem wX10_creaseAt_gc38 {Γ : gT} {D : gD} {ca : Nat → ClassId} {o : Nat → Nat} {Q : Int32 → Prop} {I : gI} {J : gJ} {R : gR} {L : List Nat} {S : gS} {q0 : Nat} (hq0 : q0 ∈ L) (hc0 : sC (S q0) = 2) (C : Cx Γ cX10_creaseAt RX10 6 D (tyW ca) (rl 1) (some .int) 0 0 (PYi ca o I J R L S Q)) (v3 : Int64) (v5 : Int32) (h : wX10_creaseAt_c38 q0 I J R L S v3 v5 Q) : G Γ 0 0 38 [(0, .ref q0), (3, .long v3), (5, .int v5)] [] (cX ca o I J R L S) := by
  unfold wX10_creaseAt_c38 at h
  refine g_lload_n C (i := 3) dX10_creaseAt_38 rfl rfl ?_
  refine g_ldc2 C (v := 3) (tb_in (List.mem_of_getElem? (i := 409) (by decide +kernel)) (by decide +kernel)) dX10_creaseAt_39 ?_
  refine g_lrem C dX10_creaseAt_42 (by decide) ?_
  refine g_lconst_1 C dX10_creaseAt_43 ?_
  refine g_lne C 57 dX10_creaseAt_44 dX10_creaseAt_45 rfl (fun c1 => ?_) (fun c1 => ?_)
  · replace h := h.1 c1
    refine g_iconst_1 C dX10_creaseAt_57 ?_
    refine g_aload_n C (i := 0) dX10_creaseAt_58 rfl rfl ?_
    refine g_iload C (i := 5) dX10_creaseAt_59 rfl ?_
    refine x_callU C (wX9_k_letter hq0 v5 I J R L S _ h) sX10_17_2 (rcv_2 hq0 hc0) (rl_ok (by decide) (by decide)) rfl (Nat.le_of_ble_eq_true rfl) (st := [.int 1]) _ rfl dX10_creaseAt_61 (py_i (fun r2 h => ?_))
    refine g_isub C dX10_creaseAt_64 ?_
    exact g_ret_i C dX10_creaseAt_65 (Nat.le_refl _) (Nat.le_refl _) ⟨_, rfl, rfl, h⟩
  · replace h := h.2 c1
    refine g_aload_n C (i := 0) dX10_creaseAt_48 rfl rfl ?_
    refine g_iload C (i := 5) dX10_creaseAt_49 rfl ?_
    refine x_callU C (wX9_k_letter hq0 v5 I J R L S _ h) sX10_17_2 (rcv_2 hq0 hc0) (rl_ok (by decide) (by decide)) rfl (Nat.le_of_ble_eq_true rfl) (st := []) _ rfl dX10_creaseAt_51 (py_i (fun r3 h => ?_))
    refine g_goto C 65 dX10_creaseAt_54 rfl ?_
    exact g_ret_i C dX10_creaseAt_65 (Nat.le_refl _) (Nat.le_refl _) ⟨_, rfl, rfl, h⟩
set_option maxRecDepth 100000 in
theorem wX10_creaseAt_gb5 {Γ : gT} {D : gD} {ca : Nat → ClassId} {o : Nat → Nat} {Q : Int32 → Prop} {I : gI} {J : gJ} {R : gR} {L : List Nat} {S : gS} {q0 : Nat} (hq0 : q0 ∈ L) (hc0 : sC (S q0) = 2) (C : Cx Γ cX10_creaseAt RX10 6 D (tyW ca) (rl 1) (some .int) 0 0 (PYi ca o I J R L S Q)) {B5 : Int64 → Int32 → Prop} (hB5 : ∀ (v3 : Int64) (v5 : Int32) , B5 v3 v5 → G Γ 0 0 5 [(0, .ref q0), (3, .long v3), (5, .int v5)] [] (cX ca o I J R L S)) (v3 : Int64) (v5 : Int32) (h : wX10_creaseAt_b5 q0 I J R L S B5 v3 v5 Q) : G Γ 0 0 5 [(0, .ref q0), (3, .long v3), (5, .int v5)] [] (cX ca o I J R L S) := by
  unfold wX10_creaseAt_b5 at h
  refine g_iload C (i := 5) dX10_creaseAt_5 rfl ?_
  refine g_aload_n C (i := 0) dX10_creaseAt_7 rfl rfl ?_
  refine x_get_X10_9 C hq0 hc0 dX10_creaseAt_8 ?_
  refine g_iconst_1 C dX10_creaseAt_11 ?_
  refine g_isub C dX10_creaseAt_12 ?_
  refine g_icmp_ge C 38 dX10_creaseAt_13 rfl (fun c1 => ?_) (fun c1 => ?_)
  · replace h := h.1 c1
    exact g_weak [0, 1, 2] rfl (Nat.le_refl _) (Nat.le_refl _) (wX10_creaseAt_gc38 hq0 hc0 C  v3 v5  h)
  · replace h := h.2 c1
    refine g_lload_n C (i := 3) dX10_creaseAt_16 rfl rfl ?_
    refine g_ldc2 C (v := 3) (tb_in (List.mem_of_getElem? (i := 409) (by decide +kernel)) (by decide +kernel)) dX10_creaseAt_17 ?_
    refine g_lrem C dX10_creaseAt_20 (by decide) ?_
    refine g_lconst_0 C dX10_creaseAt_21 ?_
    refine g_lne C 38 dX10_creaseAt_22 dX10_creaseAt_23 rfl (fun c2 => ?_) (fun c2 => ?_)
    · replace h := h.1 c2
      exact g_weak [0, 1, 2] rfl (Nat.le_refl _) (Nat.le_refl _) (wX10_creaseAt_gc38 hq0 hc0 C  v3 v5  h)
    · replace h := h.2 c2
      refine g_lload_n C (i := 3) dX10_creaseAt_26 rfl rfl ?_
      refine g_ldc2 C (v := 3) (tb_in (List.mem_of_getElem? (i := 409) (by decide +kernel)) (by decide +kernel)) dX10_creaseAt_27 ?_
      refine g_ldiv C dX10_creaseAt_30 (by decide) ?_
      refine g_lstore_n C (i := 3) [(0, .ref q0), (3, .long (v3 / 3)), (5, .int v5)] dX10_creaseAt_31 rfl (by decide) rfl ?_
      refine g_iinc C 1 [(0, .ref q0), (3, .long (v3 / 3)), (5, .int (v5 + 1))] dX10_creaseAt_32 rfl (by decide) (by decide) rfl ?_
      refine g_goto C 5 dX10_creaseAt_35 rfl ?_
      exact g_weak [0, 1, 2] rfl (Nat.le_refl _) (Nat.le_refl _) (hB5 (v3 / 3) (v5 + 1)  h)
theorem wX10_creaseAt_gl5 {Γ : gT} {D : gD} {ca : Nat → ClassId} {o : Nat → Nat} {Q : Int32 → Prop} {I : gI} {J : gJ} {R : gR} {L : List Nat} {S : gS} {q0 : Nat} (hq0 : q0 ∈ L) (hc0 : sC (S q0) = 2) (C : Cx Γ cX10_creaseAt RX10 6 D (tyW ca) (rl 1) (some .int) 0 0 (PYi ca o I J R L S Q)) : ∀ (n : Nat) (v3 : Int64) (v5 : Int32) (_ : wX10_creaseAt_l5 q0 I J R L S Q n v3 v5 ), G Γ 0 0 5 [(0, .ref q0), (3, .long v3), (5, .int v5)] [] (cX ca o I J R L S) := by
  intro n
  induction n with
  | zero => intro v3 v5  h; exact h.elim
  | succ n ih => intro v3 v5  h; exact wX10_creaseAt_gb5 hq0 hc0 C ih v3 v5 h
set_option maxRecDepth 100000 in
theorem wX10_creaseAt_g {Γ : gT} {D : gD} {ca : Nat → ClassId} {o : Nat → Nat} {I : gI} {J : gJ} {R : gR} {L : List Nat} {S : gS} {Q : Int32 → Prop} {q0 : Nat} (hq0 : q0 ∈ L) (hc0 : sC (S q0) = 2) (v1 : Int64) (C : Cx Γ cX10_creaseAt RX10 6 D (tyW ca) (rl 1) (some .int) 0 0 (PYi ca o I J R L S Q)) (h : wX10_creaseAt q0 v1 I J R L S Q) : G Γ 0 0 0 [(0, .ref q0), (1, .long v1)] [] (cX ca o I J R L S) := by
  unfold wX10_creaseAt at h
  refine g_lload_n C (i := 1) dX10_creaseAt_0 rfl rfl ?_
  refine g_lstore_n C (i := 3) [(0, .ref q0), (1, .long v1), (3, .long v1)] dX10_creaseAt_1 rfl (by decide) rfl ?_
  refine g_iconst_0 C dX10_creaseAt_2 ?_
  refine g_istore C (i := 5) [(0, .ref q0), (1, .long v1), (3, .long v1), (5, .int 0)] dX10_creaseAt_3 (by decide) rfl ?_
  obtain ⟨n, h⟩ := h
  exact g_weak [0, 2, 3] rfl (Nat.le_refl _) (Nat.le_refl _) (wX10_creaseAt_gl5 hq0 hc0 C  n v1 0  h)
theorem wX10_k_creaseAt {D : gD} {ca : Nat → ClassId} {o : Nat → Nat} {L : List Nat} {S : gS} {q0 : Nat} (hq0 : q0 ∈ L) (hc0 : sC (S q0) = 2) (v1 : Int64) (I : gI) (J : gJ) (R : gR) (L0 : List Nat) (S0 : gS) (Q : Int32 → Prop) (h : wX10_creaseAt q0 v1 I J R L S Q) : Ct yX10_creaseAt cX10_creaseAt 6 (some .int) (rl 1) D (tyW ca) 0 0 [.ref q0, .long v1] (cX ca o I J R L S) (PYi ca o I J R L S Q) := ct_of (rm := (rl 1)) (by decide +kernel) (Nat.le_of_ble_eq_true rfl) (fun Γ C => wX10_creaseAt_g hq0 hc0 v1 C h)
theorem sJ4_343 : gSiteP RJ4 yJ5_length_8abf5 cJ5_length_8abf5 1 (some .int) 343 0 := gSiteP.of (tb_in (List.mem_of_getElem? (i := 1259) (by decide +kernel)) (by decide +kernel)) (tb_in (List.mem_of_getElem? (i := 1864) (by decide +kernel)) (by decide +kernel)) (tb_in (List.mem_of_getElem? (i := 145) (by decide +kernel)) (by decide +kernel)) (tb_in (List.mem_of_getElem? (i := 1260) (by decide +kernel)) (by decide +kernel)) (tb_in (List.mem_of_getElem? (i := 79) (by decide +kernel)) (by decide +kernel)) (tb_in (List.mem_of_getElem? (i := 1261) (by decide +kernel)) (by decide +kernel)) (by decide +kernel)
set_option maxRecDepth 100000 in
theorem wJ4_length_8abf5_g {Γ : gT} {D : gD} {ca : Nat → ClassId} {o : Nat → Nat} {I : gI} {J : gJ} {R : gR} {L : List Nat} {S : gS} {Q : Int32 → Prop} (C : Cx Γ cJ4_length_8abf5 RJ4 1 D (tyW ca) (rl 1) (some .int) 0 0 (PYi ca o I J R L S Q)) (h : wJ4_length_8abf5 I J R L S Q) : G Γ 0 0 0 [(0, .ref (o 1))] [] (cX ca o I J R L S) := by
  unfold wJ4_length_8abf5 at h
  refine g_aload_n C (i := 0) dJ4_length_8abf5_0 rfl rfl ?_
  refine x_callP C (wJ5_k_length_8abf5 I J R L S _ h) sJ4_343 ⟨_, rcv_sb⟩ (rl_ok (by decide) (by decide)) rfl (Nat.le_of_ble_eq_true rfl) (st := []) _ rfl dJ4_length_8abf5_1 (py_i (fun r1 h => ?_))
  exact g_ret_i C dJ4_length_8abf5_4 (Nat.le_refl _) (Nat.le_refl _) ⟨_, rfl, rfl, h⟩
theorem wJ4_k_length_8abf5 {D : gD} {ca : Nat → ClassId} {o : Nat → Nat} {L : List Nat} {S : gS} (I : gI) (J : gJ) (R : gR) (L0 : List Nat) (S0 : gS) (Q : Int32 → Prop) (h : wJ4_length_8abf5 I J R L S Q) : Ct yJ4_length_8abf5 cJ4_length_8abf5 1 (some .int) (rl 1) D (tyW ca) 0 0 [.ref (o 1)] (cX ca o I J R L S) (PYi ca o I J R L S Q) := ct_of (rm := (rl 1)) (by decide +kernel) (Nat.le_of_ble_eq_true rfl) (fun Γ C => wJ4_length_8abf5_g C h)
theorem sJ5_100 : gSiteU RJ5 "java/lang/StringBuilder" "java/lang/AbstractStringBuilder" ⟨"java/lang/AbstractStringBuilder", "ensureCapacityInternal", "(I)V"⟩ yJ5_ensureCapacityInternal_d00df cJ5_ensureCapacityInternal_d00df 3 none 100 1 := gSiteU.inh (tb_in (List.mem_of_getElem? (i := 1097) (by decide +kernel)) (by decide +kernel)) (tb_in (List.mem_of_getElem? (i := 1860) (by decide +kernel)) (by decide +kernel)) (tb_inX (by decide +kernel) (by decide +kernel)) (tb_in (List.mem_of_getElem? (i := 1099) (by decide +kernel)) (by decide +kernel)) (tb_in (List.mem_of_getElem? (i := 79) (by decide +kernel)) (by decide +kernel)) (tb_in (List.mem_of_getElem? (i := 1100) (by decide +kernel)) (by decide +kernel)) rfl (by decide +kernel)
theorem sJ5_83 : gSiteU RJ5 "java/lang/StringBuilder" "java/lang/AbstractStringBuilder" ⟨"java/lang/AbstractStringBuilder", "isLatin1", "()Z"⟩ yJ5_isLatin1_aae02 cJ5_isLatin1_aae02 1 (some .boolean) 83 0 := gSiteU.inh (tb_in (List.mem_of_getElem? (i := 1126) (by decide +kernel)) (by decide +kernel)) (tb_in (List.mem_of_getElem? (i := 1128) (by decide +kernel)) (by decide +kernel)) (tb_in (List.mem_of_getElem? (i := 1129) (by decide +kernel)) (by decide +kernel)) (tb_in (List.mem_of_getElem? (i := 1127) (by decide +kernel)) (by decide +kernel)) (tb_in (List.mem_of_getElem? (i := 79) (by decide +kernel)) (by decide +kernel)) (tb_in (List.mem_of_getElem? (i := 1130) (by decide +kernel)) (by decide +kernel)) rfl (by decide +kernel)
theorem sJ5_191 : gSiteS RJ5 yJ1_canEncode_fc78d cJ1_canEncode_fc78d 1 (some .boolean) 191 1 := gSiteS.of (tb_in (List.mem_of_getElem? (i := 1158) (by decide +kernel)) (by decide +kernel)) (tb_in (List.mem_of_getElem? (i := 1159) (by decide +kernel)) (by decide +kernel)) (tb_in (List.mem_of_getElem? (i := 97) (by decide +kernel)) (by decide +kernel)) (tb_in (List.mem_of_getElem? (i := 1160) (by decide +kernel)) (by decide +kernel)) (by decide +kernel)
set_option maxRecDepth 100000 in
theorem wJ5_append_3fe6f_gc56 {Γ : gT} {D : gD} {ca : Nat → ClassId} {o : Nat → Nat} {Q : gI → gJ → gR → Prop} {L : List Nat} {S : gS} (C : Cx Γ cJ5_append_3fe6f RJ5 2 D (tyW ca) (rl 1) (some (.object "java/lang/AbstractStringBuilder")) 0 0 (PXb ca o L S Q)) (v1 : Int32) (I : gI) (J : gJ) (R : gR) (h : wJ5_append_3fe6f_c56 L S v1 I J R Q) : G Γ 0 0 56 [(0, .ref (o 1)), (1, .int v1)] [] (cX ca o I J R L S) := by
  unfold wJ5_append_3fe6f_c56 at h
  refine g_aload_n C (i := 0) dJ5_append_3fe6f_56 rfl rfl ?_
  refine x_get_J5_15 C dJ5_append_3fe6f_57 ?_
  refine g_aload_n C (i := 0) dJ5_append_3fe6f_60 rfl rfl ?_
  refine g_dup C dJ5_append_3fe6f_61 rfl ?_
  refine x_get_J5_79 C dJ5_append_3fe6f_62 ?_
  refine g_dup_x1 C dJ5_append_3fe6f_65 rfl rfl ?_
  refine g_iconst_1 C dJ5_append_3fe6f_66 ?_
  refine g_iadd C dJ5_append_3fe6f_67 ?_
  refine x_put_J5_79 C dJ5_append_3fe6f_68 ?_
  refine x_nmI _ (fun I1 e2 => ?_)
  replace h := h I1 e2
  refine g_iload_n C (i := 1) dJ5_append_3fe6f_71 rfl rfl ?_
  exact h.elim
set_option maxRecDepth 100000 in
theorem wJ5_append_3fe6f_gc45 {Γ : gT} {D : gD} {ca : Nat → ClassId} {o : Nat → Nat} {Q : gI → gJ → gR → Prop} {L : List Nat} {S : gS} (C : Cx Γ cJ5_append_3fe6f RJ5 2 D (tyW ca) (rl 1) (some (.object "java/lang/AbstractStringBuilder")) 0 0 (PXb ca o L S Q)) (v1 : Int32) (I : gI) (J : gJ) (R : gR) (h : wJ5_append_3fe6f_c45 L S v1 I J R Q) : G Γ 0 0 45 [(0, .ref (o 1)), (1, .int v1)] [] (cX ca o I J R L S) := by
  unfold wJ5_append_3fe6f_c45 at h
  refine g_aload_n C (i := 0) dJ5_append_3fe6f_45 rfl rfl ?_
  refine x_callU C (wJ5_k_isLatin1_aae02 I J R L S _ h) sJ5_83 rcv_sb (rl_ok (by decide) (by decide)) rfl (Nat.le_of_ble_eq_true rfl) (st := []) _ rfl dJ5_append_3fe6f_46 (py_z (fun r1 h => ?_))
  refine g_zeq C 56 dJ5_append_3fe6f_49 rfl (fun c2 => ?_) (fun c2 => ?_)
  · replace h := h.1 c2
    exact g_weak [0, 1] rfl (Nat.le_refl _) (Nat.le_refl _) (wJ5_append_3fe6f_gc56  C  v1 I J R h)
  · replace h := h.2 c2
    refine g_aload_n C (i := 0) dJ5_append_3fe6f_52 rfl rfl ?_
    exact h.elim
set_option maxRecDepth 100000 in
theorem wJ5_append_3fe6f_g {Γ : gT} {D : gD} {ca : Nat → ClassId} {o : Nat → Nat} {I : gI} {J : gJ} {R : gR} {L : List Nat} {S : gS} {Q : gI → gJ → gR → Prop} (v1 : Int32) (C : Cx Γ cJ5_append_3fe6f RJ5 2 D (tyW ca) (rl 1) (some (.object "java/lang/AbstractStringBuilder")) 0 0 (PXb ca o L S Q)) (h : wJ5_append_3fe6f v1 I J R L S Q) : G Γ 0 0 0 [(0, .ref (o 1)), (1, .int v1)] [] (cX ca o I J R L S) := by
  unfold wJ5_append_3fe6f at h
  refine g_aload_n C (i := 0) dJ5_append_3fe6f_0 rfl rfl ?_
  refine g_aload_n C (i := 0) dJ5_append_3fe6f_1 rfl rfl ?_
  refine x_get_J5_79 C dJ5_append_3fe6f_2 ?_
  refine g_iconst_1 C dJ5_append_3fe6f_5 ?_
  refine g_iadd C dJ5_append_3fe6f_6 ?_
  refine x_callU C (wJ5_k_ensureCapacityInternal_d00df ((I 0 3) + 1) I J R L S _ h) sJ5_100 rcv_sb (rl_ok (by decide) (by decide)) rfl (Nat.le_of_ble_eq_true rfl) (st := []) _ rfl dJ5_append_3fe6f_7 (px_v (fun I2 J3 R4 h => ?_))
  refine g_aload_n C (i := 0) dJ5_append_3fe6f_10 rfl rfl ?_
  refine x_callU C (wJ5_k_isLatin1_aae02 I2 J3 R4 L S _ h) sJ5_83 rcv_sb (rl_ok (by decide) (by decide)) rfl (Nat.le_of_ble_eq_true rfl) (st := []) _ rfl dJ5_append_3fe6f_11 (py_z (fun r5 h => ?_))
  refine g_zeq C 45 dJ5_append_3fe6f_14 rfl (fun c6 => ?_) (fun c6 => ?_)
  · replace h := h.1 c6
    exact g_weak [0, 1] rfl (Nat.le_refl _) (Nat.le_refl _) (wJ5_append_3fe6f_gc45  C  v1 I2 J3 R4 h)
  · replace h := h.2 c6
    refine g_iload_n C (i := 1) dJ5_append_3fe6f_17 rfl rfl ?_
    refine x_callS C (wJ1_k_canEncode_fc78d v1 I2 J3 R4 L S _ h) sJ5_191 (rl_ok (by decide) (by decide)) rfl (Nat.le_of_ble_eq_true rfl) (st := []) _ rfl dJ5_append_3fe6f_18 (py_z (fun r7 h => ?_))
    refine g_zeq C 45 dJ5_append_3fe6f_21 rfl (fun c8 => ?_) (fun c8 => ?_)
    · replace h := h.1 c8
      exact g_weak [0, 1] rfl (Nat.le_refl _) (Nat.le_refl _) (wJ5_append_3fe6f_gc45  C  v1 I2 J3 R4 h)
    · replace h := h.2 c8
      refine g_aload_n C (i := 0) dJ5_append_3fe6f_24 rfl rfl ?_
      refine x_get_J5_15 C dJ5_append_3fe6f_25 ?_
      refine g_aload_n C (i := 0) dJ5_append_3fe6f_28 rfl rfl ?_
      refine g_dup C dJ5_append_3fe6f_29 rfl ?_
      refine x_get_J5_79 C dJ5_append_3fe6f_30 ?_
      refine g_dup_x1 C dJ5_append_3fe6f_33 rfl rfl ?_
      refine g_iconst_1 C dJ5_append_3fe6f_34 ?_
      refine g_iadd C dJ5_append_3fe6f_35 ?_
      refine x_put_J5_79 C dJ5_append_3fe6f_36 ?_
      refine x_nmI _ (fun I9 e10 => ?_)
      replace h := h I9 e10
      refine g_iload_n C (i := 1) dJ5_append_3fe6f_39 rfl rfl ?_
      refine g_i2b C dJ5_append_3fe6f_40 ?_
      obtain ⟨h11, h⟩ := h
      refine x_bast C h11 dJ5_append_3fe6f_41 ?_
      refine x_nmI _ (fun I12 e13 => ?_)
      replace h := h I12 e13
      refine g_goto C 75 dJ5_append_3fe6f_42 rfl ?_
      refine g_aload_n C (i := 0) dJ5_append_3fe6f_75 rfl rfl ?_
      exact g_ret_a C dJ5_append_3fe6f_76 (Nat.le_refl _) (Nat.le_refl _) ⟨_, _, _, rfl, rfl, h⟩
theorem wJ5_k_append_3fe6f {D : gD} {ca : Nat → ClassId} {o : Nat → Nat} {L : List Nat} {S : gS} (v1 : Int32) (I : gI) (J : gJ) (R : gR) (L0 : List Nat) (S0 : gS) (Q : gI → gJ → gR → Prop) (h : wJ5_append_3fe6f v1 I J R L S Q) : Ct yJ5_append_3fe6f cJ5_append_3fe6f 2 (some (.object "java/lang/AbstractStringBuilder")) (rl 1) D (tyW ca) 0 0 [.ref (o 1), .int v1] (cX ca o I J R L S) (PXb ca o L S Q) := ct_of (rm := (rl 1)) (by decide +kernel) (Nat.le_of_ble_eq_true rfl) (fun Γ C => wJ5_append_3fe6f_g v1 C h)
set_option maxRecDepth 100000 in
theorem wJ5_setLength_d00df_g {Γ : gT} {D : gD} {ca : Nat → ClassId} {o : Nat → Nat} {I : gI} {J : gJ} {R : gR} {L : List Nat} {S : gS} {Q : gI → gJ → gR → Prop} (v1 : Int32) (C : Cx Γ cJ5_setLength_d00df RJ5 2 D (tyW ca) (rl 1) none 0 0 (PXv ca o L S Q)) (h : wJ5_setLength_d00df v1 I J R L S Q) : G Γ 0 0 0 [(0, .ref (o 1)), (1, .int v1)] [] (cX ca o I J R L S) := by
  unfold wJ5_setLength_d00df at h
  refine g_iload_n C (i := 1) dJ5_setLength_d00df_0 rfl rfl ?_
  refine g_if_ge C 13 dJ5_setLength_d00df_1 rfl (fun c1 => ?_) (fun c1 => ?_)
  · replace h := h.1 c1
    refine g_aload_n C (i := 0) dJ5_setLength_d00df_13 rfl rfl ?_
    refine g_iload_n C (i := 1) dJ5_setLength_d00df_14 rfl rfl ?_
    refine x_callU C (wJ5_k_ensureCapacityInternal_d00df v1 I J R L S _ h) sJ5_100 rcv_sb (rl_ok (by decide) (by decide)) rfl (Nat.le_of_ble_eq_true rfl) (st := []) _ rfl dJ5_setLength_d00df_15 (px_v (fun I3 J4 R5 h => ?_))
    refine g_aload_n C (i := 0) dJ5_setLength_d00df_18 rfl rfl ?_
    refine x_get_J5_79 C dJ5_setLength_d00df_19 ?_
    refine g_iload_n C (i := 1) dJ5_setLength_d00df_22 rfl rfl ?_
    refine g_icmp_ge C 63 dJ5_setLength_d00df_23 rfl (fun c6 => ?_) (fun c6 => ?_)
    · replace h := h.1 c6
      refine g_aload_n C (i := 0) dJ5_setLength_d00df_63 rfl rfl ?_
      refine x_get_J5_79 C dJ5_setLength_d00df_64 ?_
      refine g_iload_n C (i := 1) dJ5_setLength_d00df_67 rfl rfl ?_
      refine g_icmp_le C 76 dJ5_setLength_d00df_68 rfl (fun c7 => ?_) (fun c7 => ?_)
      · replace h := h.1 c7
        refine g_aload_n C (i := 0) dJ5_setLength_d00df_76 rfl rfl ?_
        refine g_iload_n C (i := 1) dJ5_setLength_d00df_77 rfl rfl ?_
        refine x_put_J5_79 C dJ5_setLength_d00df_78 ?_
        refine x_nmI _ (fun I8 e9 => ?_)
        replace h := h I8 e9
        exact g_ret_v C dJ5_setLength_d00df_81 (Nat.le_refl _) (Nat.le_refl _) ⟨_, _, _, rfl, rfl, h⟩
      · replace h := h.2 c7
        refine g_aload_n C (i := 0) dJ5_setLength_d00df_71 rfl rfl ?_
        refine g_iconst_1 C dJ5_setLength_d00df_72 ?_
        refine x_put_J5_73 C (v := 1) true rfl dJ5_setLength_d00df_73 ?_
        refine x_nmI _ (fun I10 e11 => ?_)
        replace h := h I10 e11
        refine g_aload_n C (i := 0) dJ5_setLength_d00df_76 rfl rfl ?_
        refine g_iload_n C (i := 1) dJ5_setLength_d00df_77 rfl rfl ?_
        refine x_put_J5_79 C dJ5_setLength_d00df_78 ?_
        refine x_nmI _ (fun I12 e13 => ?_)
        replace h := h I12 e13
        exact g_ret_v C dJ5_setLength_d00df_81 (Nat.le_refl _) (Nat.le_refl _) ⟨_, _, _, rfl, rfl, h⟩
    · replace h := h.2 c6
      refine g_aload_n C (i := 0) dJ5_setLength_d00df_26 rfl rfl ?_
      refine x_callU C (wJ5_k_isLatin1_aae02 I3 J4 R5 L S _ h) sJ5_83 rcv_sb (rl_ok (by decide) (by decide)) rfl (Nat.le_of_ble_eq_true rfl) (st := []) _ rfl dJ5_setLength_d00df_27 (py_z (fun r14 h => ?_))
      refine g_zeq C 48 dJ5_setLength_d00df_30 rfl (fun c15 => ?_) (fun c15 => ?_)
      · replace h := h.1 c15
        refine g_aload_n C (i := 0) dJ5_setLength_d00df_48 rfl rfl ?_
        refine x_get_J5_15 C dJ5_setLength_d00df_49 ?_
        refine g_aload_n C (i := 0) dJ5_setLength_d00df_52 rfl rfl ?_
        refine x_get_J5_79 C dJ5_setLength_d00df_53 ?_
        refine g_iload_n C (i := 1) dJ5_setLength_d00df_56 rfl rfl ?_
        exact h.elim
      · replace h := h.2 c15
        refine g_aload_n C (i := 0) dJ5_setLength_d00df_33 rfl rfl ?_
        refine x_get_J5_15 C dJ5_setLength_d00df_34 ?_
        refine g_aload_n C (i := 0) dJ5_setLength_d00df_37 rfl rfl ?_
        refine x_get_J5_79 C dJ5_setLength_d00df_38 ?_
        refine g_iload_n C (i := 1) dJ5_setLength_d00df_41 rfl rfl ?_
        exact h.elim
  · replace h := h.2 c1
    exact h.elim
theorem wJ5_k_setLength_d00df {D : gD} {ca : Nat → ClassId} {o : Nat → Nat} {L : List Nat} {S : gS} (v1 : Int32) (I : gI) (J : gJ) (R : gR) (L0 : List Nat) (S0 : gS) (Q : gI → gJ → gR → Prop) (h : wJ5_setLength_d00df v1 I J R L S Q) : Ct yJ5_setLength_d00df cJ5_setLength_d00df 2 none (rl 1) D (tyW ca) 0 0 [.ref (o 1), .int v1] (cX ca o I J R L S) (PXv ca o L S Q) := ct_of (rm := (rl 1)) (by decide +kernel) (Nat.le_of_ble_eq_true rfl) (fun Γ C => wJ5_setLength_d00df_g v1 C h)
theorem sJ0_335 : gSite RJ0 yJ0_coder_7d493 cJ0_coder_7d493 1 (some .byte) 335 0 := gSite.of (tb_in (List.mem_of_getElem? (i := 661) (by decide +kernel)) (by decide +kernel)) (tb_in (List.mem_of_getElem? (i := 662) (by decide +kernel)) (by decide +kernel)) (tb_in (List.mem_of_getElem? (i := 663) (by decide +kernel)) (by decide +kernel)) (tb_in (List.mem_of_getElem? (i := 81) (by decide +kernel)) (by decide +kernel)) (tb_in (List.mem_of_getElem? (i := 664) (by decide +kernel)) (by decide +kernel)) (by decide +kernel)
set_option maxRecDepth 100000 in
theorem wJ0_length_8abf5_g {Γ : gT} {D : gD} {ca : Nat → ClassId} {o : Nat → Nat} {I : gI} {J : gJ} {R : gR} {L : List Nat} {S : gS} {Q : Int32 → Prop} {n0 : Nat} (hn0 : n0 < 5) (C : Cx Γ cJ0_length_8abf5 RJ0 1 D (tyW ca) (rl 1) (some .int) 0 0 (PYi ca o I J R L S Q)) (h : wJ0_length_8abf5 n0 I J R L S Q) : G Γ 0 0 0 [(0, .ref (D.2.2.1 n0))] [] (cX ca o I J R L S) := by
  unfold wJ0_length_8abf5 at h
  refine g_aload_n C (i := 0) dJ0_length_8abf5_0 rfl rfl ?_
  refine x_tvalue C hn0 (tb_in (List.mem_of_getElem? (i := 1872) (by decide +kernel)) (by decide +kernel)) dJ0_length_8abf5_1 ?_
  refine x_tlen C (i := n0) hn0 dJ0_length_8abf5_4 ?_
  refine g_aload_n C (i := 0) dJ0_length_8abf5_5 rfl rfl ?_
  refine x_callT C (wJ0_k_coder_7d493 hn0 I J R L S _ h) sJ0_335 rfl hn0 (rl_ok (by decide) (by decide)) rfl (Nat.le_of_ble_eq_true rfl) (st := [.int (Int32.ofNat (tx_len.getD n0 0))]) _ rfl dJ0_length_8abf5_6 (py_i (fun r1 h => ?_))
  refine g_ishr C dJ0_length_8abf5_9 ?_
  exact g_ret_i C dJ0_length_8abf5_10 (Nat.le_refl _) (Nat.le_refl _) ⟨_, rfl, rfl, h⟩
theorem wJ0_k_length_8abf5 {D : gD} {ca : Nat → ClassId} {o : Nat → Nat} {L : List Nat} {S : gS} {n0 : Nat} (hn0 : n0 < 5) (I : gI) (J : gJ) (R : gR) (L0 : List Nat) (S0 : gS) (Q : Int32 → Prop) (h : wJ0_length_8abf5 n0 I J R L S Q) : Ct yJ0_length_8abf5 cJ0_length_8abf5 1 (some .int) (rl 1) D (tyW ca) 0 0 [.ref (D.2.2.1 n0)] (cX ca o I J R L S) (PYi ca o I J R L S Q) := ct_of (rm := (rl 1)) (by decide +kernel) (Nat.le_of_ble_eq_true rfl) (fun Γ C => wJ0_length_8abf5_g hn0 C h)
theorem sJ0_1059 : gSiteS RJ0 yJ3_checkIndex_8e157 cJ3_checkIndex_8e157 3 (some .int) 1059 3 := gSiteS.of (tb_in (List.mem_of_getElem? (i := 682) (by decide +kernel)) (by decide +kernel)) (tb_in (List.mem_of_getElem? (i := 683) (by decide +kernel)) (by decide +kernel)) (tb_in (List.mem_of_getElem? (i := 98) (by decide +kernel)) (by decide +kernel)) (tb_in (List.mem_of_getElem? (i := 684) (by decide +kernel)) (by decide +kernel)) (by decide +kernel)
set_option maxRecDepth 100000 in
theorem wJ0_checkIndex_df160_g {Γ : gT} {D : gD} {ca : Nat → ClassId} {o : Nat → Nat} {I : gI} {J : gJ} {R : gR} {L : List Nat} {S : gS} {Q : Prop} (v0 : Int32) (v1 : Int32) (C : Cx Γ cJ0_checkIndex_df160 RJ0 2 D (tyW ca) (rl 1) none 0 0 (PYv ca o I J R L S Q)) (h : wJ0_checkIndex_df160 v0 v1 I J R L S Q) : G Γ 0 0 0 [(0, .int v0), (1, .int v1)] [] (cX ca o I J R L S) := by
  unfold wJ0_checkIndex_df160 at h
  refine g_iload_n C (i := 0) dJ0_checkIndex_df160_0 rfl rfl ?_
  refine g_iload_n C (i := 1) dJ0_checkIndex_df160_1 rfl rfl ?_
  refine x_sioobe C (tb_in (List.mem_of_getElem? (i := 680) (by decide +kernel)) (by decide +kernel)) dJ0_checkIndex_df160_2 (fun r1 => ?_)
  replace h := h r1
  refine x_callS C (wJ3_k_checkIndex_8e157 v0 v1 r1 I J R L S _ h) sJ0_1059 (rl_ok (by decide) (by decide)) rfl (Nat.le_of_ble_eq_true rfl) (st := []) _ rfl dJ0_checkIndex_df160_5 (py_i (fun r2 h => ?_))
  refine g_pop C dJ0_checkIndex_df160_8 rfl ?_
  exact g_ret_v C dJ0_checkIndex_df160_9 (Nat.le_refl _) (Nat.le_refl _) ⟨rfl, rfl, h⟩
theorem wJ0_k_checkIndex_df160 {D : gD} {ca : Nat → ClassId} {o : Nat → Nat} {L : List Nat} {S : gS} (v0 : Int32) (v1 : Int32) (I : gI) (J : gJ) (R : gR) (L0 : List Nat) (S0 : gS) (Q : Prop) (h : wJ0_checkIndex_df160 v0 v1 I J R L S Q) : Ct yJ0_checkIndex_df160 cJ0_checkIndex_df160 2 none (rl 1) D (tyW ca) 0 0 [.int v0, .int v1] (cX ca o I J R L S) (PYv ca o I J R L S Q) := ct_of (rm := (rl 1)) (by decide +kernel) (Nat.le_of_ble_eq_true rfl) (fun Γ C => wJ0_checkIndex_df160_g v0 v1 C h)
theorem sX11_77 : gSite RX11 yX8_holdNewRow cX8_holdNewRow 3 none 77 2 := gSite.of (tb_in (List.mem_of_getElem? (i := 314) (by decide +kernel)) (by decide +kernel)) (tb_in (List.mem_of_getElem? (i := 315) (by decide +kernel)) (by decide +kernel)) (tb_in (List.mem_of_getElem? (i := 316) (by decide +kernel)) (by decide +kernel)) (tb_in (List.mem_of_getElem? (i := 86) (by decide +kernel)) (by decide +kernel)) (tb_in (List.mem_of_getElem? (i := 317) (by decide +kernel)) (by decide +kernel)) (by decide +kernel)
set_option maxRecDepth 100000 in
theorem wX11_row_gc55 {Γ : gT} {D : gD} {ca : Nat → ClassId} {o : Nat → Nat} {Q : Int32 → gI → gJ → gR → Prop} {L : List Nat} {S : gS} (C : Cx Γ cX11_row RX11 5 D (tyW ca) (rl 2) (some .int) 0 0 (PXi ca o L S Q)) (v1 : Int32) (v2 : Int32) (v3 : Int32) (v4 : Int32) (I : gI) (J : gJ) (R : gR) (h : wX11_row_c55 L S v1 v2 v3 v4 I J R Q) : G Γ 0 0 55 [(0, .ref (o 0)), (1, .int v1), (2, .int v2), (3, .int v3), (4, .int v4)] [] (cX ca o I J R L S) := by
  unfold wX11_row_c55 at h
  refine g_iload C (i := 4) dX11_row_55 rfl ?_
  refine g_if_eq C 67 dX11_row_57 rfl (fun c1 => ?_) (fun c1 => ?_)
  · replace h := h.1 c1
    refine g_aload_n C (i := 0) dX11_row_67 rfl rfl ?_
    refine x_get_X11_24 C dX11_row_68 ?_
    refine g_iload_n C (i := 1) dX11_row_71 rfl rfl ?_
    obtain ⟨h2, h⟩ := h
    refine x_shelf C h2 dX11_row_72 ?_
    refine g_iload_n C (i := 2) dX11_row_73 rfl rfl ?_
    refine g_iload_n C (i := 3) dX11_row_74 rfl rfl ?_
    refine x_callV C (wX8_k_holdNewRow (vp_lt h2) v2 v3 I J R L S _ h) sX11_77 (rcv_shelf (s := v1.toNatClampNeg) (vp_lt h2)) (rl_ok (by decide) (by decide)) rfl (Nat.le_of_ble_eq_true rfl) (st := []) _ rfl dX11_row_75 (px_v (fun I4 J5 R6 h => ?_))
    refine g_iconst_1 C dX11_row_78 ?_
    exact g_ret_i C dX11_row_79 (Nat.le_refl _) (Nat.le_refl _) ⟨_, _, _, _, rfl, rfl, h⟩
  · replace h := h.2 c1
    refine g_aload_n C (i := 0) dX11_row_60 rfl rfl ?_
    refine g_iload C (i := 4) dX11_row_61 rfl ?_
    refine x_callV C (wX11_k_refuse v4 I J R L S _ h) sX11_73 rcv_main (rl_ok (by decide) (by decide)) rfl (Nat.le_of_ble_eq_true rfl) (st := []) _ rfl dX11_row_63 (px_i (fun r7 I8 J9 R10 h => ?_))
    exact g_ret_i C dX11_row_66 (Nat.le_refl _) (Nat.le_refl _) ⟨_, _, _, _, rfl, rfl, h⟩
set_option maxRecDepth 100000 in
theorem wX11_row_gc37 {Γ : gT} {D : gD} {ca : Nat → ClassId} {o : Nat → Nat} {Q : Int32 → gI → gJ → gR → Prop} {L : List Nat} {S : gS} (C : Cx Γ cX11_row RX11 5 D (tyW ca) (rl 2) (some .int) 0 0 (PXi ca o L S Q)) (v1 : Int32) (v2 : Int32) (v3 : Int32) (I : gI) (J : gJ) (R : gR) (h : wX11_row_c37 L S v1 v2 v3 I J R Q) : G Γ 0 0 37 [(0, .ref (o 0)), (1, .int v1), (2, .int v2), (3, .int v3)] [] (cX ca o I J R L S) := by
  unfold wX11_row_c37 at h
  refine g_bipush C (v := (-6)) dX11_row_37 (by decide) ?_
  refine g_istore C (i := 4) [(0, .ref (o 0)), (1, .int v1), (2, .int v2), (3, .int v3), (4, .int (-6))] dX11_row_39 (by decide) rfl ?_
  refine g_goto C 55 dX11_row_41 rfl ?_
  exact g_weak [0, 1, 2, 3, 4] rfl (Nat.le_refl _) (Nat.le_refl _) (wX11_row_gc55  C  v1 v2 v3 (-6) I J R h)
set_option maxRecDepth 100000 in
theorem wX11_row_g {Γ : gT} {D : gD} {ca : Nat → ClassId} {o : Nat → Nat} {I : gI} {J : gJ} {R : gR} {L : List Nat} {S : gS} {Q : Int32 → gI → gJ → gR → Prop} (v1 : Int32) (v2 : Int32) (v3 : Int32) (C : Cx Γ cX11_row RX11 5 D (tyW ca) (rl 2) (some .int) 0 0 (PXi ca o L S Q)) (h : wX11_row v1 v2 v3 I J R L S Q) : G Γ 0 0 0 [(0, .ref (o 0)), (1, .int v1), (2, .int v2), (3, .int v3)] [] (cX ca o I J R L S) := by
  unfold wX11_row at h
  refine g_iconst_0 C dX11_row_0 ?_
  refine g_istore C (i := 4) [(0, .ref (o 0)), (1, .int v1), (2, .int v2), (3, .int v3), (4, .int 0)] dX11_row_1 (by decide) rfl ?_
  refine g_aload_n C (i := 0) dX11_row_3 rfl rfl ?_
  refine g_iload_n C (i := 1) dX11_row_4 rfl rfl ?_
  refine x_callV C (wX11_k_isShelf v1 I J R L S _ h) sX11_69 rcv_main (rl_ok (by decide) (by decide)) rfl (Nat.le_of_ble_eq_true rfl) (st := []) _ rfl dX11_row_5 (py_z (fun r1 h => ?_))
  refine g_zne C 17 dX11_row_8 rfl (fun c2 => ?_) (fun c2 => ?_)
  · replace h := h.1 c2
    refine g_iload_n C (i := 3) dX11_row_17 rfl rfl ?_
    refine g_if_ge C 28 dX11_row_18 rfl (fun c3 => ?_) (fun c3 => ?_)
    · replace h := h.1 c3
      refine g_iload_n C (i := 2) dX11_row_28 rfl rfl ?_
      refine g_if_lt C 37 dX11_row_29 rfl (fun c4 => ?_) (fun c4 => ?_)
      · replace h := h.1 c4
        exact g_weak [0, 1, 2, 3] rfl (Nat.le_refl _) (Nat.le_refl _) (wX11_row_gc37  C  v1 v2 v3 I J R h)
      · replace h := h.2 c4
        refine g_iload_n C (i := 2) dX11_row_32 rfl rfl ?_
        refine g_iconst_4 C dX11_row_33 ?_
        refine g_icmp_lt C 44 dX11_row_34 rfl (fun c5 => ?_) (fun c5 => ?_)
        · replace h := h.1 c5
          refine g_iload_n C (i := 3) dX11_row_44 rfl rfl ?_
          refine g_sipush C (v := 160) dX11_row_45 (by decide) ?_
          refine g_icmp_le C 55 dX11_row_48 rfl (fun c6 => ?_) (fun c6 => ?_)
          · replace h := h.1 c6
            exact g_weak [0, 1, 2, 3, 4] rfl (Nat.le_refl _) (Nat.le_refl _) (wX11_row_gc55  C  v1 v2 v3 0 I J R h)
          · replace h := h.2 c6
            refine g_bipush C (v := (-7)) dX11_row_51 (by decide) ?_
            refine g_istore C (i := 4) [(0, .ref (o 0)), (1, .int v1), (2, .int v2), (3, .int v3), (4, .int (-7))] dX11_row_53 (by decide) rfl ?_
            exact g_weak [0, 1, 2, 3, 4] rfl (Nat.le_refl _) (Nat.le_refl _) (wX11_row_gc55  C  v1 v2 v3 (-7) I J R h)
        · replace h := h.2 c5
          exact g_weak [0, 1, 2, 3] rfl (Nat.le_refl _) (Nat.le_refl _) (wX11_row_gc37  C  v1 v2 v3 I J R h)
    · replace h := h.2 c3
      refine g_bipush C (v := (-4)) dX11_row_21 (by decide) ?_
      refine g_istore C (i := 4) [(0, .ref (o 0)), (1, .int v1), (2, .int v2), (3, .int v3), (4, .int (-4))] dX11_row_23 (by decide) rfl ?_
      refine g_goto C 55 dX11_row_25 rfl ?_
      exact g_weak [0, 1, 2, 3, 4] rfl (Nat.le_refl _) (Nat.le_refl _) (wX11_row_gc55  C  v1 v2 v3 (-4) I J R h)
  · replace h := h.2 c2
    refine g_iconst_m1 C dX11_row_11 ?_
    refine g_istore C (i := 4) [(0, .ref (o 0)), (1, .int v1), (2, .int v2), (3, .int v3), (4, .int (-1))] dX11_row_12 (by decide) rfl ?_
    refine g_goto C 55 dX11_row_14 rfl ?_
    exact g_weak [0, 1, 2, 3, 4] rfl (Nat.le_refl _) (Nat.le_refl _) (wX11_row_gc55  C  v1 v2 v3 (-1) I J R h)
theorem wX11_k_row {D : gD} {ca : Nat → ClassId} {o : Nat → Nat} {L : List Nat} {S : gS} (v1 : Int32) (v2 : Int32) (v3 : Int32) (I : gI) (J : gJ) (R : gR) (L0 : List Nat) (S0 : gS) (Q : Int32 → gI → gJ → gR → Prop) (h : wX11_row v1 v2 v3 I J R L S Q) : Ct yX11_row cX11_row 5 (some .int) (rl 2) D (tyW ca) 0 0 [.ref (o 0), .int v1, .int v2, .int v3] (cX ca o I J R L S) (PXi ca o L S Q) := ct_of (rm := (rl 2)) (by decide +kernel) (Nat.le_of_ble_eq_true rfl) (fun Γ C => wX11_row_g v1 v2 v3 C h)
theorem sX11_81 : gSite RX11 yX11_noRow cX11_noRow 2 (some .int) 81 1 := gSite.of (tb_in (List.mem_of_getElem? (i := 325) (by decide +kernel)) (by decide +kernel)) (tb_in (List.mem_of_getElem? (i := 327) (by decide +kernel)) (by decide +kernel)) (tb_in (List.mem_of_getElem? (i := 2) (by decide +kernel)) (by decide +kernel)) (tb_in (List.mem_of_getElem? (i := 78) (by decide +kernel)) (by decide +kernel)) (tb_in (List.mem_of_getElem? (i := 328) (by decide +kernel)) (by decide +kernel)) (by decide +kernel)
theorem sX11_87 : gSite RX11 yX8_put cX8_put 4 none 87 2 := gSite.of (tb_in (List.mem_of_getElem? (i := 341) (by decide +kernel)) (by decide +kernel)) (tb_in (List.mem_of_getElem? (i := 342) (by decide +kernel)) (by decide +kernel)) (tb_in (List.mem_of_getElem? (i := 343) (by decide +kernel)) (by decide +kernel)) (tb_in (List.mem_of_getElem? (i := 86) (by decide +kernel)) (by decide +kernel)) (tb_in (List.mem_of_getElem? (i := 344) (by decide +kernel)) (by decide +kernel)) (by decide +kernel)
set_option maxRecDepth 100000 in
theorem wX11_set_gc29 {Γ : gT} {D : gD} {ca : Nat → ClassId} {o : Nat → Nat} {Q : Int32 → gI → gJ → gR → Prop} {L : List Nat} {S : gS} (C : Cx Γ cX11_set RX11 6 D (tyW ca) (rl 2) (some .int) 0 0 (PXi ca o L S Q)) (v1 : Int32) (v2 : Int32) (v3 : Int64) (v5 : Int32) (I : gI) (J : gJ) (R : gR) (h : wX11_set_c29 L S v1 v2 v3 v5 I J R Q) : G Γ 0 0 29 [(0, .ref (o 0)), (1, .int v1), (2, .int v2), (3, .long v3), (5, .int v5)] [] (cX ca o I J R L S) := by
  unfold wX11_set_c29 at h
  refine g_iload C (i := 5) dX11_set_29 rfl ?_
  refine g_if_eq C 41 dX11_set_31 rfl (fun c1 => ?_) (fun c1 => ?_)
  · replace h := h.1 c1
    refine g_aload_n C (i := 0) dX11_set_41 rfl rfl ?_
    refine x_get_X11_24 C dX11_set_42 ?_
    refine g_iload_n C (i := 1) dX11_set_45 rfl rfl ?_
    obtain ⟨h2, h⟩ := h
    refine x_shelf C h2 dX11_set_46 ?_
    refine g_iload_n C (i := 2) dX11_set_47 rfl rfl ?_
    refine g_lload_n C (i := 3) dX11_set_48 rfl rfl ?_
    refine x_callV C (wX8_k_put (vp_lt h2) v2 v3 I J R L S _ h) sX11_87 (rcv_shelf (s := v1.toNatClampNeg) (vp_lt h2)) (rl_ok (by decide) (by decide)) rfl (Nat.le_of_ble_eq_true rfl) (st := []) _ rfl dX11_set_49 (px_v (fun I4 J5 R6 h => ?_))
    refine g_iconst_1 C dX11_set_52 ?_
    exact g_ret_i C dX11_set_53 (Nat.le_refl _) (Nat.le_refl _) ⟨_, _, _, _, rfl, rfl, h⟩
  · replace h := h.2 c1
    refine g_aload_n C (i := 0) dX11_set_34 rfl rfl ?_
    refine g_iload C (i := 5) dX11_set_35 rfl ?_
    refine x_callV C (wX11_k_refuse v5 I J R L S _ h) sX11_73 rcv_main (rl_ok (by decide) (by decide)) rfl (Nat.le_of_ble_eq_true rfl) (st := []) _ rfl dX11_set_37 (px_i (fun r7 I8 J9 R10 h => ?_))
    exact g_ret_i C dX11_set_40 (Nat.le_refl _) (Nat.le_refl _) ⟨_, _, _, _, rfl, rfl, h⟩
set_option maxRecDepth 100000 in
theorem wX11_set_g {Γ : gT} {D : gD} {ca : Nat → ClassId} {o : Nat → Nat} {I : gI} {J : gJ} {R : gR} {L : List Nat} {S : gS} {Q : Int32 → gI → gJ → gR → Prop} (v1 : Int32) (v2 : Int32) (v3 : Int64) (C : Cx Γ cX11_set RX11 6 D (tyW ca) (rl 2) (some .int) 0 0 (PXi ca o L S Q)) (h : wX11_set v1 v2 v3 I J R L S Q) : G Γ 0 0 0 [(0, .ref (o 0)), (1, .int v1), (2, .int v2), (3, .long v3)] [] (cX ca o I J R L S) := by
  unfold wX11_set at h
  refine g_aload_n C (i := 0) dX11_set_0 rfl rfl ?_
  refine g_iload_n C (i := 1) dX11_set_1 rfl rfl ?_
  refine x_callV C (wX11_k_noRow v1 I J R L S _ h) sX11_81 rcv_main (rl_ok (by decide) (by decide)) rfl (Nat.le_of_ble_eq_true rfl) (st := []) _ rfl dX11_set_2 (py_i (fun r1 h => ?_))
  refine g_istore C (i := 5) [(0, .ref (o 0)), (1, .int v1), (2, .int v2), (3, .long v3), (5, .int r1)] dX11_set_5 (by decide) rfl ?_
  refine g_iload C (i := 5) dX11_set_7 rfl ?_
  refine g_if_ne C 29 dX11_set_9 rfl (fun c2 => ?_) (fun c2 => ?_)
  · replace h := h.1 c2
    exact g_weak [0, 1, 2, 3, 4] rfl (Nat.le_refl _) (Nat.le_refl _) (wX11_set_gc29  C  v1 v2 v3 r1 I J R h)
  · replace h := h.2 c2
    refine g_aload_n C (i := 0) dX11_set_12 rfl rfl ?_
    refine x_get_X11_24 C dX11_set_13 ?_
    refine g_iload_n C (i := 1) dX11_set_16 rfl rfl ?_
    obtain ⟨h3, h⟩ := h
    refine x_shelf C h3 dX11_set_17 ?_
    refine g_iload_n C (i := 2) dX11_set_18 rfl rfl ?_
    refine x_callV C (wX8_k_has (vp_lt h3) v2 I J R L S _ h) sX11_84 (rcv_shelf (s := v1.toNatClampNeg) (vp_lt h3)) (rl_ok (by decide) (by decide)) rfl (Nat.le_of_ble_eq_true rfl) (st := []) _ rfl dX11_set_19 (py_z (fun r4 h => ?_))
    refine g_zne C 29 dX11_set_22 rfl (fun c5 => ?_) (fun c5 => ?_)
    · replace h := h.1 c5
      exact g_weak [0, 1, 2, 3, 4] rfl (Nat.le_refl _) (Nat.le_refl _) (wX11_set_gc29  C  v1 v2 v3 r1 I J R h)
    · replace h := h.2 c5
      refine g_bipush C (v := (-5)) dX11_set_25 (by decide) ?_
      refine g_istore C (i := 5) [(0, .ref (o 0)), (1, .int v1), (2, .int v2), (3, .long v3), (5, .int (-5))] dX11_set_27 (by decide) rfl ?_
      exact g_weak [0, 1, 2, 3, 4] rfl (Nat.le_refl _) (Nat.le_refl _) (wX11_set_gc29  C  v1 v2 v3 (-5) I J R h)
theorem wX11_k_set {D : gD} {ca : Nat → ClassId} {o : Nat → Nat} {L : List Nat} {S : gS} (v1 : Int32) (v2 : Int32) (v3 : Int64) (I : gI) (J : gJ) (R : gR) (L0 : List Nat) (S0 : gS) (Q : Int32 → gI → gJ → gR → Prop) (h : wX11_set v1 v2 v3 I J R L S Q) : Ct yX11_set cX11_set 6 (some .int) (rl 2) D (tyW ca) 0 0 [.ref (o 0), .int v1, .int v2, .long v3] (cX ca o I J R L S) (PXi ca o L S Q) := ct_of (rm := (rl 2)) (by decide +kernel) (Nat.le_of_ble_eq_true rfl) (fun Γ C => wX11_set_g v1 v2 v3 C h)
