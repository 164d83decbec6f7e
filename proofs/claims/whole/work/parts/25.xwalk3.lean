theorem sX11_91 : gSite RX11 yX11_noCopy cX11_noCopy 9 (some .int) 91 5 := gSite.of (tb_in (List.mem_of_getElem? (i := 354) (by decide +kernel)) (by decide +kernel)) (tb_in (List.mem_of_getElem? (i := 356) (by decide +kernel)) (by decide +kernel)) (tb_in (List.mem_of_getElem? (i := 4) (by decide +kernel)) (by decide +kernel)) (tb_in (List.mem_of_getElem? (i := 78) (by decide +kernel)) (by decide +kernel)) (tb_in (List.mem_of_getElem? (i := 357) (by decide +kernel)) (by decide +kernel)) (by decide +kernel)
set_option maxRecDepth 100000 in
theorem wX11_copy_g {Γ : gT} {D : gD} {ca : Nat → ClassId} {o : Nat → Nat} {I : gI} {J : gJ} {R : gR} {L : List Nat} {S : gS} {Q : Int32 → gI → gJ → gR → Prop} (v1 : Int32) (v2 : Int32) (v3 : Int32) (v4 : Int32) (v5 : Int32) (C : Cx Γ cX11_copy RX11 7 D (tyW ca) (rl 2) (some .int) 0 0 (PXi ca o L S Q)) (h : wX11_copy v1 v2 v3 v4 v5 I J R L S Q) : G Γ 0 0 0 [(0, .ref (o 0)), (1, .int v1), (2, .int v2), (3, .int v3), (4, .int v4), (5, .int v5)] [] (cX ca o I J R L S) := by
  unfold wX11_copy at h
  refine g_aload_n C (i := 0) dX11_copy_0 rfl rfl ?_
  refine g_iload_n C (i := 1) dX11_copy_1 rfl rfl ?_
  refine g_iload_n C (i := 2) dX11_copy_2 rfl rfl ?_
  refine g_iload_n C (i := 3) dX11_copy_3 rfl rfl ?_
  refine g_iload C (i := 4) dX11_copy_4 rfl ?_
  refine g_iload C (i := 5) dX11_copy_6 rfl ?_
  refine x_callV C (wX11_k_noCopy v1 v2 v3 v4 v5 I J R L S _ h) sX11_91 rcv_main (rl_ok (by decide) (by decide)) rfl (Nat.le_of_ble_eq_true rfl) (st := []) _ rfl dX11_copy_8 (py_i (fun r1 h => ?_))
  refine g_istore C (i := 6) [(0, .ref (o 0)), (1, .int v1), (2, .int v2), (3, .int v3), (4, .int v4), (5, .int v5), (6, .int r1)] dX11_copy_11 (by decide) rfl ?_
  refine g_iload C (i := 6) dX11_copy_13 rfl ?_
  refine g_if_eq C 25 dX11_copy_15 rfl (fun c2 => ?_) (fun c2 => ?_)
  · replace h := h.1 c2
    refine g_aload_n C (i := 0) dX11_copy_25 rfl rfl ?_
    refine x_get_X11_24 C dX11_copy_26 ?_
    refine g_iload_n C (i := 1) dX11_copy_29 rfl rfl ?_
    obtain ⟨h3, h⟩ := h
    refine x_shelf C h3 dX11_copy_30 ?_
    refine x_get_X11_95 C (s := v1.toNatClampNeg) (vp_lt h3) dX11_copy_31 ?_
    refine g_iload_n C (i := 3) dX11_copy_34 rfl rfl ?_
    refine g_aload_n C (i := 0) dX11_copy_35 rfl rfl ?_
    refine x_get_X11_24 C dX11_copy_36 ?_
    refine g_iload_n C (i := 2) dX11_copy_39 rfl rfl ?_
    obtain ⟨h4, h⟩ := h
    refine x_shelf C h4 dX11_copy_40 ?_
    refine x_get_X11_95 C (s := v2.toNatClampNeg) (vp_lt h4) dX11_copy_41 ?_
    refine g_iload C (i := 4) dX11_copy_44 rfl ?_
    refine g_iload C (i := 5) dX11_copy_46 rfl ?_
    obtain ⟨h5, h6, h7, h8, h9, h⟩ := h
    refine x_lcopy C (vp_lt h3) (vp_lt h4) h5 h6 h7 h8 h9 dX11_copy_48 (by decide) (by decide) ?_
    refine x_nmJ _ (fun J10 e11 => ?_)
    replace h := h J10 e11
    refine g_iconst_1 C dX11_copy_51 ?_
    exact g_ret_i C dX11_copy_52 (Nat.le_refl _) (Nat.le_refl _) ⟨_, _, _, _, rfl, rfl, h⟩
  · replace h := h.2 c2
    refine g_aload_n C (i := 0) dX11_copy_18 rfl rfl ?_
    refine g_iload C (i := 6) dX11_copy_19 rfl ?_
    refine x_callV C (wX11_k_refuse r1 I J R L S _ h) sX11_73 rcv_main (rl_ok (by decide) (by decide)) rfl (Nat.le_of_ble_eq_true rfl) (st := []) _ rfl dX11_copy_21 (px_i (fun r12 I13 J14 R15 h => ?_))
    exact g_ret_i C dX11_copy_24 (Nat.le_refl _) (Nat.le_refl _) ⟨_, _, _, _, rfl, rfl, h⟩
theorem wX11_k_copy {D : gD} {ca : Nat → ClassId} {o : Nat → Nat} {L : List Nat} {S : gS} (v1 : Int32) (v2 : Int32) (v3 : Int32) (v4 : Int32) (v5 : Int32) (I : gI) (J : gJ) (R : gR) (L0 : List Nat) (S0 : gS) (Q : Int32 → gI → gJ → gR → Prop) (h : wX11_copy v1 v2 v3 v4 v5 I J R L S Q) : Ct yX11_copy cX11_copy 7 (some .int) (rl 2) D (tyW ca) 0 0 [.ref (o 0), .int v1, .int v2, .int v3, .int v4, .int v5] (cX ca o I J R L S) (PXi ca o L S Q) := ct_of (rm := (rl 2)) (by decide +kernel) (Nat.le_of_ble_eq_true rfl) (fun Γ C => wX11_copy_g v1 v2 v3 v4 v5 C h)
theorem sX11_141_1 : gSiteU RX11 "FoldedInHalf$Same" "FoldedInHalf$Strip" ⟨"FoldedInHalf$Strip", "creaseCount", "()J"⟩ yX9_creaseCount cX9_creaseCount 1 (some .long) 141 0 := gSiteU.inh (tb_in (List.mem_of_getElem? (i := 393) (by decide +kernel)) (by decide +kernel)) (tb_in (List.mem_of_getElem? (i := 396) (by decide +kernel)) (by decide +kernel)) (tb_in (List.mem_of_getElem? (i := 405) (by decide +kernel)) (by decide +kernel)) (tb_in (List.mem_of_getElem? (i := 394) (by decide +kernel)) (by decide +kernel)) (tb_in (List.mem_of_getElem? (i := 90) (by decide +kernel)) (by decide +kernel)) (tb_in (List.mem_of_getElem? (i := 410) (by decide +kernel)) (by decide +kernel)) rfl (by decide +kernel)
theorem sX11_141_2 : gSiteU RX11 "FoldedInHalf$Third" "FoldedInHalf$Strip" ⟨"FoldedInHalf$Strip", "creaseCount", "()J"⟩ yX10_creaseCount cX10_creaseCount 4 (some .long) 141 0 := gSiteU.ovr (b0 := cX9_creaseCount) (m0 := 1) (r0 := (some .long)) (tb_in (List.mem_of_getElem? (i := 393) (by decide +kernel)) (by decide +kernel)) (tb_in (List.mem_of_getElem? (i := 396) (by decide +kernel)) (by decide +kernel)) (tb_in (List.mem_of_getElem? (i := 394) (by decide +kernel)) (by decide +kernel)) (tb_in (List.mem_of_getElem? (i := 406) (by decide +kernel)) (by decide +kernel)) (tb_in (List.mem_of_getElem? (i := 407) (by decide +kernel)) (by decide +kernel)) (tb_in (List.mem_of_getElem? (i := 92) (by decide +kernel)) (by decide +kernel)) (tb_in (List.mem_of_getElem? (i := 408) (by decide +kernel)) (by decide +kernel)) (tb_in (List.mem_of_getElem? (i := 410) (by decide +kernel)) (by decide +kernel)) (by decide +kernel)
theorem sX11_141_3 : gSiteU RX11 "FoldedInHalf$Cut" "FoldedInHalf$Strip" ⟨"FoldedInHalf$Strip", "creaseCount", "()J"⟩ yX2_creaseCount cX2_creaseCount 1 (some .long) 141 0 := gSiteU.ovr (b0 := cX9_creaseCount) (m0 := 1) (r0 := (some .long)) (tb_in (List.mem_of_getElem? (i := 393) (by decide +kernel)) (by decide +kernel)) (tb_in (List.mem_of_getElem? (i := 396) (by decide +kernel)) (by decide +kernel)) (tb_in (List.mem_of_getElem? (i := 394) (by decide +kernel)) (by decide +kernel)) (tb_in (List.mem_of_getElem? (i := 402) (by decide +kernel)) (by decide +kernel)) (tb_in (List.mem_of_getElem? (i := 398) (by decide +kernel)) (by decide +kernel)) (tb_in (List.mem_of_getElem? (i := 93) (by decide +kernel)) (by decide +kernel)) (tb_in (List.mem_of_getElem? (i := 399) (by decide +kernel)) (by decide +kernel)) (tb_in (List.mem_of_getElem? (i := 410) (by decide +kernel)) (by decide +kernel)) (by decide +kernel)
theorem sX11_141_4 : gSiteU RX11 "FoldedInHalf$Back" "FoldedInHalf$Strip" ⟨"FoldedInHalf$Strip", "creaseCount", "()J"⟩ yX2_creaseCount cX2_creaseCount 1 (some .long) 141 0 := gSiteU.ovr (b0 := cX9_creaseCount) (m0 := 1) (r0 := (some .long)) (tb_in (List.mem_of_getElem? (i := 393) (by decide +kernel)) (by decide +kernel)) (tb_in (List.mem_of_getElem? (i := 396) (by decide +kernel)) (by decide +kernel)) (tb_in (List.mem_of_getElem? (i := 394) (by decide +kernel)) (by decide +kernel)) (tb_in (List.mem_of_getElem? (i := 397) (by decide +kernel)) (by decide +kernel)) (tb_in (List.mem_of_getElem? (i := 398) (by decide +kernel)) (by decide +kernel)) (tb_in (List.mem_of_getElem? (i := 93) (by decide +kernel)) (by decide +kernel)) (tb_in (List.mem_of_getElem? (i := 399) (by decide +kernel)) (by decide +kernel)) (tb_in (List.mem_of_getElem? (i := 410) (by decide +kernel)) (by decide +kernel)) (by decide +kernel)
theorem sX11_141_5 : gSiteU RX11 "FoldedInHalf$Glass" "FoldedInHalf$Strip" ⟨"FoldedInHalf$Strip", "creaseCount", "()J"⟩ yX9_creaseCount cX9_creaseCount 1 (some .long) 141 0 := gSiteU.inh (tb_in (List.mem_of_getElem? (i := 393) (by decide +kernel)) (by decide +kernel)) (tb_in (List.mem_of_getElem? (i := 396) (by decide +kernel)) (by decide +kernel)) (tb_in (List.mem_of_getElem? (i := 403) (by decide +kernel)) (by decide +kernel)) (tb_in (List.mem_of_getElem? (i := 394) (by decide +kernel)) (by decide +kernel)) (tb_in (List.mem_of_getElem? (i := 90) (by decide +kernel)) (by decide +kernel)) (tb_in (List.mem_of_getElem? (i := 410) (by decide +kernel)) (by decide +kernel)) rfl (by decide +kernel)
theorem sX11_141_6 : gSiteU RX11 "FoldedInHalf$Left" "FoldedInHalf$Strip" ⟨"FoldedInHalf$Strip", "creaseCount", "()J"⟩ yX9_creaseCount cX9_creaseCount 1 (some .long) 141 0 := gSiteU.inh (tb_in (List.mem_of_getElem? (i := 393) (by decide +kernel)) (by decide +kernel)) (tb_in (List.mem_of_getElem? (i := 396) (by decide +kernel)) (by decide +kernel)) (tb_in (List.mem_of_getElem? (i := 404) (by decide +kernel)) (by decide +kernel)) (tb_in (List.mem_of_getElem? (i := 394) (by decide +kernel)) (by decide +kernel)) (tb_in (List.mem_of_getElem? (i := 90) (by decide +kernel)) (by decide +kernel)) (tb_in (List.mem_of_getElem? (i := 410) (by decide +kernel)) (by decide +kernel)) rfl (by decide +kernel)
theorem sX11_141_0 : gSite RX11 yX9_creaseCount cX9_creaseCount 1 (some .long) 141 0 := gSite.of (tb_in (List.mem_of_getElem? (i := 393) (by decide +kernel)) (by decide +kernel)) (tb_in (List.mem_of_getElem? (i := 394) (by decide +kernel)) (by decide +kernel)) (tb_in (List.mem_of_getElem? (i := 395) (by decide +kernel)) (by decide +kernel)) (tb_in (List.mem_of_getElem? (i := 90) (by decide +kernel)) (by decide +kernel)) (tb_in (List.mem_of_getElem? (i := 410) (by decide +kernel)) (by decide +kernel)) (by decide +kernel)
theorem xv_X11_141 {Γ : gT} {cc : ByteArray} {nL : Nat} {D : gD} {ca : Nat → ClassId} {rm : Room} {ret : Option FieldType} {mc ms : Nat} {Post : Option Value → va_W → Prop} {cn sn pc : Nat} {lv : List (Nat × Value)} {st : List Value} {o : Nat → Nat} {L : List Nat} {S : gS} (C0 : Cx Γ cc RX11 nL D (tyW ca) rm ret mc ms Post) {q0 : Nat} (hq0 : q0 ∈ L)  (I : gI) (J : gJ) (R : gR) (L0 : List Nat) (S0 : gS) (Q : Int64 → Prop) (h : wv_creaseCount q0  I J R L S Q) (hroom : ∀ l maxL : Nat, l ≤ 1 → maxL ≤ 81 → gRm (rl l) rm maxL 0 0 cn sn) (hst : (st.map fun v => v.category).sum ≤ 8) (st0 : List Value) (hs0 : st0 = ([] : List Value).reverse ++ .ref q0 :: st) (hd : decode cc pc = .ok (.invokevirtual 141, 3)) (k : ∀ (r : Int64) , Q r  → G Γ cn sn (pc + 3) lv (.long r :: st) (cX ca o I J R L S)) : G Γ cn sn pc lv st0 (cX ca o I J R L S) := by
  unfold wv_creaseCount at h
  by_cases h1 : sC (S q0) = 1
  · exact x_callU C0 (wX9_k_creaseCount hq0   I J R L S Q (h.1 h1)) sX11_141_1 (rcv_1 hq0 h1) (hroom _ _ (by decide) (by decide)) rfl hst st0 hs0 hd (py_l k)
  replace h := h.2 h1
  by_cases h2 : sC (S q0) = 2
  · exact x_callU C0 (wX10_k_creaseCount hq0 h2   I J R L S Q (h.1 h2)) sX11_141_2 (rcv_2 hq0 h2) (hroom _ _ (by decide) (by decide)) rfl hst st0 hs0 hd (py_l k)
  replace h := h.2 h2
  by_cases h3 : sC (S q0) = 3
  · exact x_callU C0 (wX2_k_creaseCount hq0 (Or.inl h3)   I J R L S Q (h.1 h3)) sX11_141_3 (rcv_3 hq0 h3) (hroom _ _ (by decide) (by decide)) rfl hst st0 hs0 hd (py_l k)
  replace h := h.2 h3
  by_cases h4 : sC (S q0) = 4
  · exact x_callU C0 (wX2_k_creaseCount hq0 (Or.inr h4)   I J R L S Q (h.1 h4)) sX11_141_4 (rcv_4 hq0 h4) (hroom _ _ (by decide) (by decide)) rfl hst st0 hs0 hd (py_l k)
  replace h := h.2 h4
  by_cases h5 : sC (S q0) = 5
  · exact x_callU C0 (wX9_k_creaseCount hq0   I J R L S Q (h.1 h5)) sX11_141_5 (rcv_5 hq0 h5) (hroom _ _ (by decide) (by decide)) rfl hst st0 hs0 hd (py_l k)
  replace h := h.2 h5
  by_cases h6 : sC (S q0) = 6
  · exact x_callU C0 (wX9_k_creaseCount hq0   I J R L S Q (h.1 h6)) sX11_141_6 (rcv_6 hq0 h6) (hroom _ _ (by decide) (by decide)) rfl hst st0 hs0 hd (py_l k)
  replace h := h.2 h6
  exact x_callV C0 (wX9_k_creaseCount hq0   I J R L S Q h) sX11_141_0 (rcv_0 hq0 h1 h2 h3 h4 h5 h6) (hroom _ _ (by decide) (by decide)) rfl hst st0 hs0 hd (py_l k)
set_option maxRecDepth 100000 in
theorem wX11_creases_g {Γ : gT} {D : gD} {ca : Nat → ClassId} {o : Nat → Nat} {I : gI} {J : gJ} {R : gR} {L : List Nat} {S : gS} {Q : Int64 → gI → gJ → gR → Prop} (v1 : Int32) (C : Cx Γ cX11_creases RX11 2 D (tyW ca) (rl 2) (some .long) 0 0 (PXl ca o L S Q)) (h : wX11_creases v1 I J R L S Q) : G Γ 0 0 0 [(0, .ref (o 0)), (1, .int v1)] [] (cX ca o I J R L S) := by
  unfold wX11_creases at h
  refine g_aload_n C (i := 0) dX11_creases_0 rfl rfl ?_
  refine g_iload_n C (i := 1) dX11_creases_1 rfl rfl ?_
  refine x_callV C (wX11_k_isStrip v1 I J R L S _ h) sX11_118 rcv_main (rl_ok (by decide) (by decide)) rfl (Nat.le_of_ble_eq_true rfl) (st := []) _ rfl dX11_creases_2 (py_z (fun r1 h => ?_))
  refine g_zeq C 20 dX11_creases_5 rfl (fun c2 => ?_) (fun c2 => ?_)
  · replace h := h.1 c2
    refine g_aload_n C (i := 0) dX11_creases_20 rfl rfl ?_
    refine g_iconst_m1 C dX11_creases_21 ?_
    refine x_callV C (wX11_k_refuse (-1) I J R L S _ h) sX11_73 rcv_main (rl_ok (by decide) (by decide)) rfl (Nat.le_of_ble_eq_true rfl) (st := []) _ rfl dX11_creases_22 (px_i (fun r3 I4 J5 R6 h => ?_))
    refine g_i2l C dX11_creases_25 ?_
    exact g_ret_l C dX11_creases_26 (Nat.le_refl _) (Nat.le_refl _) ⟨_, _, _, _, rfl, rfl, h⟩
  · replace h := h.2 c2
    refine g_aload_n C (i := 0) dX11_creases_8 rfl rfl ?_
    refine x_get_X11_11 C dX11_creases_9 ?_
    refine g_iload_n C (i := 1) dX11_creases_12 rfl rfl ?_
    obtain ⟨h7, h⟩ := h
    refine x_aald C (k := 0) (by decide) h7 dX11_creases_13 ?_
    obtain ⟨z8, h9, h10, h⟩ := h
    refine g_eqs (st' := [.ref z8]) (by rw [h9]; rfl) rfl ?_
    refine xv_X11_141 C h10 I J R L S _ h (fun l m h1 h2 => rl_ok (by omega) h2) (Nat.le_of_ble_eq_true rfl) (st := []) _ rfl dX11_creases_14 (fun r11 h => ?_)
    refine g_goto C 26 dX11_creases_17 rfl ?_
    exact g_ret_l C dX11_creases_26 (Nat.le_refl _) (Nat.le_refl _) ⟨_, _, _, _, rfl, rfl, h⟩
theorem wX11_k_creases {D : gD} {ca : Nat → ClassId} {o : Nat → Nat} {L : List Nat} {S : gS} (v1 : Int32) (I : gI) (J : gJ) (R : gR) (L0 : List Nat) (S0 : gS) (Q : Int64 → gI → gJ → gR → Prop) (h : wX11_creases v1 I J R L S Q) : Ct yX11_creases cX11_creases 2 (some .long) (rl 2) D (tyW ca) 0 0 [.ref (o 0), .int v1] (cX ca o I J R L S) (PXl ca o L S Q) := ct_of (rm := (rl 2)) (by decide +kernel) (Nat.le_of_ble_eq_true rfl) (fun Γ C => wX11_creases_g v1 C h)
theorem sX11_161 : gSite RX11 yX8_asInt cX8_asInt 2 (some .int) 161 1 := gSite.of (tb_in (List.mem_of_getElem? (i := 499) (by decide +kernel)) (by decide +kernel)) (tb_in (List.mem_of_getElem? (i := 500) (by decide +kernel)) (by decide +kernel)) (tb_in (List.mem_of_getElem? (i := 501) (by decide +kernel)) (by decide +kernel)) (tb_in (List.mem_of_getElem? (i := 86) (by decide +kernel)) (by decide +kernel)) (tb_in (List.mem_of_getElem? (i := 502) (by decide +kernel)) (by decide +kernel)) (by decide +kernel)
set_option maxRecDepth 100000 in
theorem wX11_letterAsked_gc37 {Γ : gT} {D : gD} {ca : Nat → ClassId} {o : Nat → Nat} {Q : Int32 → Prop} {I : gI} {J : gJ} {R : gR} {L : List Nat} {S : gS} {n0 : Nat} (hn0 : n0 < 8) (C : Cx Γ cX11_letterAsked RX11 5 D (tyW ca) (rl 2) (some .int) 0 0 (PYi ca o I J R L S Q)) (v2 : Int32) (s0 : Int32) (h : wX11_letterAsked_c37 n0 I J R L S v2 s0 Q) : G Γ 0 0 37 [(2, .int v2)] [.int s0] (cX ca o I J R L S) := by
  unfold wX11_letterAsked_c37 at h
  refine g_istore C (i := 4) [(2, .int v2), (4, .int s0)] dX11_letterAsked_37 (by decide) rfl ?_
  refine g_iload C (i := 4) dX11_letterAsked_39 rfl ?_
  refine g_if_eq C 48 dX11_letterAsked_41 rfl (fun c1 => ?_) (fun c1 => ?_)
  · replace h := h.1 c1
    refine g_iconst_1 C dX11_letterAsked_48 ?_
    refine g_iload_n C (i := 2) dX11_letterAsked_49 rfl rfl ?_
    refine g_isub C dX11_letterAsked_50 ?_
    exact g_ret_i C dX11_letterAsked_51 (Nat.le_refl _) (Nat.le_refl _) ⟨_, rfl, rfl, h⟩
  · replace h := h.2 c1
    refine g_iload_n C (i := 2) dX11_letterAsked_44 rfl rfl ?_
    refine g_goto C 51 dX11_letterAsked_45 rfl ?_
    exact g_ret_i C dX11_letterAsked_51 (Nat.le_refl _) (Nat.le_refl _) ⟨_, rfl, rfl, h⟩
set_option maxRecDepth 100000 in
theorem wX11_letterAsked_gc19 {Γ : gT} {D : gD} {ca : Nat → ClassId} {o : Nat → Nat} {Q : Int32 → Prop} {I : gI} {J : gJ} {R : gR} {L : List Nat} {S : gS} {n0 : Nat} (hn0 : n0 < 8) (C : Cx Γ cX11_letterAsked RX11 5 D (tyW ca) (rl 2) (some .int) 0 0 (PYi ca o I J R L S Q)) (v1 : Int32) (v2 : Int32) (h : wX11_letterAsked_c19 n0 I J R L S v1 v2 Q) : G Γ 0 0 19 [(1, .int v1), (2, .int v2)] [] (cX ca o I J R L S) := by
  unfold wX11_letterAsked_c19 at h
  refine g_iload_n C (i := 1) dX11_letterAsked_19 rfl rfl ?_
  refine g_iload_n C (i := 1) dX11_letterAsked_20 rfl rfl ?_
  refine g_ineg C dX11_letterAsked_21 ?_
  refine g_iand C dX11_letterAsked_22 ?_
  refine g_istore_n C (i := 3) [(1, .int v1), (2, .int v2), (3, .int (v1 &&& (-v1)))] dX11_letterAsked_23 rfl (by decide) rfl ?_
  refine g_iload_n C (i := 1) dX11_letterAsked_24 rfl rfl ?_
  refine g_iload_n C (i := 3) dX11_letterAsked_25 rfl rfl ?_
  refine g_iconst_1 C dX11_letterAsked_26 ?_
  refine g_ishl C dX11_letterAsked_27 ?_
  refine g_iand C dX11_letterAsked_28 ?_
  refine g_if_ne C 36 dX11_letterAsked_29 rfl (fun c1 => ?_) (fun c1 => ?_)
  · replace h := h.1 c1
    refine g_iconst_0 C dX11_letterAsked_36 ?_
    exact g_weak [1] rfl (Nat.le_refl _) (Nat.le_refl _) (wX11_letterAsked_gc37 hn0 C  v2 0  h)
  · replace h := h.2 c1
    refine g_iconst_1 C dX11_letterAsked_32 ?_
    refine g_goto C 37 dX11_letterAsked_33 rfl ?_
    exact g_weak [1] rfl (Nat.le_refl _) (Nat.le_refl _) (wX11_letterAsked_gc37 hn0 C  v2 1  h)
set_option maxRecDepth 100000 in
theorem wX11_letterAsked_g {Γ : gT} {D : gD} {ca : Nat → ClassId} {o : Nat → Nat} {I : gI} {J : gJ} {R : gR} {L : List Nat} {S : gS} {Q : Int32 → Prop} {n0 : Nat} (hn0 : n0 < 8) (v1 : Int32) (C : Cx Γ cX11_letterAsked RX11 5 D (tyW ca) (rl 2) (some .int) 0 0 (PYi ca o I J R L S Q)) (h : wX11_letterAsked n0 v1 I J R L S Q) : G Γ 0 0 0 [(0, .ref (o (20 + n0))), (1, .int v1)] [] (cX ca o I J R L S) := by
  unfold wX11_letterAsked at h
  refine g_aload_n C (i := 0) dX11_letterAsked_0 rfl rfl ?_
  refine g_iload_n C (i := 1) dX11_letterAsked_1 rfl rfl ?_
  refine g_iconst_1 C dX11_letterAsked_2 ?_
  refine g_isub C dX11_letterAsked_3 ?_
  refine x_callV C (wX8_k_asInt hn0 (v1 - 1) I J R L S _ h) sX11_161 (rcv_shelf (s := n0) hn0) (rl_ok (by decide) (by decide)) rfl (Nat.le_of_ble_eq_true rfl) (st := []) _ rfl dX11_letterAsked_4 (py_i (fun r1 h => ?_))
  refine g_istore_n C (i := 2) [(0, .ref (o (20 + n0))), (1, .int v1), (2, .int r1)] dX11_letterAsked_7 rfl (by decide) rfl ?_
  refine g_iload_n C (i := 2) dX11_letterAsked_8 rfl rfl ?_
  refine g_if_eq C 19 dX11_letterAsked_9 rfl (fun c2 => ?_) (fun c2 => ?_)
  · replace h := h.1 c2
    exact g_weak [1, 2] rfl (Nat.le_refl _) (Nat.le_refl _) (wX11_letterAsked_gc19 hn0 C  v1 r1  h)
  · replace h := h.2 c2
    refine g_iload_n C (i := 2) dX11_letterAsked_12 rfl rfl ?_
    refine g_iconst_1 C dX11_letterAsked_13 ?_
    refine g_icmp_eq C 19 dX11_letterAsked_14 rfl (fun c3 => ?_) (fun c3 => ?_)
    · replace h := h.1 c3
      exact g_weak [1, 2] rfl (Nat.le_refl _) (Nat.le_refl _) (wX11_letterAsked_gc19 hn0 C  v1 r1  h)
    · replace h := h.2 c3
      refine g_iconst_m1 C dX11_letterAsked_17 ?_
      exact g_ret_i C dX11_letterAsked_18 (Nat.le_refl _) (Nat.le_refl _) ⟨_, rfl, rfl, h⟩
theorem wX11_k_letterAsked {D : gD} {ca : Nat → ClassId} {o : Nat → Nat} {L : List Nat} {S : gS} {n0 : Nat} (hn0 : n0 < 8) (v1 : Int32) (I : gI) (J : gJ) (R : gR) (L0 : List Nat) (S0 : gS) (Q : Int32 → Prop) (h : wX11_letterAsked n0 v1 I J R L S Q) : Ct yX11_letterAsked cX11_letterAsked 5 (some .int) (rl 2) D (tyW ca) 0 0 [.ref (o (20 + n0)), .int v1] (cX ca o I J R L S) (PYi ca o I J R L S Q) := ct_of (rm := (rl 2)) (by decide +kernel) (Nat.le_of_ble_eq_true rfl) (fun Γ C => wX11_letterAsked_g hn0 v1 C h)
theorem sX11_323 : gSite RX11 yX11_clearShelvesOfLostStrips cX11_clearShelvesOfLostStrips 2 none 323 0 := gSite.of (tb_in (List.mem_of_getElem? (i := 1082) (by decide +kernel)) (by decide +kernel)) (tb_in (List.mem_of_getElem? (i := 1084) (by decide +kernel)) (by decide +kernel)) (tb_in (List.mem_of_getElem? (i := 26) (by decide +kernel)) (by decide +kernel)) (tb_in (List.mem_of_getElem? (i := 78) (by decide +kernel)) (by decide +kernel)) (tb_in (List.mem_of_getElem? (i := 1085) (by decide +kernel)) (by decide +kernel)) (by decide +kernel)
set_option maxRecDepth 100000 in
theorem wX11_drop_g {Γ : gT} {D : gD} {ca : Nat → ClassId} {o : Nat → Nat} {I : gI} {J : gJ} {R : gR} {L : List Nat} {S : gS} {Q : Int32 → gI → gJ → gR → Prop} (C : Cx Γ cX11_drop RX11 1 D (tyW ca) (rl 2) (some .int) 0 0 (PXi ca o L S Q)) (h : wX11_drop I J R L S Q) : G Γ 0 0 0 [(0, .ref (o 0))] [] (cX ca o I J R L S) := by
  unfold wX11_drop at h
  refine g_aload_n C (i := 0) dX11_drop_0 rfl rfl ?_
  refine x_get_X11_164 C dX11_drop_1 ?_
  refine g_if_gt C 14 dX11_drop_4 rfl (fun c1 => ?_) (fun c1 => ?_)
  · replace h := h.1 c1
    refine g_aload_n C (i := 0) dX11_drop_14 rfl rfl ?_
    refine g_dup C dX11_drop_15 rfl ?_
    refine x_get_X11_164 C dX11_drop_16 ?_
    refine g_iconst_1 C dX11_drop_19 ?_
    refine g_isub C dX11_drop_20 ?_
    refine x_put_X11_164 C dX11_drop_21 ?_
    refine x_nmI _ (fun I2 e3 => ?_)
    replace h := h I2 e3
    refine g_aload_n C (i := 0) dX11_drop_24 rfl rfl ?_
    refine x_get_X11_11 C dX11_drop_25 ?_
    refine g_aload_n C (i := 0) dX11_drop_28 rfl rfl ?_
    refine x_get_X11_164 C dX11_drop_29 ?_
    refine g_null C dX11_drop_32 ?_
    obtain ⟨h4, h⟩ := h
    refine x_aast C (k := 0) (r := none) (by decide) (fun _ z => by cases z) h4 dX11_drop_33 ?_
    refine x_nmR _ (fun R5 e6 => ?_)
    replace h := h R5 e6
    refine g_aload_n C (i := 0) dX11_drop_34 rfl rfl ?_
    refine x_callV C (wX11_k_clearShelvesOfLostStrips I2 J R5 L S _ h) sX11_323 rcv_main (rl_ok (by decide) (by decide)) rfl (Nat.le_of_ble_eq_true rfl) (st := []) _ rfl dX11_drop_35 (px_v (fun I8 J9 R10 h => ?_))
    refine g_aload_n C (i := 0) dX11_drop_38 rfl rfl ?_
    refine x_get_X11_164 C dX11_drop_39 ?_
    exact g_ret_i C dX11_drop_42 (Nat.le_refl _) (Nat.le_refl _) ⟨_, _, _, _, rfl, rfl, h⟩
  · replace h := h.2 c1
    refine g_aload_n C (i := 0) dX11_drop_7 rfl rfl ?_
    refine g_bipush C (v := (-6)) dX11_drop_8 (by decide) ?_
    refine x_callV C (wX11_k_refuse (-6) I J R L S _ h) sX11_73 rcv_main (rl_ok (by decide) (by decide)) rfl (Nat.le_of_ble_eq_true rfl) (st := []) _ rfl dX11_drop_10 (px_i (fun r11 I12 J13 R14 h => ?_))
    exact g_ret_i C dX11_drop_13 (Nat.le_refl _) (Nat.le_refl _) ⟨_, _, _, _, rfl, rfl, h⟩
theorem wX11_k_drop {D : gD} {ca : Nat → ClassId} {o : Nat → Nat} {L : List Nat} {S : gS} (I : gI) (J : gJ) (R : gR) (L0 : List Nat) (S0 : gS) (Q : Int32 → gI → gJ → gR → Prop) (h : wX11_drop I J R L S Q) : Ct yX11_drop cX11_drop 1 (some .int) (rl 2) D (tyW ca) 0 0 [.ref (o 0)] (cX ca o I J R L S) (PXi ca o L S Q) := ct_of (rm := (rl 2)) (by decide +kernel) (Nat.le_of_ble_eq_true rfl) (fun Γ C => wX11_drop_g C h)
set_option maxRecDepth 100000 in
theorem wX11_restore_g {Γ : gT} {D : gD} {ca : Nat → ClassId} {o : Nat → Nat} {I : gI} {J : gJ} {R : gR} {L : List Nat} {S : gS} {Q : Int32 → gI → gJ → gR → Prop} (C : Cx Γ cX11_restore RX11 1 D (tyW ca) (rl 2) (some .int) 0 0 (PXi ca o L S Q)) (h : wX11_restore I J R L S Q) : G Γ 0 0 0 [(0, .ref (o 0))] [] (cX ca o I J R L S) := by
  unfold wX11_restore at h
  refine g_aload_n C (i := 0) dX11_restore_0 rfl rfl ?_
  refine x_get_X11_18 C dX11_restore_1 ?_
  refine g_iconst_m1 C dX11_restore_4 ?_
  refine g_icmp_ne C 15 dX11_restore_5 rfl (fun c1 => ?_) (fun c1 => ?_)
  · replace h := h.1 c1
    refine g_aload_n C (i := 0) dX11_restore_15 rfl rfl ?_
    refine x_get_X11_15 C dX11_restore_16 ?_
    refine g_aload_n C (i := 0) dX11_restore_19 rfl rfl ?_
    refine x_get_X11_11 C dX11_restore_20 ?_
    refine x_callS C (wX11_k_copyStrips (by decide) (by decide) I J R L S _ h) sX11_196 (rl_ok (by decide) (by decide)) rfl (Nat.le_of_ble_eq_true rfl) (st := []) _ rfl dX11_restore_23 (px_v (fun I3 J4 R5 h => ?_))
    refine g_aload_n C (i := 0) dX11_restore_26 rfl rfl ?_
    refine g_aload_n C (i := 0) dX11_restore_27 rfl rfl ?_
    refine x_get_X11_18 C dX11_restore_28 ?_
    refine x_put_X11_164 C dX11_restore_31 ?_
    refine x_nmI _ (fun I6 e7 => ?_)
    replace h := h I6 e7
    refine g_aload_n C (i := 0) dX11_restore_34 rfl rfl ?_
    refine x_callV C (wX11_k_clearShelvesOfLostStrips I6 J4 R5 L S _ h) sX11_323 rcv_main (rl_ok (by decide) (by decide)) rfl (Nat.le_of_ble_eq_true rfl) (st := []) _ rfl dX11_restore_35 (px_v (fun I9 J10 R11 h => ?_))
    refine g_aload_n C (i := 0) dX11_restore_38 rfl rfl ?_
    refine x_get_X11_164 C dX11_restore_39 ?_
    exact g_ret_i C dX11_restore_42 (Nat.le_refl _) (Nat.le_refl _) ⟨_, _, _, _, rfl, rfl, h⟩
  · replace h := h.2 c1
    refine g_aload_n C (i := 0) dX11_restore_8 rfl rfl ?_
    refine g_bipush C (v := (-6)) dX11_restore_9 (by decide) ?_
    refine x_callV C (wX11_k_refuse (-6) I J R L S _ h) sX11_73 rcv_main (rl_ok (by decide) (by decide)) rfl (Nat.le_of_ble_eq_true rfl) (st := []) _ rfl dX11_restore_11 (px_i (fun r12 I13 J14 R15 h => ?_))
    exact g_ret_i C dX11_restore_14 (Nat.le_refl _) (Nat.le_refl _) ⟨_, _, _, _, rfl, rfl, h⟩
theorem wX11_k_restore {D : gD} {ca : Nat → ClassId} {o : Nat → Nat} {L : List Nat} {S : gS} (I : gI) (J : gJ) (R : gR) (L0 : List Nat) (S0 : gS) (Q : Int32 → gI → gJ → gR → Prop) (h : wX11_restore I J R L S Q) : Ct yX11_restore cX11_restore 1 (some .int) (rl 2) D (tyW ca) 0 0 [.ref (o 0)] (cX ca o I J R L S) (PXi ca o L S Q) := ct_of (rm := (rl 2)) (by decide +kernel) (Nat.le_of_ble_eq_true rfl) (fun Γ C => wX11_restore_g C h)
theorem sX11_339 : gSite RX11 yJ4_length_8abf5 cJ4_length_8abf5 1 (some .int) 339 0 := gSite.of (tb_in (List.mem_of_getElem? (i := 1255) (by decide +kernel)) (by decide +kernel)) (tb_in (List.mem_of_getElem? (i := 1256) (by decide +kernel)) (by decide +kernel)) (tb_in (List.mem_of_getElem? (i := 1257) (by decide +kernel)) (by decide +kernel)) (tb_in (List.mem_of_getElem? (i := 80) (by decide +kernel)) (by decide +kernel)) (tb_in (List.mem_of_getElem? (i := 1258) (by decide +kernel)) (by decide +kernel)) (by decide +kernel)
theorem sX11_349 : gSite RX11 yX11_onesOfAll cX11_onesOfAll 3 (some .int) 349 0 := gSite.of (tb_in (List.mem_of_getElem? (i := 1288) (by decide +kernel)) (by decide +kernel)) (tb_in (List.mem_of_getElem? (i := 1290) (by decide +kernel)) (by decide +kernel)) (tb_in (List.mem_of_getElem? (i := 28) (by decide +kernel)) (by decide +kernel)) (tb_in (List.mem_of_getElem? (i := 78) (by decide +kernel)) (by decide +kernel)) (tb_in (List.mem_of_getElem? (i := 1291) (by decide +kernel)) (by decide +kernel)) (by decide +kernel)
theorem sX11_346 : gSite RX11 yX11_levelsOfAll cX11_levelsOfAll 3 (some .int) 346 0 := gSite.of (tb_in (List.mem_of_getElem? (i := 1284) (by decide +kernel)) (by decide +kernel)) (tb_in (List.mem_of_getElem? (i := 1286) (by decide +kernel)) (by decide +kernel)) (tb_in (List.mem_of_getElem? (i := 27) (by decide +kernel)) (by decide +kernel)) (tb_in (List.mem_of_getElem? (i := 78) (by decide +kernel)) (by decide +kernel)) (tb_in (List.mem_of_getElem? (i := 1287) (by decide +kernel)) (by decide +kernel)) (by decide +kernel)
set_option maxRecDepth 100000 in
theorem wX11_status_g {Γ : gT} {D : gD} {ca : Nat → ClassId} {o : Nat → Nat} {I : gI} {J : gJ} {R : gR} {L : List Nat} {S : gS} {Q : Int32 → Prop} (v1 : Int32) (C : Cx Γ cX11_status RX11 2 D (tyW ca) (rl 2) (some .int) 0 0 (PYi ca o I J R L S Q)) (h : wX11_status v1 I J R L S Q) : G Γ 0 0 0 [(0, .ref (o 0)), (1, .int v1)] [] (cX ca o I J R L S) := by
  unfold wX11_status at h
  refine g_iload_n C (i := 1) dX11_status_0 rfl rfl ?_
  refine g_if_ne C 9 dX11_status_1 rfl (fun c1 => ?_) (fun c1 => ?_)
  · replace h := h.1 c1
    refine g_iload_n C (i := 1) dX11_status_9 rfl rfl ?_
    refine g_iconst_1 C dX11_status_10 ?_
    refine g_icmp_ne C 19 dX11_status_11 rfl (fun c2 => ?_) (fun c2 => ?_)
    · replace h := h.1 c2
      refine g_iload_n C (i := 1) dX11_status_19 rfl rfl ?_
      refine g_iconst_2 C dX11_status_20 ?_
      refine g_icmp_ne C 29 dX11_status_21 rfl (fun c3 => ?_) (fun c3 => ?_)
      · replace h := h.1 c3
        refine g_iload_n C (i := 1) dX11_status_29 rfl rfl ?_
        refine g_iconst_3 C dX11_status_30 ?_
        refine g_icmp_ne C 42 dX11_status_31 rfl (fun c4 => ?_) (fun c4 => ?_)
        · replace h := h.1 c4
          refine g_iload_n C (i := 1) dX11_status_42 rfl rfl ?_
          refine g_bipush C (v := 10) dX11_status_43 (by decide) ?_
          refine g_icmp_le C 70 dX11_status_45 rfl (fun c5 => ?_) (fun c5 => ?_)
          · replace h := h.1 c5
            refine g_iconst_m1 C dX11_status_70 ?_
            exact g_ret_i C dX11_status_71 (Nat.le_refl _) (Nat.le_refl _) ⟨_, rfl, rfl, h⟩
          · replace h := h.2 c5
            refine g_iload_n C (i := 1) dX11_status_48 rfl rfl ?_
            refine g_bipush C (v := 10) dX11_status_49 (by decide) ?_
            refine g_isub C dX11_status_51 ?_
            refine g_aload_n C (i := 0) dX11_status_52 rfl rfl ?_
            refine x_get_X11_28 C dX11_status_53 ?_
            refine x_alen C (k := 5) (v := 8) (by decide) rfl dX11_status_56 ?_
            refine g_icmp_ge C 70 dX11_status_57 rfl (fun c6 => ?_) (fun c6 => ?_)
            · replace h := h.1 c6
              refine g_iconst_m1 C dX11_status_70 ?_
              exact g_ret_i C dX11_status_71 (Nat.le_refl _) (Nat.le_refl _) ⟨_, rfl, rfl, h⟩
            · replace h := h.2 c6
              refine g_aload_n C (i := 0) dX11_status_60 rfl rfl ?_
              refine x_get_X11_28 C dX11_status_61 ?_
              refine g_iload_n C (i := 1) dX11_status_64 rfl rfl ?_
              refine g_bipush C (v := 10) dX11_status_65 (by decide) ?_
              refine g_isub C dX11_status_67 ?_
              obtain ⟨h7, h⟩ := h
              refine x_iald C (k := 5) (by decide) h7 dX11_status_68 ?_
              exact g_ret_i C dX11_status_69 (Nat.le_refl _) (Nat.le_refl _) ⟨_, rfl, rfl, h⟩
        · replace h := h.2 c4
          refine g_aload_n C (i := 0) dX11_status_34 rfl rfl ?_
          refine x_get_X11_38 C dX11_status_35 ?_
          refine x_callV C (wJ4_k_length_8abf5 I J R L S _ h) sX11_339 rcv_sb (rl_ok (by decide) (by decide)) rfl (Nat.le_of_ble_eq_true rfl) (st := []) _ rfl dX11_status_38 (py_i (fun r8 h => ?_))
          exact g_ret_i C dX11_status_41 (Nat.le_refl _) (Nat.le_refl _) ⟨_, rfl, rfl, h⟩
      · replace h := h.2 c3
        refine g_aload_n C (i := 0) dX11_status_24 rfl rfl ?_
        refine x_callV C (wX11_k_onesOfAll I J R L S _ h) sX11_349 rcv_main (rl_ok (by decide) (by decide)) rfl (Nat.le_of_ble_eq_true rfl) (st := []) _ rfl dX11_status_25 (py_i (fun r9 h => ?_))
        exact g_ret_i C dX11_status_28 (Nat.le_refl _) (Nat.le_refl _) ⟨_, rfl, rfl, h⟩
    · replace h := h.2 c2
      refine g_aload_n C (i := 0) dX11_status_14 rfl rfl ?_
      refine x_callV C (wX11_k_levelsOfAll I J R L S _ h) sX11_346 rcv_main (rl_ok (by decide) (by decide)) rfl (Nat.le_of_ble_eq_true rfl) (st := []) _ rfl dX11_status_15 (py_i (fun r10 h => ?_))
      exact g_ret_i C dX11_status_18 (Nat.le_refl _) (Nat.le_refl _) ⟨_, rfl, rfl, h⟩
  · replace h := h.2 c1
    refine g_aload_n C (i := 0) dX11_status_4 rfl rfl ?_
    refine x_get_X11_164 C dX11_status_5 ?_
    exact g_ret_i C dX11_status_8 (Nat.le_refl _) (Nat.le_refl _) ⟨_, rfl, rfl, h⟩
theorem wX11_k_status {D : gD} {ca : Nat → ClassId} {o : Nat → Nat} {L : List Nat} {S : gS} (v1 : Int32) (I : gI) (J : gJ) (R : gR) (L0 : List Nat) (S0 : gS) (Q : Int32 → Prop) (h : wX11_status v1 I J R L S Q) : Ct yX11_status cX11_status 2 (some .int) (rl 2) D (tyW ca) 0 0 [.ref (o 0), .int v1] (cX ca o I J R L S) (PYi ca o I J R L S Q) := ct_of (rm := (rl 2)) (by decide +kernel) (Nat.le_of_ble_eq_true rfl) (fun Γ C => wX11_status_g v1 C h)
set_option maxRecDepth 100000 in
theorem wX11_noFirstElements_g {Γ : gT} {D : gD} {ca : Nat → ClassId} {o : Nat → Nat} {I : gI} {J : gJ} {R : gR} {L : List Nat} {S : gS} {Q : Int32 → Prop} (v1 : Int32) (v2 : Int32) (C : Cx Γ cX11_noFirstElements RX11 4 D (tyW ca) (rl 2) (some .int) 0 0 (PYi ca o I J R L S Q)) (h : wX11_noFirstElements v1 v2 I J R L S Q) : G Γ 0 0 0 [(0, .ref (o 0)), (1, .int v1), (2, .int v2)] [] (cX ca o I J R L S) := by
  unfold wX11_noFirstElements at h
  refine g_aload_n C (i := 0) dX11_noFirstElements_0 rfl rfl ?_
  refine g_iload_n C (i := 1) dX11_noFirstElements_1 rfl rfl ?_
  refine x_callV C (wX11_k_noRow v1 I J R L S _ h) sX11_81 rcv_main (rl_ok (by decide) (by decide)) rfl (Nat.le_of_ble_eq_true rfl) (st := []) _ rfl dX11_noFirstElements_2 (py_i (fun r1 h => ?_))
  refine g_istore_n C (i := 3) [(0, .ref (o 0)), (1, .int v1), (2, .int v2), (3, .int r1)] dX11_noFirstElements_5 rfl (by decide) rfl ?_
  refine g_iload_n C (i := 3) dX11_noFirstElements_6 rfl rfl ?_
  refine g_if_eq C 12 dX11_noFirstElements_7 rfl (fun c2 => ?_) (fun c2 => ?_)
  · replace h := h.1 c2
    refine g_iload_n C (i := 2) dX11_noFirstElements_12 rfl rfl ?_
    refine g_if_ge C 19 dX11_noFirstElements_13 rfl (fun c3 => ?_) (fun c3 => ?_)
    · replace h := h.1 c3
      refine g_iload_n C (i := 2) dX11_noFirstElements_19 rfl rfl ?_
      refine g_aload_n C (i := 0) dX11_noFirstElements_20 rfl rfl ?_
      refine x_get_X11_24 C dX11_noFirstElements_21 ?_
      refine g_iload_n C (i := 1) dX11_noFirstElements_24 rfl rfl ?_
      obtain ⟨h4, h⟩ := h
      refine x_shelf C h4 dX11_noFirstElements_25 ?_
      refine x_get_X11_115 C (s := v1.toNatClampNeg) (vp_lt h4) dX11_noFirstElements_26 ?_
      refine g_icmp_le C 37 dX11_noFirstElements_29 rfl (fun c5 => ?_) (fun c5 => ?_)
      · replace h := h.1 c5
        refine g_iconst_0 C dX11_noFirstElements_37 ?_
        exact g_ret_i C dX11_noFirstElements_38 (Nat.le_refl _) (Nat.le_refl _) ⟨_, rfl, rfl, h⟩
      · replace h := h.2 c5
        refine g_bipush C (v := (-5)) dX11_noFirstElements_32 (by decide) ?_
        refine g_goto C 38 dX11_noFirstElements_34 rfl ?_
        exact g_ret_i C dX11_noFirstElements_38 (Nat.le_refl _) (Nat.le_refl _) ⟨_, rfl, rfl, h⟩
    · replace h := h.2 c3
      refine g_bipush C (v := (-4)) dX11_noFirstElements_16 (by decide) ?_
      exact g_ret_i C dX11_noFirstElements_18 (Nat.le_refl _) (Nat.le_refl _) ⟨_, rfl, rfl, h⟩
  · replace h := h.2 c2
    refine g_iload_n C (i := 3) dX11_noFirstElements_10 rfl rfl ?_
    exact g_ret_i C dX11_noFirstElements_11 (Nat.le_refl _) (Nat.le_refl _) ⟨_, rfl, rfl, h⟩
theorem wX11_k_noFirstElements {D : gD} {ca : Nat → ClassId} {o : Nat → Nat} {L : List Nat} {S : gS} (v1 : Int32) (v2 : Int32) (I : gI) (J : gJ) (R : gR) (L0 : List Nat) (S0 : gS) (Q : Int32 → Prop) (h : wX11_noFirstElements v1 v2 I J R L S Q) : Ct yX11_noFirstElements cX11_noFirstElements 4 (some .int) (rl 2) D (tyW ca) 0 0 [.ref (o 0), .int v1, .int v2] (cX ca o I J R L S) (PYi ca o I J R L S Q) := ct_of (rm := (rl 2)) (by decide +kernel) (Nat.le_of_ble_eq_true rfl) (fun Γ C => wX11_noFirstElements_g v1 v2 C h)
theorem sX1_68 : gSite RX1 yX1_timesOf cX1_timesOf 3 (some .int) 68 1 := gSite.of (tb_in (List.mem_of_getElem? (i := 956) (by decide +kernel)) (by decide +kernel)) (tb_in (List.mem_of_getElem? (i := 958) (by decide +kernel)) (by decide +kernel)) (tb_in (List.mem_of_getElem? (i := 20) (by decide +kernel)) (by decide +kernel)) (tb_in (List.mem_of_getElem? (i := 84) (by decide +kernel)) (by decide +kernel)) (tb_in (List.mem_of_getElem? (i := 959) (by decide +kernel)) (by decide +kernel)) (by decide +kernel)
set_option maxRecDepth 100000 in
theorem wX1_wentOnceAlongAll_gc70 {Γ : gT} {D : gD} {ca : Nat → ClassId} {o : Nat → Nat} {Q : Bool → Prop} {I : gI} {J : gJ} {R : gR} {L : List Nat} {S : gS} {n0 : Nat} (hn0 : n0 < 2) (C : Cx Γ cX1_wentOnceAlongAll RX1 6 D (tyW ca) (rl 2) (some .boolean) 0 0 (PYz ca o I J R L S Q)) {B3 : Int32 → Int32 → Prop} {B11 : Int32 → Int32 → Int32 → Prop} (hB3 : ∀ (v1 : Int32) (v2 : Int32) , B3 v1 v2 → G Γ 0 0 3 [(0, .ref (o (10 + n0))), (1, .int v1), (2, .int v2)] [] (cX ca o I J R L S)) (hB11 : ∀ (v1 : Int32) (v2 : Int32) (v3 : Int32) , B11 v1 v2 v3 → G Γ 0 0 11 [(0, .ref (o (10 + n0))), (1, .int v1), (2, .int v2), (3, .int v3)] [] (cX ca o I J R L S)) (v1 : Int32) (v2 : Int32) (v3 : Int32) (v4 : Int32) (s0 : Int32) (h : wX1_wentOnceAlongAll_c70 n0 I J R L S B3 B11 v1 v2 v3 v4 s0 Q) : G Γ 0 0 70 [(0, .ref (o (10 + n0))), (1, .int v1), (2, .int v2), (3, .int v3), (4, .int v4)] [.int s0] (cX ca o I J R L S) := by
  unfold wX1_wentOnceAlongAll_c70 at h
  refine g_istore C (i := 5) [(0, .ref (o (10 + n0))), (1, .int v1), (2, .int v2), (3, .int v3), (4, .int v4), (5, .int s0)] dX1_wentOnceAlongAll_70 (by decide) rfl ?_
  refine g_iload C (i := 4) dX1_wentOnceAlongAll_72 rfl ?_
  refine g_if_eq C 82 dX1_wentOnceAlongAll_74 rfl (fun c1 => ?_) (fun c1 => ?_)
  · replace h := h.1 c1
    refine g_iconst_0 C dX1_wentOnceAlongAll_82 ?_
    exact g_ret_z C false rfl dX1_wentOnceAlongAll_83 (Nat.le_refl _) (Nat.le_refl _) ⟨_, rfl, rfl, h⟩
  · replace h := h.2 c1
    refine g_iload C (i := 5) dX1_wentOnceAlongAll_77 rfl ?_
    refine g_if_ne C 84 dX1_wentOnceAlongAll_79 rfl (fun c2 => ?_) (fun c2 => ?_)
    · replace h := h.1 c2
      refine g_iinc C 1 [(0, .ref (o (10 + n0))), (1, .int v1), (2, .int v2), (3, .int (v3 + 1)), (4, .int v4), (5, .int s0)] dX1_wentOnceAlongAll_84 rfl (by decide) (by decide) rfl ?_
      refine g_goto C 11 dX1_wentOnceAlongAll_87 rfl ?_
      exact g_weak [0, 1, 2, 3] rfl (Nat.le_refl _) (Nat.le_refl _) (hB11 v1 v2 (v3 + 1)  h)
    · replace h := h.2 c2
      refine g_iconst_0 C dX1_wentOnceAlongAll_82 ?_
      exact g_ret_z C false rfl dX1_wentOnceAlongAll_83 (Nat.le_refl _) (Nat.le_refl _) ⟨_, rfl, rfl, h⟩
set_option maxRecDepth 100000 in
theorem wX1_wentOnceAlongAll_gc65 {Γ : gT} {D : gD} {ca : Nat → ClassId} {o : Nat → Nat} {Q : Bool → Prop} {I : gI} {J : gJ} {R : gR} {L : List Nat} {S : gS} {n0 : Nat} (hn0 : n0 < 2) (C : Cx Γ cX1_wentOnceAlongAll RX1 6 D (tyW ca) (rl 2) (some .boolean) 0 0 (PYz ca o I J R L S Q)) {B3 : Int32 → Int32 → Prop} {B11 : Int32 → Int32 → Int32 → Prop} (hB3 : ∀ (v1 : Int32) (v2 : Int32) , B3 v1 v2 → G Γ 0 0 3 [(0, .ref (o (10 + n0))), (1, .int v1), (2, .int v2)] [] (cX ca o I J R L S)) (hB11 : ∀ (v1 : Int32) (v2 : Int32) (v3 : Int32) , B11 v1 v2 v3 → G Γ 0 0 11 [(0, .ref (o (10 + n0))), (1, .int v1), (2, .int v2), (3, .int v3)] [] (cX ca o I J R L S)) (v1 : Int32) (v2 : Int32) (v3 : Int32) (v4 : Int32) (h : wX1_wentOnceAlongAll_c65 n0 I J R L S B3 B11 v1 v2 v3 v4 Q) : G Γ 0 0 65 [(0, .ref (o (10 + n0))), (1, .int v1), (2, .int v2), (3, .int v3), (4, .int v4)] [] (cX ca o I J R L S) := by
  unfold wX1_wentOnceAlongAll_c65 at h
  refine g_iconst_1 C dX1_wentOnceAlongAll_65 ?_
  refine g_goto C 70 dX1_wentOnceAlongAll_66 rfl ?_
  exact g_weak [0, 1, 2, 3, 4] rfl (Nat.le_refl _) (Nat.le_refl _) (wX1_wentOnceAlongAll_gc70 hn0 C hB3 hB11 v1 v2 v3 v4 1  h)
set_option maxRecDepth 100000 in
theorem wX1_wentOnceAlongAll_gc42 {Γ : gT} {D : gD} {ca : Nat → ClassId} {o : Nat → Nat} {Q : Bool → Prop} {I : gI} {J : gJ} {R : gR} {L : List Nat} {S : gS} {n0 : Nat} (hn0 : n0 < 2) (C : Cx Γ cX1_wentOnceAlongAll RX1 6 D (tyW ca) (rl 2) (some .boolean) 0 0 (PYz ca o I J R L S Q)) {B3 : Int32 → Int32 → Prop} {B11 : Int32 → Int32 → Int32 → Prop} (hB3 : ∀ (v1 : Int32) (v2 : Int32) , B3 v1 v2 → G Γ 0 0 3 [(0, .ref (o (10 + n0))), (1, .int v1), (2, .int v2)] [] (cX ca o I J R L S)) (hB11 : ∀ (v1 : Int32) (v2 : Int32) (v3 : Int32) , B11 v1 v2 v3 → G Γ 0 0 11 [(0, .ref (o (10 + n0))), (1, .int v1), (2, .int v2), (3, .int v3)] [] (cX ca o I J R L S)) (v1 : Int32) (v2 : Int32) (v3 : Int32) (s0 : Int32) (h : wX1_wentOnceAlongAll_c42 n0 I J R L S B3 B11 v1 v2 v3 s0 Q) : G Γ 0 0 42 [(0, .ref (o (10 + n0))), (1, .int v1), (2, .int v2), (3, .int v3)] [.int s0] (cX ca o I J R L S) := by
  unfold wX1_wentOnceAlongAll_c42 at h
  refine g_istore C (i := 4) [(0, .ref (o (10 + n0))), (1, .int v1), (2, .int v2), (3, .int v3), (4, .int s0)] dX1_wentOnceAlongAll_42 (by decide) rfl ?_
  refine g_iload_n C (i := 3) dX1_wentOnceAlongAll_44 rfl rfl ?_
  refine g_iload_n C (i := 1) dX1_wentOnceAlongAll_45 rfl rfl ?_
  refine g_icmp_eq C 65 dX1_wentOnceAlongAll_46 rfl (fun c1 => ?_) (fun c1 => ?_)
  · replace h := h.1 c1
    exact g_weak [0, 1, 2, 3, 4] rfl (Nat.le_refl _) (Nat.le_refl _) (wX1_wentOnceAlongAll_gc65 hn0 C hB3 hB11 v1 v2 v3 s0  h)
  · replace h := h.2 c1
    refine g_aload_n C (i := 0) dX1_wentOnceAlongAll_49 rfl rfl ?_
    refine g_iload_n C (i := 2) dX1_wentOnceAlongAll_50 rfl rfl ?_
    refine g_i2l C dX1_wentOnceAlongAll_51 ?_
    refine g_iload_n C (i := 3) dX1_wentOnceAlongAll_52 rfl rfl ?_
    refine g_i2l C dX1_wentOnceAlongAll_53 ?_
    refine g_iconst_1 C dX1_wentOnceAlongAll_54 ?_
    refine x_callS C (wX1_k_key v2.toInt64 v3.toInt64 1 I J R L S _ h) sX1_54 (rl_ok (by decide) (by decide)) rfl (Nat.le_of_ble_eq_true rfl) (st := [.ref (o (10 + n0))]) _ rfl dX1_wentOnceAlongAll_55 (py_i (fun r2 h => ?_))
    refine x_callV C (wX1_k_timesOf hn0 r2 I J R L S _ h) sX1_68 (rcv_bug (b := n0) hn0) (rl_ok (by decide) (by decide)) rfl (Nat.le_of_ble_eq_true rfl) (st := []) _ rfl dX1_wentOnceAlongAll_58 (py_i (fun r3 h => ?_))
    refine g_iconst_1 C dX1_wentOnceAlongAll_61 ?_
    refine g_icmp_ne C 69 dX1_wentOnceAlongAll_62 rfl (fun c4 => ?_) (fun c4 => ?_)
    · replace h := h.1 c4
      refine g_iconst_0 C dX1_wentOnceAlongAll_69 ?_
      exact g_weak [0, 1, 2, 3, 4] rfl (Nat.le_refl _) (Nat.le_refl _) (wX1_wentOnceAlongAll_gc70 hn0 C hB3 hB11 v1 v2 v3 s0 0  h)
    · replace h := h.2 c4
      exact g_weak [0, 1, 2, 3, 4] rfl (Nat.le_refl _) (Nat.le_refl _) (wX1_wentOnceAlongAll_gc65 hn0 C hB3 hB11 v1 v2 v3 s0  h)
set_option maxRecDepth 100000 in
theorem wX1_wentOnceAlongAll_gc37 {Γ : gT} {D : gD} {ca : Nat → ClassId} {o : Nat → Nat} {Q : Bool → Prop} {I : gI} {J : gJ} {R : gR} {L : List Nat} {S : gS} {n0 : Nat} (hn0 : n0 < 2) (C : Cx Γ cX1_wentOnceAlongAll RX1 6 D (tyW ca) (rl 2) (some .boolean) 0 0 (PYz ca o I J R L S Q)) {B3 : Int32 → Int32 → Prop} {B11 : Int32 → Int32 → Int32 → Prop} (hB3 : ∀ (v1 : Int32) (v2 : Int32) , B3 v1 v2 → G Γ 0 0 3 [(0, .ref (o (10 + n0))), (1, .int v1), (2, .int v2)] [] (cX ca o I J R L S)) (hB11 : ∀ (v1 : Int32) (v2 : Int32) (v3 : Int32) , B11 v1 v2 v3 → G Γ 0 0 11 [(0, .ref (o (10 + n0))), (1, .int v1), (2, .int v2), (3, .int v3)] [] (cX ca o I J R L S)) (v1 : Int32) (v2 : Int32) (v3 : Int32) (h : wX1_wentOnceAlongAll_c37 n0 I J R L S B3 B11 v1 v2 v3 Q) : G Γ 0 0 37 [(0, .ref (o (10 + n0))), (1, .int v1), (2, .int v2), (3, .int v3)] [] (cX ca o I J R L S) := by
  unfold wX1_wentOnceAlongAll_c37 at h
  refine g_iconst_1 C dX1_wentOnceAlongAll_37 ?_
  refine g_goto C 42 dX1_wentOnceAlongAll_38 rfl ?_
  exact g_weak [0, 1, 2, 3] rfl (Nat.le_refl _) (Nat.le_refl _) (wX1_wentOnceAlongAll_gc42 hn0 C hB3 hB11 v1 v2 v3 1  h)
set_option maxRecDepth 100000 in
theorem wX1_wentOnceAlongAll_gb11 {Γ : gT} {D : gD} {ca : Nat → ClassId} {o : Nat → Nat} {Q : Bool → Prop} {I : gI} {J : gJ} {R : gR} {L : List Nat} {S : gS} {n0 : Nat} (hn0 : n0 < 2) (C : Cx Γ cX1_wentOnceAlongAll RX1 6 D (tyW ca) (rl 2) (some .boolean) 0 0 (PYz ca o I J R L S Q)) {B3 : Int32 → Int32 → Prop} (hB3 : ∀ (v1 : Int32) (v2 : Int32) , B3 v1 v2 → G Γ 0 0 3 [(0, .ref (o (10 + n0))), (1, .int v1), (2, .int v2)] [] (cX ca o I J R L S)) {B11 : Int32 → Int32 → Int32 → Prop} (hB11 : ∀ (v1 : Int32) (v2 : Int32) (v3 : Int32) , B11 v1 v2 v3 → G Γ 0 0 11 [(0, .ref (o (10 + n0))), (1, .int v1), (2, .int v2), (3, .int v3)] [] (cX ca o I J R L S)) (v1 : Int32) (v2 : Int32) (v3 : Int32) (h : wX1_wentOnceAlongAll_b11 n0 I J R L S B3 B11 v1 v2 v3 Q) : G Γ 0 0 11 [(0, .ref (o (10 + n0))), (1, .int v1), (2, .int v2), (3, .int v3)] [] (cX ca o I J R L S) := by
  unfold wX1_wentOnceAlongAll_b11 at h
  refine g_iload_n C (i := 3) dX1_wentOnceAlongAll_11 rfl rfl ?_
  refine g_iload_n C (i := 1) dX1_wentOnceAlongAll_12 rfl rfl ?_
  refine g_icmp_gt C 90 dX1_wentOnceAlongAll_13 rfl (fun c1 => ?_) (fun c1 => ?_)
  · replace h := h.1 c1
    refine g_iinc C 1 [(0, .ref (o (10 + n0))), (1, .int v1), (2, .int (v2 + 1)), (3, .int v3)] dX1_wentOnceAlongAll_90 rfl (by decide) (by decide) rfl ?_
    refine g_goto C 3 dX1_wentOnceAlongAll_93 rfl ?_
    exact g_weak [0, 1, 2] rfl (Nat.le_refl _) (Nat.le_refl _) (hB3 v1 (v2 + 1)  h)
  · replace h := h.2 c1
    refine g_iload_n C (i := 2) dX1_wentOnceAlongAll_16 rfl rfl ?_
    refine g_iload_n C (i := 1) dX1_wentOnceAlongAll_17 rfl rfl ?_
    refine g_icmp_eq C 37 dX1_wentOnceAlongAll_18 rfl (fun c2 => ?_) (fun c2 => ?_)
    · replace h := h.1 c2
      exact g_weak [0, 1, 2, 3] rfl (Nat.le_refl _) (Nat.le_refl _) (wX1_wentOnceAlongAll_gc37 hn0 C hB3 hB11 v1 v2 v3  h)
    · replace h := h.2 c2
      refine g_aload_n C (i := 0) dX1_wentOnceAlongAll_21 rfl rfl ?_
      refine g_iload_n C (i := 2) dX1_wentOnceAlongAll_22 rfl rfl ?_
      refine g_i2l C dX1_wentOnceAlongAll_23 ?_
      refine g_iload_n C (i := 3) dX1_wentOnceAlongAll_24 rfl rfl ?_
      refine g_i2l C dX1_wentOnceAlongAll_25 ?_
      refine g_iconst_0 C dX1_wentOnceAlongAll_26 ?_
      refine x_callS C (wX1_k_key v2.toInt64 v3.toInt64 0 I J R L S _ h) sX1_54 (rl_ok (by decide) (by decide)) rfl (Nat.le_of_ble_eq_true rfl) (st := [.ref (o (10 + n0))]) _ rfl dX1_wentOnceAlongAll_27 (py_i (fun r3 h => ?_))
      refine x_callV C (wX1_k_timesOf hn0 r3 I J R L S _ h) sX1_68 (rcv_bug (b := n0) hn0) (rl_ok (by decide) (by decide)) rfl (Nat.le_of_ble_eq_true rfl) (st := []) _ rfl dX1_wentOnceAlongAll_30 (py_i (fun r4 h => ?_))
      refine g_iconst_1 C dX1_wentOnceAlongAll_33 ?_
      refine g_icmp_ne C 41 dX1_wentOnceAlongAll_34 rfl (fun c5 => ?_) (fun c5 => ?_)
      · replace h := h.1 c5
        refine g_iconst_0 C dX1_wentOnceAlongAll_41 ?_
        exact g_weak [0, 1, 2, 3] rfl (Nat.le_refl _) (Nat.le_refl _) (wX1_wentOnceAlongAll_gc42 hn0 C hB3 hB11 v1 v2 v3 0  h)
      · replace h := h.2 c5
        exact g_weak [0, 1, 2, 3] rfl (Nat.le_refl _) (Nat.le_refl _) (wX1_wentOnceAlongAll_gc37 hn0 C hB3 hB11 v1 v2 v3  h)
theorem wX1_wentOnceAlongAll_gl11 {Γ : gT} {D : gD} {ca : Nat → ClassId} {o : Nat → Nat} {Q : Bool → Prop} {I : gI} {J : gJ} {R : gR} {L : List Nat} {S : gS} {n0 : Nat} (hn0 : n0 < 2) (C : Cx Γ cX1_wentOnceAlongAll RX1 6 D (tyW ca) (rl 2) (some .boolean) 0 0 (PYz ca o I J R L S Q)) {B3 : Int32 → Int32 → Prop} (hB3 : ∀ (v1 : Int32) (v2 : Int32) , B3 v1 v2 → G Γ 0 0 3 [(0, .ref (o (10 + n0))), (1, .int v1), (2, .int v2)] [] (cX ca o I J R L S)) : ∀ (n : Nat) (v1 : Int32) (v2 : Int32) (v3 : Int32) (_ : wX1_wentOnceAlongAll_l11 n0 I J R L S B3 Q n v1 v2 v3 ), G Γ 0 0 11 [(0, .ref (o (10 + n0))), (1, .int v1), (2, .int v2), (3, .int v3)] [] (cX ca o I J R L S) := by
  intro n
  induction n with
  | zero => intro v1 v2 v3  h; exact h.elim
  | succ n ih => intro v1 v2 v3  h; exact wX1_wentOnceAlongAll_gb11 hn0 C hB3 ih v1 v2 v3 h
set_option maxRecDepth 100000 in
theorem wX1_wentOnceAlongAll_gb3 {Γ : gT} {D : gD} {ca : Nat → ClassId} {o : Nat → Nat} {Q : Bool → Prop} {I : gI} {J : gJ} {R : gR} {L : List Nat} {S : gS} {n0 : Nat} (hn0 : n0 < 2) (C : Cx Γ cX1_wentOnceAlongAll RX1 6 D (tyW ca) (rl 2) (some .boolean) 0 0 (PYz ca o I J R L S Q)) {B3 : Int32 → Int32 → Prop} (hB3 : ∀ (v1 : Int32) (v2 : Int32) , B3 v1 v2 → G Γ 0 0 3 [(0, .ref (o (10 + n0))), (1, .int v1), (2, .int v2)] [] (cX ca o I J R L S)) (v1 : Int32) (v2 : Int32) (h : wX1_wentOnceAlongAll_b3 n0 I J R L S B3 v1 v2 Q) : G Γ 0 0 3 [(0, .ref (o (10 + n0))), (1, .int v1), (2, .int v2)] [] (cX ca o I J R L S) := by
  unfold wX1_wentOnceAlongAll_b3 at h
  refine g_iload_n C (i := 2) dX1_wentOnceAlongAll_3 rfl rfl ?_
  refine g_iload_n C (i := 1) dX1_wentOnceAlongAll_4 rfl rfl ?_
  refine g_icmp_gt C 96 dX1_wentOnceAlongAll_5 rfl (fun c1 => ?_) (fun c1 => ?_)
  · replace h := h.1 c1
    refine g_iconst_1 C dX1_wentOnceAlongAll_96 ?_
    exact g_ret_z C true rfl dX1_wentOnceAlongAll_97 (Nat.le_refl _) (Nat.le_refl _) ⟨_, rfl, rfl, h⟩
  · replace h := h.2 c1
    refine g_iload_n C (i := 1) dX1_wentOnceAlongAll_8 rfl rfl ?_
    refine g_ineg C dX1_wentOnceAlongAll_9 ?_
    refine g_istore_n C (i := 3) [(0, .ref (o (10 + n0))), (1, .int v1), (2, .int v2), (3, .int (-v1))] dX1_wentOnceAlongAll_10 rfl (by decide) rfl ?_
    obtain ⟨n, h⟩ := h
    exact g_weak [0, 1, 2, 3] rfl (Nat.le_refl _) (Nat.le_refl _) (wX1_wentOnceAlongAll_gl11 hn0 C hB3 n v1 v2 (-v1)  h)
theorem wX1_wentOnceAlongAll_gl3 {Γ : gT} {D : gD} {ca : Nat → ClassId} {o : Nat → Nat} {Q : Bool → Prop} {I : gI} {J : gJ} {R : gR} {L : List Nat} {S : gS} {n0 : Nat} (hn0 : n0 < 2) (C : Cx Γ cX1_wentOnceAlongAll RX1 6 D (tyW ca) (rl 2) (some .boolean) 0 0 (PYz ca o I J R L S Q)) : ∀ (n : Nat) (v1 : Int32) (v2 : Int32) (_ : wX1_wentOnceAlongAll_l3 n0 I J R L S Q n v1 v2 ), G Γ 0 0 3 [(0, .ref (o (10 + n0))), (1, .int v1), (2, .int v2)] [] (cX ca o I J R L S) := by
  intro n
  induction n with
  | zero => intro v1 v2  h; exact h.elim
  | succ n ih => intro v1 v2  h; exact wX1_wentOnceAlongAll_gb3 hn0 C ih v1 v2 h
set_option maxRecDepth 100000 in
theorem wX1_wentOnceAlongAll_g {Γ : gT} {D : gD} {ca : Nat → ClassId} {o : Nat → Nat} {I : gI} {J : gJ} {R : gR} {L : List Nat} {S : gS} {Q : Bool → Prop} {n0 : Nat} (hn0 : n0 < 2) (v1 : Int32) (C : Cx Γ cX1_wentOnceAlongAll RX1 6 D (tyW ca) (rl 2) (some .boolean) 0 0 (PYz ca o I J R L S Q)) (h : wX1_wentOnceAlongAll n0 v1 I J R L S Q) : G Γ 0 0 0 [(0, .ref (o (10 + n0))), (1, .int v1)] [] (cX ca o I J R L S) := by
  unfold wX1_wentOnceAlongAll at h
  refine g_iload_n C (i := 1) dX1_wentOnceAlongAll_0 rfl rfl ?_
  refine g_ineg C dX1_wentOnceAlongAll_1 ?_
  refine g_istore_n C (i := 2) [(0, .ref (o (10 + n0))), (1, .int v1), (2, .int (-v1))] dX1_wentOnceAlongAll_2 rfl (by decide) rfl ?_
  obtain ⟨n, h⟩ := h
  exact g_weak [0, 1, 2] rfl (Nat.le_refl _) (Nat.le_refl _) (wX1_wentOnceAlongAll_gl3 hn0 C  n v1 (-v1)  h)
theorem wX1_k_wentOnceAlongAll {D : gD} {ca : Nat → ClassId} {o : Nat → Nat} {L : List Nat} {S : gS} {n0 : Nat} (hn0 : n0 < 2) (v1 : Int32) (I : gI) (J : gJ) (R : gR) (L0 : List Nat) (S0 : gS) (Q : Bool → Prop) (h : wX1_wentOnceAlongAll n0 v1 I J R L S Q) : Ct yX1_wentOnceAlongAll cX1_wentOnceAlongAll 6 (some .boolean) (rl 2) D (tyW ca) 0 0 [.ref (o (10 + n0)), .int v1] (cX ca o I J R L S) (PYz ca o I J R L S Q) := ct_of (rm := (rl 2)) (by decide +kernel) (Nat.le_of_ble_eq_true rfl) (fun Γ C => wX1_wentOnceAlongAll_g hn0 v1 C h)
theorem sX2_17 : gSiteP RX2 yX9_creaseAt cX9_creaseAt 6 (some .int) 17 1 := gSiteP.of (tb_in (List.mem_of_getElem? (i := 443) (by decide +kernel)) (by decide +kernel)) (tb_in (List.mem_of_getElem? (i := 428) (by decide +kernel)) (by decide +kernel)) (tb_in (List.mem_of_getElem? (i := 401) (by decide +kernel)) (by decide +kernel)) (tb_in (List.mem_of_getElem? (i := 426) (by decide +kernel)) (by decide +kernel)) (tb_in (List.mem_of_getElem? (i := 90) (by decide +kernel)) (by decide +kernel)) (tb_in (List.mem_of_getElem? (i := 465) (by decide +kernel)) (by decide +kernel)) (by decide +kernel)
set_option maxRecDepth 100000 in
theorem wX2_creaseAt_g {Γ : gT} {D : gD} {ca : Nat → ClassId} {o : Nat → Nat} {I : gI} {J : gJ} {R : gR} {L : List Nat} {S : gS} {Q : Int32 → Prop} {q0 : Nat} (hq0 : q0 ∈ L) (hc0 : sC (S q0) = 3 ∨ sC (S q0) = 4) (v1 : Int64) (C : Cx Γ cX2_creaseAt RX2 3 D (tyW ca) (rl 2) (some .int) 0 0 (PYi ca o I J R L S Q)) (h : wX2_creaseAt q0 v1 I J R L S Q) : G Γ 0 0 0 [(0, .ref q0), (1, .long v1)] [] (cX ca o I J R L S) := by
  unfold wX2_creaseAt at h
  refine g_aload_n C (i := 0) dX2_creaseAt_0 rfl rfl ?_
  refine g_lload_n C (i := 1) dX2_creaseAt_1 rfl rfl ?_
  refine g_aload_n C (i := 0) dX2_creaseAt_2 rfl rfl ?_
  refine x_get_X2_7 C hq0 hc0 dX2_creaseAt_3 ?_
  refine g_ladd C dX2_creaseAt_6 ?_
  refine x_callP C (wX9_k_creaseAt hq0 (v1 + (sF (S q0))) I J R L S _ h) sX2_17 (rcv_any hq0) (rl_ok (by decide) (by decide)) rfl (Nat.le_of_ble_eq_true rfl) (st := []) _ rfl dX2_creaseAt_7 (py_i (fun r1 h => ?_))
  exact g_ret_i C dX2_creaseAt_10 (Nat.le_refl _) (Nat.le_refl _) ⟨_, rfl, rfl, h⟩
theorem wX2_k_creaseAt {D : gD} {ca : Nat → ClassId} {o : Nat → Nat} {L : List Nat} {S : gS} {q0 : Nat} (hq0 : q0 ∈ L) (hc0 : sC (S q0) = 3 ∨ sC (S q0) = 4) (v1 : Int64) (I : gI) (J : gJ) (R : gR) (L0 : List Nat) (S0 : gS) (Q : Int32 → Prop) (h : wX2_creaseAt q0 v1 I J R L S Q) : Ct yX2_creaseAt cX2_creaseAt 3 (some .int) (rl 2) D (tyW ca) 0 0 [.ref q0, .long v1] (cX ca o I J R L S) (PYi ca o I J R L S Q) := ct_of (rm := (rl 2)) (by decide +kernel) (Nat.le_of_ble_eq_true rfl) (fun Γ C => wX2_creaseAt_g hq0 hc0 v1 C h)
theorem sX4_27 : gSite RX4 yX8_asInt cX8_asInt 2 (some .int) 27 1 := gSite.of (tb_in (List.mem_of_getElem? (i := 1029) (by decide +kernel)) (by decide +kernel)) (tb_in (List.mem_of_getElem? (i := 500) (by decide +kernel)) (by decide +kernel)) (tb_in (List.mem_of_getElem? (i := 501) (by decide +kernel)) (by decide +kernel)) (tb_in (List.mem_of_getElem? (i := 86) (by decide +kernel)) (by decide +kernel)) (tb_in (List.mem_of_getElem? (i := 502) (by decide +kernel)) (by decide +kernel)) (by decide +kernel)
set_option maxRecDepth 100000 in
theorem wX4_areOrder_gb5 {Γ : gT} {D : gD} {ca : Nat → ClassId} {o : Nat → Nat} {Q : Bool → Prop} {I : gI} {J : gJ} {R : gR} {L : List Nat} {S : gS} {n1 : Nat} (hn1 : n1 < 8) (C : Cx Γ cX4_areOrder RX4 6 D (tyW ca) (rl 2) (some .boolean) 0 0 (PYz ca o I J R L S Q)) {B5 : Int32 → Int32 → Int32 → Prop} (hB5 : ∀ (v2 : Int32) (v3 : Int32) (v4 : Int32) , B5 v2 v3 v4 → G Γ 0 0 5 [(1, .ref (o (20 + n1))), (2, .int v2), (3, .int v3), (4, .int v4)] [] (cX ca o I J R L S)) (v2 : Int32) (v3 : Int32) (v4 : Int32) (h : wX4_areOrder_b5 n1 I J R L S B5 v2 v3 v4 Q) : G Γ 0 0 5 [(1, .ref (o (20 + n1))), (2, .int v2), (3, .int v3), (4, .int v4)] [] (cX ca o I J R L S) := by
  unfold wX4_areOrder_b5 at h
  refine g_iload C (i := 4) dX4_areOrder_5 rfl ?_
  refine g_iload_n C (i := 2) dX4_areOrder_7 rfl rfl ?_
  refine g_icmp_ge C 45 dX4_areOrder_8 rfl (fun c1 => ?_) (fun c1 => ?_)
  · replace h := h.1 c1
    refine g_iload_n C (i := 3) dX4_areOrder_45 rfl rfl ?_
    refine g_iconst_1 C dX4_areOrder_46 ?_
    refine g_iload_n C (i := 2) dX4_areOrder_47 rfl rfl ?_
    refine g_ishl C dX4_areOrder_48 ?_
    refine g_iconst_1 C dX4_areOrder_49 ?_
    refine g_isub C dX4_areOrder_50 ?_
    refine g_icmp_ne C 58 dX4_areOrder_51 rfl (fun c2 => ?_) (fun c2 => ?_)
    · replace h := h.1 c2
      refine g_iconst_0 C dX4_areOrder_58 ?_
      exact g_ret_z C false rfl dX4_areOrder_59 (Nat.le_refl _) (Nat.le_refl _) ⟨_, rfl, rfl, h⟩
    · replace h := h.2 c2
      refine g_iconst_1 C dX4_areOrder_54 ?_
      refine g_goto C 59 dX4_areOrder_55 rfl ?_
      exact g_ret_z C true rfl dX4_areOrder_59 (Nat.le_refl _) (Nat.le_refl _) ⟨_, rfl, rfl, h⟩
  · replace h := h.2 c1
    refine g_aload_n C (i := 1) dX4_areOrder_11 rfl rfl ?_
    refine g_iload C (i := 4) dX4_areOrder_12 rfl ?_
    refine x_callV C (wX8_k_asInt hn1 v4 I J R L S _ h) sX4_27 (rcv_shelf (s := n1) hn1) (rl_ok (by decide) (by decide)) rfl (Nat.le_of_ble_eq_true rfl) (st := []) _ rfl dX4_areOrder_14 (py_i (fun r3 h => ?_))
    refine g_istore C (i := 5) [(1, .ref (o (20 + n1))), (2, .int v2), (3, .int v3), (4, .int v4), (5, .int r3)] dX4_areOrder_17 (by decide) rfl ?_
    refine g_iload C (i := 5) dX4_areOrder_19 rfl ?_
    refine g_if_lt C 30 dX4_areOrder_21 rfl (fun c4 => ?_) (fun c4 => ?_)
    · replace h := h.1 c4
      refine g_iconst_0 C dX4_areOrder_30 ?_
      exact g_ret_z C false rfl dX4_areOrder_31 (Nat.le_refl _) (Nat.le_refl _) ⟨_, rfl, rfl, h⟩
    · replace h := h.2 c4
      refine g_iload C (i := 5) dX4_areOrder_24 rfl ?_
      refine g_iload_n C (i := 2) dX4_areOrder_26 rfl rfl ?_
      refine g_icmp_lt C 32 dX4_areOrder_27 rfl (fun c5 => ?_) (fun c5 => ?_)
      · replace h := h.1 c5
        refine g_iload_n C (i := 3) dX4_areOrder_32 rfl rfl ?_
        refine g_iconst_1 C dX4_areOrder_33 ?_
        refine g_iload C (i := 5) dX4_areOrder_34 rfl ?_
        refine g_ishl C dX4_areOrder_36 ?_
        refine g_ior C dX4_areOrder_37 ?_
        refine g_istore_n C (i := 3) [(1, .ref (o (20 + n1))), (2, .int v2), (3, .int (v3 ||| (1 <<< (r3 &&& 31)))), (4, .int v4), (5, .int r3)] dX4_areOrder_38 rfl (by decide) rfl ?_
        refine g_iinc C 1 [(1, .ref (o (20 + n1))), (2, .int v2), (3, .int (v3 ||| (1 <<< (r3 &&& 31)))), (4, .int (v4 + 1)), (5, .int r3)] dX4_areOrder_39 rfl (by decide) (by decide) rfl ?_
        refine g_goto C 5 dX4_areOrder_42 rfl ?_
        exact g_weak [0, 1, 2, 3] rfl (Nat.le_refl _) (Nat.le_refl _) (hB5 v2 (v3 ||| (1 <<< (r3 &&& 31))) (v4 + 1)  h)
      · replace h := h.2 c5
        refine g_iconst_0 C dX4_areOrder_30 ?_
        exact g_ret_z C false rfl dX4_areOrder_31 (Nat.le_refl _) (Nat.le_refl _) ⟨_, rfl, rfl, h⟩
theorem wX4_areOrder_gl5 {Γ : gT} {D : gD} {ca : Nat → ClassId} {o : Nat → Nat} {Q : Bool → Prop} {I : gI} {J : gJ} {R : gR} {L : List Nat} {S : gS} {n1 : Nat} (hn1 : n1 < 8) (C : Cx Γ cX4_areOrder RX4 6 D (tyW ca) (rl 2) (some .boolean) 0 0 (PYz ca o I J R L S Q)) : ∀ (n : Nat) (v2 : Int32) (v3 : Int32) (v4 : Int32) (_ : wX4_areOrder_l5 n1 I J R L S Q n v2 v3 v4 ), G Γ 0 0 5 [(1, .ref (o (20 + n1))), (2, .int v2), (3, .int v3), (4, .int v4)] [] (cX ca o I J R L S) := by
  intro n
  induction n with
  | zero => intro v2 v3 v4  h; exact h.elim
  | succ n ih => intro v2 v3 v4  h; exact wX4_areOrder_gb5 hn1 C ih v2 v3 v4 h
set_option maxRecDepth 100000 in
theorem wX4_areOrder_g {Γ : gT} {D : gD} {ca : Nat → ClassId} {o : Nat → Nat} {I : gI} {J : gJ} {R : gR} {L : List Nat} {S : gS} {Q : Bool → Prop} {n1 : Nat} (hn1 : n1 < 8) (v2 : Int32) (C : Cx Γ cX4_areOrder RX4 6 D (tyW ca) (rl 2) (some .boolean) 0 0 (PYz ca o I J R L S Q)) (h : wX4_areOrder n1 v2 I J R L S Q) : G Γ 0 0 0 [(0, .ref (o 4)), (1, .ref (o (20 + n1))), (2, .int v2)] [] (cX ca o I J R L S) := by
  unfold wX4_areOrder at h
  refine g_iconst_0 C dX4_areOrder_0 ?_
  refine g_istore_n C (i := 3) [(0, .ref (o 4)), (1, .ref (o (20 + n1))), (2, .int v2), (3, .int 0)] dX4_areOrder_1 rfl (by decide) rfl ?_
  refine g_iconst_0 C dX4_areOrder_2 ?_
  refine g_istore C (i := 4) [(0, .ref (o 4)), (1, .ref (o (20 + n1))), (2, .int v2), (3, .int 0), (4, .int 0)] dX4_areOrder_3 (by decide) rfl ?_
  obtain ⟨n, h⟩ := h
  exact g_weak [1, 2, 3, 4] rfl (Nat.le_refl _) (Nat.le_refl _) (wX4_areOrder_gl5 hn1 C  n v2 0 0  h)
theorem wX4_k_areOrder {D : gD} {ca : Nat → ClassId} {o : Nat → Nat} {L : List Nat} {S : gS} {n1 : Nat} (hn1 : n1 < 8) (v2 : Int32) (I : gI) (J : gJ) (R : gR) (L0 : List Nat) (S0 : gS) (Q : Bool → Prop) (h : wX4_areOrder n1 v2 I J R L S Q) : Ct yX4_areOrder cX4_areOrder 6 (some .boolean) (rl 2) D (tyW ca) 0 0 [.ref (o 4), .ref (o (20 + n1)), .int v2] (cX ca o I J R L S) (PYz ca o I J R L S Q) := ct_of (rm := (rl 2)) (by decide +kernel) (Nat.le_of_ble_eq_true rfl) (fun Γ C => wX4_areOrder_g hn1 v2 C h)
theorem sX4_61 : gSite RX4 yX4_closes cX4_closes 8 (some .boolean) 61 3 := gSite.of (tb_in (List.mem_of_getElem? (i := 1043) (by decide +kernel)) (by decide +kernel)) (tb_in (List.mem_of_getElem? (i := 1045) (by decide +kernel)) (by decide +kernel)) (tb_in (List.mem_of_getElem? (i := 24) (by decide +kernel)) (by decide +kernel)) (tb_in (List.mem_of_getElem? (i := 85) (by decide +kernel)) (by decide +kernel)) (tb_in (List.mem_of_getElem? (i := 1046) (by decide +kernel)) (by decide +kernel)) (by decide +kernel)
set_option maxRecDepth 100000 in
theorem wX4_lays_g {Γ : gT} {D : gD} {ca : Nat → ClassId} {o : Nat → Nat} {I : gI} {J : gJ} {R : gR} {L : List Nat} {S : gS} {Q : Bool → gI → gJ → gR → Prop} (v1 : Int32) (v2 : Int32) (v3 : Int32) (C : Cx Γ cX4_lays RX4 4 D (tyW ca) (rl 2) (some .boolean) 0 0 (PXz ca o L S Q)) (h : wX4_lays v1 v2 v3 I J R L S Q) : G Γ 0 0 0 [(0, .ref (o 4)), (1, .int v1), (2, .int v2), (3, .int v3)] [] (cX ca o I J R L S) := by
  unfold wX4_lays at h
  refine g_iload_n C (i := 1) dX4_lays_0 rfl rfl ?_
  refine g_if_lt C 26 dX4_lays_1 rfl (fun c1 => ?_) (fun c1 => ?_)
  · replace h := h.1 c1
    refine g_iconst_0 C dX4_lays_26 ?_
    exact g_ret_z C false rfl dX4_lays_27 (Nat.le_refl _) (Nat.le_refl _) ⟨_, _, _, _, rfl, rfl, h⟩
  · replace h := h.2 c1
    refine g_iload_n C (i := 1) dX4_lays_4 rfl rfl ?_
    refine g_aload_n C (i := 0) dX4_lays_5 rfl rfl ?_
    refine x_get_X4_15 C dX4_lays_6 ?_
    refine x_alen C (k := 11) (v := 8) (by decide) rfl dX4_lays_9 ?_
    refine g_icmp_ge C 26 dX4_lays_10 rfl (fun c2 => ?_) (fun c2 => ?_)
    · replace h := h.1 c2
      refine g_iconst_0 C dX4_lays_26 ?_
      exact g_ret_z C false rfl dX4_lays_27 (Nat.le_refl _) (Nat.le_refl _) ⟨_, _, _, _, rfl, rfl, h⟩
    · replace h := h.2 c2
      refine g_iload_n C (i := 2) dX4_lays_13 rfl rfl ?_
      refine g_if_lt C 26 dX4_lays_14 rfl (fun c3 => ?_) (fun c3 => ?_)
      · replace h := h.1 c3
        refine g_iconst_0 C dX4_lays_26 ?_
        exact g_ret_z C false rfl dX4_lays_27 (Nat.le_refl _) (Nat.le_refl _) ⟨_, _, _, _, rfl, rfl, h⟩
      · replace h := h.2 c3
        refine g_iload_n C (i := 2) dX4_lays_17 rfl rfl ?_
        refine g_aload_n C (i := 0) dX4_lays_18 rfl rfl ?_
        refine x_get_X4_9 C dX4_lays_19 ?_
        refine x_alen C (k := 10) (v := 8) (by decide) rfl dX4_lays_22 ?_
        refine g_icmp_lt C 28 dX4_lays_23 rfl (fun c4 => ?_) (fun c4 => ?_)
        · replace h := h.1 c4
          refine g_aload_n C (i := 0) dX4_lays_28 rfl rfl ?_
          refine x_get_X4_9 C dX4_lays_29 ?_
          refine g_iload_n C (i := 2) dX4_lays_32 rfl rfl ?_
          refine g_iload_n C (i := 1) dX4_lays_33 rfl rfl ?_
          obtain ⟨h5, h⟩ := h
          refine x_iast C (k := 10) (by decide) h5 dX4_lays_34 ?_
          refine x_nmI _ (fun I6 e7 => ?_)
          replace h := h I6 e7
          refine g_aload_n C (i := 0) dX4_lays_35 rfl rfl ?_
          refine x_get_X4_15 C dX4_lays_36 ?_
          refine g_iload_n C (i := 1) dX4_lays_39 rfl rfl ?_
          refine g_iload_n C (i := 2) dX4_lays_40 rfl rfl ?_
          obtain ⟨h8, h⟩ := h
          refine x_iast C (k := 11) (by decide) h8 dX4_lays_41 ?_
          refine x_nmI _ (fun I9 e10 => ?_)
          replace h := h I9 e10
          refine g_aload_n C (i := 0) dX4_lays_42 rfl rfl ?_
          refine g_iload_n C (i := 2) dX4_lays_43 rfl rfl ?_
          refine g_iconst_0 C dX4_lays_44 ?_
          refine g_iload_n C (i := 3) dX4_lays_45 rfl rfl ?_
          refine x_callV C (wX4_k_closes v2 0 v3 I9 J R L S _ h) sX4_61 rcv_leaves (rl_ok (by decide) (by decide)) rfl (Nat.le_of_ble_eq_true rfl) (st := []) _ rfl dX4_lays_46 (py_z (fun r11 h => ?_))
          refine g_zeq C 66 dX4_lays_49 rfl (fun c12 => ?_) (fun c12 => ?_)
          · replace h := h.1 c12
            refine g_iconst_0 C dX4_lays_66 ?_
            exact g_ret_z C false rfl dX4_lays_67 (Nat.le_refl _) (Nat.le_refl _) ⟨_, _, _, _, rfl, rfl, h⟩
          · replace h := h.2 c12
            refine g_aload_n C (i := 0) dX4_lays_52 rfl rfl ?_
            refine g_iload_n C (i := 2) dX4_lays_53 rfl rfl ?_
            refine g_iconst_1 C dX4_lays_54 ?_
            refine g_iload_n C (i := 3) dX4_lays_55 rfl rfl ?_
            refine x_callV C (wX4_k_closes v2 1 v3 I9 J R L S _ h) sX4_61 rcv_leaves (rl_ok (by decide) (by decide)) rfl (Nat.le_of_ble_eq_true rfl) (st := []) _ rfl dX4_lays_56 (py_z (fun r13 h => ?_))
            refine g_zeq C 66 dX4_lays_59 rfl (fun c14 => ?_) (fun c14 => ?_)
            · replace h := h.1 c14
              refine g_iconst_0 C dX4_lays_66 ?_
              exact g_ret_z C false rfl dX4_lays_67 (Nat.le_refl _) (Nat.le_refl _) ⟨_, _, _, _, rfl, rfl, h⟩
            · replace h := h.2 c14
              refine g_iconst_1 C dX4_lays_62 ?_
              refine g_goto C 67 dX4_lays_63 rfl ?_
              exact g_ret_z C true rfl dX4_lays_67 (Nat.le_refl _) (Nat.le_refl _) ⟨_, _, _, _, rfl, rfl, h⟩
        · replace h := h.2 c4
          refine g_iconst_0 C dX4_lays_26 ?_
          exact g_ret_z C false rfl dX4_lays_27 (Nat.le_refl _) (Nat.le_refl _) ⟨_, _, _, _, rfl, rfl, h⟩
theorem wX4_k_lays {D : gD} {ca : Nat → ClassId} {o : Nat → Nat} {L : List Nat} {S : gS} (v1 : Int32) (v2 : Int32) (v3 : Int32) (I : gI) (J : gJ) (R : gR) (L0 : List Nat) (S0 : gS) (Q : Bool → gI → gJ → gR → Prop) (h : wX4_lays v1 v2 v3 I J R L S Q) : Ct yX4_lays cX4_lays 4 (some .boolean) (rl 2) D (tyW ca) 0 0 [.ref (o 4), .int v1, .int v2, .int v3] (cX ca o I J R L S) (PXz ca o L S Q) := ct_of (rm := (rl 2)) (by decide +kernel) (Nat.le_of_ble_eq_true rfl) (fun Γ C => wX4_lays_g v1 v2 v3 C h)
theorem sX5_11 : gSiteQ RX5 "FoldedInHalf$Strip" ⟨"FoldedInHalf$Glass", "creaseAt", "(J)I"⟩ yX9_creaseAt cX9_creaseAt 6 (some .int) 11 1 := gSiteQ.of (tb_in (List.mem_of_getElem? (i := 450) (by decide +kernel)) (by decide +kernel)) (tb_in (List.mem_of_getElem? (i := 451) (by decide +kernel)) (by decide +kernel)) (tb_in (List.mem_of_getElem? (i := 453) (by decide +kernel)) (by decide +kernel)) (tb_in (List.mem_of_getElem? (i := 454) (by decide +kernel)) (by decide +kernel)) (tb_in (List.mem_of_getElem? (i := 426) (by decide +kernel)) (by decide +kernel)) (tb_in (List.mem_of_getElem? (i := 90) (by decide +kernel)) (by decide +kernel)) (tb_in (List.mem_of_getElem? (i := 465) (by decide +kernel)) (by decide +kernel)) rfl (by decide +kernel)
set_option maxRecDepth 100000 in
theorem wX5_creaseAt_g {Γ : gT} {D : gD} {ca : Nat → ClassId} {o : Nat → Nat} {I : gI} {J : gJ} {R : gR} {L : List Nat} {S : gS} {Q : Int32 → Prop} {q0 : Nat} (hq0 : q0 ∈ L) (hc0 : sC (S q0) = 6) (v1 : Int64) (C : Cx Γ cX5_creaseAt RX5 3 D (tyW ca) (rl 2) (some .int) 0 0 (PYi ca o I J R L S Q)) (h : wX5_creaseAt q0 v1 I J R L S Q) : G Γ 0 0 0 [(0, .ref q0), (1, .long v1)] [] (cX ca o I J R L S) := by
  unfold wX5_creaseAt at h
  refine g_lload_n C (i := 1) dX5_creaseAt_0 rfl rfl ?_
  refine g_ldc2 C (v := 4) (tb_in (List.mem_of_getElem? (i := 449) (by decide +kernel)) (by decide +kernel)) dX5_creaseAt_1 ?_
  refine g_lrem C dX5_creaseAt_4 (by decide) ?_
  refine g_lconst_0 C dX5_creaseAt_5 ?_
  refine g_lne C 14 dX5_creaseAt_6 dX5_creaseAt_7 rfl (fun c1 => ?_) (fun c1 => ?_)
  · replace h := h.1 c1
    refine g_aload_n C (i := 0) dX5_creaseAt_14 rfl rfl ?_
    refine g_lload_n C (i := 1) dX5_creaseAt_15 rfl rfl ?_
    refine x_callP2 C (wX9_k_creaseAt hq0 v1 I J R L S _ h) sX5_11 (rcv_any hq0) (rl_ok (by decide) (by decide)) rfl (Nat.le_of_ble_eq_true rfl) (st := []) _ rfl dX5_creaseAt_16 (py_i (fun r2 h => ?_))
    exact g_ret_i C dX5_creaseAt_19 (Nat.le_refl _) (Nat.le_refl _) ⟨_, rfl, rfl, h⟩
  · replace h := h.2 c1
    refine g_iconst_1 C dX5_creaseAt_10 ?_
    refine g_goto C 19 dX5_creaseAt_11 rfl ?_
    exact g_ret_i C dX5_creaseAt_19 (Nat.le_refl _) (Nat.le_refl _) ⟨_, rfl, rfl, h⟩
theorem wX5_k_creaseAt {D : gD} {ca : Nat → ClassId} {o : Nat → Nat} {L : List Nat} {S : gS} {q0 : Nat} (hq0 : q0 ∈ L) (hc0 : sC (S q0) = 6) (v1 : Int64) (I : gI) (J : gJ) (R : gR) (L0 : List Nat) (S0 : gS) (Q : Int32 → Prop) (h : wX5_creaseAt q0 v1 I J R L S Q) : Ct yX5_creaseAt cX5_creaseAt 3 (some .int) (rl 2) D (tyW ca) 0 0 [.ref q0, .long v1] (cX ca o I J R L S) (PYi ca o I J R L S Q) := ct_of (rm := (rl 2)) (by decide +kernel) (Nat.le_of_ble_eq_true rfl) (fun Γ C => wX5_creaseAt_g hq0 hc0 v1 C h)
theorem sX6_120 : gSite RX6 yX8_has cX8_has 2 (some .boolean) 120 1 := gSite.of (tb_in (List.mem_of_getElem? (i := 646) (by decide +kernel)) (by decide +kernel)) (tb_in (List.mem_of_getElem? (i := 338) (by decide +kernel)) (by decide +kernel)) (tb_in (List.mem_of_getElem? (i := 339) (by decide +kernel)) (by decide +kernel)) (tb_in (List.mem_of_getElem? (i := 86) (by decide +kernel)) (by decide +kernel)) (tb_in (List.mem_of_getElem? (i := 340) (by decide +kernel)) (by decide +kernel)) (by decide +kernel)
theorem sX6_123 : gSite RX6 yX8_asInt cX8_asInt 2 (some .int) 123 1 := gSite.of (tb_in (List.mem_of_getElem? (i := 647) (by decide +kernel)) (by decide +kernel)) (tb_in (List.mem_of_getElem? (i := 500) (by decide +kernel)) (by decide +kernel)) (tb_in (List.mem_of_getElem? (i := 501) (by decide +kernel)) (by decide +kernel)) (tb_in (List.mem_of_getElem? (i := 86) (by decide +kernel)) (by decide +kernel)) (tb_in (List.mem_of_getElem? (i := 502) (by decide +kernel)) (by decide +kernel)) (by decide +kernel)
set_option maxRecDepth 100000 in
theorem wX6_here_g {Γ : gT} {D : gD} {ca : Nat → ClassId} {o : Nat → Nat} {I : gI} {J : gJ} {R : gR} {L : List Nat} {S : gS} {Q : Int32 → Prop} (C : Cx Γ cX6_here RX6 1 D (tyW ca) (rl 2) (some .int) 0 0 (PYi ca o I J R L S Q)) (h : wX6_here I J R L S Q) : G Γ 0 0 0 [(0, .ref (o 3))] [] (cX ca o I J R L S) := by
  unfold wX6_here at h
  refine g_aload_n C (i := 0) dX6_here_0 rfl rfl ?_
  refine x_get_X6_31 C dX6_here_1 ?_
  refine g_ifnullE C 35 dX6_here_4 rfl (fun c1 => ?_) (fun c1 => ?_)
  · replace h := h.1 c1
    refine g_iconst_m1 C dX6_here_35 ?_
    exact g_ret_i C dX6_here_36 (Nat.le_refl _) (Nat.le_refl _) ⟨_, rfl, rfl, h⟩
  · replace h := h.2 c1
    refine g_aload_n C (i := 0) dX6_here_7 rfl rfl ?_
    refine x_get_X6_31 C dX6_here_8 ?_
    refine g_aload_n C (i := 0) dX6_here_11 rfl rfl ?_
    refine x_get_X6_28 C dX6_here_12 ?_
    obtain ⟨z2, h3, h4, h⟩ := h
    refine g_eqs (st' := [.int (I 0 7), .ref (o (20 + z2))]) (by rw [h3]; rfl) rfl ?_
    refine x_callV C (wX8_k_has h4 (I 0 7) I J R L S _ h) sX6_120 (rcv_shelf (s := z2) h4) (rl_ok (by decide) (by decide)) rfl (Nat.le_of_ble_eq_true rfl) (st := []) _ rfl dX6_here_15 (py_z (fun r5 h => ?_))
    refine g_zeq C 35 dX6_here_18 rfl (fun c6 => ?_) (fun c6 => ?_)
    · replace h := h.1 c6
      refine g_iconst_m1 C dX6_here_35 ?_
      exact g_ret_i C dX6_here_36 (Nat.le_refl _) (Nat.le_refl _) ⟨_, rfl, rfl, h⟩
    · replace h := h.2 c6
      refine g_aload_n C (i := 0) dX6_here_21 rfl rfl ?_
      refine x_get_X6_31 C dX6_here_22 ?_
      refine g_aload_n C (i := 0) dX6_here_25 rfl rfl ?_
      refine x_get_X6_28 C dX6_here_26 ?_
      refine g_eqs (st' := [.int (I 0 7), .ref (o (20 + z2))]) (by rw [h3]; rfl) rfl ?_
      refine x_callV C (wX8_k_asInt h4 (I 0 7) I J R L S _ h) sX6_123 (rcv_shelf (s := z2) h4) (rl_ok (by decide) (by decide)) rfl (Nat.le_of_ble_eq_true rfl) (st := []) _ rfl dX6_here_29 (py_i (fun r7 h => ?_))
      refine g_goto C 36 dX6_here_32 rfl ?_
      exact g_ret_i C dX6_here_36 (Nat.le_refl _) (Nat.le_refl _) ⟨_, rfl, rfl, h⟩
theorem wX6_k_here {D : gD} {ca : Nat → ClassId} {o : Nat → Nat} {L : List Nat} {S : gS} (I : gI) (J : gJ) (R : gR) (L0 : List Nat) (S0 : gS) (Q : Int32 → Prop) (h : wX6_here I J R L S Q) : Ct yX6_here cX6_here 1 (some .int) (rl 2) D (tyW ca) 0 0 [.ref (o 3)] (cX ca o I J R L S) (PYi ca o I J R L S Q) := ct_of (rm := (rl 2)) (by decide +kernel) (Nat.le_of_ble_eq_true rfl) (fun Γ C => wX6_here_g C h)
theorem sX8_36 : gSite RX8 yX8_asInt cX8_asInt 2 (some .int) 36 1 := gSite.of (tb_in (List.mem_of_getElem? (i := 1006) (by decide +kernel)) (by decide +kernel)) (tb_in (List.mem_of_getElem? (i := 500) (by decide +kernel)) (by decide +kernel)) (tb_in (List.mem_of_getElem? (i := 501) (by decide +kernel)) (by decide +kernel)) (tb_in (List.mem_of_getElem? (i := 86) (by decide +kernel)) (by decide +kernel)) (tb_in (List.mem_of_getElem? (i := 502) (by decide +kernel)) (by decide +kernel)) (by decide +kernel)
set_option maxRecDepth 100000 in
theorem wX8_tells_g {Γ : gT} {D : gD} {ca : Nat → ClassId} {o : Nat → Nat} {I : gI} {J : gJ} {R : gR} {L : List Nat} {S : gS} {Q : Bool → Prop} {n0 : Nat} (hn0 : n0 < 8) (v1 : Int32) (v2 : Int32) (C : Cx Γ cX8_tells RX8 4 D (tyW ca) (rl 2) (some .boolean) 0 0 (PYz ca o I J R L S Q)) (h : wX8_tells n0 v1 v2 I J R L S Q) : G Γ 0 0 0 [(0, .ref (o (20 + n0))), (1, .int v1), (2, .int v2)] [] (cX ca o I J R L S) := by
  unfold wX8_tells at h
  refine g_aload_n C (i := 0) dX8_tells_0 rfl rfl ?_
  refine g_iload_n C (i := 1) dX8_tells_1 rfl rfl ?_
  refine x_callV C (wX8_k_asInt hn0 v1 I J R L S _ h) sX8_36 (rcv_shelf (s := n0) hn0) (rl_ok (by decide) (by decide)) rfl (Nat.le_of_ble_eq_true rfl) (st := []) _ rfl dX8_tells_2 (py_i (fun r1 h => ?_))
  refine g_istore_n C (i := 3) [(0, .ref (o (20 + n0))), (1, .int v1), (2, .int v2), (3, .int r1)] dX8_tells_5 rfl (by decide) rfl ?_
  refine g_iload_n C (i := 3) dX8_tells_6 rfl rfl ?_
  refine g_iload_n C (i := 2) dX8_tells_7 rfl rfl ?_
  refine g_icmp_eq C 20 dX8_tells_8 rfl (fun c2 => ?_) (fun c2 => ?_)
  · replace h := h.1 c2
    refine g_iconst_1 C dX8_tells_20 ?_
    refine g_goto C 25 dX8_tells_21 rfl ?_
    exact g_ret_z C true rfl dX8_tells_25 (Nat.le_refl _) (Nat.le_refl _) ⟨_, rfl, rfl, h⟩
  · replace h := h.2 c2
    refine g_iload_n C (i := 3) dX8_tells_11 rfl rfl ?_
    refine g_if_eq C 24 dX8_tells_12 rfl (fun c3 => ?_) (fun c3 => ?_)
    · replace h := h.1 c3
      refine g_iconst_0 C dX8_tells_24 ?_
      exact g_ret_z C false rfl dX8_tells_25 (Nat.le_refl _) (Nat.le_refl _) ⟨_, rfl, rfl, h⟩
    · replace h := h.2 c3
      refine g_iload_n C (i := 3) dX8_tells_15 rfl rfl ?_
      refine g_iconst_1 C dX8_tells_16 ?_
      refine g_icmp_eq C 24 dX8_tells_17 rfl (fun c4 => ?_) (fun c4 => ?_)
      · replace h := h.1 c4
        refine g_iconst_0 C dX8_tells_24 ?_
        exact g_ret_z C false rfl dX8_tells_25 (Nat.le_refl _) (Nat.le_refl _) ⟨_, rfl, rfl, h⟩
      · replace h := h.2 c4
        refine g_iconst_1 C dX8_tells_20 ?_
        refine g_goto C 25 dX8_tells_21 rfl ?_
        exact g_ret_z C true rfl dX8_tells_25 (Nat.le_refl _) (Nat.le_refl _) ⟨_, rfl, rfl, h⟩
theorem wX8_k_tells {D : gD} {ca : Nat → ClassId} {o : Nat → Nat} {L : List Nat} {S : gS} {n0 : Nat} (hn0 : n0 < 8) (v1 : Int32) (v2 : Int32) (I : gI) (J : gJ) (R : gR) (L0 : List Nat) (S0 : gS) (Q : Bool → Prop) (h : wX8_tells n0 v1 v2 I J R L S Q) : Ct yX8_tells cX8_tells 4 (some .boolean) (rl 2) D (tyW ca) 0 0 [.ref (o (20 + n0)), .int v1, .int v2] (cX ca o I J R L S) (PYz ca o I J R L S Q) := ct_of (rm := (rl 2)) (by decide +kernel) (Nat.le_of_ble_eq_true rfl) (fun Γ C => wX8_tells_g hn0 v1 v2 C h)
theorem sX9_55_1 : gSiteU RX9 "FoldedInHalf$Same" "FoldedInHalf$Strip" ⟨"FoldedInHalf$Strip", "creaseCount", "()J"⟩ yX9_creaseCount cX9_creaseCount 1 (some .long) 55 0 := gSiteU.inh (tb_in (List.mem_of_getElem? (i := 438) (by decide +kernel)) (by decide +kernel)) (tb_in (List.mem_of_getElem? (i := 396) (by decide +kernel)) (by decide +kernel)) (tb_in (List.mem_of_getElem? (i := 405) (by decide +kernel)) (by decide +kernel)) (tb_in (List.mem_of_getElem? (i := 394) (by decide +kernel)) (by decide +kernel)) (tb_in (List.mem_of_getElem? (i := 90) (by decide +kernel)) (by decide +kernel)) (tb_in (List.mem_of_getElem? (i := 410) (by decide +kernel)) (by decide +kernel)) rfl (by decide +kernel)
theorem sX9_55_2 : gSiteU RX9 "FoldedInHalf$Third" "FoldedInHalf$Strip" ⟨"FoldedInHalf$Strip", "creaseCount", "()J"⟩ yX10_creaseCount cX10_creaseCount 4 (some .long) 55 0 := gSiteU.ovr (b0 := cX9_creaseCount) (m0 := 1) (r0 := (some .long)) (tb_in (List.mem_of_getElem? (i := 438) (by decide +kernel)) (by decide +kernel)) (tb_in (List.mem_of_getElem? (i := 396) (by decide +kernel)) (by decide +kernel)) (tb_in (List.mem_of_getElem? (i := 394) (by decide +kernel)) (by decide +kernel)) (tb_in (List.mem_of_getElem? (i := 406) (by decide +kernel)) (by decide +kernel)) (tb_in (List.mem_of_getElem? (i := 407) (by decide +kernel)) (by decide +kernel)) (tb_in (List.mem_of_getElem? (i := 92) (by decide +kernel)) (by decide +kernel)) (tb_in (List.mem_of_getElem? (i := 408) (by decide +kernel)) (by decide +kernel)) (tb_in (List.mem_of_getElem? (i := 410) (by decide +kernel)) (by decide +kernel)) (by decide +kernel)
theorem sX9_55_3 : gSiteU RX9 "FoldedInHalf$Cut" "FoldedInHalf$Strip" ⟨"FoldedInHalf$Strip", "creaseCount", "()J"⟩ yX2_creaseCount cX2_creaseCount 1 (some .long) 55 0 := gSiteU.ovr (b0 := cX9_creaseCount) (m0 := 1) (r0 := (some .long)) (tb_in (List.mem_of_getElem? (i := 438) (by decide +kernel)) (by decide +kernel)) (tb_in (List.mem_of_getElem? (i := 396) (by decide +kernel)) (by decide +kernel)) (tb_in (List.mem_of_getElem? (i := 394) (by decide +kernel)) (by decide +kernel)) (tb_in (List.mem_of_getElem? (i := 402) (by decide +kernel)) (by decide +kernel)) (tb_in (List.mem_of_getElem? (i := 398) (by decide +kernel)) (by decide +kernel)) (tb_in (List.mem_of_getElem? (i := 93) (by decide +kernel)) (by decide +kernel)) (tb_in (List.mem_of_getElem? (i := 399) (by decide +kernel)) (by decide +kernel)) (tb_in (List.mem_of_getElem? (i := 410) (by decide +kernel)) (by decide +kernel)) (by decide +kernel)
theorem sX9_55_4 : gSiteU RX9 "FoldedInHalf$Back" "FoldedInHalf$Strip" ⟨"FoldedInHalf$Strip", "creaseCount", "()J"⟩ yX2_creaseCount cX2_creaseCount 1 (some .long) 55 0 := gSiteU.ovr (b0 := cX9_creaseCount) (m0 := 1) (r0 := (some .long)) (tb_in (List.mem_of_getElem? (i := 438) (by decide +kernel)) (by decide +kernel)) (tb_in (List.mem_of_getElem? (i := 396) (by decide +kernel)) (by decide +kernel)) (tb_in (List.mem_of_getElem? (i := 394) (by decide +kernel)) (by decide +kernel)) (tb_in (List.mem_of_getElem? (i := 397) (by decide +kernel)) (by decide +kernel)) (tb_in (List.mem_of_getElem? (i := 398) (by decide +kernel)) (by decide +kernel)) (tb_in (List.mem_of_getElem? (i := 93) (by decide +kernel)) (by decide +kernel)) (tb_in (List.mem_of_getElem? (i := 399) (by decide +kernel)) (by decide +kernel)) (tb_in (List.mem_of_getElem? (i := 410) (by decide +kernel)) (by decide +kernel)) (by decide +kernel)
theorem sX9_55_5 : gSiteU RX9 "FoldedInHalf$Glass" "FoldedInHalf$Strip" ⟨"FoldedInHalf$Strip", "creaseCount", "()J"⟩ yX9_creaseCount cX9_creaseCount 1 (some .long) 55 0 := gSiteU.inh (tb_in (List.mem_of_getElem? (i := 438) (by decide +kernel)) (by decide +kernel)) (tb_in (List.mem_of_getElem? (i := 396) (by decide +kernel)) (by decide +kernel)) (tb_in (List.mem_of_getElem? (i := 403) (by decide +kernel)) (by decide +kernel)) (tb_in (List.mem_of_getElem? (i := 394) (by decide +kernel)) (by decide +kernel)) (tb_in (List.mem_of_getElem? (i := 90) (by decide +kernel)) (by decide +kernel)) (tb_in (List.mem_of_getElem? (i := 410) (by decide +kernel)) (by decide +kernel)) rfl (by decide +kernel)
theorem sX9_55_6 : gSiteU RX9 "FoldedInHalf$Left" "FoldedInHalf$Strip" ⟨"FoldedInHalf$Strip", "creaseCount", "()J"⟩ yX9_creaseCount cX9_creaseCount 1 (some .long) 55 0 := gSiteU.inh (tb_in (List.mem_of_getElem? (i := 438) (by decide +kernel)) (by decide +kernel)) (tb_in (List.mem_of_getElem? (i := 396) (by decide +kernel)) (by decide +kernel)) (tb_in (List.mem_of_getElem? (i := 404) (by decide +kernel)) (by decide +kernel)) (tb_in (List.mem_of_getElem? (i := 394) (by decide +kernel)) (by decide +kernel)) (tb_in (List.mem_of_getElem? (i := 90) (by decide +kernel)) (by decide +kernel)) (tb_in (List.mem_of_getElem? (i := 410) (by decide +kernel)) (by decide +kernel)) rfl (by decide +kernel)
theorem sX9_55_0 : gSite RX9 yX9_creaseCount cX9_creaseCount 1 (some .long) 55 0 := gSite.of (tb_in (List.mem_of_getElem? (i := 438) (by decide +kernel)) (by decide +kernel)) (tb_in (List.mem_of_getElem? (i := 394) (by decide +kernel)) (by decide +kernel)) (tb_in (List.mem_of_getElem? (i := 395) (by decide +kernel)) (by decide +kernel)) (tb_in (List.mem_of_getElem? (i := 90) (by decide +kernel)) (by decide +kernel)) (tb_in (List.mem_of_getElem? (i := 410) (by decide +kernel)) (by decide +kernel)) (by decide +kernel)
theorem xv_X9_55 {Γ : gT} {cc : ByteArray} {nL : Nat} {D : gD} {ca : Nat → ClassId} {rm : Room} {ret : Option FieldType} {mc ms : Nat} {Post : Option Value → va_W → Prop} {cn sn pc : Nat} {lv : List (Nat × Value)} {st : List Value} {o : Nat → Nat} {L : List Nat} {S : gS} (C0 : Cx Γ cc RX9 nL D (tyW ca) rm ret mc ms Post) {q0 : Nat} (hq0 : q0 ∈ L)  (I : gI) (J : gJ) (R : gR) (L0 : List Nat) (S0 : gS) (Q : Int64 → Prop) (h : wv_creaseCount q0  I J R L S Q) (hroom : ∀ l maxL : Nat, l ≤ 1 → maxL ≤ 81 → gRm (rl l) rm maxL 0 0 cn sn) (hst : (st.map fun v => v.category).sum ≤ 8) (st0 : List Value) (hs0 : st0 = ([] : List Value).reverse ++ .ref q0 :: st) (hd : decode cc pc = .ok (.invokevirtual 55, 3)) (k : ∀ (r : Int64) , Q r  → G Γ cn sn (pc + 3) lv (.long r :: st) (cX ca o I J R L S)) : G Γ cn sn pc lv st0 (cX ca o I J R L S) := by
  unfold wv_creaseCount at h
  by_cases h1 : sC (S q0) = 1
  · exact x_callU C0 (wX9_k_creaseCount hq0   I J R L S Q (h.1 h1)) sX9_55_1 (rcv_1 hq0 h1) (hroom _ _ (by decide) (by decide)) rfl hst st0 hs0 hd (py_l k)
  replace h := h.2 h1
  by_cases h2 : sC (S q0) = 2
  · exact x_callU C0 (wX10_k_creaseCount hq0 h2   I J R L S Q (h.1 h2)) sX9_55_2 (rcv_2 hq0 h2) (hroom _ _ (by decide) (by decide)) rfl hst st0 hs0 hd (py_l k)
  replace h := h.2 h2
  by_cases h3 : sC (S q0) = 3
  · exact x_callU C0 (wX2_k_creaseCount hq0 (Or.inl h3)   I J R L S Q (h.1 h3)) sX9_55_3 (rcv_3 hq0 h3) (hroom _ _ (by decide) (by decide)) rfl hst st0 hs0 hd (py_l k)
  replace h := h.2 h3
  by_cases h4 : sC (S q0) = 4
  · exact x_callU C0 (wX2_k_creaseCount hq0 (Or.inr h4)   I J R L S Q (h.1 h4)) sX9_55_4 (rcv_4 hq0 h4) (hroom _ _ (by decide) (by decide)) rfl hst st0 hs0 hd (py_l k)
  replace h := h.2 h4
  by_cases h5 : sC (S q0) = 5
  · exact x_callU C0 (wX9_k_creaseCount hq0   I J R L S Q (h.1 h5)) sX9_55_5 (rcv_5 hq0 h5) (hroom _ _ (by decide) (by decide)) rfl hst st0 hs0 hd (py_l k)
  replace h := h.2 h5
  by_cases h6 : sC (S q0) = 6
  · exact x_callU C0 (wX9_k_creaseCount hq0   I J R L S Q (h.1 h6)) sX9_55_6 (rcv_6 hq0 h6) (hroom _ _ (by decide) (by decide)) rfl hst st0 hs0 hd (py_l k)
  replace h := h.2 h6
  exact x_callV C0 (wX9_k_creaseCount hq0   I J R L S Q h) sX9_55_0 (rcv_0 hq0 h1 h2 h3 h4 h5 h6) (hroom _ _ (by decide) (by decide)) rfl hst st0 hs0 hd (py_l k)
set_option maxRecDepth 100000 in
theorem wX9_sides_g {Γ : gT} {D : gD} {ca : Nat → ClassId} {o : Nat → Nat} {I : gI} {J : gJ} {R : gR} {L : List Nat} {S : gS} {Q : Int64 → Prop} {q0 : Nat} (hq0 : q0 ∈ L) (C : Cx Γ cX9_sides RX9 1 D (tyW ca) (rl 2) (some .long) 0 0 (PYl ca o I J R L S Q)) (h : wX9_sides q0 I J R L S Q) : G Γ 0 0 0 [(0, .ref q0)] [] (cX ca o I J R L S) := by
  unfold wX9_sides at h
  refine g_aload_n C (i := 0) dX9_sides_0 rfl rfl ?_
  refine xv_X9_55 C hq0 I J R L S _ h (fun l m h1 h2 => rl_ok (by omega) h2) (Nat.le_of_ble_eq_true rfl) (st := []) _ rfl dX9_sides_1 (fun r1 h => ?_)
  refine g_lconst_1 C dX9_sides_4 ?_
  refine g_ladd C dX9_sides_5 ?_
  exact g_ret_l C dX9_sides_6 (Nat.le_refl _) (Nat.le_refl _) ⟨_, rfl, rfl, h⟩
theorem wX9_k_sides {D : gD} {ca : Nat → ClassId} {o : Nat → Nat} {L : List Nat} {S : gS} {q0 : Nat} (hq0 : q0 ∈ L) (I : gI) (J : gJ) (R : gR) (L0 : List Nat) (S0 : gS) (Q : Int64 → Prop) (h : wX9_sides q0 I J R L S Q) : Ct yX9_sides cX9_sides 1 (some .long) (rl 2) D (tyW ca) 0 0 [.ref q0] (cX ca o I J R L S) (PYl ca o I J R L S Q) := ct_of (rm := (rl 2)) (by decide +kernel) (Nat.le_of_ble_eq_true rfl) (fun Γ C => wX9_sides_g hq0 C h)
theorem sX9_60_1 : gSiteU RX9 "FoldedInHalf$Same" "FoldedInHalf$Strip" ⟨"FoldedInHalf$Strip", "toward", "(I)I"⟩ yX9_toward cX9_toward 2 (some .int) 60 1 := gSiteU.inh (tb_in (List.mem_of_getElem? (i := 780) (by decide +kernel)) (by decide +kernel)) (tb_in (List.mem_of_getElem? (i := 783) (by decide +kernel)) (by decide +kernel)) (tb_in (List.mem_of_getElem? (i := 788) (by decide +kernel)) (by decide +kernel)) (tb_in (List.mem_of_getElem? (i := 781) (by decide +kernel)) (by decide +kernel)) (tb_in (List.mem_of_getElem? (i := 90) (by decide +kernel)) (by decide +kernel)) (tb_in (List.mem_of_getElem? (i := 790) (by decide +kernel)) (by decide +kernel)) rfl (by decide +kernel)
theorem sX9_60_2 : gSiteU RX9 "FoldedInHalf$Third" "FoldedInHalf$Strip" ⟨"FoldedInHalf$Strip", "toward", "(I)I"⟩ yX9_toward cX9_toward 2 (some .int) 60 1 := gSiteU.inh (tb_in (List.mem_of_getElem? (i := 780) (by decide +kernel)) (by decide +kernel)) (tb_in (List.mem_of_getElem? (i := 783) (by decide +kernel)) (by decide +kernel)) (tb_in (List.mem_of_getElem? (i := 789) (by decide +kernel)) (by decide +kernel)) (tb_in (List.mem_of_getElem? (i := 781) (by decide +kernel)) (by decide +kernel)) (tb_in (List.mem_of_getElem? (i := 90) (by decide +kernel)) (by decide +kernel)) (tb_in (List.mem_of_getElem? (i := 790) (by decide +kernel)) (by decide +kernel)) rfl (by decide +kernel)
theorem sX9_60_3 : gSiteU RX9 "FoldedInHalf$Cut" "FoldedInHalf$Strip" ⟨"FoldedInHalf$Strip", "toward", "(I)I"⟩ yX9_toward cX9_toward 2 (some .int) 60 1 := gSiteU.inh (tb_in (List.mem_of_getElem? (i := 780) (by decide +kernel)) (by decide +kernel)) (tb_in (List.mem_of_getElem? (i := 783) (by decide +kernel)) (by decide +kernel)) (tb_in (List.mem_of_getElem? (i := 785) (by decide +kernel)) (by decide +kernel)) (tb_in (List.mem_of_getElem? (i := 781) (by decide +kernel)) (by decide +kernel)) (tb_in (List.mem_of_getElem? (i := 90) (by decide +kernel)) (by decide +kernel)) (tb_in (List.mem_of_getElem? (i := 790) (by decide +kernel)) (by decide +kernel)) rfl (by decide +kernel)
theorem sX9_60_4 : gSiteU RX9 "FoldedInHalf$Back" "FoldedInHalf$Strip" ⟨"FoldedInHalf$Strip", "toward", "(I)I"⟩ yX9_toward cX9_toward 2 (some .int) 60 1 := gSiteU.inh (tb_in (List.mem_of_getElem? (i := 780) (by decide +kernel)) (by decide +kernel)) (tb_in (List.mem_of_getElem? (i := 783) (by decide +kernel)) (by decide +kernel)) (tb_in (List.mem_of_getElem? (i := 784) (by decide +kernel)) (by decide +kernel)) (tb_in (List.mem_of_getElem? (i := 781) (by decide +kernel)) (by decide +kernel)) (tb_in (List.mem_of_getElem? (i := 90) (by decide +kernel)) (by decide +kernel)) (tb_in (List.mem_of_getElem? (i := 790) (by decide +kernel)) (by decide +kernel)) rfl (by decide +kernel)
theorem sX9_60_5 : gSiteU RX9 "FoldedInHalf$Glass" "FoldedInHalf$Strip" ⟨"FoldedInHalf$Strip", "toward", "(I)I"⟩ yX9_toward cX9_toward 2 (some .int) 60 1 := gSiteU.inh (tb_in (List.mem_of_getElem? (i := 780) (by decide +kernel)) (by decide +kernel)) (tb_in (List.mem_of_getElem? (i := 783) (by decide +kernel)) (by decide +kernel)) (tb_in (List.mem_of_getElem? (i := 786) (by decide +kernel)) (by decide +kernel)) (tb_in (List.mem_of_getElem? (i := 781) (by decide +kernel)) (by decide +kernel)) (tb_in (List.mem_of_getElem? (i := 90) (by decide +kernel)) (by decide +kernel)) (tb_in (List.mem_of_getElem? (i := 790) (by decide +kernel)) (by decide +kernel)) rfl (by decide +kernel)
theorem sX9_60_6 : gSiteU RX9 "FoldedInHalf$Left" "FoldedInHalf$Strip" ⟨"FoldedInHalf$Strip", "toward", "(I)I"⟩ yX9_toward cX9_toward 2 (some .int) 60 1 := gSiteU.inh (tb_in (List.mem_of_getElem? (i := 780) (by decide +kernel)) (by decide +kernel)) (tb_in (List.mem_of_getElem? (i := 783) (by decide +kernel)) (by decide +kernel)) (tb_in (List.mem_of_getElem? (i := 787) (by decide +kernel)) (by decide +kernel)) (tb_in (List.mem_of_getElem? (i := 781) (by decide +kernel)) (by decide +kernel)) (tb_in (List.mem_of_getElem? (i := 90) (by decide +kernel)) (by decide +kernel)) (tb_in (List.mem_of_getElem? (i := 790) (by decide +kernel)) (by decide +kernel)) rfl (by decide +kernel)
theorem sX9_60_0 : gSite RX9 yX9_toward cX9_toward 2 (some .int) 60 1 := gSite.of (tb_in (List.mem_of_getElem? (i := 780) (by decide +kernel)) (by decide +kernel)) (tb_in (List.mem_of_getElem? (i := 781) (by decide +kernel)) (by decide +kernel)) (tb_in (List.mem_of_getElem? (i := 782) (by decide +kernel)) (by decide +kernel)) (tb_in (List.mem_of_getElem? (i := 90) (by decide +kernel)) (by decide +kernel)) (tb_in (List.mem_of_getElem? (i := 790) (by decide +kernel)) (by decide +kernel)) (by decide +kernel)
theorem xv_X9_60 {Γ : gT} {cc : ByteArray} {nL : Nat} {D : gD} {ca : Nat → ClassId} {rm : Room} {ret : Option FieldType} {mc ms : Nat} {Post : Option Value → va_W → Prop} {cn sn pc : Nat} {lv : List (Nat × Value)} {st : List Value} {o : Nat → Nat} {L : List Nat} {S : gS} (C0 : Cx Γ cc RX9 nL D (tyW ca) rm ret mc ms Post) {q0 : Nat} (hq0 : q0 ∈ L) (v1 : Int32) (I : gI) (J : gJ) (R : gR) (L0 : List Nat) (S0 : gS) (Q : Int32 → Prop) (h : wv_toward q0 v1 I J R L S Q) (hroom : ∀ l maxL : Nat, l ≤ 1 → maxL ≤ 81 → gRm (rl l) rm maxL 0 0 cn sn) (hst : (st.map fun v => v.category).sum ≤ 8) (st0 : List Value) (hs0 : st0 = ([.int v1] : List Value).reverse ++ .ref q0 :: st) (hd : decode cc pc = .ok (.invokevirtual 60, 3)) (k : ∀ (r : Int32) , Q r  → G Γ cn sn (pc + 3) lv (.int r :: st) (cX ca o I J R L S)) : G Γ cn sn pc lv st0 (cX ca o I J R L S) := by
  unfold wv_toward at h
  by_cases h1 : sC (S q0) = 1
  · exact x_callU C0 (wX9_k_toward hq0  v1 I J R L S Q (h.1 h1)) sX9_60_1 (rcv_1 hq0 h1) (hroom _ _ (by decide) (by decide)) rfl hst st0 hs0 hd (py_i k)
  replace h := h.2 h1
  by_cases h2 : sC (S q0) = 2
  · exact x_callU C0 (wX9_k_toward hq0  v1 I J R L S Q (h.1 h2)) sX9_60_2 (rcv_2 hq0 h2) (hroom _ _ (by decide) (by decide)) rfl hst st0 hs0 hd (py_i k)
  replace h := h.2 h2
  by_cases h3 : sC (S q0) = 3
  · exact x_callU C0 (wX9_k_toward hq0  v1 I J R L S Q (h.1 h3)) sX9_60_3 (rcv_3 hq0 h3) (hroom _ _ (by decide) (by decide)) rfl hst st0 hs0 hd (py_i k)
  replace h := h.2 h3
  by_cases h4 : sC (S q0) = 4
  · exact x_callU C0 (wX9_k_toward hq0  v1 I J R L S Q (h.1 h4)) sX9_60_4 (rcv_4 hq0 h4) (hroom _ _ (by decide) (by decide)) rfl hst st0 hs0 hd (py_i k)
  replace h := h.2 h4
  by_cases h5 : sC (S q0) = 5
  · exact x_callU C0 (wX9_k_toward hq0  v1 I J R L S Q (h.1 h5)) sX9_60_5 (rcv_5 hq0 h5) (hroom _ _ (by decide) (by decide)) rfl hst st0 hs0 hd (py_i k)
  replace h := h.2 h5
  by_cases h6 : sC (S q0) = 6
  · exact x_callU C0 (wX9_k_toward hq0  v1 I J R L S Q (h.1 h6)) sX9_60_6 (rcv_6 hq0 h6) (hroom _ _ (by decide) (by decide)) rfl hst st0 hs0 hd (py_i k)
  replace h := h.2 h6
  exact x_callV C0 (wX9_k_toward hq0  v1 I J R L S Q h) sX9_60_0 (rcv_0 hq0 h1 h2 h3 h4 h5 h6) (hroom _ _ (by decide) (by decide)) rfl hst st0 hs0 hd (py_i k)
set_option maxRecDepth 100000 in
theorem wX9_leftOver_g {Γ : gT} {D : gD} {ca : Nat → ClassId} {o : Nat → Nat} {I : gI} {J : gJ} {R : gR} {L : List Nat} {S : gS} {Q : Int32 → Prop} {q0 : Nat} (hq0 : q0 ∈ L) (v1 : Int64) (v3 : Int32) (C : Cx Γ cX9_leftOver RX9 6 D (tyW ca) (rl 2) (some .int) 0 0 (PYi ca o I J R L S Q)) (h : wX9_leftOver q0 v1 v3 I J R L S Q) : G Γ 0 0 0 [(0, .ref q0), (1, .long v1), (3, .int v3)] [] (cX ca o I J R L S) := by
  unfold wX9_leftOver at h
  refine g_lload_n C (i := 1) dX9_leftOver_0 rfl rfl ?_
  refine g_iload_n C (i := 3) dX9_leftOver_1 rfl rfl ?_
  refine g_lshr C dX9_leftOver_2 ?_
  refine g_lconst_1 C dX9_leftOver_3 ?_
  refine g_ladd C dX9_leftOver_4 ?_
  refine g_ldc2 C (v := 2) (tb_in (List.mem_of_getElem? (i := 779) (by decide +kernel)) (by decide +kernel)) dX9_leftOver_5 ?_
  refine g_ldiv C dX9_leftOver_8 (by decide) ?_
  refine g_lstore C (i := 4) [(0, .ref q0), (1, .long v1), (3, .int v3), (4, .long (((v1 >>> (v3.toInt64 &&& 63)) + 1) / 2))] dX9_leftOver_9 (by decide) rfl ?_
  refine g_lload C (i := 4) dX9_leftOver_11 rfl ?_
  refine g_ldc2 C (v := 2) (tb_in (List.mem_of_getElem? (i := 779) (by decide +kernel)) (by decide +kernel)) dX9_leftOver_13 ?_
  refine g_lrem C dX9_leftOver_16 (by decide) ?_
  refine g_lconst_1 C dX9_leftOver_17 ?_
  refine g_lne C 30 dX9_leftOver_18 dX9_leftOver_19 rfl (fun c1 => ?_) (fun c1 => ?_)
  · replace h := h.1 c1
    refine g_iconst_0 C dX9_leftOver_30 ?_
    exact g_ret_i C dX9_leftOver_31 (Nat.le_refl _) (Nat.le_refl _) ⟨_, rfl, rfl, h⟩
  · replace h := h.2 c1
    refine g_aload_n C (i := 0) dX9_leftOver_22 rfl rfl ?_
    refine g_iload_n C (i := 3) dX9_leftOver_23 rfl rfl ?_
    refine xv_X9_60 C hq0 v3 I J R L S _ h (fun l m h1 h2 => rl_ok (by omega) h2) (Nat.le_of_ble_eq_true rfl) (st := []) _ rfl dX9_leftOver_24 (fun r2 h => ?_)
    refine g_goto C 31 dX9_leftOver_27 rfl ?_
    exact g_ret_i C dX9_leftOver_31 (Nat.le_refl _) (Nat.le_refl _) ⟨_, rfl, rfl, h⟩
theorem wX9_k_leftOver {D : gD} {ca : Nat → ClassId} {o : Nat → Nat} {L : List Nat} {S : gS} {q0 : Nat} (hq0 : q0 ∈ L) (v1 : Int64) (v3 : Int32) (I : gI) (J : gJ) (R : gR) (L0 : List Nat) (S0 : gS) (Q : Int32 → Prop) (h : wX9_leftOver q0 v1 v3 I J R L S Q) : Ct yX9_leftOver cX9_leftOver 6 (some .int) (rl 2) D (tyW ca) 0 0 [.ref q0, .long v1, .int v3] (cX ca o I J R L S) (PYi ca o I J R L S Q) := ct_of (rm := (rl 2)) (by decide +kernel) (Nat.le_of_ble_eq_true rfl) (fun Γ C => wX9_leftOver_g hq0 v1 v3 C h)
theorem sX10_21_2 : gSiteU RX10 "FoldedInHalf$Third" "FoldedInHalf$Strip" ⟨"FoldedInHalf$Third", "toward", "(I)I"⟩ yX9_toward cX9_toward 2 (some .int) 21 1 := gSiteU.inh (tb_in (List.mem_of_getElem? (i := 795) (by decide +kernel)) (by decide +kernel)) (tb_in (List.mem_of_getElem? (i := 796) (by decide +kernel)) (by decide +kernel)) (tb_in (List.mem_of_getElem? (i := 798) (by decide +kernel)) (by decide +kernel)) (tb_in (List.mem_of_getElem? (i := 781) (by decide +kernel)) (by decide +kernel)) (tb_in (List.mem_of_getElem? (i := 90) (by decide +kernel)) (by decide +kernel)) (tb_in (List.mem_of_getElem? (i := 790) (by decide +kernel)) (by decide +kernel)) rfl (by decide +kernel)
set_option maxRecDepth 100000 in
theorem wX10_wayBehind_gb8 {Γ : gT} {D : gD} {ca : Nat → ClassId} {o : Nat → Nat} {Q : Int32 → Prop} {I : gI} {J : gJ} {R : gR} {L : List Nat} {S : gS} {q0 : Nat} (hq0 : q0 ∈ L) (hc0 : sC (S q0) = 2) (C : Cx Γ cX10_wayBehind RX10 7 D (tyW ca) (rl 2) (some .int) 0 0 (PYi ca o I J R L S Q)) {B8 : Int64 → Int32 → Int32 → Prop} (hB8 : ∀ (v3 : Int64) (v5 : Int32) (v6 : Int32) , B8 v3 v5 v6 → G Γ 0 0 8 [(0, .ref q0), (3, .long v3), (5, .int v5), (6, .int v6)] [] (cX ca o I J R L S)) (v3 : Int64) (v5 : Int32) (v6 : Int32) (h : wX10_wayBehind_b8 q0 I J R L S B8 v3 v5 v6 Q) : G Γ 0 0 8 [(0, .ref q0), (3, .long v3), (5, .int v5), (6, .int v6)] [] (cX ca o I J R L S) := by
  unfold wX10_wayBehind_b8 at h
  refine g_iload C (i := 6) dX10_wayBehind_8 rfl ?_
  refine g_aload_n C (i := 0) dX10_wayBehind_10 rfl rfl ?_
  refine x_get_X10_9 C hq0 hc0 dX10_wayBehind_11 ?_
  refine g_icmp_ge C 50 dX10_wayBehind_14 rfl (fun c1 => ?_) (fun c1 => ?_)
  · replace h := h.1 c1
    refine g_iload C (i := 5) dX10_wayBehind_50 rfl ?_
    refine g_iconst_3 C dX10_wayBehind_52 ?_
    refine g_iand C dX10_wayBehind_53 ?_
    exact g_ret_i C dX10_wayBehind_54 (Nat.le_refl _) (Nat.le_refl _) ⟨_, rfl, rfl, h⟩
  · replace h := h.2 c1
    refine g_lload_n C (i := 3) dX10_wayBehind_17 rfl rfl ?_
    refine g_ldc2 C (v := 3) (tb_in (List.mem_of_getElem? (i := 409) (by decide +kernel)) (by decide +kernel)) dX10_wayBehind_18 ?_
    refine g_lrem C dX10_wayBehind_21 (by decide) ?_
    refine g_lconst_1 C dX10_wayBehind_22 ?_
    refine g_lne C 38 dX10_wayBehind_23 dX10_wayBehind_24 rfl (fun c2 => ?_) (fun c2 => ?_)
    · replace h := h.1 c2
      refine g_lload_n C (i := 3) dX10_wayBehind_38 rfl rfl ?_
      refine g_ldc2 C (v := 3) (tb_in (List.mem_of_getElem? (i := 409) (by decide +kernel)) (by decide +kernel)) dX10_wayBehind_39 ?_
      refine g_ldiv C dX10_wayBehind_42 (by decide) ?_
      refine g_lstore_n C (i := 3) [(0, .ref q0), (3, .long (v3 / 3)), (5, .int v5), (6, .int v6)] dX10_wayBehind_43 rfl (by decide) rfl ?_
      refine g_iinc C 1 [(0, .ref q0), (3, .long (v3 / 3)), (5, .int v5), (6, .int (v6 + 1))] dX10_wayBehind_44 rfl (by decide) (by decide) rfl ?_
      refine g_goto C 8 dX10_wayBehind_47 rfl ?_
      exact g_weak [0, 1, 2, 3] rfl (Nat.le_refl _) (Nat.le_refl _) (hB8 (v3 / 3) v5 (v6 + 1)  h)
    · replace h := h.2 c2
      refine g_iload C (i := 5) dX10_wayBehind_27 rfl ?_
      refine g_aload_n C (i := 0) dX10_wayBehind_29 rfl rfl ?_
      refine g_iload C (i := 6) dX10_wayBehind_30 rfl ?_
      refine x_callU C (wX9_k_toward hq0 v6 I J R L S _ h) sX10_21_2 (rcv_2 hq0 hc0) (rl_ok (by decide) (by decide)) rfl (Nat.le_of_ble_eq_true rfl) (st := [.int v5]) _ rfl dX10_wayBehind_32 (py_i (fun r3 h => ?_))
      refine g_iadd C dX10_wayBehind_35 ?_
      refine g_istore C (i := 5) [(0, .ref q0), (3, .long v3), (5, .int (v5 + r3)), (6, .int v6)] dX10_wayBehind_36 (by decide) rfl ?_
      refine g_lload_n C (i := 3) dX10_wayBehind_38 rfl rfl ?_
      refine g_ldc2 C (v := 3) (tb_in (List.mem_of_getElem? (i := 409) (by decide +kernel)) (by decide +kernel)) dX10_wayBehind_39 ?_
      refine g_ldiv C dX10_wayBehind_42 (by decide) ?_
      refine g_lstore_n C (i := 3) [(0, .ref q0), (3, .long (v3 / 3)), (5, .int (v5 + r3)), (6, .int v6)] dX10_wayBehind_43 rfl (by decide) rfl ?_
      refine g_iinc C 1 [(0, .ref q0), (3, .long (v3 / 3)), (5, .int (v5 + r3)), (6, .int (v6 + 1))] dX10_wayBehind_44 rfl (by decide) (by decide) rfl ?_
      refine g_goto C 8 dX10_wayBehind_47 rfl ?_
      exact g_weak [0, 1, 2, 3] rfl (Nat.le_refl _) (Nat.le_refl _) (hB8 (v3 / 3) (v5 + r3) (v6 + 1)  h)
theorem wX10_wayBehind_gl8 {Γ : gT} {D : gD} {ca : Nat → ClassId} {o : Nat → Nat} {Q : Int32 → Prop} {I : gI} {J : gJ} {R : gR} {L : List Nat} {S : gS} {q0 : Nat} (hq0 : q0 ∈ L) (hc0 : sC (S q0) = 2) (C : Cx Γ cX10_wayBehind RX10 7 D (tyW ca) (rl 2) (some .int) 0 0 (PYi ca o I J R L S Q)) : ∀ (n : Nat) (v3 : Int64) (v5 : Int32) (v6 : Int32) (_ : wX10_wayBehind_l8 q0 I J R L S Q n v3 v5 v6 ), G Γ 0 0 8 [(0, .ref q0), (3, .long v3), (5, .int v5), (6, .int v6)] [] (cX ca o I J R L S) := by
  intro n
  induction n with
  | zero => intro v3 v5 v6  h; exact h.elim
  | succ n ih => intro v3 v5 v6  h; exact wX10_wayBehind_gb8 hq0 hc0 C ih v3 v5 v6 h
set_option maxRecDepth 100000 in
theorem wX10_wayBehind_g {Γ : gT} {D : gD} {ca : Nat → ClassId} {o : Nat → Nat} {I : gI} {J : gJ} {R : gR} {L : List Nat} {S : gS} {Q : Int32 → Prop} {q0 : Nat} (hq0 : q0 ∈ L) (hc0 : sC (S q0) = 2) (v1 : Int64) (C : Cx Γ cX10_wayBehind RX10 7 D (tyW ca) (rl 2) (some .int) 0 0 (PYi ca o I J R L S Q)) (h : wX10_wayBehind q0 v1 I J R L S Q) : G Γ 0 0 0 [(0, .ref q0), (1, .long v1)] [] (cX ca o I J R L S) := by
  unfold wX10_wayBehind at h
  refine g_lload_n C (i := 1) dX10_wayBehind_0 rfl rfl ?_
  refine g_lstore_n C (i := 3) [(0, .ref q0), (1, .long v1), (3, .long v1)] dX10_wayBehind_1 rfl (by decide) rfl ?_
  refine g_iconst_0 C dX10_wayBehind_2 ?_
  refine g_istore C (i := 5) [(0, .ref q0), (1, .long v1), (3, .long v1), (5, .int 0)] dX10_wayBehind_3 (by decide) rfl ?_
  refine g_iconst_0 C dX10_wayBehind_5 ?_
  refine g_istore C (i := 6) [(0, .ref q0), (1, .long v1), (3, .long v1), (5, .int 0), (6, .int 0)] dX10_wayBehind_6 (by decide) rfl ?_
  obtain ⟨n, h⟩ := h
  exact g_weak [0, 2, 3, 4] rfl (Nat.le_refl _) (Nat.le_refl _) (wX10_wayBehind_gl8 hq0 hc0 C  n v1 0 0  h)
theorem wX10_k_wayBehind {D : gD} {ca : Nat → ClassId} {o : Nat → Nat} {L : List Nat} {S : gS} {q0 : Nat} (hq0 : q0 ∈ L) (hc0 : sC (S q0) = 2) (v1 : Int64) (I : gI) (J : gJ) (R : gR) (L0 : List Nat) (S0 : gS) (Q : Int32 → Prop) (h : wX10_wayBehind q0 v1 I J R L S Q) : Ct yX10_wayBehind cX10_wayBehind 7 (some .int) (rl 2) D (tyW ca) 0 0 [.ref q0, .long v1] (cX ca o I J R L S) (PYi ca o I J R L S Q) := ct_of (rm := (rl 2)) (by decide +kernel) (Nat.le_of_ble_eq_true rfl) (fun Γ C => wX10_wayBehind_g hq0 hc0 v1 C h)
theorem sJ4_50 : gSiteP RJ4 yJ5_append_3fe6f cJ5_append_3fe6f 2 (some (.object "java/lang/AbstractStringBuilder")) 50 1 := gSiteP.of (tb_in (List.mem_of_getElem? (i := 1155) (by decide +kernel)) (by decide +kernel)) (tb_in (List.mem_of_getElem? (i := 1862) (by decide +kernel)) (by decide +kernel)) (tb_in (List.mem_of_getElem? (i := 145) (by decide +kernel)) (by decide +kernel)) (tb_in (List.mem_of_getElem? (i := 1156) (by decide +kernel)) (by decide +kernel)) (tb_in (List.mem_of_getElem? (i := 79) (by decide +kernel)) (by decide +kernel)) (tb_in (List.mem_of_getElem? (i := 1157) (by decide +kernel)) (by decide +kernel)) (by decide +kernel)
set_option maxRecDepth 100000 in
theorem wJ4_append_cf468_g {Γ : gT} {D : gD} {ca : Nat → ClassId} {o : Nat → Nat} {I : gI} {J : gJ} {R : gR} {L : List Nat} {S : gS} {Q : gI → gJ → gR → Prop} (v1 : Int32) (C : Cx Γ cJ4_append_cf468 RJ4 2 D (tyW ca) (rl 2) (some (.object "java/lang/StringBuilder")) 0 0 (PXb ca o L S Q)) (h : wJ4_append_cf468 v1 I J R L S Q) : G Γ 0 0 0 [(0, .ref (o 1)), (1, .int v1)] [] (cX ca o I J R L S) := by
  unfold wJ4_append_cf468 at h
  refine g_aload_n C (i := 0) dJ4_append_cf468_0 rfl rfl ?_
  refine g_iload_n C (i := 1) dJ4_append_cf468_1 rfl rfl ?_
  refine x_callP C (wJ5_k_append_3fe6f v1 I J R L S _ h) sJ4_50 ⟨_, rcv_sb⟩ (rl_ok (by decide) (by decide)) rfl (Nat.le_of_ble_eq_true rfl) (st := []) _ rfl dJ4_append_cf468_2 (px_b (fun I2 J3 R4 h => ?_))
  refine g_pop C dJ4_append_cf468_5 rfl ?_
  refine g_aload_n C (i := 0) dJ4_append_cf468_6 rfl rfl ?_
  exact g_ret_a C dJ4_append_cf468_7 (Nat.le_refl _) (Nat.le_refl _) ⟨_, _, _, rfl, rfl, h⟩
theorem wJ4_k_append_cf468 {D : gD} {ca : Nat → ClassId} {o : Nat → Nat} {L : List Nat} {S : gS} (v1 : Int32) (I : gI) (J : gJ) (R : gR) (L0 : List Nat) (S0 : gS) (Q : gI → gJ → gR → Prop) (h : wJ4_append_cf468 v1 I J R L S Q) : Ct yJ4_append_cf468 cJ4_append_cf468 2 (some (.object "java/lang/StringBuilder")) (rl 2) D (tyW ca) 0 0 [.ref (o 1), .int v1] (cX ca o I J R L S) (PXb ca o L S Q) := ct_of (rm := (rl 2)) (by decide +kernel) (Nat.le_of_ble_eq_true rfl) (fun Γ C => wJ4_append_cf468_g v1 C h)
theorem sJ4_333 : gSiteP RJ4 yJ5_setLength_d00df cJ5_setLength_d00df 2 none 333 1 := gSiteP.of (tb_in (List.mem_of_getElem? (i := 1094) (by decide +kernel)) (by decide +kernel)) (tb_in (List.mem_of_getElem? (i := 1859) (by decide +kernel)) (by decide +kernel)) (tb_in (List.mem_of_getElem? (i := 145) (by decide +kernel)) (by decide +kernel)) (tb_in (List.mem_of_getElem? (i := 1095) (by decide +kernel)) (by decide +kernel)) (tb_in (List.mem_of_getElem? (i := 79) (by decide +kernel)) (by decide +kernel)) (tb_in (List.mem_of_getElem? (i := 1096) (by decide +kernel)) (by decide +kernel)) (by decide +kernel)
set_option maxRecDepth 100000 in
theorem wJ4_setLength_d00df_g {Γ : gT} {D : gD} {ca : Nat → ClassId} {o : Nat → Nat} {I : gI} {J : gJ} {R : gR} {L : List Nat} {S : gS} {Q : gI → gJ → gR → Prop} (v1 : Int32) (C : Cx Γ cJ4_setLength_d00df RJ4 2 D (tyW ca) (rl 2) none 0 0 (PXv ca o L S Q)) (h : wJ4_setLength_d00df v1 I J R L S Q) : G Γ 0 0 0 [(0, .ref (o 1)), (1, .int v1)] [] (cX ca o I J R L S) := by
  unfold wJ4_setLength_d00df at h
  refine g_aload_n C (i := 0) dJ4_setLength_d00df_0 rfl rfl ?_
  refine g_iload_n C (i := 1) dJ4_setLength_d00df_1 rfl rfl ?_
  refine x_callP C (wJ5_k_setLength_d00df v1 I J R L S _ h) sJ4_333 ⟨_, rcv_sb⟩ (rl_ok (by decide) (by decide)) rfl (Nat.le_of_ble_eq_true rfl) (st := []) _ rfl dJ4_setLength_d00df_2 (px_v (fun I2 J3 R4 h => ?_))
  exact g_ret_v C dJ4_setLength_d00df_5 (Nat.le_refl _) (Nat.le_refl _) ⟨_, _, _, rfl, rfl, h⟩
theorem wJ4_k_setLength_d00df {D : gD} {ca : Nat → ClassId} {o : Nat → Nat} {L : List Nat} {S : gS} (v1 : Int32) (I : gI) (J : gJ) (R : gR) (L0 : List Nat) (S0 : gS) (Q : gI → gJ → gR → Prop) (h : wJ4_setLength_d00df v1 I J R L S Q) : Ct yJ4_setLength_d00df cJ4_setLength_d00df 2 none (rl 2) D (tyW ca) 0 0 [.ref (o 1), .int v1] (cX ca o I J R L S) (PXv ca o L S Q) := ct_of (rm := (rl 2)) (by decide +kernel) (Nat.le_of_ble_eq_true rfl) (fun Γ C => wJ4_setLength_d00df_g v1 C h)
theorem mmin_J5_138 : Cond.methodLink RJ5 138 Lib.Math.min.name ∈ tb := (tb_in (List.mem_of_getElem? (i := 1269) (by decide +kernel)) (by decide +kernel))
theorem sJ5_144 : gSiteS RJ5 yJ0_checkIndex_df160 cJ0_checkIndex_df160 2 none 144 2 := gSiteS.of (tb_in (List.mem_of_getElem? (i := 1270) (by decide +kernel)) (by decide +kernel)) (tb_in (List.mem_of_getElem? (i := 678) (by decide +kernel)) (by decide +kernel)) (tb_in (List.mem_of_getElem? (i := 81) (by decide +kernel)) (by decide +kernel)) (tb_in (List.mem_of_getElem? (i := 679) (by decide +kernel)) (by decide +kernel)) (by decide +kernel)
set_option maxRecDepth 100000 in
theorem wJ5_charAt_5068e_g {Γ : gT} {D : gD} {ca : Nat → ClassId} {o : Nat → Nat} {I : gI} {J : gJ} {R : gR} {L : List Nat} {S : gS} {Q : Int32 → Prop} (v1 : Int32) (C : Cx Γ cJ5_charAt_5068e RJ5 5 D (tyW ca) (rl 2) (some .char) 0 0 (PYi ca o I J R L S Q)) (h : wJ5_charAt_5068e v1 I J R L S Q) : G Γ 0 0 0 [(0, .ref (o 1)), (1, .int v1)] [] (cX ca o I J R L S) := by
  unfold wJ5_charAt_5068e at h
  refine g_aload_n C (i := 0) dJ5_charAt_5068e_0 rfl rfl ?_
  refine x_get_J5_22 C dJ5_charAt_5068e_1 ?_
  refine g_istore_n C (i := 2) [(0, .ref (o 1)), (1, .int v1), (2, .int (I 0 4))] dJ5_charAt_5068e_4 rfl (by decide) rfl ?_
  refine g_aload_n C (i := 0) dJ5_charAt_5068e_5 rfl rfl ?_
  refine x_get_J5_15 C dJ5_charAt_5068e_6 ?_
  refine g_astore_n C (i := 3) [(0, .ref (o 1)), (1, .int v1), (2, .int (I 0 4)), (3, .ref (o 2))] dJ5_charAt_5068e_9 rfl (by decide) rfl ?_
  refine g_aload_n C (i := 0) dJ5_charAt_5068e_10 rfl rfl ?_
  refine x_get_J5_79 C dJ5_charAt_5068e_11 ?_
  refine g_aload_n C (i := 3) dJ5_charAt_5068e_14 rfl rfl ?_
  refine x_blen C dJ5_charAt_5068e_15 ?_
  refine g_iload_n C (i := 2) dJ5_charAt_5068e_16 rfl rfl ?_
  refine g_ishr C dJ5_charAt_5068e_17 ?_
  refine x_mmin C mmin_J5_138 dJ5_charAt_5068e_18 (by decide) (by exact Nat.le_of_ble_eq_true rfl) (by decide) (by decide) ?_
  refine g_topi (fun x1 e2 => ?_)
  replace h := h x1 e2
  refine g_istore C (i := 4) [(0, .ref (o 1)), (1, .int v1), (2, .int (I 0 4)), (3, .ref (o 2)), (4, .int x1)] dJ5_charAt_5068e_21 (by decide) rfl ?_
  refine g_iload_n C (i := 1) dJ5_charAt_5068e_23 rfl rfl ?_
  refine g_iload C (i := 4) dJ5_charAt_5068e_24 rfl ?_
  refine x_callS C (wJ0_k_checkIndex_df160 v1 x1 I J R L S _ h) sJ5_144 (rl_ok (by decide) (by decide)) rfl (Nat.le_of_ble_eq_true rfl) (st := []) _ rfl dJ5_charAt_5068e_26 (py_v (fun  h => ?_))
  refine g_iload_n C (i := 2) dJ5_charAt_5068e_29 rfl rfl ?_
  refine g_if_ne C 42 dJ5_charAt_5068e_30 rfl (fun c4 => ?_) (fun c4 => ?_)
  · replace h := h.1 c4
    refine g_aload_n C (i := 3) dJ5_charAt_5068e_42 rfl rfl ?_
    refine g_iload_n C (i := 1) dJ5_charAt_5068e_43 rfl rfl ?_
    exact h.elim
  · replace h := h.2 c4
    refine g_aload_n C (i := 3) dJ5_charAt_5068e_33 rfl rfl ?_
    refine g_iload_n C (i := 1) dJ5_charAt_5068e_34 rfl rfl ?_
    obtain ⟨h5, h⟩ := h
    refine x_bald C h5 dJ5_charAt_5068e_35 ?_
    refine g_sipush C (v := 255) dJ5_charAt_5068e_36 (by decide) ?_
    refine g_iand C dJ5_charAt_5068e_39 ?_
    refine g_i2c C dJ5_charAt_5068e_40 ?_
    obtain ⟨h6, h⟩ := h
    exact g_ret_n C h6 dJ5_charAt_5068e_41 (Nat.le_refl _) (Nat.le_refl _) ⟨_, rfl, rfl, h⟩
theorem wJ5_k_charAt_5068e {D : gD} {ca : Nat → ClassId} {o : Nat → Nat} {L : List Nat} {S : gS} (v1 : Int32) (I : gI) (J : gJ) (R : gR) (L0 : List Nat) (S0 : gS) (Q : Int32 → Prop) (h : wJ5_charAt_5068e v1 I J R L S Q) : Ct yJ5_charAt_5068e cJ5_charAt_5068e 5 (some .char) (rl 2) D (tyW ca) 0 0 [.ref (o 1), .int v1] (cX ca o I J R L S) (PYi ca o I J R L S Q) := ct_of (rm := (rl 2)) (by decide +kernel) (Nat.le_of_ble_eq_true rfl) (fun Γ C => wJ5_charAt_5068e_g v1 C h)
theorem sJ1_9 : gSiteS RJ1 yJ0_checkIndex_df160 cJ0_checkIndex_df160 2 none 9 2 := gSiteS.of (tb_in (List.mem_of_getElem? (i := 677) (by decide +kernel)) (by decide +kernel)) (tb_in (List.mem_of_getElem? (i := 678) (by decide +kernel)) (by decide +kernel)) (tb_in (List.mem_of_getElem? (i := 81) (by decide +kernel)) (by decide +kernel)) (tb_in (List.mem_of_getElem? (i := 679) (by decide +kernel)) (by decide +kernel)) (by decide +kernel)
set_option maxRecDepth 100000 in
theorem wJ1_charAt_3b067_g {Γ : gT} {D : gD} {ca : Nat → ClassId} {o : Nat → Nat} {I : gI} {J : gJ} {R : gR} {L : List Nat} {S : gS} {Q : Int32 → Prop} {n0 : Nat} (hn0 : n0 < 5) (v1 : Int32) (C : Cx Γ cJ1_charAt_3b067 RJ1 2 D (tyW ca) (rl 2) (some .char) 0 0 (PYi ca o I J R L S Q)) (h : wJ1_charAt_3b067 n0 v1 I J R L S Q) : G Γ 0 0 0 [(0, .ref (D.2.2.2 n0)), (1, .int v1)] [] (cX ca o I J R L S) := by
  unfold wJ1_charAt_3b067 at h
  refine g_iload_n C (i := 1) dJ1_charAt_3b067_0 rfl rfl ?_
  refine g_aload_n C (i := 0) dJ1_charAt_3b067_1 rfl rfl ?_
  refine x_tlen C (i := n0) hn0 dJ1_charAt_3b067_2 ?_
  refine x_callS C (wJ0_k_checkIndex_df160 v1 (Int32.ofNat (tx_len.getD n0 0)) I J R L S _ h) sJ1_9 (rl_ok (by decide) (by decide)) rfl (Nat.le_of_ble_eq_true rfl) (st := []) _ rfl dJ1_charAt_3b067_3 (py_v (fun  h => ?_))
  refine g_aload_n C (i := 0) dJ1_charAt_3b067_6 rfl rfl ?_
  refine g_iload_n C (i := 1) dJ1_charAt_3b067_7 rfl rfl ?_
  obtain ⟨h2, h⟩ := h
  refine x_tbyte C (i := n0) hn0 h2 dJ1_charAt_3b067_8 ?_
  refine g_sipush C (v := 255) dJ1_charAt_3b067_9 (by decide) ?_
  refine g_iand C dJ1_charAt_3b067_12 ?_
  refine g_i2c C dJ1_charAt_3b067_13 ?_
  obtain ⟨h3, h⟩ := h
  exact g_ret_n C h3 dJ1_charAt_3b067_14 (Nat.le_refl _) (Nat.le_refl _) ⟨_, rfl, rfl, h⟩
theorem wJ1_k_charAt_3b067 {D : gD} {ca : Nat → ClassId} {o : Nat → Nat} {L : List Nat} {S : gS} {n0 : Nat} (hn0 : n0 < 5) (v1 : Int32) (I : gI) (J : gJ) (R : gR) (L0 : List Nat) (S0 : gS) (Q : Int32 → Prop) (h : wJ1_charAt_3b067 n0 v1 I J R L S Q) : Ct yJ1_charAt_3b067 cJ1_charAt_3b067 2 (some .char) (rl 2) D (tyW ca) 0 0 [.ref (D.2.2.2 n0), .int v1] (cX ca o I J R L S) (PYi ca o I J R L S Q) := ct_of (rm := (rl 2)) (by decide +kernel) (Nat.le_of_ble_eq_true rfl) (fun Γ C => wJ1_charAt_3b067_g hn0 v1 C h)
theorem sX11_171 : gSite RX11 yX11_noFirstElements cX11_noFirstElements 4 (some .int) 171 2 := gSite.of (tb_in (List.mem_of_getElem? (i := 491) (by decide +kernel)) (by decide +kernel)) (tb_in (List.mem_of_getElem? (i := 493) (by decide +kernel)) (by decide +kernel)) (tb_in (List.mem_of_getElem? (i := 7) (by decide +kernel)) (by decide +kernel)) (tb_in (List.mem_of_getElem? (i := 78) (by decide +kernel)) (by decide +kernel)) (tb_in (List.mem_of_getElem? (i := 494) (by decide +kernel)) (by decide +kernel)) (by decide +kernel)
theorem sX11_175 : gSiteS RX11 yX11_mostLevels cX11_mostLevels 1 (some .int) 175 1 := gSiteS.of (tb_in (List.mem_of_getElem? (i := 495) (by decide +kernel)) (by decide +kernel)) (tb_in (List.mem_of_getElem? (i := 496) (by decide +kernel)) (by decide +kernel)) (tb_in (List.mem_of_getElem? (i := 78) (by decide +kernel)) (by decide +kernel)) (tb_in (List.mem_of_getElem? (i := 497) (by decide +kernel)) (by decide +kernel)) (by decide +kernel)
set_option maxRecDepth 100000 in
theorem wX11_noStrip_g {Γ : gT} {D : gD} {ca : Nat → ClassId} {o : Nat → Nat} {I : gI} {J : gJ} {R : gR} {L : List Nat} {S : gS} {Q : Int32 → Prop} (v1 : Int32) (v2 : Int32) (v3 : Int32) (v4 : Int32) (C : Cx Γ cX11_noStrip RX11 6 D (tyW ca) (rl 3) (some .int) 0 0 (PYi ca o I J R L S Q)) (h : wX11_noStrip v1 v2 v3 v4 I J R L S Q) : G Γ 0 0 0 [(0, .ref (o 0)), (1, .int v1), (2, .int v2), (3, .int v3), (4, .int v4)] [] (cX ca o I J R L S) := by
  unfold wX11_noStrip at h
  refine g_iload_n C (i := 1) dX11_noStrip_0 rfl rfl ?_
  refine g_if_lt C 10 dX11_noStrip_1 rfl (fun c1 => ?_) (fun c1 => ?_)
  · replace h := h.1 c1
    refine g_iconst_m1 C dX11_noStrip_10 ?_
    exact g_ret_i C dX11_noStrip_11 (Nat.le_refl _) (Nat.le_refl _) ⟨_, rfl, rfl, h⟩
  · replace h := h.2 c1
    refine g_iload_n C (i := 1) dX11_noStrip_4 rfl rfl ?_
    refine g_bipush C (v := 7) dX11_noStrip_5 (by decide) ?_
    refine g_icmp_lt C 12 dX11_noStrip_7 rfl (fun c2 => ?_) (fun c2 => ?_)
    · replace h := h.1 c2
      refine g_aload_n C (i := 0) dX11_noStrip_12 rfl rfl ?_
      refine g_iload_n C (i := 3) dX11_noStrip_13 rfl rfl ?_
      refine g_iload C (i := 4) dX11_noStrip_14 rfl ?_
      refine x_callV C (wX11_k_noFirstElements v3 v4 I J R L S _ h) sX11_171 rcv_main (rl_ok (by decide) (by decide)) rfl (Nat.le_of_ble_eq_true rfl) (st := []) _ rfl dX11_noStrip_16 (py_i (fun r3 h => ?_))
      refine g_istore C (i := 5) [(0, .ref (o 0)), (1, .int v1), (2, .int v2), (3, .int v3), (4, .int v4), (5, .int r3)] dX11_noStrip_19 (by decide) rfl ?_
      refine g_iload C (i := 5) dX11_noStrip_21 rfl ?_
      refine g_if_eq C 29 dX11_noStrip_23 rfl (fun c4 => ?_) (fun c4 => ?_)
      · replace h := h.1 c4
        refine g_iload C (i := 4) dX11_noStrip_29 rfl ?_
        refine g_iconst_1 C dX11_noStrip_31 ?_
        refine g_icmp_lt C 54 dX11_noStrip_32 rfl (fun c5 => ?_) (fun c5 => ?_)
        · replace h := h.1 c5
          refine g_bipush C (v := (-6)) dX11_noStrip_54 (by decide) ?_
          exact g_ret_i C dX11_noStrip_56 (Nat.le_refl _) (Nat.le_refl _) ⟨_, rfl, rfl, h⟩
        · replace h := h.2 c5
          refine g_iload C (i := 4) dX11_noStrip_35 rfl ?_
          refine g_iload_n C (i := 1) dX11_noStrip_37 rfl rfl ?_
          refine x_callS C (wX11_k_mostLevels v1 I J R L S _ h) sX11_175 (rl_ok (by decide) (by decide)) rfl (Nat.le_of_ble_eq_true rfl) (st := [.int v4]) _ rfl dX11_noStrip_38 (py_i (fun r6 h => ?_))
          refine g_icmp_gt C 54 dX11_noStrip_41 rfl (fun c7 => ?_) (fun c7 => ?_)
          · replace h := h.1 c7
            refine g_bipush C (v := (-6)) dX11_noStrip_54 (by decide) ?_
            exact g_ret_i C dX11_noStrip_56 (Nat.le_refl _) (Nat.le_refl _) ⟨_, rfl, rfl, h⟩
          · replace h := h.2 c7
            refine g_iload_n C (i := 2) dX11_noStrip_44 rfl rfl ?_
            refine g_if_lt C 54 dX11_noStrip_45 rfl (fun c8 => ?_) (fun c8 => ?_)
            · replace h := h.1 c8
              refine g_bipush C (v := (-6)) dX11_noStrip_54 (by decide) ?_
              exact g_ret_i C dX11_noStrip_56 (Nat.le_refl _) (Nat.le_refl _) ⟨_, rfl, rfl, h⟩
            · replace h := h.2 c8
              refine g_iload_n C (i := 2) dX11_noStrip_48 rfl rfl ?_
              refine g_ldc C (v := 999999) (tb_in (List.mem_of_getElem? (i := 498) (by decide +kernel)) (by decide +kernel)) dX11_noStrip_49 ?_
              refine g_icmp_le C 57 dX11_noStrip_51 rfl (fun c9 => ?_) (fun c9 => ?_)
              · replace h := h.1 c9
                refine g_aload_n C (i := 0) dX11_noStrip_57 rfl rfl ?_
                refine x_get_X11_164 C dX11_noStrip_58 ?_
                refine g_bipush C (v := 8) dX11_noStrip_61 (by decide) ?_
                refine g_icmp_lt C 71 dX11_noStrip_63 rfl (fun c10 => ?_) (fun c10 => ?_)
                · replace h := h.1 c10
                  refine g_iconst_0 C dX11_noStrip_71 ?_
                  exact g_ret_i C dX11_noStrip_72 (Nat.le_refl _) (Nat.le_refl _) ⟨_, rfl, rfl, h⟩
                · replace h := h.2 c10
                  refine g_bipush C (v := (-7)) dX11_noStrip_66 (by decide) ?_
                  refine g_goto C 72 dX11_noStrip_68 rfl ?_
                  exact g_ret_i C dX11_noStrip_72 (Nat.le_refl _) (Nat.le_refl _) ⟨_, rfl, rfl, h⟩
              · replace h := h.2 c9
                refine g_bipush C (v := (-6)) dX11_noStrip_54 (by decide) ?_
                exact g_ret_i C dX11_noStrip_56 (Nat.le_refl _) (Nat.le_refl _) ⟨_, rfl, rfl, h⟩
      · replace h := h.2 c4
        refine g_iload C (i := 5) dX11_noStrip_26 rfl ?_
        exact g_ret_i C dX11_noStrip_28 (Nat.le_refl _) (Nat.le_refl _) ⟨_, rfl, rfl, h⟩
    · replace h := h.2 c2
      refine g_iconst_m1 C dX11_noStrip_10 ?_
      exact g_ret_i C dX11_noStrip_11 (Nat.le_refl _) (Nat.le_refl _) ⟨_, rfl, rfl, h⟩
theorem wX11_k_noStrip {D : gD} {ca : Nat → ClassId} {o : Nat → Nat} {L : List Nat} {S : gS} (v1 : Int32) (v2 : Int32) (v3 : Int32) (v4 : Int32) (I : gI) (J : gJ) (R : gR) (L0 : List Nat) (S0 : gS) (Q : Int32 → Prop) (h : wX11_noStrip v1 v2 v3 v4 I J R L S Q) : Ct yX11_noStrip cX11_noStrip 6 (some .int) (rl 3) D (tyW ca) 0 0 [.ref (o 0), .int v1, .int v2, .int v3, .int v4] (cX ca o I J R L S) (PYi ca o I J R L S Q) := ct_of (rm := (rl 3)) (by decide +kernel) (Nat.le_of_ble_eq_true rfl) (fun Γ C => wX11_noStrip_g v1 v2 v3 v4 C h)
theorem sX11_290 : gSiteS RX11 yX11_letterAsked cX11_letterAsked 5 (some .int) 290 2 := gSiteS.of (tb_in (List.mem_of_getElem? (i := 978) (by decide +kernel)) (by decide +kernel)) (tb_in (List.mem_of_getElem? (i := 979) (by decide +kernel)) (by decide +kernel)) (tb_in (List.mem_of_getElem? (i := 78) (by decide +kernel)) (by decide +kernel)) (tb_in (List.mem_of_getElem? (i := 980) (by decide +kernel)) (by decide +kernel)) (by decide +kernel)
set_option maxRecDepth 100000 in
theorem wX11_levelsAsked_gb5 {Γ : gT} {D : gD} {ca : Nat → ClassId} {o : Nat → Nat} {Q : Int32 → Prop} {I : gI} {J : gJ} {R : gR} {L : List Nat} {S : gS} {n0 : Nat} (hn0 : n0 < 8) (C : Cx Γ cX11_levelsAsked RX11 5 D (tyW ca) (rl 3) (some .int) 0 0 (PYi ca o I J R L S Q)) {B5 : Int32 → Int32 → Int32 → Int32 → Prop} (hB5 : ∀ (v1 : Int32) (v2 : Int32) (v3 : Int32) (v4 : Int32) , B5 v1 v2 v3 v4 → G Γ 0 0 5 [(0, .ref (o (20 + n0))), (1, .int v1), (2, .int v2), (3, .int v3), (4, .int v4)] [] (cX ca o I J R L S)) (v1 : Int32) (v2 : Int32) (v3 : Int32) (v4 : Int32) (h : wX11_levelsAsked_b5 n0 I J R L S B5 v1 v2 v3 v4 Q) : G Γ 0 0 5 [(0, .ref (o (20 + n0))), (1, .int v1), (2, .int v2), (3, .int v3), (4, .int v4)] [] (cX ca o I J R L S) := by
  unfold wX11_levelsAsked_b5 at h
  refine g_iload C (i := 4) dX11_levelsAsked_5 rfl ?_
  refine g_iload_n C (i := 1) dX11_levelsAsked_7 rfl rfl ?_
  refine g_icmp_gt C 36 dX11_levelsAsked_8 rfl (fun c1 => ?_) (fun c1 => ?_)
  · replace h := h.1 c1
    refine g_iload_n C (i := 3) dX11_levelsAsked_36 rfl rfl ?_
    exact g_ret_i C dX11_levelsAsked_37 (Nat.le_refl _) (Nat.le_refl _) ⟨_, rfl, rfl, h⟩
  · replace h := h.2 c1
    refine g_aload_n C (i := 0) dX11_levelsAsked_11 rfl rfl ?_
    refine g_iload C (i := 4) dX11_levelsAsked_12 rfl ?_
    refine x_callS C (wX11_k_letterAsked hn0 v4 I J R L S _ h) sX11_290 (rl_ok (by decide) (by decide)) rfl (Nat.le_of_ble_eq_true rfl) (st := []) _ rfl dX11_levelsAsked_14 (py_i (fun r2 h => ?_))
    refine g_iload_n C (i := 2) dX11_levelsAsked_17 rfl rfl ?_
    refine g_icmp_ne C 30 dX11_levelsAsked_18 rfl (fun c3 => ?_) (fun c3 => ?_)
    · replace h := h.1 c3
      refine g_iinc C 1 [(0, .ref (o (20 + n0))), (1, .int v1), (2, .int v2), (3, .int v3), (4, .int (v4 + 1))] dX11_levelsAsked_30 rfl (by decide) (by decide) rfl ?_
      refine g_goto C 5 dX11_levelsAsked_33 rfl ?_
      exact g_weak [0, 1, 2, 3, 4] rfl (Nat.le_refl _) (Nat.le_refl _) (hB5 v1 v2 v3 (v4 + 1)  h)
    · replace h := h.2 c3
      refine g_iload_n C (i := 3) dX11_levelsAsked_21 rfl rfl ?_
      refine g_iload C (i := 4) dX11_levelsAsked_22 rfl ?_
      refine g_iload C (i := 4) dX11_levelsAsked_24 rfl ?_
      refine g_ineg C dX11_levelsAsked_26 ?_
      refine g_iand C dX11_levelsAsked_27 ?_
      refine g_ior C dX11_levelsAsked_28 ?_
      refine g_istore_n C (i := 3) [(0, .ref (o (20 + n0))), (1, .int v1), (2, .int v2), (3, .int (v3 ||| (v4 &&& (-v4)))), (4, .int v4)] dX11_levelsAsked_29 rfl (by decide) rfl ?_
      refine g_iinc C 1 [(0, .ref (o (20 + n0))), (1, .int v1), (2, .int v2), (3, .int (v3 ||| (v4 &&& (-v4)))), (4, .int (v4 + 1))] dX11_levelsAsked_30 rfl (by decide) (by decide) rfl ?_
      refine g_goto C 5 dX11_levelsAsked_33 rfl ?_
      exact g_weak [0, 1, 2, 3, 4] rfl (Nat.le_refl _) (Nat.le_refl _) (hB5 v1 v2 (v3 ||| (v4 &&& (-v4))) (v4 + 1)  h)
theorem wX11_levelsAsked_gl5 {Γ : gT} {D : gD} {ca : Nat → ClassId} {o : Nat → Nat} {Q : Int32 → Prop} {I : gI} {J : gJ} {R : gR} {L : List Nat} {S : gS} {n0 : Nat} (hn0 : n0 < 8) (C : Cx Γ cX11_levelsAsked RX11 5 D (tyW ca) (rl 3) (some .int) 0 0 (PYi ca o I J R L S Q)) : ∀ (n : Nat) (v1 : Int32) (v2 : Int32) (v3 : Int32) (v4 : Int32) (_ : wX11_levelsAsked_l5 n0 I J R L S Q n v1 v2 v3 v4 ), G Γ 0 0 5 [(0, .ref (o (20 + n0))), (1, .int v1), (2, .int v2), (3, .int v3), (4, .int v4)] [] (cX ca o I J R L S) := by
  intro n
  induction n with
  | zero => intro v1 v2 v3 v4  h; exact h.elim
  | succ n ih => intro v1 v2 v3 v4  h; exact wX11_levelsAsked_gb5 hn0 C ih v1 v2 v3 v4 h
set_option maxRecDepth 100000 in
theorem wX11_levelsAsked_g {Γ : gT} {D : gD} {ca : Nat → ClassId} {o : Nat → Nat} {I : gI} {J : gJ} {R : gR} {L : List Nat} {S : gS} {Q : Int32 → Prop} {n0 : Nat} (hn0 : n0 < 8) (v1 : Int32) (v2 : Int32) (C : Cx Γ cX11_levelsAsked RX11 5 D (tyW ca) (rl 3) (some .int) 0 0 (PYi ca o I J R L S Q)) (h : wX11_levelsAsked n0 v1 v2 I J R L S Q) : G Γ 0 0 0 [(0, .ref (o (20 + n0))), (1, .int v1), (2, .int v2)] [] (cX ca o I J R L S) := by
  unfold wX11_levelsAsked at h
  refine g_iconst_0 C dX11_levelsAsked_0 ?_
  refine g_istore_n C (i := 3) [(0, .ref (o (20 + n0))), (1, .int v1), (2, .int v2), (3, .int 0)] dX11_levelsAsked_1 rfl (by decide) rfl ?_
  refine g_iconst_1 C dX11_levelsAsked_2 ?_
  refine g_istore C (i := 4) [(0, .ref (o (20 + n0))), (1, .int v1), (2, .int v2), (3, .int 0), (4, .int 1)] dX11_levelsAsked_3 (by decide) rfl ?_
  obtain ⟨n, h⟩ := h
  exact g_weak [0, 1, 2, 3, 4] rfl (Nat.le_refl _) (Nat.le_refl _) (wX11_levelsAsked_gl5 hn0 C  n v1 v2 0 1  h)
theorem wX11_k_levelsAsked {D : gD} {ca : Nat → ClassId} {o : Nat → Nat} {L : List Nat} {S : gS} {n0 : Nat} (hn0 : n0 < 8) (v1 : Int32) (v2 : Int32) (I : gI) (J : gJ) (R : gR) (L0 : List Nat) (S0 : gS) (Q : Int32 → Prop) (h : wX11_levelsAsked n0 v1 v2 I J R L S Q) : Ct yX11_levelsAsked cX11_levelsAsked 5 (some .int) (rl 3) D (tyW ca) 0 0 [.ref (o (20 + n0)), .int v1, .int v2] (cX ca o I J R L S) (PYi ca o I J R L S Q) := ct_of (rm := (rl 3)) (by decide +kernel) (Nat.le_of_ble_eq_true rfl) (fun Γ C => wX11_levelsAsked_g hn0 v1 v2 C h)
set_option maxRecDepth 100000 in
theorem wX11_noTold_g {Γ : gT} {D : gD} {ca : Nat → ClassId} {o : Nat → Nat} {I : gI} {J : gJ} {R : gR} {L : List Nat} {S : gS} {Q : Int32 → Prop} (v1 : Int32) (v2 : Int32) (C : Cx Γ cX11_noTold RX11 4 D (tyW ca) (rl 3) (some .int) 0 0 (PYi ca o I J R L S Q)) (h : wX11_noTold v1 v2 I J R L S Q) : G Γ 0 0 0 [(0, .ref (o 0)), (1, .int v1), (2, .int v2)] [] (cX ca o I J R L S) := by
  unfold wX11_noTold at h
  refine g_aload_n C (i := 0) dX11_noTold_0 rfl rfl ?_
  refine g_iload_n C (i := 1) dX11_noTold_1 rfl rfl ?_
  refine g_iload_n C (i := 2) dX11_noTold_2 rfl rfl ?_
  refine x_callV C (wX11_k_noFirstElements v1 v2 I J R L S _ h) sX11_171 rcv_main (rl_ok (by decide) (by decide)) rfl (Nat.le_of_ble_eq_true rfl) (st := []) _ rfl dX11_noTold_3 (py_i (fun r1 h => ?_))
  refine g_istore_n C (i := 3) [(0, .ref (o 0)), (1, .int v1), (2, .int v2), (3, .int r1)] dX11_noTold_6 rfl (by decide) rfl ?_
  refine g_iload_n C (i := 3) dX11_noTold_7 rfl rfl ?_
  refine g_if_ne C 22 dX11_noTold_8 rfl (fun c2 => ?_) (fun c2 => ?_)
  · replace h := h.1 c2
    refine g_iload_n C (i := 3) dX11_noTold_22 rfl rfl ?_
    exact g_ret_i C dX11_noTold_23 (Nat.le_refl _) (Nat.le_refl _) ⟨_, rfl, rfl, h⟩
  · replace h := h.2 c2
    refine g_iload_n C (i := 2) dX11_noTold_11 rfl rfl ?_
    refine g_bipush C (v := 63) dX11_noTold_12 (by decide) ?_
    refine g_icmp_le C 22 dX11_noTold_14 rfl (fun c3 => ?_) (fun c3 => ?_)
    · replace h := h.1 c3
      refine g_iload_n C (i := 3) dX11_noTold_22 rfl rfl ?_
      exact g_ret_i C dX11_noTold_23 (Nat.le_refl _) (Nat.le_refl _) ⟨_, rfl, rfl, h⟩
    · replace h := h.2 c3
      refine g_bipush C (v := (-6)) dX11_noTold_17 (by decide) ?_
      refine g_goto C 23 dX11_noTold_19 rfl ?_
      exact g_ret_i C dX11_noTold_23 (Nat.le_refl _) (Nat.le_refl _) ⟨_, rfl, rfl, h⟩
theorem wX11_k_noTold {D : gD} {ca : Nat → ClassId} {o : Nat → Nat} {L : List Nat} {S : gS} (v1 : Int32) (v2 : Int32) (I : gI) (J : gJ) (R : gR) (L0 : List Nat) (S0 : gS) (Q : Int32 → Prop) (h : wX11_noTold v1 v2 I J R L S Q) : Ct yX11_noTold cX11_noTold 4 (some .int) (rl 3) D (tyW ca) 0 0 [.ref (o 0), .int v1, .int v2] (cX ca o I J R L S) (PYi ca o I J R L S Q) := ct_of (rm := (rl 3)) (by decide +kernel) (Nat.le_of_ble_eq_true rfl) (fun Γ C => wX11_noTold_g v1 v2 C h)
theorem sX11_201_1 : gSiteU RX11 "FoldedInHalf$Same" "FoldedInHalf$Strip" ⟨"FoldedInHalf$Strip", "sides", "()J"⟩ yX9_sides cX9_sides 1 (some .long) 201 0 := gSiteU.inh (tb_in (List.mem_of_getElem? (i := 752) (by decide +kernel)) (by decide +kernel)) (tb_in (List.mem_of_getElem? (i := 1840) (by decide +kernel)) (by decide +kernel)) (tb_in (List.mem_of_getElem? (i := 1845) (by decide +kernel)) (by decide +kernel)) (tb_in (List.mem_of_getElem? (i := 436) (by decide +kernel)) (by decide +kernel)) (tb_in (List.mem_of_getElem? (i := 90) (by decide +kernel)) (by decide +kernel)) (tb_in (List.mem_of_getElem? (i := 437) (by decide +kernel)) (by decide +kernel)) rfl (by decide +kernel)
theorem sX11_201_2 : gSiteU RX11 "FoldedInHalf$Third" "FoldedInHalf$Strip" ⟨"FoldedInHalf$Strip", "sides", "()J"⟩ yX9_sides cX9_sides 1 (some .long) 201 0 := gSiteU.inh (tb_in (List.mem_of_getElem? (i := 752) (by decide +kernel)) (by decide +kernel)) (tb_in (List.mem_of_getElem? (i := 1840) (by decide +kernel)) (by decide +kernel)) (tb_in (List.mem_of_getElem? (i := 1847) (by decide +kernel)) (by decide +kernel)) (tb_in (List.mem_of_getElem? (i := 436) (by decide +kernel)) (by decide +kernel)) (tb_in (List.mem_of_getElem? (i := 90) (by decide +kernel)) (by decide +kernel)) (tb_in (List.mem_of_getElem? (i := 437) (by decide +kernel)) (by decide +kernel)) rfl (by decide +kernel)
theorem sX11_201_3 : gSiteU RX11 "FoldedInHalf$Cut" "FoldedInHalf$Strip" ⟨"FoldedInHalf$Strip", "sides", "()J"⟩ yX9_sides cX9_sides 1 (some .long) 201 0 := gSiteU.inh (tb_in (List.mem_of_getElem? (i := 752) (by decide +kernel)) (by decide +kernel)) (tb_in (List.mem_of_getElem? (i := 1840) (by decide +kernel)) (by decide +kernel)) (tb_in (List.mem_of_getElem? (i := 1842) (by decide +kernel)) (by decide +kernel)) (tb_in (List.mem_of_getElem? (i := 436) (by decide +kernel)) (by decide +kernel)) (tb_in (List.mem_of_getElem? (i := 90) (by decide +kernel)) (by decide +kernel)) (tb_in (List.mem_of_getElem? (i := 437) (by decide +kernel)) (by decide +kernel)) rfl (by decide +kernel)
theorem sX11_201_4 : gSiteU RX11 "FoldedInHalf$Back" "FoldedInHalf$Strip" ⟨"FoldedInHalf$Strip", "sides", "()J"⟩ yX9_sides cX9_sides 1 (some .long) 201 0 := gSiteU.inh (tb_in (List.mem_of_getElem? (i := 752) (by decide +kernel)) (by decide +kernel)) (tb_in (List.mem_of_getElem? (i := 1840) (by decide +kernel)) (by decide +kernel)) (tb_in (List.mem_of_getElem? (i := 1841) (by decide +kernel)) (by decide +kernel)) (tb_in (List.mem_of_getElem? (i := 436) (by decide +kernel)) (by decide +kernel)) (tb_in (List.mem_of_getElem? (i := 90) (by decide +kernel)) (by decide +kernel)) (tb_in (List.mem_of_getElem? (i := 437) (by decide +kernel)) (by decide +kernel)) rfl (by decide +kernel)
theorem sX11_201_5 : gSiteU RX11 "FoldedInHalf$Glass" "FoldedInHalf$Strip" ⟨"FoldedInHalf$Strip", "sides", "()J"⟩ yX9_sides cX9_sides 1 (some .long) 201 0 := gSiteU.inh (tb_in (List.mem_of_getElem? (i := 752) (by decide +kernel)) (by decide +kernel)) (tb_in (List.mem_of_getElem? (i := 1840) (by decide +kernel)) (by decide +kernel)) (tb_in (List.mem_of_getElem? (i := 1843) (by decide +kernel)) (by decide +kernel)) (tb_in (List.mem_of_getElem? (i := 436) (by decide +kernel)) (by decide +kernel)) (tb_in (List.mem_of_getElem? (i := 90) (by decide +kernel)) (by decide +kernel)) (tb_in (List.mem_of_getElem? (i := 437) (by decide +kernel)) (by decide +kernel)) rfl (by decide +kernel)
theorem sX11_201_6 : gSiteU RX11 "FoldedInHalf$Left" "FoldedInHalf$Strip" ⟨"FoldedInHalf$Strip", "sides", "()J"⟩ yX9_sides cX9_sides 1 (some .long) 201 0 := gSiteU.inh (tb_in (List.mem_of_getElem? (i := 752) (by decide +kernel)) (by decide +kernel)) (tb_in (List.mem_of_getElem? (i := 1840) (by decide +kernel)) (by decide +kernel)) (tb_in (List.mem_of_getElem? (i := 1844) (by decide +kernel)) (by decide +kernel)) (tb_in (List.mem_of_getElem? (i := 436) (by decide +kernel)) (by decide +kernel)) (tb_in (List.mem_of_getElem? (i := 90) (by decide +kernel)) (by decide +kernel)) (tb_in (List.mem_of_getElem? (i := 437) (by decide +kernel)) (by decide +kernel)) rfl (by decide +kernel)
theorem sX11_201_0 : gSite RX11 yX9_sides cX9_sides 1 (some .long) 201 0 := gSite.of (tb_in (List.mem_of_getElem? (i := 752) (by decide +kernel)) (by decide +kernel)) (tb_in (List.mem_of_getElem? (i := 436) (by decide +kernel)) (by decide +kernel)) (tb_in (List.mem_of_getElem? (i := 1846) (by decide +kernel)) (by decide +kernel)) (tb_in (List.mem_of_getElem? (i := 90) (by decide +kernel)) (by decide +kernel)) (tb_in (List.mem_of_getElem? (i := 437) (by decide +kernel)) (by decide +kernel)) (by decide +kernel)
theorem xv_X11_201 {Γ : gT} {cc : ByteArray} {nL : Nat} {D : gD} {ca : Nat → ClassId} {rm : Room} {ret : Option FieldType} {mc ms : Nat} {Post : Option Value → va_W → Prop} {cn sn pc : Nat} {lv : List (Nat × Value)} {st : List Value} {o : Nat → Nat} {L : List Nat} {S : gS} (C0 : Cx Γ cc RX11 nL D (tyW ca) rm ret mc ms Post) {q0 : Nat} (hq0 : q0 ∈ L)  (I : gI) (J : gJ) (R : gR) (L0 : List Nat) (S0 : gS) (Q : Int64 → Prop) (h : wv_sides q0  I J R L S Q) (hroom : ∀ l maxL : Nat, l ≤ 2 → maxL ≤ 81 → gRm (rl l) rm maxL 0 0 cn sn) (hst : (st.map fun v => v.category).sum ≤ 8) (st0 : List Value) (hs0 : st0 = ([] : List Value).reverse ++ .ref q0 :: st) (hd : decode cc pc = .ok (.invokevirtual 201, 3)) (k : ∀ (r : Int64) , Q r  → G Γ cn sn (pc + 3) lv (.long r :: st) (cX ca o I J R L S)) : G Γ cn sn pc lv st0 (cX ca o I J R L S) := by
  unfold wv_sides at h
  by_cases h1 : sC (S q0) = 1
  · exact x_callU C0 (wX9_k_sides hq0   I J R L S Q (h.1 h1)) sX11_201_1 (rcv_1 hq0 h1) (hroom _ _ (by decide) (by decide)) rfl hst st0 hs0 hd (py_l k)
  replace h := h.2 h1
  by_cases h2 : sC (S q0) = 2
  · exact x_callU C0 (wX9_k_sides hq0   I J R L S Q (h.1 h2)) sX11_201_2 (rcv_2 hq0 h2) (hroom _ _ (by decide) (by decide)) rfl hst st0 hs0 hd (py_l k)
  replace h := h.2 h2
  by_cases h3 : sC (S q0) = 3
  · exact x_callU C0 (wX9_k_sides hq0   I J R L S Q (h.1 h3)) sX11_201_3 (rcv_3 hq0 h3) (hroom _ _ (by decide) (by decide)) rfl hst st0 hs0 hd (py_l k)
  replace h := h.2 h3
  by_cases h4 : sC (S q0) = 4
  · exact x_callU C0 (wX9_k_sides hq0   I J R L S Q (h.1 h4)) sX11_201_4 (rcv_4 hq0 h4) (hroom _ _ (by decide) (by decide)) rfl hst st0 hs0 hd (py_l k)
  replace h := h.2 h4
  by_cases h5 : sC (S q0) = 5
  · exact x_callU C0 (wX9_k_sides hq0   I J R L S Q (h.1 h5)) sX11_201_5 (rcv_5 hq0 h5) (hroom _ _ (by decide) (by decide)) rfl hst st0 hs0 hd (py_l k)
  replace h := h.2 h5
  by_cases h6 : sC (S q0) = 6
  · exact x_callU C0 (wX9_k_sides hq0   I J R L S Q (h.1 h6)) sX11_201_6 (rcv_6 hq0 h6) (hroom _ _ (by decide) (by decide)) rfl hst st0 hs0 hd (py_l k)
  replace h := h.2 h6
  exact x_callV C0 (wX9_k_sides hq0   I J R L S Q h) sX11_201_0 (rcv_0 hq0 h1 h2 h3 h4 h5 h6) (hroom _ _ (by decide) (by decide)) rfl hst st0 hs0 hd (py_l k)
set_option maxRecDepth 100000 in
theorem wX11_noWalk_g {Γ : gT} {D : gD} {ca : Nat → ClassId} {o : Nat → Nat} {I : gI} {J : gJ} {R : gR} {L : List Nat} {S : gS} {Q : Int32 → Prop} (v1 : Int32) (v2 : Int32) (v3 : Int32) (C : Cx Γ cX11_noWalk RX11 4 D (tyW ca) (rl 3) (some .int) 0 0 (PYi ca o I J R L S Q)) (h : wX11_noWalk v1 v2 v3 I J R L S Q) : G Γ 0 0 0 [(0, .ref (o 0)), (1, .int v1), (2, .int v2), (3, .int v3)] [] (cX ca o I J R L S) := by
  unfold wX11_noWalk at h
  refine g_aload_n C (i := 0) dX11_noWalk_0 rfl rfl ?_
  refine g_iload_n C (i := 1) dX11_noWalk_1 rfl rfl ?_
  refine x_callV C (wX11_k_isStrip v1 I J R L S _ h) sX11_118 rcv_main (rl_ok (by decide) (by decide)) rfl (Nat.le_of_ble_eq_true rfl) (st := []) _ rfl dX11_noWalk_2 (py_z (fun r1 h => ?_))
  refine g_zne C 10 dX11_noWalk_5 rfl (fun c2 => ?_) (fun c2 => ?_)
  · replace h := h.1 c2
    refine g_iload_n C (i := 2) dX11_noWalk_10 rfl rfl ?_
    refine g_i2l C dX11_noWalk_11 ?_
    refine g_aload_n C (i := 0) dX11_noWalk_12 rfl rfl ?_
    refine x_get_X11_11 C dX11_noWalk_13 ?_
    refine g_iload_n C (i := 1) dX11_noWalk_16 rfl rfl ?_
    obtain ⟨h3, h⟩ := h
    refine x_aald C (k := 0) (by decide) h3 dX11_noWalk_17 ?_
    obtain ⟨z4, h5, h6, h⟩ := h
    refine g_eqs (st' := [.ref z4, .long v2.toInt64]) (by rw [h5]; rfl) rfl ?_
    refine xv_X11_201 C h6 I J R L S _ h (fun l m h1 h2 => rl_ok (by omega) h2) (Nat.le_of_ble_eq_true rfl) (st := [.long v2.toInt64]) _ rfl dX11_noWalk_18 (fun r7 h => ?_)
    refine g_lle C 28 dX11_noWalk_21 dX11_noWalk_22 rfl (fun c8 => ?_) (fun c8 => ?_)
    · replace h := h.1 c8
      refine g_iload_n C (i := 2) dX11_noWalk_28 rfl rfl ?_
      refine g_if_lt C 37 dX11_noWalk_29 rfl (fun c9 => ?_) (fun c9 => ?_)
      · replace h := h.1 c9
        refine g_bipush C (v := (-6)) dX11_noWalk_37 (by decide) ?_
        refine g_goto C 43 dX11_noWalk_39 rfl ?_
        exact g_ret_i C dX11_noWalk_43 (Nat.le_refl _) (Nat.le_refl _) ⟨_, rfl, rfl, h⟩
      · replace h := h.2 c9
        refine g_iload_n C (i := 2) dX11_noWalk_32 rfl rfl ?_
        refine g_iload_n C (i := 3) dX11_noWalk_33 rfl rfl ?_
        refine g_icmp_le C 42 dX11_noWalk_34 rfl (fun c10 => ?_) (fun c10 => ?_)
        · replace h := h.1 c10
          refine g_iconst_0 C dX11_noWalk_42 ?_
          exact g_ret_i C dX11_noWalk_43 (Nat.le_refl _) (Nat.le_refl _) ⟨_, rfl, rfl, h⟩
        · replace h := h.2 c10
          refine g_bipush C (v := (-6)) dX11_noWalk_37 (by decide) ?_
          refine g_goto C 43 dX11_noWalk_39 rfl ?_
          exact g_ret_i C dX11_noWalk_43 (Nat.le_refl _) (Nat.le_refl _) ⟨_, rfl, rfl, h⟩
    · replace h := h.2 c8
      refine g_bipush C (v := (-5)) dX11_noWalk_25 (by decide) ?_
      exact g_ret_i C dX11_noWalk_27 (Nat.le_refl _) (Nat.le_refl _) ⟨_, rfl, rfl, h⟩
  · replace h := h.2 c2
    refine g_iconst_m1 C dX11_noWalk_8 ?_
    exact g_ret_i C dX11_noWalk_9 (Nat.le_refl _) (Nat.le_refl _) ⟨_, rfl, rfl, h⟩
theorem wX11_k_noWalk {D : gD} {ca : Nat → ClassId} {o : Nat → Nat} {L : List Nat} {S : gS} (v1 : Int32) (v2 : Int32) (v3 : Int32) (I : gI) (J : gJ) (R : gR) (L0 : List Nat) (S0 : gS) (Q : Int32 → Prop) (h : wX11_noWalk v1 v2 v3 I J R L S Q) : Ct yX11_noWalk cX11_noWalk 4 (some .int) (rl 3) D (tyW ca) 0 0 [.ref (o 0), .int v1, .int v2, .int v3] (cX ca o I J R L S) (PYi ca o I J R L S Q) := ct_of (rm := (rl 3)) (by decide +kernel) (Nat.le_of_ble_eq_true rfl) (fun Γ C => wX11_noWalk_g v1 v2 v3 C h)
theorem sX0_9_4 : gSiteU RX0 "FoldedInHalf$Back" "FoldedInHalf$Strip" ⟨"FoldedInHalf$Back", "sides", "()J"⟩ yX9_sides cX9_sides 1 (some .long) 9 0 := gSiteU.inh (tb_in (List.mem_of_getElem? (i := 432) (by decide +kernel)) (by decide +kernel)) (tb_in (List.mem_of_getElem? (i := 433) (by decide +kernel)) (by decide +kernel)) (tb_in (List.mem_of_getElem? (i := 435) (by decide +kernel)) (by decide +kernel)) (tb_in (List.mem_of_getElem? (i := 436) (by decide +kernel)) (by decide +kernel)) (tb_in (List.mem_of_getElem? (i := 90) (by decide +kernel)) (by decide +kernel)) (tb_in (List.mem_of_getElem? (i := 437) (by decide +kernel)) (by decide +kernel)) rfl (by decide +kernel)
theorem sX0_15 : gSiteP RX0 yX2_creaseAt cX2_creaseAt 3 (some .int) 15 1 := gSiteP.of (tb_in (List.mem_of_getElem? (i := 439) (by decide +kernel)) (by decide +kernel)) (tb_in (List.mem_of_getElem? (i := 1831) (by decide +kernel)) (by decide +kernel)) (tb_in (List.mem_of_getElem? (i := 440) (by decide +kernel)) (by decide +kernel)) (tb_in (List.mem_of_getElem? (i := 441) (by decide +kernel)) (by decide +kernel)) (tb_in (List.mem_of_getElem? (i := 93) (by decide +kernel)) (by decide +kernel)) (tb_in (List.mem_of_getElem? (i := 442) (by decide +kernel)) (by decide +kernel)) (by decide +kernel)
set_option maxRecDepth 100000 in
theorem wX0_creaseAt_g {Γ : gT} {D : gD} {ca : Nat → ClassId} {o : Nat → Nat} {I : gI} {J : gJ} {R : gR} {L : List Nat} {S : gS} {Q : Int32 → Prop} {q0 : Nat} (hq0 : q0 ∈ L) (hc0 : sC (S q0) = 4) (v1 : Int64) (C : Cx Γ cX0_creaseAt RX0 3 D (tyW ca) (rl 3) (some .int) 0 0 (PYi ca o I J R L S Q)) (h : wX0_creaseAt q0 v1 I J R L S Q) : G Γ 0 0 0 [(0, .ref q0), (1, .long v1)] [] (cX ca o I J R L S) := by
  unfold wX0_creaseAt at h
  refine g_iconst_1 C dX0_creaseAt_0 ?_
  refine g_aload_n C (i := 0) dX0_creaseAt_1 rfl rfl ?_
  refine g_aload_n C (i := 0) dX0_creaseAt_2 rfl rfl ?_
  refine x_callU C (wX9_k_sides hq0 I J R L S _ h) sX0_9_4 (rcv_4 hq0 hc0) (rl_ok (by decide) (by decide)) rfl (Nat.le_of_ble_eq_true rfl) (st := [.ref q0, .int 1]) _ rfl dX0_creaseAt_3 (py_l (fun r1 h => ?_))
  refine g_lload_n C (i := 1) dX0_creaseAt_6 rfl rfl ?_
  refine g_lsub C dX0_creaseAt_7 ?_
  refine x_callP C (wX2_k_creaseAt hq0 (Or.inr hc0) (r1 - v1) I J R L S _ h) sX0_15 (rcv_any hq0) (rl_ok (by decide) (by decide)) rfl (Nat.le_of_ble_eq_true rfl) (st := [.int 1]) _ rfl dX0_creaseAt_8 (py_i (fun r2 h => ?_))
  refine g_isub C dX0_creaseAt_11 ?_
  exact g_ret_i C dX0_creaseAt_12 (Nat.le_refl _) (Nat.le_refl _) ⟨_, rfl, rfl, h⟩
theorem wX0_k_creaseAt {D : gD} {ca : Nat → ClassId} {o : Nat → Nat} {L : List Nat} {S : gS} {q0 : Nat} (hq0 : q0 ∈ L) (hc0 : sC (S q0) = 4) (v1 : Int64) (I : gI) (J : gJ) (R : gR) (L0 : List Nat) (S0 : gS) (Q : Int32 → Prop) (h : wX0_creaseAt q0 v1 I J R L S Q) : Ct yX0_creaseAt cX0_creaseAt 3 (some .int) (rl 3) D (tyW ca) 0 0 [.ref q0, .long v1] (cX ca o I J R L S) (PYi ca o I J R L S Q) := ct_of (rm := (rl 3)) (by decide +kernel) (Nat.le_of_ble_eq_true rfl) (fun Γ C => wX0_creaseAt_g hq0 hc0 v1 C h)
theorem sX4_33 : gSite RX4 yX4_clear cX4_clear 1 none 33 0 := gSite.of (tb_in (List.mem_of_getElem? (i := 1034) (by decide +kernel)) (by decide +kernel)) (tb_in (List.mem_of_getElem? (i := 1036) (by decide +kernel)) (by decide +kernel)) (tb_in (List.mem_of_getElem? (i := 22) (by decide +kernel)) (by decide +kernel)) (tb_in (List.mem_of_getElem? (i := 85) (by decide +kernel)) (by decide +kernel)) (tb_in (List.mem_of_getElem? (i := 1037) (by decide +kernel)) (by decide +kernel)) (by decide +kernel)
theorem sX4_36 : gSite RX4 yX4_lays cX4_lays 4 (some .boolean) 36 3 := gSite.of (tb_in (List.mem_of_getElem? (i := 1039) (by decide +kernel)) (by decide +kernel)) (tb_in (List.mem_of_getElem? (i := 1041) (by decide +kernel)) (by decide +kernel)) (tb_in (List.mem_of_getElem? (i := 23) (by decide +kernel)) (by decide +kernel)) (tb_in (List.mem_of_getElem? (i := 85) (by decide +kernel)) (by decide +kernel)) (tb_in (List.mem_of_getElem? (i := 1042) (by decide +kernel)) (by decide +kernel)) (by decide +kernel)
set_option maxRecDepth 100000 in
theorem wX4_canLie_gb6 {Γ : gT} {D : gD} {ca : Nat → ClassId} {o : Nat → Nat} {Q : Bool → gI → gJ → gR → Prop} {L : List Nat} {S : gS} {n1 : Nat} (hn1 : n1 < 8) (C : Cx Γ cX4_canLie RX4 4 D (tyW ca) (rl 3) (some .boolean) 0 0 (PXz ca o L S Q)) {B6 : Int32 → Int32 → gI → gJ → gR → Prop} (hB6 : ∀ (v2 : Int32) (v3 : Int32) (I : gI) (J : gJ) (R : gR), B6 v2 v3 I J R → G Γ 0 0 6 [(0, .ref (o 4)), (1, .ref (o (20 + n1))), (2, .int v2), (3, .int v3)] [] (cX ca o I J R L S)) (v2 : Int32) (v3 : Int32) (I : gI) (J : gJ) (R : gR) (h : wX4_canLie_b6 n1 L S B6 v2 v3 I J R Q) : G Γ 0 0 6 [(0, .ref (o 4)), (1, .ref (o (20 + n1))), (2, .int v2), (3, .int v3)] [] (cX ca o I J R L S) := by
  unfold wX4_canLie_b6 at h
  refine g_iload_n C (i := 3) dX4_canLie_6 rfl rfl ?_
  refine g_iload_n C (i := 2) dX4_canLie_7 rfl rfl ?_
  refine g_icmp_ge C 33 dX4_canLie_8 rfl (fun c1 => ?_) (fun c1 => ?_)
  · replace h := h.1 c1
    refine g_iconst_1 C dX4_canLie_33 ?_
    exact g_ret_z C true rfl dX4_canLie_34 (Nat.le_refl _) (Nat.le_refl _) ⟨_, _, _, _, rfl, rfl, h⟩
  · replace h := h.2 c1
    refine g_aload_n C (i := 0) dX4_canLie_11 rfl rfl ?_
    refine g_aload_n C (i := 1) dX4_canLie_12 rfl rfl ?_
    refine g_iload_n C (i := 3) dX4_canLie_13 rfl rfl ?_
    refine x_callV C (wX8_k_asInt hn1 v3 I J R L S _ h) sX4_27 (rcv_shelf (s := n1) hn1) (rl_ok (by decide) (by decide)) rfl (Nat.le_of_ble_eq_true rfl) (st := [.ref (o 4)]) _ rfl dX4_canLie_14 (py_i (fun r2 h => ?_))
    refine g_iload_n C (i := 3) dX4_canLie_17 rfl rfl ?_
    refine g_iload_n C (i := 2) dX4_canLie_18 rfl rfl ?_
    refine x_callV C (wX4_k_lays r2 v3 v2 I J R L S _ h) sX4_36 rcv_leaves (rl_ok (by decide) (by decide)) rfl (Nat.le_of_ble_eq_true rfl) (st := []) _ rfl dX4_canLie_19 (px_z (fun r3 I4 J5 R6 h => ?_))
    refine g_zne C 27 dX4_canLie_22 rfl (fun c7 => ?_) (fun c7 => ?_)
    · replace h := h.1 c7
      refine g_iinc C 1 [(0, .ref (o 4)), (1, .ref (o (20 + n1))), (2, .int v2), (3, .int (v3 + 1))] dX4_canLie_27 rfl (by decide) (by decide) rfl ?_
      refine g_goto C 6 dX4_canLie_30 rfl ?_
      exact g_weak [0, 1, 2, 3] rfl (Nat.le_refl _) (Nat.le_refl _) (hB6 v2 (v3 + 1) I4 J5 R6 h)
    · replace h := h.2 c7
      refine g_iconst_0 C dX4_canLie_25 ?_
      exact g_ret_z C false rfl dX4_canLie_26 (Nat.le_refl _) (Nat.le_refl _) ⟨_, _, _, _, rfl, rfl, h⟩
theorem wX4_canLie_gl6 {Γ : gT} {D : gD} {ca : Nat → ClassId} {o : Nat → Nat} {Q : Bool → gI → gJ → gR → Prop} {L : List Nat} {S : gS} {n1 : Nat} (hn1 : n1 < 8) (C : Cx Γ cX4_canLie RX4 4 D (tyW ca) (rl 3) (some .boolean) 0 0 (PXz ca o L S Q)) : ∀ (n : Nat) (v2 : Int32) (v3 : Int32) (I : gI) (J : gJ) (R : gR) (_ : wX4_canLie_l6 n1 L S Q n v2 v3 I J R), G Γ 0 0 6 [(0, .ref (o 4)), (1, .ref (o (20 + n1))), (2, .int v2), (3, .int v3)] [] (cX ca o I J R L S) := by
  intro n
  induction n with
  | zero => intro v2 v3 I J R h; exact h.elim
  | succ n ih => intro v2 v3 I J R h; exact wX4_canLie_gb6 hn1 C ih v2 v3 I J R h
set_option maxRecDepth 100000 in
theorem wX4_canLie_g {Γ : gT} {D : gD} {ca : Nat → ClassId} {o : Nat → Nat} {I : gI} {J : gJ} {R : gR} {L : List Nat} {S : gS} {Q : Bool → gI → gJ → gR → Prop} {n1 : Nat} (hn1 : n1 < 8) (v2 : Int32) (C : Cx Γ cX4_canLie RX4 4 D (tyW ca) (rl 3) (some .boolean) 0 0 (PXz ca o L S Q)) (h : wX4_canLie n1 v2 I J R L S Q) : G Γ 0 0 0 [(0, .ref (o 4)), (1, .ref (o (20 + n1))), (2, .int v2)] [] (cX ca o I J R L S) := by
  unfold wX4_canLie at h
  refine g_aload_n C (i := 0) dX4_canLie_0 rfl rfl ?_
  refine x_callV C (wX4_k_clear I J R L S _ h) sX4_33 rcv_leaves (rl_ok (by decide) (by decide)) rfl (Nat.le_of_ble_eq_true rfl) (st := []) _ rfl dX4_canLie_1 (px_v (fun I2 J3 R4 h => ?_))
  refine g_iconst_0 C dX4_canLie_4 ?_
  refine g_istore_n C (i := 3) [(0, .ref (o 4)), (1, .ref (o (20 + n1))), (2, .int v2), (3, .int 0)] dX4_canLie_5 rfl (by decide) rfl ?_
  obtain ⟨n, h⟩ := h
  exact g_weak [0, 1, 2, 3] rfl (Nat.le_refl _) (Nat.le_refl _) (wX4_canLie_gl6 hn1 C  n v2 0 I2 J3 R4 h)
theorem wX4_k_canLie {D : gD} {ca : Nat → ClassId} {o : Nat → Nat} {L : List Nat} {S : gS} {n1 : Nat} (hn1 : n1 < 8) (v2 : Int32) (I : gI) (J : gJ) (R : gR) (L0 : List Nat) (S0 : gS) (Q : Bool → gI → gJ → gR → Prop) (h : wX4_canLie n1 v2 I J R L S Q) : Ct yX4_canLie cX4_canLie 4 (some .boolean) (rl 3) D (tyW ca) 0 0 [.ref (o 4), .ref (o (20 + n1)), .int v2] (cX ca o I J R L S) (PXz ca o L S Q) := ct_of (rm := (rl 3)) (by decide +kernel) (Nat.le_of_ble_eq_true rfl) (fun Γ C => wX4_canLie_g hn1 v2 C h)
theorem sX4_51 : gSite RX4 yX4_keep cX4_keep 4 none 51 1 := gSite.of (tb_in (List.mem_of_getElem? (i := 1061) (by decide +kernel)) (by decide +kernel)) (tb_in (List.mem_of_getElem? (i := 1063) (by decide +kernel)) (by decide +kernel)) (tb_in (List.mem_of_getElem? (i := 25) (by decide +kernel)) (by decide +kernel)) (tb_in (List.mem_of_getElem? (i := 85) (by decide +kernel)) (by decide +kernel)) (tb_in (List.mem_of_getElem? (i := 1064) (by decide +kernel)) (by decide +kernel)) (by decide +kernel)
theorem sX4_44 : gSiteS RX4 yX4_layFrom cX4_layFrom 4 none 44 3 := gSiteS.of (tb_in (List.mem_of_getElem? (i := 1058) (by decide +kernel)) (by decide +kernel)) (tb_in (List.mem_of_getElem? (i := 1059) (by decide +kernel)) (by decide +kernel)) (tb_in (List.mem_of_getElem? (i := 85) (by decide +kernel)) (by decide +kernel)) (tb_in (List.mem_of_getElem? (i := 1060) (by decide +kernel)) (by decide +kernel)) (by decide +kernel)
set_option maxRecDepth 100000 in
theorem wX4_layFrom_gc46 {Γ : gT} {D : gD} {ca : Nat → ClassId} {o : Nat → Nat} {Q : gI → gJ → gR → Prop} {L : List Nat} {S : gS} {rd : Nat} {rc : Int32 → Int32 → gI → gJ → gR → (gI → gJ → gR → Prop) → Prop} (hrc : ∀ (v1 : Int32) (v2 : Int32) (I : gI) (J : gJ) (R : gR) (Q : gI → gJ → gR → Prop), rc v1 v2 I J R Q → Ct yX4_layFrom cX4_layFrom 4 none (rl (3 + rd)) D (tyW ca) 0 0 [.ref (o 4), .int v1, .int v2] (cX ca o I J R L S) (PXv ca o L S Q)) (C : Cx Γ cX4_layFrom RX4 4 D (tyW ca) (rl (3 + rd + 1)) none 0 0 (PXv ca o L S Q)) {B13 : Int32 → Int32 → Int32 → gI → gJ → gR → Prop} (hB13 : ∀ (v1 : Int32) (v2 : Int32) (v3 : Int32) (I : gI) (J : gJ) (R : gR), B13 v1 v2 v3 I J R → G Γ 0 0 13 [(0, .ref (o 4)), (1, .int v1), (2, .int v2), (3, .int v3)] [] (cX ca o I J R L S)) (v1 : Int32) (v2 : Int32) (v3 : Int32) (I : gI) (J : gJ) (R : gR) (h : wX4_layFrom_c46 rc L S B13 v1 v2 v3 I J R Q) : G Γ 0 0 46 [(0, .ref (o 4)), (1, .int v1), (2, .int v2), (3, .int v3)] [] (cX ca o I J R L S) := by
  unfold wX4_layFrom_c46 at h
  refine g_aload_n C (i := 0) dX4_layFrom_46 rfl rfl ?_
  refine x_get_X4_15 C dX4_layFrom_47 ?_
  refine g_iload_n C (i := 3) dX4_layFrom_50 rfl rfl ?_
  refine g_iconst_m1 C dX4_layFrom_51 ?_
  obtain ⟨h1, h⟩ := h
  refine x_iast C (k := 11) (by decide) h1 dX4_layFrom_52 ?_
  refine x_nmI _ (fun I2 e3 => ?_)
  replace h := h I2 e3
  refine g_iinc C 1 [(0, .ref (o 4)), (1, .int v1), (2, .int v2), (3, .int (v3 + 1))] dX4_layFrom_53 rfl (by decide) (by decide) rfl ?_
  refine g_goto C 13 dX4_layFrom_56 rfl ?_
  exact g_weak [0, 1, 2, 3] rfl (Nat.le_refl _) (Nat.le_refl _) (hB13 v1 v2 (v3 + 1) I2 J R h)
set_option maxRecDepth 100000 in
theorem wX4_layFrom_gb13 {Γ : gT} {D : gD} {ca : Nat → ClassId} {o : Nat → Nat} {Q : gI → gJ → gR → Prop} {L : List Nat} {S : gS} {rd : Nat} {rc : Int32 → Int32 → gI → gJ → gR → (gI → gJ → gR → Prop) → Prop} (hrc : ∀ (v1 : Int32) (v2 : Int32) (I : gI) (J : gJ) (R : gR) (Q : gI → gJ → gR → Prop), rc v1 v2 I J R Q → Ct yX4_layFrom cX4_layFrom 4 none (rl (3 + rd)) D (tyW ca) 0 0 [.ref (o 4), .int v1, .int v2] (cX ca o I J R L S) (PXv ca o L S Q)) (C : Cx Γ cX4_layFrom RX4 4 D (tyW ca) (rl (3 + rd + 1)) none 0 0 (PXv ca o L S Q)) {B13 : Int32 → Int32 → Int32 → gI → gJ → gR → Prop} (hB13 : ∀ (v1 : Int32) (v2 : Int32) (v3 : Int32) (I : gI) (J : gJ) (R : gR), B13 v1 v2 v3 I J R → G Γ 0 0 13 [(0, .ref (o 4)), (1, .int v1), (2, .int v2), (3, .int v3)] [] (cX ca o I J R L S)) (v1 : Int32) (v2 : Int32) (v3 : Int32) (I : gI) (J : gJ) (R : gR) (h : wX4_layFrom_b13 rc L S B13 v1 v2 v3 I J R Q) : G Γ 0 0 13 [(0, .ref (o 4)), (1, .int v1), (2, .int v2), (3, .int v3)] [] (cX ca o I J R L S) := by
  unfold wX4_layFrom_b13 at h
  refine g_iload_n C (i := 3) dX4_layFrom_13 rfl rfl ?_
  refine g_iload_n C (i := 1) dX4_layFrom_14 rfl rfl ?_
  refine g_icmp_ge C 59 dX4_layFrom_15 rfl (fun c1 => ?_) (fun c1 => ?_)
  · replace h := h.1 c1
    exact g_ret_v C dX4_layFrom_59 (Nat.le_refl _) (Nat.le_refl _) ⟨_, _, _, rfl, rfl, h⟩
  · replace h := h.2 c1
    refine g_aload_n C (i := 0) dX4_layFrom_18 rfl rfl ?_
    refine x_get_X4_15 C dX4_layFrom_19 ?_
    refine g_iload_n C (i := 3) dX4_layFrom_22 rfl rfl ?_
    obtain ⟨h2, h⟩ := h
    refine x_iald C (k := 11) (by decide) h2 dX4_layFrom_23 ?_
    refine g_iconst_m1 C dX4_layFrom_24 ?_
    refine g_icmp_ne C 53 dX4_layFrom_25 rfl (fun c3 => ?_) (fun c3 => ?_)
    · replace h := h.1 c3
      refine g_iinc C 1 [(0, .ref (o 4)), (1, .int v1), (2, .int v2), (3, .int (v3 + 1))] dX4_layFrom_53 rfl (by decide) (by decide) rfl ?_
      refine g_goto C 13 dX4_layFrom_56 rfl ?_
      exact g_weak [0, 1, 2, 3] rfl (Nat.le_refl _) (Nat.le_refl _) (hB13 v1 v2 (v3 + 1) I J R h)
    · replace h := h.2 c3
      refine g_aload_n C (i := 0) dX4_layFrom_28 rfl rfl ?_
      refine g_iload_n C (i := 3) dX4_layFrom_29 rfl rfl ?_
      refine g_iload_n C (i := 2) dX4_layFrom_30 rfl rfl ?_
      refine g_iload_n C (i := 1) dX4_layFrom_31 rfl rfl ?_
      refine x_callV C (wX4_k_lays v3 v2 v1 I J R L S _ h) sX4_36 rcv_leaves (rl_ok (by omega) (by decide)) rfl (Nat.le_of_ble_eq_true rfl) (st := []) _ rfl dX4_layFrom_32 (px_z (fun r4 I5 J6 R7 h => ?_))
      refine g_zeq C 46 dX4_layFrom_35 rfl (fun c8 => ?_) (fun c8 => ?_)
      · replace h := h.1 c8
        exact g_weak [0, 1, 2, 3] rfl (Nat.le_refl _) (Nat.le_refl _) (wX4_layFrom_gc46 hrc C hB13 v1 v2 v3 I5 J6 R7 h)
      · replace h := h.2 c8
        refine g_aload_n C (i := 0) dX4_layFrom_38 rfl rfl ?_
        refine g_iload_n C (i := 1) dX4_layFrom_39 rfl rfl ?_
        refine g_iload_n C (i := 2) dX4_layFrom_40 rfl rfl ?_
        refine g_iconst_1 C dX4_layFrom_41 ?_
        refine g_iadd C dX4_layFrom_42 ?_
        refine x_callS C (hrc v1 (v2 + 1) I5 J6 R7 _ h) sX4_44 (rl_ok (by omega) (by decide)) rfl (Nat.le_of_ble_eq_true rfl) (st := []) _ rfl dX4_layFrom_43 (px_v (fun I10 J11 R12 h => ?_))
        exact g_weak [0, 1, 2, 3] rfl (Nat.le_refl _) (Nat.le_refl _) (wX4_layFrom_gc46 hrc C hB13 v1 v2 v3 I10 J11 R12 h)
theorem wX4_layFrom_gl13 {Γ : gT} {D : gD} {ca : Nat → ClassId} {o : Nat → Nat} {Q : gI → gJ → gR → Prop} {L : List Nat} {S : gS} {rd : Nat} {rc : Int32 → Int32 → gI → gJ → gR → (gI → gJ → gR → Prop) → Prop} (hrc : ∀ (v1 : Int32) (v2 : Int32) (I : gI) (J : gJ) (R : gR) (Q : gI → gJ → gR → Prop), rc v1 v2 I J R Q → Ct yX4_layFrom cX4_layFrom 4 none (rl (3 + rd)) D (tyW ca) 0 0 [.ref (o 4), .int v1, .int v2] (cX ca o I J R L S) (PXv ca o L S Q)) (C : Cx Γ cX4_layFrom RX4 4 D (tyW ca) (rl (3 + rd + 1)) none 0 0 (PXv ca o L S Q)) : ∀ (n : Nat) (v1 : Int32) (v2 : Int32) (v3 : Int32) (I : gI) (J : gJ) (R : gR) (_ : wX4_layFrom_l13 rc L S Q n v1 v2 v3 I J R), G Γ 0 0 13 [(0, .ref (o 4)), (1, .int v1), (2, .int v2), (3, .int v3)] [] (cX ca o I J R L S) := by
  intro n
  induction n with
  | zero => intro v1 v2 v3 I J R h; exact h.elim
  | succ n ih => intro v1 v2 v3 I J R h; exact wX4_layFrom_gb13 hrc C ih v1 v2 v3 I J R h
set_option maxRecDepth 100000 in
theorem wX4_layFrom_g {Γ : gT} {D : gD} {ca : Nat → ClassId} {o : Nat → Nat} {I : gI} {J : gJ} {R : gR} {L : List Nat} {S : gS} {Q : gI → gJ → gR → Prop} {rd : Nat} {rc : Int32 → Int32 → gI → gJ → gR → (gI → gJ → gR → Prop) → Prop} (hrc : ∀ (v1 : Int32) (v2 : Int32) (I : gI) (J : gJ) (R : gR) (Q : gI → gJ → gR → Prop), rc v1 v2 I J R Q → Ct yX4_layFrom cX4_layFrom 4 none (rl (3 + rd)) D (tyW ca) 0 0 [.ref (o 4), .int v1, .int v2] (cX ca o I J R L S) (PXv ca o L S Q)) (v1 : Int32) (v2 : Int32) (C : Cx Γ cX4_layFrom RX4 4 D (tyW ca) (rl (3 + rd + 1)) none 0 0 (PXv ca o L S Q)) (h : wX4_layFrom_r rc v1 v2 I J R L S Q) : G Γ 0 0 0 [(0, .ref (o 4)), (1, .int v1), (2, .int v2)] [] (cX ca o I J R L S) := by
  unfold wX4_layFrom_r at h
  refine g_iload_n C (i := 2) dX4_layFrom_0 rfl rfl ?_
  refine g_iload_n C (i := 1) dX4_layFrom_1 rfl rfl ?_
  refine g_icmp_lt C 11 dX4_layFrom_2 rfl (fun c1 => ?_) (fun c1 => ?_)
  · replace h := h.1 c1
    refine g_iconst_0 C dX4_layFrom_11 ?_
    refine g_istore_n C (i := 3) [(0, .ref (o 4)), (1, .int v1), (2, .int v2), (3, .int 0)] dX4_layFrom_12 rfl (by decide) rfl ?_
    obtain ⟨n, h⟩ := h
    exact g_weak [0, 1, 2, 3] rfl (Nat.le_refl _) (Nat.le_refl _) (wX4_layFrom_gl13 hrc C  n v1 v2 0 I J R h)
  · replace h := h.2 c1
    refine g_aload_n C (i := 0) dX4_layFrom_5 rfl rfl ?_
    refine g_iload_n C (i := 1) dX4_layFrom_6 rfl rfl ?_
    refine x_callV C (wX4_k_keep v1 I J R L S _ h) sX4_51 rcv_leaves (rl_ok (by omega) (by decide)) rfl (Nat.le_of_ble_eq_true rfl) (st := []) _ rfl dX4_layFrom_7 (px_v (fun I3 J4 R5 h => ?_))
    exact g_ret_v C dX4_layFrom_10 (Nat.le_refl _) (Nat.le_refl _) ⟨_, _, _, rfl, rfl, h⟩
theorem wX4_k_layFrom {D : gD} {ca : Nat → ClassId} {o : Nat → Nat} {L : List Nat} {S : gS} (q : Nat) : ∀ (v1 : Int32) (v2 : Int32) (I : gI) (J : gJ) (R : gR) (L0 : List Nat) (S0 : gS) (Q : gI → gJ → gR → Prop) (_ : wX4_layFrom q v1 v2 I J R L S Q), Ct yX4_layFrom cX4_layFrom 4 none (rl (3 + q)) D (tyW ca) 0 0 [.ref (o 4), .int v1, .int v2] (cX ca o I J R L S) (PXv ca o L S Q) := by
  induction q with
  | zero => intro v1 v2 I J R L0 S0 Q h; exact h.elim
  | succ q ih => intro v1 v2 I J R L0 S0 Q h; exact ct_of (rm := rl (3 + (q + 1))) (by decide +kernel) (Nat.le_of_ble_eq_true rfl) (fun Γ C => wX4_layFrom_g (rd := q) (rc := fun v1 v2 I J R Q => wX4_layFrom q v1 v2 I J R L S Q) (fun v1 v2 I J R Q h => ih v1 v2 I J R L S Q h) v1 v2 C h)
theorem sX5_15_6 : gSiteU RX5 "FoldedInHalf$Left" "FoldedInHalf$Strip" ⟨"FoldedInHalf$Left", "leftOver", "(JI)I"⟩ yX9_leftOver cX9_leftOver 6 (some .int) 15 2 := gSiteU.inh (tb_in (List.mem_of_getElem? (i := 773) (by decide +kernel)) (by decide +kernel)) (tb_in (List.mem_of_getElem? (i := 774) (by decide +kernel)) (by decide +kernel)) (tb_in (List.mem_of_getElem? (i := 776) (by decide +kernel)) (by decide +kernel)) (tb_in (List.mem_of_getElem? (i := 777) (by decide +kernel)) (by decide +kernel)) (tb_in (List.mem_of_getElem? (i := 90) (by decide +kernel)) (by decide +kernel)) (tb_in (List.mem_of_getElem? (i := 778) (by decide +kernel)) (by decide +kernel)) rfl (by decide +kernel)
set_option maxRecDepth 100000 in
theorem wX5_wayBehind_g {Γ : gT} {D : gD} {ca : Nat → ClassId} {o : Nat → Nat} {I : gI} {J : gJ} {R : gR} {L : List Nat} {S : gS} {Q : Int32 → Prop} {q0 : Nat} (hq0 : q0 ∈ L) (hc0 : sC (S q0) = 6) (v1 : Int64) (C : Cx Γ cX5_wayBehind RX5 3 D (tyW ca) (rl 3) (some .int) 0 0 (PYi ca o I J R L S Q)) (h : wX5_wayBehind q0 v1 I J R L S Q) : G Γ 0 0 0 [(0, .ref q0), (1, .long v1)] [] (cX ca o I J R L S) := by
  unfold wX5_wayBehind at h
  refine g_aload_n C (i := 0) dX5_wayBehind_0 rfl rfl ?_
  refine g_lload_n C (i := 1) dX5_wayBehind_1 rfl rfl ?_
  refine g_iconst_0 C dX5_wayBehind_2 ?_
  refine x_callU C (wX9_k_leftOver hq0 v1 0 I J R L S _ h) sX5_15_6 (rcv_6 hq0 hc0) (rl_ok (by decide) (by decide)) rfl (Nat.le_of_ble_eq_true rfl) (st := []) _ rfl dX5_wayBehind_3 (py_i (fun r1 h => ?_))
  refine g_aload_n C (i := 0) dX5_wayBehind_6 rfl rfl ?_
  refine g_lload_n C (i := 1) dX5_wayBehind_7 rfl rfl ?_
  refine g_iconst_1 C dX5_wayBehind_8 ?_
  refine x_callU C (wX9_k_leftOver hq0 v1 1 I J R L S _ h) sX5_15_6 (rcv_6 hq0 hc0) (rl_ok (by decide) (by decide)) rfl (Nat.le_of_ble_eq_true rfl) (st := [.int r1]) _ rfl dX5_wayBehind_9 (py_i (fun r2 h => ?_))
  refine g_iadd C dX5_wayBehind_12 ?_
  refine g_lload_n C (i := 1) dX5_wayBehind_13 rfl rfl ?_
  refine g_ldc2 C (v := 4) (tb_in (List.mem_of_getElem? (i := 449) (by decide +kernel)) (by decide +kernel)) dX5_wayBehind_14 ?_
  refine g_ldiv C dX5_wayBehind_17 (by decide) ?_
  refine g_ldc2 C (v := 4) (tb_in (List.mem_of_getElem? (i := 449) (by decide +kernel)) (by decide +kernel)) dX5_wayBehind_18 ?_
  refine g_lrem C dX5_wayBehind_21 (by decide) ?_
  refine g_l2i C dX5_wayBehind_22 ?_
  refine g_iadd C dX5_wayBehind_23 ?_
  refine g_iconst_3 C dX5_wayBehind_24 ?_
  refine g_iand C dX5_wayBehind_25 ?_
  exact g_ret_i C dX5_wayBehind_26 (Nat.le_refl _) (Nat.le_refl _) ⟨_, rfl, rfl, h⟩
theorem wX5_k_wayBehind {D : gD} {ca : Nat → ClassId} {o : Nat → Nat} {L : List Nat} {S : gS} {q0 : Nat} (hq0 : q0 ∈ L) (hc0 : sC (S q0) = 6) (v1 : Int64) (I : gI) (J : gJ) (R : gR) (L0 : List Nat) (S0 : gS) (Q : Int32 → Prop) (h : wX5_wayBehind q0 v1 I J R L S Q) : Ct yX5_wayBehind cX5_wayBehind 3 (some .int) (rl 3) D (tyW ca) 0 0 [.ref q0, .long v1] (cX ca o I J R L S) (PYi ca o I J R L S Q) := ct_of (rm := (rl 3)) (by decide +kernel) (Nat.le_of_ble_eq_true rfl) (fun Γ C => wX5_wayBehind_g hq0 hc0 v1 C h)
theorem sX6_35 : gSite RX6 yX6_here cX6_here 1 (some .int) 35 0 := gSite.of (tb_in (List.mem_of_getElem? (i := 642) (by decide +kernel)) (by decide +kernel)) (tb_in (List.mem_of_getElem? (i := 644) (by decide +kernel)) (by decide +kernel)) (tb_in (List.mem_of_getElem? (i := 8) (by decide +kernel)) (by decide +kernel)) (tb_in (List.mem_of_getElem? (i := 83) (by decide +kernel)) (by decide +kernel)) (tb_in (List.mem_of_getElem? (i := 645) (by decide +kernel)) (by decide +kernel)) (by decide +kernel)
theorem sX6_49 : gSite RX6 yX6_fail cX6_fail 2 (some .boolean) 49 1 := gSite.of (tb_in (List.mem_of_getElem? (i := 704) (by decide +kernel)) (by decide +kernel)) (tb_in (List.mem_of_getElem? (i := 706) (by decide +kernel)) (by decide +kernel)) (tb_in (List.mem_of_getElem? (i := 11) (by decide +kernel)) (by decide +kernel)) (tb_in (List.mem_of_getElem? (i := 83) (by decide +kernel)) (by decide +kernel)) (tb_in (List.mem_of_getElem? (i := 707) (by decide +kernel)) (by decide +kernel)) (by decide +kernel)
set_option maxRecDepth 100000 in
theorem wX6_wordUpTo_gc83 {Γ : gT} {D : gD} {ca : Nat → ClassId} {o : Nat → Nat} {Q : Bool → gI → gJ → gR → Prop} {L : List Nat} {S : gS} (C : Cx Γ cX6_wordUpTo RX6 2 D (tyW ca) (rl 3) (some .boolean) 0 0 (PXz ca o L S Q)) (I : gI) (J : gJ) (R : gR) (h : wX6_wordUpTo_c83 L S I J R Q) : G Γ 0 0 83 [(0, .ref (o 3))] [] (cX ca o I J R L S) := by
  unfold wX6_wordUpTo_c83 at h
  refine g_aload_n C (i := 0) dX6_wordUpTo_83 rfl rfl ?_
  refine x_get_X6_82 C dX6_wordUpTo_84 ?_
  refine g_if_gt C 101 dX6_wordUpTo_87 rfl (fun c1 => ?_) (fun c1 => ?_)
  · replace h := h.1 c1
    refine g_iconst_1 C dX6_wordUpTo_101 ?_
    refine g_goto C 106 dX6_wordUpTo_102 rfl ?_
    exact g_ret_z C true rfl dX6_wordUpTo_106 (Nat.le_refl _) (Nat.le_refl _) ⟨_, _, _, _, rfl, rfl, h⟩
  · replace h := h.2 c1
    refine g_aload_n C (i := 0) dX6_wordUpTo_90 rfl rfl ?_
    refine g_aload_n C (i := 0) dX6_wordUpTo_91 rfl rfl ?_
    refine x_get_X6_28 C dX6_wordUpTo_92 ?_
    refine x_callV C (wX6_k_fail (I 0 7) I J R L S _ h) sX6_49 rcv_reader (rl_ok (by decide) (by decide)) rfl (Nat.le_of_ble_eq_true rfl) (st := []) _ rfl dX6_wordUpTo_95 (px_z (fun r2 I3 J4 R5 h => ?_))
    refine g_zeq C 105 dX6_wordUpTo_98 rfl (fun c6 => ?_) (fun c6 => ?_)
    · replace h := h.1 c6
      refine g_iconst_0 C dX6_wordUpTo_105 ?_
      exact g_ret_z C false rfl dX6_wordUpTo_106 (Nat.le_refl _) (Nat.le_refl _) ⟨_, _, _, _, rfl, rfl, h⟩
    · replace h := h.2 c6
      refine g_iconst_1 C dX6_wordUpTo_101 ?_
      refine g_goto C 106 dX6_wordUpTo_102 rfl ?_
      exact g_ret_z C true rfl dX6_wordUpTo_106 (Nat.le_refl _) (Nat.le_refl _) ⟨_, _, _, _, rfl, rfl, h⟩
set_option maxRecDepth 100000 in
theorem wX6_wordUpTo_gc60 {Γ : gT} {D : gD} {ca : Nat → ClassId} {o : Nat → Nat} {Q : Bool → gI → gJ → gR → Prop} {L : List Nat} {S : gS} (C : Cx Γ cX6_wordUpTo RX6 2 D (tyW ca) (rl 3) (some .boolean) 0 0 (PXz ca o L S Q)) {B10 : Int32 → gI → gJ → gR → Prop} (hB10 : ∀ (v1 : Int32) (I : gI) (J : gJ) (R : gR), B10 v1 I J R → G Γ 0 0 10 [(0, .ref (o 3)), (1, .int v1)] [] (cX ca o I J R L S)) (v1 : Int32) (I : gI) (J : gJ) (R : gR) (h : wX6_wordUpTo_c60 L S B10 v1 I J R Q) : G Γ 0 0 60 [(0, .ref (o 3)), (1, .int v1)] [] (cX ca o I J R L S) := by
  unfold wX6_wordUpTo_c60 at h
  refine g_aload_n C (i := 0) dX6_wordUpTo_60 rfl rfl ?_
  refine g_dup C dX6_wordUpTo_61 rfl ?_
  refine x_get_X6_82 C dX6_wordUpTo_62 ?_
  refine g_iconst_1 C dX6_wordUpTo_65 ?_
  refine g_iadd C dX6_wordUpTo_66 ?_
  refine x_put_X6_82 C dX6_wordUpTo_67 ?_
  refine x_nmI _ (fun I1 e2 => ?_)
  replace h := h I1 e2
  refine g_aload_n C (i := 0) dX6_wordUpTo_70 rfl rfl ?_
  refine g_dup C dX6_wordUpTo_71 rfl ?_
  refine x_get_X6_28 C dX6_wordUpTo_72 ?_
  refine g_iconst_1 C dX6_wordUpTo_75 ?_
  refine g_iadd C dX6_wordUpTo_76 ?_
  refine x_put_X6_28 C dX6_wordUpTo_77 ?_
  refine x_nmI _ (fun I3 e4 => ?_)
  replace h := h I3 e4
  refine g_goto C 10 dX6_wordUpTo_80 rfl ?_
  exact g_weak [0, 1] rfl (Nat.le_refl _) (Nat.le_refl _) (hB10 v1 I3 J R h)
set_option maxRecDepth 100000 in
theorem wX6_wordUpTo_gc36 {Γ : gT} {D : gD} {ca : Nat → ClassId} {o : Nat → Nat} {Q : Bool → gI → gJ → gR → Prop} {L : List Nat} {S : gS} (C : Cx Γ cX6_wordUpTo RX6 2 D (tyW ca) (rl 3) (some .boolean) 0 0 (PXz ca o L S Q)) {B10 : Int32 → gI → gJ → gR → Prop} (hB10 : ∀ (v1 : Int32) (I : gI) (J : gJ) (R : gR), B10 v1 I J R → G Γ 0 0 10 [(0, .ref (o 3)), (1, .int v1)] [] (cX ca o I J R L S)) (v1 : Int32) (I : gI) (J : gJ) (R : gR) (h : wX6_wordUpTo_c36 L S B10 v1 I J R Q) : G Γ 0 0 36 [(0, .ref (o 3)), (1, .int v1)] [] (cX ca o I J R L S) := by
  unfold wX6_wordUpTo_c36 at h
  refine g_aload_n C (i := 0) dX6_wordUpTo_36 rfl rfl ?_
  refine x_callV C (wX6_k_here I J R L S _ h) sX6_35 rcv_reader (rl_ok (by decide) (by decide)) rfl (Nat.le_of_ble_eq_true rfl) (st := []) _ rfl dX6_wordUpTo_37 (py_i (fun r1 h => ?_))
  refine g_bipush C (v := 108) dX6_wordUpTo_40 (by decide) ?_
  refine g_icmp_ne C 60 dX6_wordUpTo_42 rfl (fun c2 => ?_) (fun c2 => ?_)
  · replace h := h.1 c2
    exact g_weak [0, 1] rfl (Nat.le_refl _) (Nat.le_refl _) (wX6_wordUpTo_gc60  C hB10 v1 I J R h)
  · replace h := h.2 c2
    refine g_aload_n C (i := 0) dX6_wordUpTo_45 rfl rfl ?_
    refine g_dup C dX6_wordUpTo_46 rfl ?_
    refine x_get_X6_85 C dX6_wordUpTo_47 ?_
    refine g_lconst_1 C dX6_wordUpTo_50 ?_
    refine g_aload_n C (i := 0) dX6_wordUpTo_51 rfl rfl ?_
    refine x_get_X6_82 C dX6_wordUpTo_52 ?_
    refine g_lshl C dX6_wordUpTo_55 ?_
    refine g_lor C dX6_wordUpTo_56 ?_
    refine x_put_X6_85 C dX6_wordUpTo_57 ?_
    refine x_nmJ _ (fun J3 e4 => ?_)
    replace h := h J3 e4
    exact g_weak [0, 1] rfl (Nat.le_refl _) (Nat.le_refl _) (wX6_wordUpTo_gc60  C hB10 v1 I J3 R h)
set_option maxRecDepth 100000 in
theorem wX6_wordUpTo_gb10 {Γ : gT} {D : gD} {ca : Nat → ClassId} {o : Nat → Nat} {Q : Bool → gI → gJ → gR → Prop} {L : List Nat} {S : gS} (C : Cx Γ cX6_wordUpTo RX6 2 D (tyW ca) (rl 3) (some .boolean) 0 0 (PXz ca o L S Q)) {B10 : Int32 → gI → gJ → gR → Prop} (hB10 : ∀ (v1 : Int32) (I : gI) (J : gJ) (R : gR), B10 v1 I J R → G Γ 0 0 10 [(0, .ref (o 3)), (1, .int v1)] [] (cX ca o I J R L S)) (v1 : Int32) (I : gI) (J : gJ) (R : gR) (h : wX6_wordUpTo_b10 L S B10 v1 I J R Q) : G Γ 0 0 10 [(0, .ref (o 3)), (1, .int v1)] [] (cX ca o I J R L S) := by
  unfold wX6_wordUpTo_b10 at h
  refine g_aload_n C (i := 0) dX6_wordUpTo_10 rfl rfl ?_
  refine x_get_X6_82 C dX6_wordUpTo_11 ?_
  refine g_iload_n C (i := 1) dX6_wordUpTo_14 rfl rfl ?_
  refine g_icmp_ge C 83 dX6_wordUpTo_15 rfl (fun c1 => ?_) (fun c1 => ?_)
  · replace h := h.1 c1
    exact g_weak [0] rfl (Nat.le_refl _) (Nat.le_refl _) (wX6_wordUpTo_gc83  C   I J R h)
  · replace h := h.2 c1
    refine g_aload_n C (i := 0) dX6_wordUpTo_18 rfl rfl ?_
    refine x_callV C (wX6_k_here I J R L S _ h) sX6_35 rcv_reader (rl_ok (by decide) (by decide)) rfl (Nat.le_of_ble_eq_true rfl) (st := []) _ rfl dX6_wordUpTo_19 (py_i (fun r2 h => ?_))
    refine g_bipush C (v := 108) dX6_wordUpTo_22 (by decide) ?_
    refine g_icmp_eq C 36 dX6_wordUpTo_24 rfl (fun c3 => ?_) (fun c3 => ?_)
    · replace h := h.1 c3
      exact g_weak [0, 1] rfl (Nat.le_refl _) (Nat.le_refl _) (wX6_wordUpTo_gc36  C hB10 v1 I J R h)
    · replace h := h.2 c3
      refine g_aload_n C (i := 0) dX6_wordUpTo_27 rfl rfl ?_
      refine x_callV C (wX6_k_here I J R L S _ h) sX6_35 rcv_reader (rl_ok (by decide) (by decide)) rfl (Nat.le_of_ble_eq_true rfl) (st := []) _ rfl dX6_wordUpTo_28 (py_i (fun r4 h => ?_))
      refine g_bipush C (v := 114) dX6_wordUpTo_31 (by decide) ?_
      refine g_icmp_ne C 83 dX6_wordUpTo_33 rfl (fun c5 => ?_) (fun c5 => ?_)
      · replace h := h.1 c5
        exact g_weak [0] rfl (Nat.le_refl _) (Nat.le_refl _) (wX6_wordUpTo_gc83  C   I J R h)
      · replace h := h.2 c5
        exact g_weak [0, 1] rfl (Nat.le_refl _) (Nat.le_refl _) (wX6_wordUpTo_gc36  C hB10 v1 I J R h)
theorem wX6_wordUpTo_gl10 {Γ : gT} {D : gD} {ca : Nat → ClassId} {o : Nat → Nat} {Q : Bool → gI → gJ → gR → Prop} {L : List Nat} {S : gS} (C : Cx Γ cX6_wordUpTo RX6 2 D (tyW ca) (rl 3) (some .boolean) 0 0 (PXz ca o L S Q)) : ∀ (n : Nat) (v1 : Int32) (I : gI) (J : gJ) (R : gR) (_ : wX6_wordUpTo_l10 L S Q n v1 I J R), G Γ 0 0 10 [(0, .ref (o 3)), (1, .int v1)] [] (cX ca o I J R L S) := by
  intro n
  induction n with
  | zero => intro v1 I J R h; exact h.elim
  | succ n ih => intro v1 I J R h; exact wX6_wordUpTo_gb10 C ih v1 I J R h
set_option maxRecDepth 100000 in
theorem wX6_wordUpTo_g {Γ : gT} {D : gD} {ca : Nat → ClassId} {o : Nat → Nat} {I : gI} {J : gJ} {R : gR} {L : List Nat} {S : gS} {Q : Bool → gI → gJ → gR → Prop} (v1 : Int32) (C : Cx Γ cX6_wordUpTo RX6 2 D (tyW ca) (rl 3) (some .boolean) 0 0 (PXz ca o L S Q)) (h : wX6_wordUpTo v1 I J R L S Q) : G Γ 0 0 0 [(0, .ref (o 3)), (1, .int v1)] [] (cX ca o I J R L S) := by
  unfold wX6_wordUpTo at h
  refine g_aload_n C (i := 0) dX6_wordUpTo_0 rfl rfl ?_
  refine g_lconst_0 C dX6_wordUpTo_1 ?_
  refine x_put_X6_85 C dX6_wordUpTo_2 ?_
  refine x_nmJ _ (fun J1 e2 => ?_)
  replace h := h J1 e2
  refine g_aload_n C (i := 0) dX6_wordUpTo_5 rfl rfl ?_
  refine g_iconst_0 C dX6_wordUpTo_6 ?_
  refine x_put_X6_82 C dX6_wordUpTo_7 ?_
  refine x_nmI _ (fun I3 e4 => ?_)
  replace h := h I3 e4
  obtain ⟨n, h⟩ := h
  exact g_weak [0, 1] rfl (Nat.le_refl _) (Nat.le_refl _) (wX6_wordUpTo_gl10  C  n v1 I3 J1 R h)
theorem wX6_k_wordUpTo {D : gD} {ca : Nat → ClassId} {o : Nat → Nat} {L : List Nat} {S : gS} (v1 : Int32) (I : gI) (J : gJ) (R : gR) (L0 : List Nat) (S0 : gS) (Q : Bool → gI → gJ → gR → Prop) (h : wX6_wordUpTo v1 I J R L S Q) : Ct yX6_wordUpTo cX6_wordUpTo 2 (some .boolean) (rl 3) D (tyW ca) 0 0 [.ref (o 3), .int v1] (cX ca o I J R L S) (PXz ca o L S Q) := ct_of (rm := (rl 3)) (by decide +kernel) (Nat.le_of_ble_eq_true rfl) (fun Γ C => wX6_wordUpTo_g v1 C h)
set_option maxRecDepth 100000 in
theorem wX6_numberUpTo_gc93 {Γ : gT} {D : gD} {ca : Nat → ClassId} {o : Nat → Nat} {Q : Bool → gI → gJ → gR → Prop} {L : List Nat} {S : gS} (C : Cx Γ cX6_numberUpTo RX6 3 D (tyW ca) (rl 3) (some .boolean) 0 0 (PXz ca o L S Q)) (I : gI) (J : gJ) (R : gR) (h : wX6_numberUpTo_c93 L S I J R Q) : G Γ 0 0 93 [(0, .ref (o 3))] [] (cX ca o I J R L S) := by
  unfold wX6_numberUpTo_c93 at h
  refine g_aload_n C (i := 0) dX6_numberUpTo_93 rfl rfl ?_
  refine g_aload_n C (i := 0) dX6_numberUpTo_94 rfl rfl ?_
  refine x_get_X6_108 C dX6_numberUpTo_95 ?_
  refine x_callV C (wX6_k_fail (I 0 9) I J R L S _ h) sX6_49 rcv_reader (rl_ok (by decide) (by decide)) rfl (Nat.le_of_ble_eq_true rfl) (st := []) _ rfl dX6_numberUpTo_98 (px_z (fun r1 I2 J3 R4 h => ?_))
  exact g_ret_z C r1 rfl dX6_numberUpTo_101 (Nat.le_refl _) (Nat.le_refl _) ⟨_, _, _, _, rfl, rfl, h⟩
set_option maxRecDepth 100000 in
theorem wX6_numberUpTo_gc74 {Γ : gT} {D : gD} {ca : Nat → ClassId} {o : Nat → Nat} {Q : Bool → gI → gJ → gR → Prop} {L : List Nat} {S : gS} (C : Cx Γ cX6_numberUpTo RX6 3 D (tyW ca) (rl 3) (some .boolean) 0 0 (PXz ca o L S Q)) (v1 : Int32) (I : gI) (J : gJ) (R : gR) (h : wX6_numberUpTo_c74 L S v1 I J R Q) : G Γ 0 0 74 [(0, .ref (o 3)), (1, .int v1)] [] (cX ca o I J R L S) := by
  unfold wX6_numberUpTo_c74 at h
  refine g_aload_n C (i := 0) dX6_numberUpTo_74 rfl rfl ?_
  refine x_get_X6_28 C dX6_numberUpTo_75 ?_
  refine g_aload_n C (i := 0) dX6_numberUpTo_78 rfl rfl ?_
  refine x_get_X6_108 C dX6_numberUpTo_79 ?_
  refine g_icmp_eq C 93 dX6_numberUpTo_82 rfl (fun c1 => ?_) (fun c1 => ?_)
  · replace h := h.1 c1
    exact g_weak [0] rfl (Nat.le_refl _) (Nat.le_refl _) (wX6_numberUpTo_gc93  C   I J R h)
  · replace h := h.2 c1
    refine g_aload_n C (i := 0) dX6_numberUpTo_85 rfl rfl ?_
    refine x_get_X6_71 C dX6_numberUpTo_86 ?_
    refine g_iload_n C (i := 1) dX6_numberUpTo_89 rfl rfl ?_
    refine g_icmp_le C 102 dX6_numberUpTo_90 rfl (fun c2 => ?_) (fun c2 => ?_)
    · replace h := h.1 c2
      refine g_iconst_1 C dX6_numberUpTo_102 ?_
      exact g_ret_z C true rfl dX6_numberUpTo_103 (Nat.le_refl _) (Nat.le_refl _) ⟨_, _, _, _, rfl, rfl, h⟩
    · replace h := h.2 c2
      exact g_weak [0] rfl (Nat.le_refl _) (Nat.le_refl _) (wX6_numberUpTo_gc93  C   I J R h)
set_option maxRecDepth 100000 in
theorem wX6_numberUpTo_gb15 {Γ : gT} {D : gD} {ca : Nat → ClassId} {o : Nat → Nat} {Q : Bool → gI → gJ → gR → Prop} {L : List Nat} {S : gS} (C : Cx Γ cX6_numberUpTo RX6 3 D (tyW ca) (rl 3) (some .boolean) 0 0 (PXz ca o L S Q)) {B15 : Int32 → Int32 → gI → gJ → gR → Prop} (hB15 : ∀ (v1 : Int32) (v2 : Int32) (I : gI) (J : gJ) (R : gR), B15 v1 v2 I J R → G Γ 0 0 15 [(0, .ref (o 3)), (1, .int v1), (2, .int v2)] [] (cX ca o I J R L S)) (v1 : Int32) (v2 : Int32) (I : gI) (J : gJ) (R : gR) (h : wX6_numberUpTo_b15 L S B15 v1 v2 I J R Q) : G Γ 0 0 15 [(0, .ref (o 3)), (1, .int v1), (2, .int v2)] [] (cX ca o I J R L S) := by
  unfold wX6_numberUpTo_b15 at h
  refine g_iload_n C (i := 2) dX6_numberUpTo_15 rfl rfl ?_
  refine g_bipush C (v := 6) dX6_numberUpTo_16 (by decide) ?_
  refine g_icmp_ge C 74 dX6_numberUpTo_18 rfl (fun c1 => ?_) (fun c1 => ?_)
  · replace h := h.1 c1
    exact g_weak [0, 1] rfl (Nat.le_refl _) (Nat.le_refl _) (wX6_numberUpTo_gc74  C  v1 I J R h)
  · replace h := h.2 c1
    refine g_aload_n C (i := 0) dX6_numberUpTo_21 rfl rfl ?_
    refine x_callV C (wX6_k_here I J R L S _ h) sX6_35 rcv_reader (rl_ok (by decide) (by decide)) rfl (Nat.le_of_ble_eq_true rfl) (st := []) _ rfl dX6_numberUpTo_22 (py_i (fun r2 h => ?_))
    refine g_bipush C (v := 48) dX6_numberUpTo_25 (by decide) ?_
    refine g_icmp_lt C 74 dX6_numberUpTo_27 rfl (fun c3 => ?_) (fun c3 => ?_)
    · replace h := h.1 c3
      exact g_weak [0, 1] rfl (Nat.le_refl _) (Nat.le_refl _) (wX6_numberUpTo_gc74  C  v1 I J R h)
    · replace h := h.2 c3
      refine g_aload_n C (i := 0) dX6_numberUpTo_30 rfl rfl ?_
      refine x_callV C (wX6_k_here I J R L S _ h) sX6_35 rcv_reader (rl_ok (by decide) (by decide)) rfl (Nat.le_of_ble_eq_true rfl) (st := []) _ rfl dX6_numberUpTo_31 (py_i (fun r4 h => ?_))
      refine g_bipush C (v := 57) dX6_numberUpTo_34 (by decide) ?_
      refine g_icmp_gt C 74 dX6_numberUpTo_36 rfl (fun c5 => ?_) (fun c5 => ?_)
      · replace h := h.1 c5
        exact g_weak [0, 1] rfl (Nat.le_refl _) (Nat.le_refl _) (wX6_numberUpTo_gc74  C  v1 I J R h)
      · replace h := h.2 c5
        refine g_aload_n C (i := 0) dX6_numberUpTo_39 rfl rfl ?_
        refine g_bipush C (v := 10) dX6_numberUpTo_40 (by decide) ?_
        refine g_aload_n C (i := 0) dX6_numberUpTo_42 rfl rfl ?_
        refine x_get_X6_71 C dX6_numberUpTo_43 ?_
        refine g_imul C dX6_numberUpTo_46 ?_
        refine g_aload_n C (i := 0) dX6_numberUpTo_47 rfl rfl ?_
        refine x_callV C (wX6_k_here I J R L S _ h) sX6_35 rcv_reader (rl_ok (by decide) (by decide)) rfl (Nat.le_of_ble_eq_true rfl) (st := [.int (10 * (I 0 8)), .ref (o 3)]) _ rfl dX6_numberUpTo_48 (py_i (fun r6 h => ?_))
        refine g_iadd C dX6_numberUpTo_51 ?_
        refine g_bipush C (v := 48) dX6_numberUpTo_52 (by decide) ?_
        refine g_isub C dX6_numberUpTo_54 ?_
        refine x_put_X6_71 C dX6_numberUpTo_55 ?_
        refine x_nmI _ (fun I7 e8 => ?_)
        replace h := h I7 e8
        refine g_aload_n C (i := 0) dX6_numberUpTo_58 rfl rfl ?_
        refine g_dup C dX6_numberUpTo_59 rfl ?_
        refine x_get_X6_28 C dX6_numberUpTo_60 ?_
        refine g_iconst_1 C dX6_numberUpTo_63 ?_
        refine g_iadd C dX6_numberUpTo_64 ?_
        refine x_put_X6_28 C dX6_numberUpTo_65 ?_
        refine x_nmI _ (fun I9 e10 => ?_)
        replace h := h I9 e10
        refine g_iinc C 1 [(0, .ref (o 3)), (1, .int v1), (2, .int (v2 + 1))] dX6_numberUpTo_68 rfl (by decide) (by decide) rfl ?_
        refine g_goto C 15 dX6_numberUpTo_71 rfl ?_
        exact g_weak [0, 1, 2] rfl (Nat.le_refl _) (Nat.le_refl _) (hB15 v1 (v2 + 1) I9 J R h)
theorem wX6_numberUpTo_gl15 {Γ : gT} {D : gD} {ca : Nat → ClassId} {o : Nat → Nat} {Q : Bool → gI → gJ → gR → Prop} {L : List Nat} {S : gS} (C : Cx Γ cX6_numberUpTo RX6 3 D (tyW ca) (rl 3) (some .boolean) 0 0 (PXz ca o L S Q)) : ∀ (n : Nat) (v1 : Int32) (v2 : Int32) (I : gI) (J : gJ) (R : gR) (_ : wX6_numberUpTo_l15 L S Q n v1 v2 I J R), G Γ 0 0 15 [(0, .ref (o 3)), (1, .int v1), (2, .int v2)] [] (cX ca o I J R L S) := by
  intro n
  induction n with
  | zero => intro v1 v2 I J R h; exact h.elim
  | succ n ih => intro v1 v2 I J R h; exact wX6_numberUpTo_gb15 C ih v1 v2 I J R h
set_option maxRecDepth 100000 in
theorem wX6_numberUpTo_g {Γ : gT} {D : gD} {ca : Nat → ClassId} {o : Nat → Nat} {I : gI} {J : gJ} {R : gR} {L : List Nat} {S : gS} {Q : Bool → gI → gJ → gR → Prop} (v1 : Int32) (C : Cx Γ cX6_numberUpTo RX6 3 D (tyW ca) (rl 3) (some .boolean) 0 0 (PXz ca o L S Q)) (h : wX6_numberUpTo v1 I J R L S Q) : G Γ 0 0 0 [(0, .ref (o 3)), (1, .int v1)] [] (cX ca o I J R L S) := by
  unfold wX6_numberUpTo at h
  refine g_aload_n C (i := 0) dX6_numberUpTo_0 rfl rfl ?_
  refine g_aload_n C (i := 0) dX6_numberUpTo_1 rfl rfl ?_
  refine x_get_X6_28 C dX6_numberUpTo_2 ?_
  refine x_put_X6_108 C dX6_numberUpTo_5 ?_
  refine x_nmI _ (fun I1 e2 => ?_)
  replace h := h I1 e2
  refine g_aload_n C (i := 0) dX6_numberUpTo_8 rfl rfl ?_
  refine g_iconst_0 C dX6_numberUpTo_9 ?_
  refine x_put_X6_71 C dX6_numberUpTo_10 ?_
  refine x_nmI _ (fun I3 e4 => ?_)
  replace h := h I3 e4
  refine g_iconst_0 C dX6_numberUpTo_13 ?_
  refine g_istore_n C (i := 2) [(0, .ref (o 3)), (1, .int v1), (2, .int 0)] dX6_numberUpTo_14 rfl (by decide) rfl ?_
  obtain ⟨n, h⟩ := h
  exact g_weak [0, 1, 2] rfl (Nat.le_refl _) (Nat.le_refl _) (wX6_numberUpTo_gl15  C  n v1 0 I3 J R h)
theorem wX6_k_numberUpTo {D : gD} {ca : Nat → ClassId} {o : Nat → Nat} {L : List Nat} {S : gS} (v1 : Int32) (I : gI) (J : gJ) (R : gR) (L0 : List Nat) (S0 : gS) (Q : Bool → gI → gJ → gR → Prop) (h : wX6_numberUpTo v1 I J R L S Q) : Ct yX6_numberUpTo cX6_numberUpTo 3 (some .boolean) (rl 3) D (tyW ca) 0 0 [.ref (o 3), .int v1] (cX ca o I J R L S) (PXz ca o L S Q) := ct_of (rm := (rl 3)) (by decide +kernel) (Nat.le_of_ble_eq_true rfl) (fun Γ C => wX6_numberUpTo_g v1 C h)
