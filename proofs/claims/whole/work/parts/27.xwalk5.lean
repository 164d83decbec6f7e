theorem sX7_17 : gSite RX7 yJ4_append_cf468 cJ4_append_cf468 2 (some (.object "java/lang/StringBuilder")) 17 1 := gSite.of (tb_in (List.mem_of_getElem? (i := 1200) (by decide +kernel)) (by decide +kernel)) (tb_in (List.mem_of_getElem? (i := 1152) (by decide +kernel)) (by decide +kernel)) (tb_in (List.mem_of_getElem? (i := 1153) (by decide +kernel)) (by decide +kernel)) (tb_in (List.mem_of_getElem? (i := 80) (by decide +kernel)) (by decide +kernel)) (tb_in (List.mem_of_getElem? (i := 1154) (by decide +kernel)) (by decide +kernel)) (by decide +kernel)
theorem sX7_23 : gSiteP RX7 yX9_folds cX9_folds 3 (some .int) 23 2 := gSiteP.of (tb_in (List.mem_of_getElem? (i := 1201) (by decide +kernel)) (by decide +kernel)) (tb_in (List.mem_of_getElem? (i := 1147) (by decide +kernel)) (by decide +kernel)) (tb_in (List.mem_of_getElem? (i := 548) (by decide +kernel)) (by decide +kernel)) (tb_in (List.mem_of_getElem? (i := 1145) (by decide +kernel)) (by decide +kernel)) (tb_in (List.mem_of_getElem? (i := 90) (by decide +kernel)) (by decide +kernel)) (tb_in (List.mem_of_getElem? (i := 1203) (by decide +kernel)) (by decide +kernel)) (by decide +kernel)
set_option maxRecDepth 100000 in
theorem wX7_folds_g {Γ : gT} {D : gD} {ca : Nat → ClassId} {o : Nat → Nat} {I : gI} {J : gJ} {R : gR} {L : List Nat} {S : gS} {Q : Int32 → gI → gJ → gR → Prop} {q0 : Nat} (hq0 : q0 ∈ L) (hc0 : sC (S q0) = 1) (v2 : Int32) (C : Cx Γ cX7_folds RX7 3 D (tyW ca) (rl 4) (some .int) 0 0 (PXi ca o L S Q)) (h : wX7_folds q0 v2 I J R L S Q) : G Γ 0 0 0 [(0, .ref q0), (1, .ref (o 1)), (2, .int v2)] [] (cX ca o I J R L S) := by
  unfold wX7_folds at h
  refine g_aload_n C (i := 1) dX7_folds_0 rfl rfl ?_
  refine g_bipush C (v := 20) dX7_folds_1 (by decide) ?_
  refine x_callV C (wJ4_k_append_cf468 20 I J R L S _ h) sX7_17 rcv_sb (rl_ok (by decide) (by decide)) rfl (Nat.le_of_ble_eq_true rfl) (st := []) _ rfl dX7_folds_3 (px_b (fun I2 J3 R4 h => ?_))
  refine g_pop C dX7_folds_6 rfl ?_
  refine g_aload_n C (i := 0) dX7_folds_7 rfl rfl ?_
  refine g_aload_n C (i := 1) dX7_folds_8 rfl rfl ?_
  refine g_iload_n C (i := 2) dX7_folds_9 rfl rfl ?_
  refine x_callP C (wX9_k_folds hq0 v2 I2 J3 R4 L S _ h) sX7_23 (rcv_any hq0) (rl_ok (by decide) (by decide)) rfl (Nat.le_of_ble_eq_true rfl) (st := []) _ rfl dX7_folds_10 (px_i (fun r5 I6 J7 R8 h => ?_))
  refine g_aload_n C (i := 0) dX7_folds_13 rfl rfl ?_
  refine x_get_X7_9 C hq0 hc0 dX7_folds_14 ?_
  refine g_iadd C dX7_folds_17 ?_
  exact g_ret_i C dX7_folds_18 (Nat.le_refl _) (Nat.le_refl _) ⟨_, _, _, _, rfl, rfl, h⟩
theorem wX7_k_folds {D : gD} {ca : Nat → ClassId} {o : Nat → Nat} {L : List Nat} {S : gS} {q0 : Nat} (hq0 : q0 ∈ L) (hc0 : sC (S q0) = 1) (v2 : Int32) (I : gI) (J : gJ) (R : gR) (L0 : List Nat) (S0 : gS) (Q : Int32 → gI → gJ → gR → Prop) (h : wX7_folds q0 v2 I J R L S Q) : Ct yX7_folds cX7_folds 3 (some .int) (rl 4) D (tyW ca) 0 0 [.ref q0, .ref (o 1), .int v2] (cX ca o I J R L S) (PXi ca o L S Q) := ct_of (rm := (rl 4)) (by decide +kernel) (Nat.le_of_ble_eq_true rfl) (fun Γ C => wX7_folds_g hq0 hc0 v2 C h)
theorem sX11_127 : gSiteS RX11 yX11_isUnder cX11_isUnder 4 (some .boolean) 127 2 := gSiteS.of (tb_in (List.mem_of_getElem? (i := 385) (by decide +kernel)) (by decide +kernel)) (tb_in (List.mem_of_getElem? (i := 386) (by decide +kernel)) (by decide +kernel)) (tb_in (List.mem_of_getElem? (i := 78) (by decide +kernel)) (by decide +kernel)) (tb_in (List.mem_of_getElem? (i := 387) (by decide +kernel)) (by decide +kernel)) (by decide +kernel)
theorem sX11_131 : gSiteS RX11 yX11_saysAs cX11_saysAs 2 (some .int) 131 2 := gSiteS.of (tb_in (List.mem_of_getElem? (i := 390) (by decide +kernel)) (by decide +kernel)) (tb_in (List.mem_of_getElem? (i := 391) (by decide +kernel)) (by decide +kernel)) (tb_in (List.mem_of_getElem? (i := 78) (by decide +kernel)) (by decide +kernel)) (tb_in (List.mem_of_getElem? (i := 392) (by decide +kernel)) (by decide +kernel)) (by decide +kernel)
set_option maxRecDepth 100000 in
theorem wX11_says_gc70 {Γ : gT} {D : gD} {ca : Nat → ClassId} {o : Nat → Nat} {Q : Int32 → gI → gJ → gR → Prop} {L : List Nat} {S : gS} (C : Cx Γ cX11_says RX11 4 D (tyW ca) (rl 5) (some .int) 0 0 (PXi ca o L S Q)) (I : gI) (J : gJ) (R : gR) (h : wX11_says_c70 L S I J R Q) : G Γ 0 0 70 [(0, .ref (o 0))] [] (cX ca o I J R L S) := by
  unfold wX11_says_c70 at h
  refine g_aload_n C (i := 0) dX11_says_70 rfl rfl ?_
  refine g_bipush C (v := (-2)) dX11_says_71 (by decide) ?_
  refine x_callV C (wX11_k_refuse (-2) I J R L S _ h) sX11_73 rcv_main (rl_ok (by decide) (by decide)) rfl (Nat.le_of_ble_eq_true rfl) (st := []) _ rfl dX11_says_73 (px_i (fun r1 I2 J3 R4 h => ?_))
  exact g_ret_i C dX11_says_76 (Nat.le_refl _) (Nat.le_refl _) ⟨_, _, _, _, rfl, rfl, h⟩
set_option maxRecDepth 100000 in
theorem wX11_says_gc18 {Γ : gT} {D : gD} {ca : Nat → ClassId} {o : Nat → Nat} {Q : Int32 → gI → gJ → gR → Prop} {L : List Nat} {S : gS} (C : Cx Γ cX11_says RX11 4 D (tyW ca) (rl 5) (some .int) 0 0 (PXi ca o L S Q)) (I : gI) (J : gJ) (R : gR) (h : wX11_says_c18 L S I J R Q) : G Γ 0 0 18 [(0, .ref (o 0))] [] (cX ca o I J R L S) := by
  unfold wX11_says_c18 at h
  refine g_aload_n C (i := 0) dX11_says_18 rfl rfl ?_
  refine g_iconst_m1 C dX11_says_19 ?_
  refine x_callV C (wX11_k_refuse (-1) I J R L S _ h) sX11_73 rcv_main (rl_ok (by decide) (by decide)) rfl (Nat.le_of_ble_eq_true rfl) (st := []) _ rfl dX11_says_20 (px_i (fun r1 I2 J3 R4 h => ?_))
  exact g_ret_i C dX11_says_23 (Nat.le_refl _) (Nat.le_refl _) ⟨_, _, _, _, rfl, rfl, h⟩
set_option maxRecDepth 100000 in
theorem wX11_says_g {Γ : gT} {D : gD} {ca : Nat → ClassId} {o : Nat → Nat} {I : gI} {J : gJ} {R : gR} {L : List Nat} {S : gS} {Q : Int32 → gI → gJ → gR → Prop} (v1 : Int32) (v2 : Int32) (C : Cx Γ cX11_says RX11 4 D (tyW ca) (rl 5) (some .int) 0 0 (PXi ca o L S Q)) (h : wX11_says v1 v2 I J R L S Q) : G Γ 0 0 0 [(0, .ref (o 0)), (1, .int v1), (2, .int v2)] [] (cX ca o I J R L S) := by
  unfold wX11_says at h
  refine g_aload_n C (i := 0) dX11_says_0 rfl rfl ?_
  refine g_iload_n C (i := 1) dX11_says_1 rfl rfl ?_
  refine x_callV C (wX11_k_isShelf v1 I J R L S _ h) sX11_69 rcv_main (rl_ok (by decide) (by decide)) rfl (Nat.le_of_ble_eq_true rfl) (st := []) _ rfl dX11_says_2 (py_z (fun r1 h => ?_))
  refine g_zeq C 18 dX11_says_5 rfl (fun c2 => ?_) (fun c2 => ?_)
  · replace h := h.1 c2
    exact g_weak [0] rfl (Nat.le_refl _) (Nat.le_refl _) (wX11_says_gc18  C   I J R h)
  · replace h := h.2 c2
    refine g_iload_n C (i := 2) dX11_says_8 rfl rfl ?_
    refine g_if_lt C 18 dX11_says_9 rfl (fun c3 => ?_) (fun c3 => ?_)
    · replace h := h.1 c3
      exact g_weak [0] rfl (Nat.le_refl _) (Nat.le_refl _) (wX11_says_gc18  C   I J R h)
    · replace h := h.2 c3
      refine g_iload_n C (i := 2) dX11_says_12 rfl rfl ?_
      refine g_bipush C (v := 7) dX11_says_13 (by decide) ?_
      refine g_icmp_lt C 24 dX11_says_15 rfl (fun c4 => ?_) (fun c4 => ?_)
      · replace h := h.1 c4
        refine g_aload_n C (i := 0) dX11_says_24 rfl rfl ?_
        refine x_get_X11_24 C dX11_says_25 ?_
        refine g_iload_n C (i := 1) dX11_says_28 rfl rfl ?_
        obtain ⟨h5, h⟩ := h
        refine x_shelf C h5 dX11_says_29 ?_
        refine x_get_X11_112 C (s := v1.toNatClampNeg) (vp_lt h5) dX11_says_30 ?_
        refine g_istore_n C (i := 3) [(0, .ref (o 0)), (1, .int v1), (2, .int v2), (3, .int (I 3 v1.toNatClampNeg))] dX11_says_33 rfl (by decide) rfl ?_
        refine g_iload_n C (i := 3) dX11_says_34 rfl rfl ?_
        refine g_iconst_m1 C dX11_says_35 ?_
        refine g_icmp_ne C 46 dX11_says_36 rfl (fun c6 => ?_) (fun c6 => ?_)
        · replace h := h.1 c6
          refine g_aload_n C (i := 0) dX11_says_46 rfl rfl ?_
          refine g_iload_n C (i := 3) dX11_says_47 rfl rfl ?_
          refine x_callV C (wX11_k_isStrip (I 3 v1.toNatClampNeg) I J R L S _ h) sX11_118 rcv_main (rl_ok (by decide) (by decide)) rfl (Nat.le_of_ble_eq_true rfl) (st := []) _ rfl dX11_says_48 (py_z (fun r7 h => ?_))
          refine g_zeq C 70 dX11_says_51 rfl (fun c8 => ?_) (fun c8 => ?_)
          · replace h := h.1 c8
            exact g_weak [0] rfl (Nat.le_refl _) (Nat.le_refl _) (wX11_says_gc70  C   I J R h)
          · replace h := h.2 c8
            refine g_aload_n C (i := 0) dX11_says_54 rfl rfl ?_
            refine x_get_X11_11 C dX11_says_55 ?_
            refine g_iload_n C (i := 3) dX11_says_58 rfl rfl ?_
            obtain ⟨h9, h⟩ := h
            refine x_aald C (k := 0) (by decide) h9 dX11_says_59 ?_
            obtain ⟨z10, h11, h12, h⟩ := h
            refine g_eqs (st' := [.ref z10]) (by rw [h11]; rfl) rfl ?_
            refine x_get_X11_124 C h12 dX11_says_60 ?_
            refine g_iload_n C (i := 2) dX11_says_63 rfl rfl ?_
            refine x_callS C (wX11_k_isUnder (sK (S z10)) v2 I J R L S _ h) sX11_127 (rl_ok (by decide) (by decide)) rfl (Nat.le_of_ble_eq_true rfl) (st := []) _ rfl dX11_says_64 (py_z (fun r13 h => ?_))
            refine g_zne C 77 dX11_says_67 rfl (fun c14 => ?_) (fun c14 => ?_)
            · replace h := h.1 c14
              refine g_aload_n C (i := 0) dX11_says_77 rfl rfl ?_
              refine x_get_X11_11 C dX11_says_78 ?_
              refine g_iload_n C (i := 3) dX11_says_81 rfl rfl ?_
              refine x_aald C (k := 0) (by decide) h9 dX11_says_82 ?_
              refine g_iload_n C (i := 2) dX11_says_83 rfl rfl ?_
              refine g_eqs (st' := [.int v2, .ref z10]) (by rw [h11]; rfl) rfl ?_
              refine x_callS C (wX11_k_saysAs h12 v2 I J R L S _ h) sX11_131 (rl_ok (by decide) (by decide)) rfl (Nat.le_of_ble_eq_true rfl) (st := []) _ rfl dX11_says_84 (py_i (fun r15 h => ?_))
              exact g_ret_i C dX11_says_87 (Nat.le_refl _) (Nat.le_refl _) ⟨_, _, _, _, rfl, rfl, h⟩
            · replace h := h.2 c14
              exact g_weak [0] rfl (Nat.le_refl _) (Nat.le_refl _) (wX11_says_gc70  C   I J R h)
        · replace h := h.2 c6
          refine g_aload_n C (i := 0) dX11_says_39 rfl rfl ?_
          refine g_bipush C (v := (-3)) dX11_says_40 (by decide) ?_
          refine x_callV C (wX11_k_refuse (-3) I J R L S _ h) sX11_73 rcv_main (rl_ok (by decide) (by decide)) rfl (Nat.le_of_ble_eq_true rfl) (st := []) _ rfl dX11_says_42 (px_i (fun r16 I17 J18 R19 h => ?_))
          exact g_ret_i C dX11_says_45 (Nat.le_refl _) (Nat.le_refl _) ⟨_, _, _, _, rfl, rfl, h⟩
      · replace h := h.2 c4
        exact g_weak [0] rfl (Nat.le_refl _) (Nat.le_refl _) (wX11_says_gc18  C   I J R h)
theorem wX11_k_says {D : gD} {ca : Nat → ClassId} {o : Nat → Nat} {L : List Nat} {S : gS} (v1 : Int32) (v2 : Int32) (I : gI) (J : gJ) (R : gR) (L0 : List Nat) (S0 : gS) (Q : Int32 → gI → gJ → gR → Prop) (h : wX11_says v1 v2 I J R L S Q) : Ct yX11_says cX11_says 4 (some .int) (rl 5) D (tyW ca) 0 0 [.ref (o 0), .int v1, .int v2] (cX ca o I J R L S) (PXi ca o L S Q) := ct_of (rm := (rl 5)) (by decide +kernel) (Nat.le_of_ble_eq_true rfl) (fun Γ C => wX11_says_g v1 v2 C h)
theorem sX11_225 : gSite RX11 yX1_setOut cX1_setOut 7 none 225 4 := gSite.of (tb_in (List.mem_of_getElem? (i := 876) (by decide +kernel)) (by decide +kernel)) (tb_in (List.mem_of_getElem? (i := 835) (by decide +kernel)) (by decide +kernel)) (tb_in (List.mem_of_getElem? (i := 836) (by decide +kernel)) (by decide +kernel)) (tb_in (List.mem_of_getElem? (i := 84) (by decide +kernel)) (by decide +kernel)) (tb_in (List.mem_of_getElem? (i := 837) (by decide +kernel)) (by decide +kernel)) (by decide +kernel)
theorem sX11_229 : gSite RX11 yX1_isAt cX1_isAt 3 (some .boolean) 229 2 := gSite.of (tb_in (List.mem_of_getElem? (i := 877) (by decide +kernel)) (by decide +kernel)) (tb_in (List.mem_of_getElem? (i := 878) (by decide +kernel)) (by decide +kernel)) (tb_in (List.mem_of_getElem? (i := 879) (by decide +kernel)) (by decide +kernel)) (tb_in (List.mem_of_getElem? (i := 84) (by decide +kernel)) (by decide +kernel)) (tb_in (List.mem_of_getElem? (i := 880) (by decide +kernel)) (by decide +kernel)) (by decide +kernel)
theorem sX11_232 : gSite RX11 yX1_step cX1_step 1 none 232 0 := gSite.of (tb_in (List.mem_of_getElem? (i := 881) (by decide +kernel)) (by decide +kernel)) (tb_in (List.mem_of_getElem? (i := 840) (by decide +kernel)) (by decide +kernel)) (tb_in (List.mem_of_getElem? (i := 841) (by decide +kernel)) (by decide +kernel)) (tb_in (List.mem_of_getElem? (i := 84) (by decide +kernel)) (by decide +kernel)) (tb_in (List.mem_of_getElem? (i := 842) (by decide +kernel)) (by decide +kernel)) (by decide +kernel)
set_option maxRecDepth 100000 in
theorem wX11_passed_gc67 {Γ : gT} {D : gD} {ca : Nat → ClassId} {o : Nat → Nat} {Q : Int32 → gI → gJ → gR → Prop} {L : List Nat} {S : gS} (C : Cx Γ cX11_passed RX11 8 D (tyW ca) (rl 5) (some .int) 0 0 (PXi ca o L S Q)) {B45 : Int32 → Int32 → Int32 → Int32 → Int32 → gI → gJ → gR → Prop} (hB45 : ∀ (v2 : Int32) (v3 : Int32) (v4 : Int32) (v6 : Int32) (v7 : Int32) (I : gI) (J : gJ) (R : gR), B45 v2 v3 v4 v6 v7 I J R → G Γ 0 0 45 [(0, .ref (o 0)), (2, .int v2), (3, .int v3), (4, .int v4), (6, .int v6), (7, .int v7)] [] (cX ca o I J R L S)) (v2 : Int32) (v3 : Int32) (v4 : Int32) (v6 : Int32) (v7 : Int32) (I : gI) (J : gJ) (R : gR) (h : wX11_passed_c67 L S B45 v2 v3 v4 v6 v7 I J R Q) : G Γ 0 0 67 [(0, .ref (o 0)), (2, .int v2), (3, .int v3), (4, .int v4), (6, .int v6), (7, .int v7)] [] (cX ca o I J R L S) := by
  unfold wX11_passed_c67 at h
  refine g_aload_n C (i := 0) dX11_passed_67 rfl rfl ?_
  refine x_get_X11_54 C dX11_passed_68 ?_
  refine x_callV C (wX1_k_step (by decide) I J R L S _ h) sX11_232 (rcv_bug (b := 0) (by decide)) (rl_ok (by decide) (by decide)) rfl (Nat.le_of_ble_eq_true rfl) (st := []) _ rfl dX11_passed_71 (px_v (fun I2 J3 R4 h => ?_))
  refine g_iinc C 1 [(0, .ref (o 0)), (2, .int v2), (3, .int v3), (4, .int v4), (6, .int v6), (7, .int (v7 + 1))] dX11_passed_74 rfl (by decide) (by decide) rfl ?_
  refine g_goto C 45 dX11_passed_77 rfl ?_
  exact g_weak [0, 1, 2, 3, 4, 5] rfl (Nat.le_refl _) (Nat.le_refl _) (hB45 v2 v3 v4 v6 (v7 + 1) I2 J3 R4 h)
set_option maxRecDepth 100000 in
theorem wX11_passed_gb45 {Γ : gT} {D : gD} {ca : Nat → ClassId} {o : Nat → Nat} {Q : Int32 → gI → gJ → gR → Prop} {L : List Nat} {S : gS} (C : Cx Γ cX11_passed RX11 8 D (tyW ca) (rl 5) (some .int) 0 0 (PXi ca o L S Q)) {B45 : Int32 → Int32 → Int32 → Int32 → Int32 → gI → gJ → gR → Prop} (hB45 : ∀ (v2 : Int32) (v3 : Int32) (v4 : Int32) (v6 : Int32) (v7 : Int32) (I : gI) (J : gJ) (R : gR), B45 v2 v3 v4 v6 v7 I J R → G Γ 0 0 45 [(0, .ref (o 0)), (2, .int v2), (3, .int v3), (4, .int v4), (6, .int v6), (7, .int v7)] [] (cX ca o I J R L S)) (v2 : Int32) (v3 : Int32) (v4 : Int32) (v6 : Int32) (v7 : Int32) (I : gI) (J : gJ) (R : gR) (h : wX11_passed_b45 L S B45 v2 v3 v4 v6 v7 I J R Q) : G Γ 0 0 45 [(0, .ref (o 0)), (2, .int v2), (3, .int v3), (4, .int v4), (6, .int v6), (7, .int v7)] [] (cX ca o I J R L S) := by
  unfold wX11_passed_b45 at h
  refine g_iload C (i := 7) dX11_passed_45 rfl ?_
  refine g_iload_n C (i := 2) dX11_passed_47 rfl rfl ?_
  refine g_icmp_gt C 80 dX11_passed_48 rfl (fun c1 => ?_) (fun c1 => ?_)
  · replace h := h.1 c1
    refine g_iload C (i := 6) dX11_passed_80 rfl ?_
    exact g_ret_i C dX11_passed_82 (Nat.le_refl _) (Nat.le_refl _) ⟨_, _, _, _, rfl, rfl, h⟩
  · replace h := h.2 c1
    refine g_aload_n C (i := 0) dX11_passed_51 rfl rfl ?_
    refine x_get_X11_54 C dX11_passed_52 ?_
    refine g_iload_n C (i := 3) dX11_passed_55 rfl rfl ?_
    refine g_iload C (i := 4) dX11_passed_56 rfl ?_
    refine x_callV C (wX1_k_isAt (by decide) v3 v4 I J R L S _ h) sX11_229 (rcv_bug (b := 0) (by decide)) (rl_ok (by decide) (by decide)) rfl (Nat.le_of_ble_eq_true rfl) (st := []) _ rfl dX11_passed_58 (py_z (fun r2 h => ?_))
    refine g_zeq C 67 dX11_passed_61 rfl (fun c3 => ?_) (fun c3 => ?_)
    · replace h := h.1 c3
      exact g_weak [0, 1, 2, 3, 4, 5] rfl (Nat.le_refl _) (Nat.le_refl _) (wX11_passed_gc67  C hB45 v2 v3 v4 v6 v7 I J R h)
    · replace h := h.2 c3
      refine g_iinc C 1 [(0, .ref (o 0)), (2, .int v2), (3, .int v3), (4, .int v4), (6, .int (v6 + 1)), (7, .int v7)] dX11_passed_64 rfl (by decide) (by decide) rfl ?_
      exact g_weak [0, 1, 2, 3, 4, 5] rfl (Nat.le_refl _) (Nat.le_refl _) (wX11_passed_gc67  C hB45 v2 v3 v4 (v6 + 1) v7 I J R h)
theorem wX11_passed_gl45 {Γ : gT} {D : gD} {ca : Nat → ClassId} {o : Nat → Nat} {Q : Int32 → gI → gJ → gR → Prop} {L : List Nat} {S : gS} (C : Cx Γ cX11_passed RX11 8 D (tyW ca) (rl 5) (some .int) 0 0 (PXi ca o L S Q)) : ∀ (n : Nat) (v2 : Int32) (v3 : Int32) (v4 : Int32) (v6 : Int32) (v7 : Int32) (I : gI) (J : gJ) (R : gR) (_ : wX11_passed_l45 L S Q n v2 v3 v4 v6 v7 I J R), G Γ 0 0 45 [(0, .ref (o 0)), (2, .int v2), (3, .int v3), (4, .int v4), (6, .int v6), (7, .int v7)] [] (cX ca o I J R L S) := by
  intro n
  induction n with
  | zero => intro v2 v3 v4 v6 v7 I J R h; exact h.elim
  | succ n ih => intro v2 v3 v4 v6 v7 I J R h; exact wX11_passed_gb45 C ih v2 v3 v4 v6 v7 I J R h
set_option maxRecDepth 100000 in
theorem wX11_passed_g {Γ : gT} {D : gD} {ca : Nat → ClassId} {o : Nat → Nat} {I : gI} {J : gJ} {R : gR} {L : List Nat} {S : gS} {Q : Int32 → gI → gJ → gR → Prop} (v1 : Int32) (v2 : Int32) (v3 : Int32) (v4 : Int32) (C : Cx Γ cX11_passed RX11 8 D (tyW ca) (rl 5) (some .int) 0 0 (PXi ca o L S Q)) (h : wX11_passed v1 v2 v3 v4 I J R L S Q) : G Γ 0 0 0 [(0, .ref (o 0)), (1, .int v1), (2, .int v2), (3, .int v3), (4, .int v4)] [] (cX ca o I J R L S) := by
  unfold wX11_passed at h
  refine g_aload_n C (i := 0) dX11_passed_0 rfl rfl ?_
  refine g_iload_n C (i := 1) dX11_passed_1 rfl rfl ?_
  refine g_iload_n C (i := 2) dX11_passed_2 rfl rfl ?_
  refine g_sipush C (v := 4000) dX11_passed_3 (by decide) ?_
  refine x_callV C (wX11_k_noWalk v1 v2 4000 I J R L S _ h) sX11_221 rcv_main (rl_ok (by decide) (by decide)) rfl (Nat.le_of_ble_eq_true rfl) (st := []) _ rfl dX11_passed_6 (py_i (fun r1 h => ?_))
  refine g_istore C (i := 5) [(0, .ref (o 0)), (1, .int v1), (2, .int v2), (3, .int v3), (4, .int v4), (5, .int r1)] dX11_passed_9 (by decide) rfl ?_
  refine g_iload C (i := 5) dX11_passed_11 rfl ?_
  refine g_if_eq C 23 dX11_passed_13 rfl (fun c2 => ?_) (fun c2 => ?_)
  · replace h := h.1 c2
    refine g_iconst_0 C dX11_passed_23 ?_
    refine g_istore C (i := 6) [(0, .ref (o 0)), (1, .int v1), (2, .int v2), (3, .int v3), (4, .int v4), (5, .int r1), (6, .int 0)] dX11_passed_24 (by decide) rfl ?_
    refine g_aload_n C (i := 0) dX11_passed_26 rfl rfl ?_
    refine x_get_X11_54 C dX11_passed_27 ?_
    refine g_aload_n C (i := 0) dX11_passed_30 rfl rfl ?_
    refine x_get_X11_11 C dX11_passed_31 ?_
    refine g_iload_n C (i := 1) dX11_passed_34 rfl rfl ?_
    obtain ⟨h3, h⟩ := h
    refine x_aald C (k := 0) (by decide) h3 dX11_passed_35 ?_
    refine g_lconst_0 C dX11_passed_36 ?_
    refine g_lconst_0 C dX11_passed_37 ?_
    refine g_iconst_0 C dX11_passed_38 ?_
    obtain ⟨z4, h5, h6, h⟩ := h
    refine g_eqs (st' := [.int 0, .long 0, .long 0, .ref z4, .ref (o 10)]) (by rw [h5]; rfl) rfl ?_
    refine x_callV C (wX1_k_setOut (by decide) h6 0 0 0 I J R L S _ h) sX11_225 (rcv_bug (b := 0) (by decide)) (rl_ok (by decide) (by decide)) rfl (Nat.le_of_ble_eq_true rfl) (st := []) _ rfl dX11_passed_39 (px_v (fun I8 J9 R10 h => ?_))
    refine g_iconst_0 C dX11_passed_42 ?_
    refine g_istore C (i := 7) [(0, .ref (o 0)), (1, .int v1), (2, .int v2), (3, .int v3), (4, .int v4), (5, .int r1), (6, .int 0), (7, .int 0)] dX11_passed_43 (by decide) rfl ?_
    obtain ⟨n, h⟩ := h
    exact g_weak [0, 2, 3, 4, 6, 7] rfl (Nat.le_refl _) (Nat.le_refl _) (wX11_passed_gl45  C  n v2 v3 v4 0 0 I8 J9 R10 h)
  · replace h := h.2 c2
    refine g_aload_n C (i := 0) dX11_passed_16 rfl rfl ?_
    refine g_iload C (i := 5) dX11_passed_17 rfl ?_
    refine x_callV C (wX11_k_refuse r1 I J R L S _ h) sX11_73 rcv_main (rl_ok (by decide) (by decide)) rfl (Nat.le_of_ble_eq_true rfl) (st := []) _ rfl dX11_passed_19 (px_i (fun r11 I12 J13 R14 h => ?_))
    exact g_ret_i C dX11_passed_22 (Nat.le_refl _) (Nat.le_refl _) ⟨_, _, _, _, rfl, rfl, h⟩
theorem wX11_k_passed {D : gD} {ca : Nat → ClassId} {o : Nat → Nat} {L : List Nat} {S : gS} (v1 : Int32) (v2 : Int32) (v3 : Int32) (v4 : Int32) (I : gI) (J : gJ) (R : gR) (L0 : List Nat) (S0 : gS) (Q : Int32 → gI → gJ → gR → Prop) (h : wX11_passed v1 v2 v3 v4 I J R L S Q) : Ct yX11_passed cX11_passed 8 (some .int) (rl 5) D (tyW ca) 0 0 [.ref (o 0), .int v1, .int v2, .int v3, .int v4] (cX ca o I J R L S) (PXi ca o L S Q) := ct_of (rm := (rl 5)) (by decide +kernel) (Nat.le_of_ble_eq_true rfl) (fun Γ C => wX11_passed_g v1 v2 v3 v4 C h)
theorem mmax_X11_245 : Cond.methodLink RX11 245 Lib.Math.max.name ∈ tb := (tb_in (List.mem_of_getElem? (i := 909) (by decide +kernel)) (by decide +kernel))
theorem sX11_235 : gSite RX11 yX1_forget cX1_forget 1 none 235 0 := gSite.of (tb_in (List.mem_of_getElem? (i := 886) (by decide +kernel)) (by decide +kernel)) (tb_in (List.mem_of_getElem? (i := 887) (by decide +kernel)) (by decide +kernel)) (tb_in (List.mem_of_getElem? (i := 888) (by decide +kernel)) (by decide +kernel)) (tb_in (List.mem_of_getElem? (i := 84) (by decide +kernel)) (by decide +kernel)) (tb_in (List.mem_of_getElem? (i := 889) (by decide +kernel)) (by decide +kernel)) (by decide +kernel)
theorem sX11_238 : gSite RX11 yX1_placeKey cX1_placeKey 1 (some .int) 238 0 := gSite.of (tb_in (List.mem_of_getElem? (i := 893) (by decide +kernel)) (by decide +kernel)) (tb_in (List.mem_of_getElem? (i := 894) (by decide +kernel)) (by decide +kernel)) (tb_in (List.mem_of_getElem? (i := 895) (by decide +kernel)) (by decide +kernel)) (tb_in (List.mem_of_getElem? (i := 84) (by decide +kernel)) (by decide +kernel)) (tb_in (List.mem_of_getElem? (i := 896) (by decide +kernel)) (by decide +kernel)) (by decide +kernel)
theorem sX11_242 : gSite RX11 yX1_note cX1_note 3 (some .int) 242 1 := gSite.of (tb_in (List.mem_of_getElem? (i := 900) (by decide +kernel)) (by decide +kernel)) (tb_in (List.mem_of_getElem? (i := 901) (by decide +kernel)) (by decide +kernel)) (tb_in (List.mem_of_getElem? (i := 902) (by decide +kernel)) (by decide +kernel)) (tb_in (List.mem_of_getElem? (i := 84) (by decide +kernel)) (by decide +kernel)) (tb_in (List.mem_of_getElem? (i := 903) (by decide +kernel)) (by decide +kernel)) (by decide +kernel)
set_option maxRecDepth 100000 in
theorem wX11_most_gb49 {Γ : gT} {D : gD} {ca : Nat → ClassId} {o : Nat → Nat} {Q : Int32 → gI → gJ → gR → Prop} {L : List Nat} {S : gS} (C : Cx Γ cX11_most RX11 6 D (tyW ca) (rl 5) (some .int) 0 0 (PXi ca o L S Q)) {B49 : Int32 → Int32 → Int32 → gI → gJ → gR → Prop} (hB49 : ∀ (v2 : Int32) (v4 : Int32) (v5 : Int32) (I : gI) (J : gJ) (R : gR), B49 v2 v4 v5 I J R → G Γ 0 0 49 [(0, .ref (o 0)), (2, .int v2), (4, .int v4), (5, .int v5)] [] (cX ca o I J R L S)) (v2 : Int32) (v4 : Int32) (v5 : Int32) (I : gI) (J : gJ) (R : gR) (h : wX11_most_b49 L S B49 v2 v4 v5 I J R Q) : G Γ 0 0 49 [(0, .ref (o 0)), (2, .int v2), (4, .int v4), (5, .int v5)] [] (cX ca o I J R L S) := by
  unfold wX11_most_b49 at h
  refine g_iload C (i := 5) dX11_most_49 rfl ?_
  refine g_iload_n C (i := 2) dX11_most_51 rfl rfl ?_
  refine g_icmp_gt C 89 dX11_most_52 rfl (fun c1 => ?_) (fun c1 => ?_)
  · replace h := h.1 c1
    refine g_iload C (i := 4) dX11_most_89 rfl ?_
    exact g_ret_i C dX11_most_91 (Nat.le_refl _) (Nat.le_refl _) ⟨_, _, _, _, rfl, rfl, h⟩
  · replace h := h.2 c1
    refine g_iload C (i := 4) dX11_most_55 rfl ?_
    refine g_aload_n C (i := 0) dX11_most_57 rfl rfl ?_
    refine x_get_X11_54 C dX11_most_58 ?_
    refine g_aload_n C (i := 0) dX11_most_61 rfl rfl ?_
    refine x_get_X11_54 C dX11_most_62 ?_
    refine x_callV C (wX1_k_placeKey (by decide) I J R L S _ h) sX11_238 (rcv_bug (b := 0) (by decide)) (rl_ok (by decide) (by decide)) rfl (Nat.le_of_ble_eq_true rfl) (st := [.ref (o 10), .int v4]) _ rfl dX11_most_65 (py_i (fun r2 h => ?_))
    refine x_callV C (wX1_k_note (by decide) r2 I J R L S _ h) sX11_242 (rcv_bug (b := 0) (by decide)) (rl_ok (by decide) (by decide)) rfl (Nat.le_of_ble_eq_true rfl) (st := [.int v4]) _ rfl dX11_most_68 (px_i (fun r3 I4 J5 R6 h => ?_))
    refine x_mmax C mmax_X11_245 dX11_most_71 (by decide) (by exact Nat.le_of_ble_eq_true rfl) (by decide) (by decide) ?_
    refine g_istore C (i := 4) [(0, .ref (o 0)), (2, .int v2), (4, .int (if v4 < r3 then r3 else v4)), (5, .int v5)] dX11_most_74 (by decide) rfl ?_
    refine g_aload_n C (i := 0) dX11_most_76 rfl rfl ?_
    refine x_get_X11_54 C dX11_most_77 ?_
    refine x_callV C (wX1_k_step (by decide) I4 J5 R6 L S _ h) sX11_232 (rcv_bug (b := 0) (by decide)) (rl_ok (by decide) (by decide)) rfl (Nat.le_of_ble_eq_true rfl) (st := []) _ rfl dX11_most_80 (px_v (fun I8 J9 R10 h => ?_))
    refine g_iinc C 1 [(0, .ref (o 0)), (2, .int v2), (4, .int (if v4 < r3 then r3 else v4)), (5, .int (v5 + 1))] dX11_most_83 rfl (by decide) (by decide) rfl ?_
    refine g_goto C 49 dX11_most_86 rfl ?_
    exact g_weak [0, 1, 2, 3] rfl (Nat.le_refl _) (Nat.le_refl _) (hB49 v2 (if v4 < r3 then r3 else v4) (v5 + 1) I8 J9 R10 h)
theorem wX11_most_gl49 {Γ : gT} {D : gD} {ca : Nat → ClassId} {o : Nat → Nat} {Q : Int32 → gI → gJ → gR → Prop} {L : List Nat} {S : gS} (C : Cx Γ cX11_most RX11 6 D (tyW ca) (rl 5) (some .int) 0 0 (PXi ca o L S Q)) : ∀ (n : Nat) (v2 : Int32) (v4 : Int32) (v5 : Int32) (I : gI) (J : gJ) (R : gR) (_ : wX11_most_l49 L S Q n v2 v4 v5 I J R), G Γ 0 0 49 [(0, .ref (o 0)), (2, .int v2), (4, .int v4), (5, .int v5)] [] (cX ca o I J R L S) := by
  intro n
  induction n with
  | zero => intro v2 v4 v5 I J R h; exact h.elim
  | succ n ih => intro v2 v4 v5 I J R h; exact wX11_most_gb49 C ih v2 v4 v5 I J R h
set_option maxRecDepth 100000 in
theorem wX11_most_g {Γ : gT} {D : gD} {ca : Nat → ClassId} {o : Nat → Nat} {I : gI} {J : gJ} {R : gR} {L : List Nat} {S : gS} {Q : Int32 → gI → gJ → gR → Prop} (v1 : Int32) (v2 : Int32) (C : Cx Γ cX11_most RX11 6 D (tyW ca) (rl 5) (some .int) 0 0 (PXi ca o L S Q)) (h : wX11_most v1 v2 I J R L S Q) : G Γ 0 0 0 [(0, .ref (o 0)), (1, .int v1), (2, .int v2)] [] (cX ca o I J R L S) := by
  unfold wX11_most at h
  refine g_aload_n C (i := 0) dX11_most_0 rfl rfl ?_
  refine g_iload_n C (i := 1) dX11_most_1 rfl rfl ?_
  refine g_iload_n C (i := 2) dX11_most_2 rfl rfl ?_
  refine g_sipush C (v := 4000) dX11_most_3 (by decide) ?_
  refine x_callV C (wX11_k_noWalk v1 v2 4000 I J R L S _ h) sX11_221 rcv_main (rl_ok (by decide) (by decide)) rfl (Nat.le_of_ble_eq_true rfl) (st := []) _ rfl dX11_most_6 (py_i (fun r1 h => ?_))
  refine g_istore_n C (i := 3) [(0, .ref (o 0)), (1, .int v1), (2, .int v2), (3, .int r1)] dX11_most_9 rfl (by decide) rfl ?_
  refine g_iload_n C (i := 3) dX11_most_10 rfl rfl ?_
  refine g_if_eq C 20 dX11_most_11 rfl (fun c2 => ?_) (fun c2 => ?_)
  · replace h := h.1 c2
    refine g_iconst_0 C dX11_most_20 ?_
    refine g_istore C (i := 4) [(0, .ref (o 0)), (1, .int v1), (2, .int v2), (3, .int r1), (4, .int 0)] dX11_most_21 (by decide) rfl ?_
    refine g_aload_n C (i := 0) dX11_most_23 rfl rfl ?_
    refine x_get_X11_54 C dX11_most_24 ?_
    refine x_callV C (wX1_k_forget (by decide) I J R L S _ h) sX11_235 (rcv_bug (b := 0) (by decide)) (rl_ok (by decide) (by decide)) rfl (Nat.le_of_ble_eq_true rfl) (st := []) _ rfl dX11_most_27 (px_v (fun I4 J5 R6 h => ?_))
    refine g_aload_n C (i := 0) dX11_most_30 rfl rfl ?_
    refine x_get_X11_54 C dX11_most_31 ?_
    refine g_aload_n C (i := 0) dX11_most_34 rfl rfl ?_
    refine x_get_X11_11 C dX11_most_35 ?_
    refine g_iload_n C (i := 1) dX11_most_38 rfl rfl ?_
    obtain ⟨h7, h⟩ := h
    refine x_aald C (k := 0) (by decide) h7 dX11_most_39 ?_
    refine g_lconst_0 C dX11_most_40 ?_
    refine g_lconst_0 C dX11_most_41 ?_
    refine g_iconst_0 C dX11_most_42 ?_
    obtain ⟨z8, h9, h10, h⟩ := h
    refine g_eqs (st' := [.int 0, .long 0, .long 0, .ref z8, .ref (o 10)]) (by rw [h9]; rfl) rfl ?_
    refine x_callV C (wX1_k_setOut (by decide) h10 0 0 0 I4 J5 R6 L S _ h) sX11_225 (rcv_bug (b := 0) (by decide)) (rl_ok (by decide) (by decide)) rfl (Nat.le_of_ble_eq_true rfl) (st := []) _ rfl dX11_most_43 (px_v (fun I12 J13 R14 h => ?_))
    refine g_iconst_0 C dX11_most_46 ?_
    refine g_istore C (i := 5) [(0, .ref (o 0)), (1, .int v1), (2, .int v2), (3, .int r1), (4, .int 0), (5, .int 0)] dX11_most_47 (by decide) rfl ?_
    obtain ⟨n, h⟩ := h
    exact g_weak [0, 2, 4, 5] rfl (Nat.le_refl _) (Nat.le_refl _) (wX11_most_gl49  C  n v2 0 0 I12 J13 R14 h)
  · replace h := h.2 c2
    refine g_aload_n C (i := 0) dX11_most_14 rfl rfl ?_
    refine g_iload_n C (i := 3) dX11_most_15 rfl rfl ?_
    refine x_callV C (wX11_k_refuse r1 I J R L S _ h) sX11_73 rcv_main (rl_ok (by decide) (by decide)) rfl (Nat.le_of_ble_eq_true rfl) (st := []) _ rfl dX11_most_16 (px_i (fun r15 I16 J17 R18 h => ?_))
    exact g_ret_i C dX11_most_19 (Nat.le_refl _) (Nat.le_refl _) ⟨_, _, _, _, rfl, rfl, h⟩
theorem wX11_k_most {D : gD} {ca : Nat → ClassId} {o : Nat → Nat} {L : List Nat} {S : gS} (v1 : Int32) (v2 : Int32) (I : gI) (J : gJ) (R : gR) (L0 : List Nat) (S0 : gS) (Q : Int32 → gI → gJ → gR → Prop) (h : wX11_most v1 v2 I J R L S Q) : Ct yX11_most cX11_most 6 (some .int) (rl 5) D (tyW ca) 0 0 [.ref (o 0), .int v1, .int v2] (cX ca o I J R L S) (PXi ca o L S Q) := ct_of (rm := (rl 5)) (by decide +kernel) (Nat.le_of_ble_eq_true rfl) (fun Γ C => wX11_most_g v1 v2 C h)
theorem sX11_250 : gSite RX11 yX1_sideKey cX1_sideKey 1 (some .int) 250 0 := gSite.of (tb_in (List.mem_of_getElem? (i := 916) (by decide +kernel)) (by decide +kernel)) (tb_in (List.mem_of_getElem? (i := 917) (by decide +kernel)) (by decide +kernel)) (tb_in (List.mem_of_getElem? (i := 918) (by decide +kernel)) (by decide +kernel)) (tb_in (List.mem_of_getElem? (i := 84) (by decide +kernel)) (by decide +kernel)) (tb_in (List.mem_of_getElem? (i := 919) (by decide +kernel)) (by decide +kernel)) (by decide +kernel)
set_option maxRecDepth 100000 in
theorem wX11_twice_gb49 {Γ : gT} {D : gD} {ca : Nat → ClassId} {o : Nat → Nat} {Q : Int32 → gI → gJ → gR → Prop} {L : List Nat} {S : gS} (C : Cx Γ cX11_twice RX11 6 D (tyW ca) (rl 5) (some .int) 0 0 (PXi ca o L S Q)) {B49 : Int32 → Int32 → Int32 → gI → gJ → gR → Prop} (hB49 : ∀ (v2 : Int32) (v4 : Int32) (v5 : Int32) (I : gI) (J : gJ) (R : gR), B49 v2 v4 v5 I J R → G Γ 0 0 49 [(0, .ref (o 0)), (2, .int v2), (4, .int v4), (5, .int v5)] [] (cX ca o I J R L S)) (v2 : Int32) (v4 : Int32) (v5 : Int32) (I : gI) (J : gJ) (R : gR) (h : wX11_twice_b49 L S B49 v2 v4 v5 I J R Q) : G Γ 0 0 49 [(0, .ref (o 0)), (2, .int v2), (4, .int v4), (5, .int v5)] [] (cX ca o I J R L S) := by
  unfold wX11_twice_b49 at h
  refine g_iload C (i := 5) dX11_twice_49 rfl ?_
  refine g_iload_n C (i := 2) dX11_twice_51 rfl rfl ?_
  refine g_icmp_ge C 89 dX11_twice_52 rfl (fun c1 => ?_) (fun c1 => ?_)
  · replace h := h.1 c1
    refine g_iload C (i := 4) dX11_twice_89 rfl ?_
    exact g_ret_i C dX11_twice_91 (Nat.le_refl _) (Nat.le_refl _) ⟨_, _, _, _, rfl, rfl, h⟩
  · replace h := h.2 c1
    refine g_aload_n C (i := 0) dX11_twice_55 rfl rfl ?_
    refine x_get_X11_54 C dX11_twice_56 ?_
    refine x_callV C (wX1_k_step (by decide) I J R L S _ h) sX11_232 (rcv_bug (b := 0) (by decide)) (rl_ok (by decide) (by decide)) rfl (Nat.le_of_ble_eq_true rfl) (st := []) _ rfl dX11_twice_59 (px_v (fun I3 J4 R5 h => ?_))
    refine g_aload_n C (i := 0) dX11_twice_62 rfl rfl ?_
    refine x_get_X11_54 C dX11_twice_63 ?_
    refine g_aload_n C (i := 0) dX11_twice_66 rfl rfl ?_
    refine x_get_X11_54 C dX11_twice_67 ?_
    refine x_callV C (wX1_k_sideKey (by decide) I3 J4 R5 L S _ h) sX11_250 (rcv_bug (b := 0) (by decide)) (rl_ok (by decide) (by decide)) rfl (Nat.le_of_ble_eq_true rfl) (st := [.ref (o 10)]) _ rfl dX11_twice_70 (py_i (fun r6 h => ?_))
    refine x_callV C (wX1_k_note (by decide) r6 I3 J4 R5 L S _ h) sX11_242 (rcv_bug (b := 0) (by decide)) (rl_ok (by decide) (by decide)) rfl (Nat.le_of_ble_eq_true rfl) (st := []) _ rfl dX11_twice_73 (px_i (fun r7 I8 J9 R10 h => ?_))
    refine g_iconst_1 C dX11_twice_76 ?_
    refine g_icmp_le C 83 dX11_twice_77 rfl (fun c11 => ?_) (fun c11 => ?_)
    · replace h := h.1 c11
      refine g_iinc C 1 [(0, .ref (o 0)), (2, .int v2), (4, .int v4), (5, .int (v5 + 1))] dX11_twice_83 rfl (by decide) (by decide) rfl ?_
      refine g_goto C 49 dX11_twice_86 rfl ?_
      exact g_weak [0, 1, 2, 3] rfl (Nat.le_refl _) (Nat.le_refl _) (hB49 v2 v4 (v5 + 1) I8 J9 R10 h)
    · replace h := h.2 c11
      refine g_iinc C 1 [(0, .ref (o 0)), (2, .int v2), (4, .int (v4 + 1)), (5, .int v5)] dX11_twice_80 rfl (by decide) (by decide) rfl ?_
      refine g_iinc C 1 [(0, .ref (o 0)), (2, .int v2), (4, .int (v4 + 1)), (5, .int (v5 + 1))] dX11_twice_83 rfl (by decide) (by decide) rfl ?_
      refine g_goto C 49 dX11_twice_86 rfl ?_
      exact g_weak [0, 1, 2, 3] rfl (Nat.le_refl _) (Nat.le_refl _) (hB49 v2 (v4 + 1) (v5 + 1) I8 J9 R10 h)
theorem wX11_twice_gl49 {Γ : gT} {D : gD} {ca : Nat → ClassId} {o : Nat → Nat} {Q : Int32 → gI → gJ → gR → Prop} {L : List Nat} {S : gS} (C : Cx Γ cX11_twice RX11 6 D (tyW ca) (rl 5) (some .int) 0 0 (PXi ca o L S Q)) : ∀ (n : Nat) (v2 : Int32) (v4 : Int32) (v5 : Int32) (I : gI) (J : gJ) (R : gR) (_ : wX11_twice_l49 L S Q n v2 v4 v5 I J R), G Γ 0 0 49 [(0, .ref (o 0)), (2, .int v2), (4, .int v4), (5, .int v5)] [] (cX ca o I J R L S) := by
  intro n
  induction n with
  | zero => intro v2 v4 v5 I J R h; exact h.elim
  | succ n ih => intro v2 v4 v5 I J R h; exact wX11_twice_gb49 C ih v2 v4 v5 I J R h
set_option maxRecDepth 100000 in
theorem wX11_twice_g {Γ : gT} {D : gD} {ca : Nat → ClassId} {o : Nat → Nat} {I : gI} {J : gJ} {R : gR} {L : List Nat} {S : gS} {Q : Int32 → gI → gJ → gR → Prop} (v1 : Int32) (v2 : Int32) (C : Cx Γ cX11_twice RX11 6 D (tyW ca) (rl 5) (some .int) 0 0 (PXi ca o L S Q)) (h : wX11_twice v1 v2 I J R L S Q) : G Γ 0 0 0 [(0, .ref (o 0)), (1, .int v1), (2, .int v2)] [] (cX ca o I J R L S) := by
  unfold wX11_twice at h
  refine g_aload_n C (i := 0) dX11_twice_0 rfl rfl ?_
  refine g_iload_n C (i := 1) dX11_twice_1 rfl rfl ?_
  refine g_iload_n C (i := 2) dX11_twice_2 rfl rfl ?_
  refine g_sipush C (v := 4000) dX11_twice_3 (by decide) ?_
  refine x_callV C (wX11_k_noWalk v1 v2 4000 I J R L S _ h) sX11_221 rcv_main (rl_ok (by decide) (by decide)) rfl (Nat.le_of_ble_eq_true rfl) (st := []) _ rfl dX11_twice_6 (py_i (fun r1 h => ?_))
  refine g_istore_n C (i := 3) [(0, .ref (o 0)), (1, .int v1), (2, .int v2), (3, .int r1)] dX11_twice_9 rfl (by decide) rfl ?_
  refine g_iload_n C (i := 3) dX11_twice_10 rfl rfl ?_
  refine g_if_eq C 20 dX11_twice_11 rfl (fun c2 => ?_) (fun c2 => ?_)
  · replace h := h.1 c2
    refine g_iconst_0 C dX11_twice_20 ?_
    refine g_istore C (i := 4) [(0, .ref (o 0)), (1, .int v1), (2, .int v2), (3, .int r1), (4, .int 0)] dX11_twice_21 (by decide) rfl ?_
    refine g_aload_n C (i := 0) dX11_twice_23 rfl rfl ?_
    refine x_get_X11_54 C dX11_twice_24 ?_
    refine x_callV C (wX1_k_forget (by decide) I J R L S _ h) sX11_235 (rcv_bug (b := 0) (by decide)) (rl_ok (by decide) (by decide)) rfl (Nat.le_of_ble_eq_true rfl) (st := []) _ rfl dX11_twice_27 (px_v (fun I4 J5 R6 h => ?_))
    refine g_aload_n C (i := 0) dX11_twice_30 rfl rfl ?_
    refine x_get_X11_54 C dX11_twice_31 ?_
    refine g_aload_n C (i := 0) dX11_twice_34 rfl rfl ?_
    refine x_get_X11_11 C dX11_twice_35 ?_
    refine g_iload_n C (i := 1) dX11_twice_38 rfl rfl ?_
    obtain ⟨h7, h⟩ := h
    refine x_aald C (k := 0) (by decide) h7 dX11_twice_39 ?_
    refine g_lconst_0 C dX11_twice_40 ?_
    refine g_lconst_0 C dX11_twice_41 ?_
    refine g_iconst_0 C dX11_twice_42 ?_
    obtain ⟨z8, h9, h10, h⟩ := h
    refine g_eqs (st' := [.int 0, .long 0, .long 0, .ref z8, .ref (o 10)]) (by rw [h9]; rfl) rfl ?_
    refine x_callV C (wX1_k_setOut (by decide) h10 0 0 0 I4 J5 R6 L S _ h) sX11_225 (rcv_bug (b := 0) (by decide)) (rl_ok (by decide) (by decide)) rfl (Nat.le_of_ble_eq_true rfl) (st := []) _ rfl dX11_twice_43 (px_v (fun I12 J13 R14 h => ?_))
    refine g_iconst_0 C dX11_twice_46 ?_
    refine g_istore C (i := 5) [(0, .ref (o 0)), (1, .int v1), (2, .int v2), (3, .int r1), (4, .int 0), (5, .int 0)] dX11_twice_47 (by decide) rfl ?_
    obtain ⟨n, h⟩ := h
    exact g_weak [0, 2, 4, 5] rfl (Nat.le_refl _) (Nat.le_refl _) (wX11_twice_gl49  C  n v2 0 0 I12 J13 R14 h)
  · replace h := h.2 c2
    refine g_aload_n C (i := 0) dX11_twice_14 rfl rfl ?_
    refine g_iload_n C (i := 3) dX11_twice_15 rfl rfl ?_
    refine x_callV C (wX11_k_refuse r1 I J R L S _ h) sX11_73 rcv_main (rl_ok (by decide) (by decide)) rfl (Nat.le_of_ble_eq_true rfl) (st := []) _ rfl dX11_twice_16 (px_i (fun r15 I16 J17 R18 h => ?_))
    exact g_ret_i C dX11_twice_19 (Nat.le_refl _) (Nat.le_refl _) ⟨_, _, _, _, rfl, rfl, h⟩
theorem wX11_k_twice {D : gD} {ca : Nat → ClassId} {o : Nat → Nat} {L : List Nat} {S : gS} (v1 : Int32) (v2 : Int32) (I : gI) (J : gJ) (R : gR) (L0 : List Nat) (S0 : gS) (Q : Int32 → gI → gJ → gR → Prop) (h : wX11_twice v1 v2 I J R L S Q) : Ct yX11_twice cX11_twice 6 (some .int) (rl 5) D (tyW ca) 0 0 [.ref (o 0), .int v1, .int v2] (cX ca o I J R L S) (PXi ca o L S Q) := ct_of (rm := (rl 5)) (by decide +kernel) (Nat.le_of_ble_eq_true rfl) (fun Γ C => wX11_twice_g v1 v2 C h)
set_option maxRecDepth 100000 in
theorem wX11_cover_gc76 {Γ : gT} {D : gD} {ca : Nat → ClassId} {o : Nat → Nat} {Q : Int32 → gI → gJ → gR → Prop} {L : List Nat} {S : gS} (C : Cx Γ cX11_cover RX11 6 D (tyW ca) (rl 5) (some .int) 0 0 (PXi ca o L S Q)) {B49 : Int32 → Int32 → Int32 → gI → gJ → gR → Prop} (hB49 : ∀ (v2 : Int32) (v4 : Int32) (v5 : Int32) (I : gI) (J : gJ) (R : gR), B49 v2 v4 v5 I J R → G Γ 0 0 49 [(0, .ref (o 0)), (2, .int v2), (4, .int v4), (5, .int v5)] [] (cX ca o I J R L S)) (v2 : Int32) (v4 : Int32) (v5 : Int32) (I : gI) (J : gJ) (R : gR) (h : wX11_cover_c76 L S B49 v2 v4 v5 I J R Q) : G Γ 0 0 76 [(0, .ref (o 0)), (2, .int v2), (4, .int v4), (5, .int v5)] [] (cX ca o I J R L S) := by
  unfold wX11_cover_c76 at h
  refine g_aload_n C (i := 0) dX11_cover_76 rfl rfl ?_
  refine x_get_X11_54 C dX11_cover_77 ?_
  refine x_callV C (wX1_k_step (by decide) I J R L S _ h) sX11_232 (rcv_bug (b := 0) (by decide)) (rl_ok (by decide) (by decide)) rfl (Nat.le_of_ble_eq_true rfl) (st := []) _ rfl dX11_cover_80 (px_v (fun I2 J3 R4 h => ?_))
  refine g_iinc C 1 [(0, .ref (o 0)), (2, .int v2), (4, .int v4), (5, .int (v5 + 1))] dX11_cover_83 rfl (by decide) (by decide) rfl ?_
  refine g_goto C 49 dX11_cover_86 rfl ?_
  exact g_weak [0, 1, 2, 3] rfl (Nat.le_refl _) (Nat.le_refl _) (hB49 v2 v4 (v5 + 1) I2 J3 R4 h)
set_option maxRecDepth 100000 in
theorem wX11_cover_gb49 {Γ : gT} {D : gD} {ca : Nat → ClassId} {o : Nat → Nat} {Q : Int32 → gI → gJ → gR → Prop} {L : List Nat} {S : gS} (C : Cx Γ cX11_cover RX11 6 D (tyW ca) (rl 5) (some .int) 0 0 (PXi ca o L S Q)) {B49 : Int32 → Int32 → Int32 → gI → gJ → gR → Prop} (hB49 : ∀ (v2 : Int32) (v4 : Int32) (v5 : Int32) (I : gI) (J : gJ) (R : gR), B49 v2 v4 v5 I J R → G Γ 0 0 49 [(0, .ref (o 0)), (2, .int v2), (4, .int v4), (5, .int v5)] [] (cX ca o I J R L S)) (v2 : Int32) (v4 : Int32) (v5 : Int32) (I : gI) (J : gJ) (R : gR) (h : wX11_cover_b49 L S B49 v2 v4 v5 I J R Q) : G Γ 0 0 49 [(0, .ref (o 0)), (2, .int v2), (4, .int v4), (5, .int v5)] [] (cX ca o I J R L S) := by
  unfold wX11_cover_b49 at h
  refine g_iload C (i := 5) dX11_cover_49 rfl ?_
  refine g_iload_n C (i := 2) dX11_cover_51 rfl rfl ?_
  refine g_icmp_gt C 89 dX11_cover_52 rfl (fun c1 => ?_) (fun c1 => ?_)
  · replace h := h.1 c1
    refine g_iload C (i := 4) dX11_cover_89 rfl ?_
    exact g_ret_i C dX11_cover_91 (Nat.le_refl _) (Nat.le_refl _) ⟨_, _, _, _, rfl, rfl, h⟩
  · replace h := h.2 c1
    refine g_aload_n C (i := 0) dX11_cover_55 rfl rfl ?_
    refine x_get_X11_54 C dX11_cover_56 ?_
    refine g_aload_n C (i := 0) dX11_cover_59 rfl rfl ?_
    refine x_get_X11_54 C dX11_cover_60 ?_
    refine x_callV C (wX1_k_placeKey (by decide) I J R L S _ h) sX11_238 (rcv_bug (b := 0) (by decide)) (rl_ok (by decide) (by decide)) rfl (Nat.le_of_ble_eq_true rfl) (st := [.ref (o 10)]) _ rfl dX11_cover_63 (py_i (fun r2 h => ?_))
    refine x_callV C (wX1_k_note (by decide) r2 I J R L S _ h) sX11_242 (rcv_bug (b := 0) (by decide)) (rl_ok (by decide) (by decide)) rfl (Nat.le_of_ble_eq_true rfl) (st := []) _ rfl dX11_cover_66 (px_i (fun r3 I4 J5 R6 h => ?_))
    refine g_iconst_1 C dX11_cover_69 ?_
    refine g_icmp_ne C 76 dX11_cover_70 rfl (fun c7 => ?_) (fun c7 => ?_)
    · replace h := h.1 c7
      exact g_weak [0, 1, 2, 3] rfl (Nat.le_refl _) (Nat.le_refl _) (wX11_cover_gc76  C hB49 v2 v4 v5 I4 J5 R6 h)
    · replace h := h.2 c7
      refine g_iinc C 1 [(0, .ref (o 0)), (2, .int v2), (4, .int (v4 + 1)), (5, .int v5)] dX11_cover_73 rfl (by decide) (by decide) rfl ?_
      exact g_weak [0, 1, 2, 3] rfl (Nat.le_refl _) (Nat.le_refl _) (wX11_cover_gc76  C hB49 v2 (v4 + 1) v5 I4 J5 R6 h)
theorem wX11_cover_gl49 {Γ : gT} {D : gD} {ca : Nat → ClassId} {o : Nat → Nat} {Q : Int32 → gI → gJ → gR → Prop} {L : List Nat} {S : gS} (C : Cx Γ cX11_cover RX11 6 D (tyW ca) (rl 5) (some .int) 0 0 (PXi ca o L S Q)) : ∀ (n : Nat) (v2 : Int32) (v4 : Int32) (v5 : Int32) (I : gI) (J : gJ) (R : gR) (_ : wX11_cover_l49 L S Q n v2 v4 v5 I J R), G Γ 0 0 49 [(0, .ref (o 0)), (2, .int v2), (4, .int v4), (5, .int v5)] [] (cX ca o I J R L S) := by
  intro n
  induction n with
  | zero => intro v2 v4 v5 I J R h; exact h.elim
  | succ n ih => intro v2 v4 v5 I J R h; exact wX11_cover_gb49 C ih v2 v4 v5 I J R h
set_option maxRecDepth 100000 in
theorem wX11_cover_g {Γ : gT} {D : gD} {ca : Nat → ClassId} {o : Nat → Nat} {I : gI} {J : gJ} {R : gR} {L : List Nat} {S : gS} {Q : Int32 → gI → gJ → gR → Prop} (v1 : Int32) (v2 : Int32) (C : Cx Γ cX11_cover RX11 6 D (tyW ca) (rl 5) (some .int) 0 0 (PXi ca o L S Q)) (h : wX11_cover v1 v2 I J R L S Q) : G Γ 0 0 0 [(0, .ref (o 0)), (1, .int v1), (2, .int v2)] [] (cX ca o I J R L S) := by
  unfold wX11_cover at h
  refine g_aload_n C (i := 0) dX11_cover_0 rfl rfl ?_
  refine g_iload_n C (i := 1) dX11_cover_1 rfl rfl ?_
  refine g_iload_n C (i := 2) dX11_cover_2 rfl rfl ?_
  refine g_sipush C (v := 4000) dX11_cover_3 (by decide) ?_
  refine x_callV C (wX11_k_noWalk v1 v2 4000 I J R L S _ h) sX11_221 rcv_main (rl_ok (by decide) (by decide)) rfl (Nat.le_of_ble_eq_true rfl) (st := []) _ rfl dX11_cover_6 (py_i (fun r1 h => ?_))
  refine g_istore_n C (i := 3) [(0, .ref (o 0)), (1, .int v1), (2, .int v2), (3, .int r1)] dX11_cover_9 rfl (by decide) rfl ?_
  refine g_iload_n C (i := 3) dX11_cover_10 rfl rfl ?_
  refine g_if_eq C 20 dX11_cover_11 rfl (fun c2 => ?_) (fun c2 => ?_)
  · replace h := h.1 c2
    refine g_iconst_0 C dX11_cover_20 ?_
    refine g_istore C (i := 4) [(0, .ref (o 0)), (1, .int v1), (2, .int v2), (3, .int r1), (4, .int 0)] dX11_cover_21 (by decide) rfl ?_
    refine g_aload_n C (i := 0) dX11_cover_23 rfl rfl ?_
    refine x_get_X11_54 C dX11_cover_24 ?_
    refine x_callV C (wX1_k_forget (by decide) I J R L S _ h) sX11_235 (rcv_bug (b := 0) (by decide)) (rl_ok (by decide) (by decide)) rfl (Nat.le_of_ble_eq_true rfl) (st := []) _ rfl dX11_cover_27 (px_v (fun I4 J5 R6 h => ?_))
    refine g_aload_n C (i := 0) dX11_cover_30 rfl rfl ?_
    refine x_get_X11_54 C dX11_cover_31 ?_
    refine g_aload_n C (i := 0) dX11_cover_34 rfl rfl ?_
    refine x_get_X11_11 C dX11_cover_35 ?_
    refine g_iload_n C (i := 1) dX11_cover_38 rfl rfl ?_
    obtain ⟨h7, h⟩ := h
    refine x_aald C (k := 0) (by decide) h7 dX11_cover_39 ?_
    refine g_lconst_0 C dX11_cover_40 ?_
    refine g_lconst_0 C dX11_cover_41 ?_
    refine g_iconst_0 C dX11_cover_42 ?_
    obtain ⟨z8, h9, h10, h⟩ := h
    refine g_eqs (st' := [.int 0, .long 0, .long 0, .ref z8, .ref (o 10)]) (by rw [h9]; rfl) rfl ?_
    refine x_callV C (wX1_k_setOut (by decide) h10 0 0 0 I4 J5 R6 L S _ h) sX11_225 (rcv_bug (b := 0) (by decide)) (rl_ok (by decide) (by decide)) rfl (Nat.le_of_ble_eq_true rfl) (st := []) _ rfl dX11_cover_43 (px_v (fun I12 J13 R14 h => ?_))
    refine g_iconst_0 C dX11_cover_46 ?_
    refine g_istore C (i := 5) [(0, .ref (o 0)), (1, .int v1), (2, .int v2), (3, .int r1), (4, .int 0), (5, .int 0)] dX11_cover_47 (by decide) rfl ?_
    obtain ⟨n, h⟩ := h
    exact g_weak [0, 2, 4, 5] rfl (Nat.le_refl _) (Nat.le_refl _) (wX11_cover_gl49  C  n v2 0 0 I12 J13 R14 h)
  · replace h := h.2 c2
    refine g_aload_n C (i := 0) dX11_cover_14 rfl rfl ?_
    refine g_iload_n C (i := 3) dX11_cover_15 rfl rfl ?_
    refine x_callV C (wX11_k_refuse r1 I J R L S _ h) sX11_73 rcv_main (rl_ok (by decide) (by decide)) rfl (Nat.le_of_ble_eq_true rfl) (st := []) _ rfl dX11_cover_16 (px_i (fun r15 I16 J17 R18 h => ?_))
    exact g_ret_i C dX11_cover_19 (Nat.le_refl _) (Nat.le_refl _) ⟨_, _, _, _, rfl, rfl, h⟩
theorem wX11_k_cover {D : gD} {ca : Nat → ClassId} {o : Nat → Nat} {L : List Nat} {S : gS} (v1 : Int32) (v2 : Int32) (I : gI) (J : gJ) (R : gR) (L0 : List Nat) (S0 : gS) (Q : Int32 → gI → gJ → gR → Prop) (h : wX11_cover v1 v2 I J R L S Q) : Ct yX11_cover cX11_cover 6 (some .int) (rl 5) D (tyW ca) 0 0 [.ref (o 0), .int v1, .int v2] (cX ca o I J R L S) (PXi ca o L S Q) := ct_of (rm := (rl 5)) (by decide +kernel) (Nat.le_of_ble_eq_true rfl) (fun Γ C => wX11_cover_g v1 v2 C h)
theorem mlmin_X11_255 : Cond.methodLink RX11 255 Lib.MathLoose.min_long.x ∈ tb := (tb_in (List.mem_of_getElem? (i := 929) (by decide +kernel)) (by decide +kernel))
set_option maxRecDepth 100000 in
theorem wX11_when_gc104 {Γ : gT} {D : gD} {ca : Nat → ClassId} {o : Nat → Nat} {Q : Int32 → gI → gJ → gR → Prop} {L : List Nat} {S : gS} (C : Cx Γ cX11_when RX11 8 D (tyW ca) (rl 5) (some .int) 0 0 (PXi ca o L S Q)) {B72 : Int32 → Int32 → Int32 → Int32 → Int32 → Int32 → gI → gJ → gR → Prop} (hB72 : ∀ (v2 : Int32) (v3 : Int32) (v4 : Int32) (v5 : Int32) (v6 : Int32) (v7 : Int32) (I : gI) (J : gJ) (R : gR), B72 v2 v3 v4 v5 v6 v7 I J R → G Γ 0 0 72 [(0, .ref (o 0)), (2, .int v2), (3, .int v3), (4, .int v4), (5, .int v5), (6, .int v6), (7, .int v7)] [] (cX ca o I J R L S)) (v2 : Int32) (v3 : Int32) (v4 : Int32) (v5 : Int32) (v6 : Int32) (v7 : Int32) (I : gI) (J : gJ) (R : gR) (h : wX11_when_c104 L S B72 v2 v3 v4 v5 v6 v7 I J R Q) : G Γ 0 0 104 [(0, .ref (o 0)), (2, .int v2), (3, .int v3), (4, .int v4), (5, .int v5), (6, .int v6), (7, .int v7)] [] (cX ca o I J R L S) := by
  unfold wX11_when_c104 at h
  refine g_aload_n C (i := 0) dX11_when_104 rfl rfl ?_
  refine x_get_X11_54 C dX11_when_105 ?_
  refine x_callV C (wX1_k_step (by decide) I J R L S _ h) sX11_232 (rcv_bug (b := 0) (by decide)) (rl_ok (by decide) (by decide)) rfl (Nat.le_of_ble_eq_true rfl) (st := []) _ rfl dX11_when_108 (px_v (fun I2 J3 R4 h => ?_))
  refine g_iinc C 1 [(0, .ref (o 0)), (2, .int v2), (3, .int v3), (4, .int v4), (5, .int v5), (6, .int v6), (7, .int (v7 + 1))] dX11_when_111 rfl (by decide) (by decide) rfl ?_
  refine g_goto C 72 dX11_when_114 rfl ?_
  exact g_weak [0, 1, 2, 3, 4, 5, 6] rfl (Nat.le_refl _) (Nat.le_refl _) (hB72 v2 v3 v4 v5 v6 (v7 + 1) I2 J3 R4 h)
set_option maxRecDepth 100000 in
theorem wX11_when_gb72 {Γ : gT} {D : gD} {ca : Nat → ClassId} {o : Nat → Nat} {Q : Int32 → gI → gJ → gR → Prop} {L : List Nat} {S : gS} (C : Cx Γ cX11_when RX11 8 D (tyW ca) (rl 5) (some .int) 0 0 (PXi ca o L S Q)) {B72 : Int32 → Int32 → Int32 → Int32 → Int32 → Int32 → gI → gJ → gR → Prop} (hB72 : ∀ (v2 : Int32) (v3 : Int32) (v4 : Int32) (v5 : Int32) (v6 : Int32) (v7 : Int32) (I : gI) (J : gJ) (R : gR), B72 v2 v3 v4 v5 v6 v7 I J R → G Γ 0 0 72 [(0, .ref (o 0)), (2, .int v2), (3, .int v3), (4, .int v4), (5, .int v5), (6, .int v6), (7, .int v7)] [] (cX ca o I J R L S)) (v2 : Int32) (v3 : Int32) (v4 : Int32) (v5 : Int32) (v6 : Int32) (v7 : Int32) (I : gI) (J : gJ) (R : gR) (h : wX11_when_b72 L S B72 v2 v3 v4 v5 v6 v7 I J R Q) : G Γ 0 0 72 [(0, .ref (o 0)), (2, .int v2), (3, .int v3), (4, .int v4), (5, .int v5), (6, .int v6), (7, .int v7)] [] (cX ca o I J R L S) := by
  unfold wX11_when_b72 at h
  refine g_iload C (i := 7) dX11_when_72 rfl ?_
  refine g_iload C (i := 5) dX11_when_74 rfl ?_
  refine g_icmp_gt C 117 dX11_when_76 rfl (fun c1 => ?_) (fun c1 => ?_)
  · replace h := h.1 c1
    refine g_iconst_m1 C dX11_when_117 ?_
    exact g_ret_i C dX11_when_118 (Nat.le_refl _) (Nat.le_refl _) ⟨_, _, _, _, rfl, rfl, h⟩
  · replace h := h.2 c1
    refine g_aload_n C (i := 0) dX11_when_79 rfl rfl ?_
    refine x_get_X11_54 C dX11_when_80 ?_
    refine g_iload_n C (i := 2) dX11_when_83 rfl rfl ?_
    refine g_iload_n C (i := 3) dX11_when_84 rfl rfl ?_
    refine x_callV C (wX1_k_isAt (by decide) v2 v3 I J R L S _ h) sX11_229 (rcv_bug (b := 0) (by decide)) (rl_ok (by decide) (by decide)) rfl (Nat.le_of_ble_eq_true rfl) (st := []) _ rfl dX11_when_85 (py_z (fun r2 h => ?_))
    refine g_zeq C 104 dX11_when_88 rfl (fun c3 => ?_) (fun c3 => ?_)
    · replace h := h.1 c3
      exact g_weak [0, 1, 2, 3, 4, 5, 6] rfl (Nat.le_refl _) (Nat.le_refl _) (wX11_when_gc104  C hB72 v2 v3 v4 v5 v6 v7 I J R h)
    · replace h := h.2 c3
      refine g_iload C (i := 6) dX11_when_91 rfl ?_
      refine g_iload C (i := 4) dX11_when_93 rfl ?_
      refine g_icmp_ne C 101 dX11_when_95 rfl (fun c4 => ?_) (fun c4 => ?_)
      · replace h := h.1 c4
        refine g_iinc C 1 [(0, .ref (o 0)), (2, .int v2), (3, .int v3), (4, .int v4), (5, .int v5), (6, .int (v6 + 1)), (7, .int v7)] dX11_when_101 rfl (by decide) (by decide) rfl ?_
        exact g_weak [0, 1, 2, 3, 4, 5, 6] rfl (Nat.le_refl _) (Nat.le_refl _) (wX11_when_gc104  C hB72 v2 v3 v4 v5 (v6 + 1) v7 I J R h)
      · replace h := h.2 c4
        refine g_iload C (i := 7) dX11_when_98 rfl ?_
        exact g_ret_i C dX11_when_100 (Nat.le_refl _) (Nat.le_refl _) ⟨_, _, _, _, rfl, rfl, h⟩
theorem wX11_when_gl72 {Γ : gT} {D : gD} {ca : Nat → ClassId} {o : Nat → Nat} {Q : Int32 → gI → gJ → gR → Prop} {L : List Nat} {S : gS} (C : Cx Γ cX11_when RX11 8 D (tyW ca) (rl 5) (some .int) 0 0 (PXi ca o L S Q)) : ∀ (n : Nat) (v2 : Int32) (v3 : Int32) (v4 : Int32) (v5 : Int32) (v6 : Int32) (v7 : Int32) (I : gI) (J : gJ) (R : gR) (_ : wX11_when_l72 L S Q n v2 v3 v4 v5 v6 v7 I J R), G Γ 0 0 72 [(0, .ref (o 0)), (2, .int v2), (3, .int v3), (4, .int v4), (5, .int v5), (6, .int v6), (7, .int v7)] [] (cX ca o I J R L S) := by
  intro n
  induction n with
  | zero => intro v2 v3 v4 v5 v6 v7 I J R h; exact h.elim
  | succ n ih => intro v2 v3 v4 v5 v6 v7 I J R h; exact wX11_when_gb72 C ih v2 v3 v4 v5 v6 v7 I J R h
set_option maxRecDepth 100000 in
theorem wX11_when_g {Γ : gT} {D : gD} {ca : Nat → ClassId} {o : Nat → Nat} {I : gI} {J : gJ} {R : gR} {L : List Nat} {S : gS} {Q : Int32 → gI → gJ → gR → Prop} (v1 : Int32) (v2 : Int32) (v3 : Int32) (v4 : Int32) (C : Cx Γ cX11_when RX11 8 D (tyW ca) (rl 5) (some .int) 0 0 (PXi ca o L S Q)) (h : wX11_when v1 v2 v3 v4 I J R L S Q) : G Γ 0 0 0 [(0, .ref (o 0)), (1, .int v1), (2, .int v2), (3, .int v3), (4, .int v4)] [] (cX ca o I J R L S) := by
  unfold wX11_when at h
  refine g_aload_n C (i := 0) dX11_when_0 rfl rfl ?_
  refine g_iload_n C (i := 1) dX11_when_1 rfl rfl ?_
  refine x_callV C (wX11_k_isStrip v1 I J R L S _ h) sX11_118 rcv_main (rl_ok (by decide) (by decide)) rfl (Nat.le_of_ble_eq_true rfl) (st := []) _ rfl dX11_when_2 (py_z (fun r1 h => ?_))
  refine g_zne C 17 dX11_when_5 rfl (fun c2 => ?_) (fun c2 => ?_)
  · replace h := h.1 c2
    refine g_iload C (i := 4) dX11_when_17 rfl ?_
    refine g_if_ge C 32 dX11_when_19 rfl (fun c3 => ?_) (fun c3 => ?_)
    · replace h := h.1 c3
      refine g_ldc2 C (v := 4000) (tb_in (List.mem_of_getElem? (i := 928) (by decide +kernel)) (by decide +kernel)) dX11_when_32 ?_
      refine g_aload_n C (i := 0) dX11_when_35 rfl rfl ?_
      refine x_get_X11_11 C dX11_when_36 ?_
      refine g_iload_n C (i := 1) dX11_when_39 rfl rfl ?_
      obtain ⟨h4, h⟩ := h
      refine x_aald C (k := 0) (by decide) h4 dX11_when_40 ?_
      obtain ⟨z5, h6, h7, h⟩ := h
      refine g_eqs (st' := [.ref z5, .long 4000]) (by rw [h6]; rfl) rfl ?_
      refine xv_X11_201 C h7 I J R L S _ h (fun l m h1 h2 => rl_ok (by omega) h2) (Nat.le_of_ble_eq_true rfl) (st := [.long 4000]) _ rfl dX11_when_41 (fun r8 h => ?_)
      refine x_mlmin C mlmin_X11_255 dX11_when_44 (by decide) (by exact Nat.le_of_ble_eq_true rfl) (by decide) (by decide) ?_
      refine g_l2i C dX11_when_47 ?_
      refine g_istore C (i := 5) [(0, .ref (o 0)), (1, .int v1), (2, .int v2), (3, .int v3), (4, .int v4), (5, .int ((if r8 < 4000 then r8 else 4000).toInt32))] dX11_when_48 (by decide) rfl ?_
      refine g_iconst_0 C dX11_when_50 ?_
      refine g_istore C (i := 6) [(0, .ref (o 0)), (1, .int v1), (2, .int v2), (3, .int v3), (4, .int v4), (5, .int ((if r8 < 4000 then r8 else 4000).toInt32)), (6, .int 0)] dX11_when_51 (by decide) rfl ?_
      refine g_aload_n C (i := 0) dX11_when_53 rfl rfl ?_
      refine x_get_X11_54 C dX11_when_54 ?_
      refine g_aload_n C (i := 0) dX11_when_57 rfl rfl ?_
      refine x_get_X11_11 C dX11_when_58 ?_
      refine g_iload_n C (i := 1) dX11_when_61 rfl rfl ?_
      refine x_aald C (k := 0) (by decide) h4 dX11_when_62 ?_
      refine g_lconst_0 C dX11_when_63 ?_
      refine g_lconst_0 C dX11_when_64 ?_
      refine g_iconst_0 C dX11_when_65 ?_
      refine g_eqs (st' := [.int 0, .long 0, .long 0, .ref z5, .ref (o 10)]) (by rw [h6]; rfl) rfl ?_
      refine x_callV C (wX1_k_setOut (by decide) h7 0 0 0 I J R L S _ h) sX11_225 (rcv_bug (b := 0) (by decide)) (rl_ok (by decide) (by decide)) rfl (Nat.le_of_ble_eq_true rfl) (st := []) _ rfl dX11_when_66 (px_v (fun I10 J11 R12 h => ?_))
      refine g_iconst_0 C dX11_when_69 ?_
      refine g_istore C (i := 7) [(0, .ref (o 0)), (1, .int v1), (2, .int v2), (3, .int v3), (4, .int v4), (5, .int ((if r8 < 4000 then r8 else 4000).toInt32)), (6, .int 0), (7, .int 0)] dX11_when_70 (by decide) rfl ?_
      obtain ⟨n, h⟩ := h
      exact g_weak [0, 2, 3, 4, 5, 6, 7] rfl (Nat.le_refl _) (Nat.le_refl _) (wX11_when_gl72  C  n v2 v3 v4 ((if r8 < 4000 then r8 else 4000).toInt32) 0 0 I10 J11 R12 h)
    · replace h := h.2 c3
      refine g_aload_n C (i := 0) dX11_when_22 rfl rfl ?_
      refine g_bipush C (v := (-5)) dX11_when_23 (by decide) ?_
      refine x_callV C (wX11_k_refuse (-5) I J R L S _ h) sX11_73 rcv_main (rl_ok (by decide) (by decide)) rfl (Nat.le_of_ble_eq_true rfl) (st := []) _ rfl dX11_when_25 (px_i (fun r13 I14 J15 R16 h => ?_))
      refine g_bipush C (v := (-10)) dX11_when_28 (by decide) ?_
      refine g_iadd C dX11_when_30 ?_
      exact g_ret_i C dX11_when_31 (Nat.le_refl _) (Nat.le_refl _) ⟨_, _, _, _, rfl, rfl, h⟩
  · replace h := h.2 c2
    refine g_aload_n C (i := 0) dX11_when_8 rfl rfl ?_
    refine g_iconst_m1 C dX11_when_9 ?_
    refine x_callV C (wX11_k_refuse (-1) I J R L S _ h) sX11_73 rcv_main (rl_ok (by decide) (by decide)) rfl (Nat.le_of_ble_eq_true rfl) (st := []) _ rfl dX11_when_10 (px_i (fun r17 I18 J19 R20 h => ?_))
    refine g_bipush C (v := (-10)) dX11_when_13 (by decide) ?_
    refine g_iadd C dX11_when_15 ?_
    exact g_ret_i C dX11_when_16 (Nat.le_refl _) (Nat.le_refl _) ⟨_, _, _, _, rfl, rfl, h⟩
theorem wX11_k_when {D : gD} {ca : Nat → ClassId} {o : Nat → Nat} {L : List Nat} {S : gS} (v1 : Int32) (v2 : Int32) (v3 : Int32) (v4 : Int32) (I : gI) (J : gJ) (R : gR) (L0 : List Nat) (S0 : gS) (Q : Int32 → gI → gJ → gR → Prop) (h : wX11_when v1 v2 v3 v4 I J R L S Q) : Ct yX11_when cX11_when 8 (some .int) (rl 5) D (tyW ca) 0 0 [.ref (o 0), .int v1, .int v2, .int v3, .int v4] (cX ca o I J R L S) (PXi ca o L S Q) := ct_of (rm := (rl 5)) (by decide +kernel) (Nat.le_of_ble_eq_true rfl) (fun Γ C => wX11_when_g v1 v2 v3 v4 C h)
theorem sX11_259 : gSite RX11 yX11_noNear cX11_noNear 10 (some .int) 259 6 := gSite.of (tb_in (List.mem_of_getElem? (i := 936) (by decide +kernel)) (by decide +kernel)) (tb_in (List.mem_of_getElem? (i := 938) (by decide +kernel)) (by decide +kernel)) (tb_in (List.mem_of_getElem? (i := 19) (by decide +kernel)) (by decide +kernel)) (tb_in (List.mem_of_getElem? (i := 78) (by decide +kernel)) (by decide +kernel)) (tb_in (List.mem_of_getElem? (i := 939) (by decide +kernel)) (by decide +kernel)) (by decide +kernel)
theorem sX11_265 : gSite RX11 yX1_apartSquared cX1_apartSquared 2 (some .long) 265 1 := gSite.of (tb_in (List.mem_of_getElem? (i := 944) (by decide +kernel)) (by decide +kernel)) (tb_in (List.mem_of_getElem? (i := 945) (by decide +kernel)) (by decide +kernel)) (tb_in (List.mem_of_getElem? (i := 946) (by decide +kernel)) (by decide +kernel)) (tb_in (List.mem_of_getElem? (i := 84) (by decide +kernel)) (by decide +kernel)) (tb_in (List.mem_of_getElem? (i := 947) (by decide +kernel)) (by decide +kernel)) (by decide +kernel)
set_option maxRecDepth 100000 in
theorem wX11_near_gc114 {Γ : gT} {D : gD} {ca : Nat → ClassId} {o : Nat → Nat} {Q : Int32 → gI → gJ → gR → Prop} {L : List Nat} {S : gS} (C : Cx Γ cX11_near RX11 14 D (tyW ca) (rl 5) (some .int) 0 0 (PXi ca o L S Q)) {B74 : Int32 → Int32 → Int64 → Int32 → Int32 → gI → gJ → gR → Prop} (hB74 : ∀ (v3 : Int32) (v6 : Int32) (v8 : Int64) (v10 : Int32) (v11 : Int32) (I : gI) (J : gJ) (R : gR), B74 v3 v6 v8 v10 v11 I J R → G Γ 0 0 74 [(0, .ref (o 0)), (3, .int v3), (6, .int v6), (8, .long v8), (10, .int v10), (11, .int v11)] [] (cX ca o I J R L S)) (v3 : Int32) (v6 : Int32) (v8 : Int64) (v10 : Int32) (v11 : Int32) (I : gI) (J : gJ) (R : gR) (h : wX11_near_c114 L S B74 v3 v6 v8 v10 v11 I J R Q) : G Γ 0 0 114 [(0, .ref (o 0)), (3, .int v3), (6, .int v6), (8, .long v8), (10, .int v10), (11, .int v11)] [] (cX ca o I J R L S) := by
  unfold wX11_near_c114 at h
  refine g_aload_n C (i := 0) dX11_near_114 rfl rfl ?_
  refine x_get_X11_54 C dX11_near_115 ?_
  refine x_callV C (wX1_k_step (by decide) I J R L S _ h) sX11_232 (rcv_bug (b := 0) (by decide)) (rl_ok (by decide) (by decide)) rfl (Nat.le_of_ble_eq_true rfl) (st := []) _ rfl dX11_near_118 (px_v (fun I2 J3 R4 h => ?_))
  refine g_aload_n C (i := 0) dX11_near_121 rfl rfl ?_
  refine x_get_X11_58 C dX11_near_122 ?_
  refine x_callV C (wX1_k_step (by decide) I2 J3 R4 L S _ h) sX11_232 (rcv_bug (b := 1) (by decide)) (rl_ok (by decide) (by decide)) rfl (Nat.le_of_ble_eq_true rfl) (st := []) _ rfl dX11_near_125 (px_v (fun I6 J7 R8 h => ?_))
  refine g_iinc C 1 [(0, .ref (o 0)), (3, .int v3), (6, .int v6), (8, .long v8), (10, .int v10), (11, .int (v11 + 1))] dX11_near_128 rfl (by decide) (by decide) rfl ?_
  refine g_goto C 74 dX11_near_131 rfl ?_
  exact g_weak [0, 1, 2, 3, 4, 5] rfl (Nat.le_refl _) (Nat.le_refl _) (hB74 v3 v6 v8 v10 (v11 + 1) I6 J7 R8 h)
set_option maxRecDepth 100000 in
theorem wX11_near_gc106 {Γ : gT} {D : gD} {ca : Nat → ClassId} {o : Nat → Nat} {Q : Int32 → gI → gJ → gR → Prop} {L : List Nat} {S : gS} (C : Cx Γ cX11_near RX11 14 D (tyW ca) (rl 5) (some .int) 0 0 (PXi ca o L S Q)) {B74 : Int32 → Int32 → Int64 → Int32 → Int32 → gI → gJ → gR → Prop} (hB74 : ∀ (v3 : Int32) (v6 : Int32) (v8 : Int64) (v10 : Int32) (v11 : Int32) (I : gI) (J : gJ) (R : gR), B74 v3 v6 v8 v10 v11 I J R → G Γ 0 0 74 [(0, .ref (o 0)), (3, .int v3), (6, .int v6), (8, .long v8), (10, .int v10), (11, .int v11)] [] (cX ca o I J R L S)) (v3 : Int32) (v6 : Int32) (v11 : Int32) (v12 : Int64) (I : gI) (J : gJ) (R : gR) (h : wX11_near_c106 L S B74 v3 v6 v11 v12 I J R Q) : G Γ 0 0 106 [(0, .ref (o 0)), (3, .int v3), (6, .int v6), (11, .int v11), (12, .long v12)] [] (cX ca o I J R L S) := by
  unfold wX11_near_c106 at h
  refine g_lload C (i := 12) dX11_near_106 rfl ?_
  refine g_lstore C (i := 8) [(0, .ref (o 0)), (3, .int v3), (6, .int v6), (8, .long v12), (11, .int v11), (12, .long v12)] dX11_near_108 (by decide) rfl ?_
  refine g_iload C (i := 11) dX11_near_110 rfl ?_
  refine g_istore C (i := 10) [(0, .ref (o 0)), (3, .int v3), (6, .int v6), (8, .long v12), (10, .int v11), (11, .int v11), (12, .long v12)] dX11_near_112 (by decide) rfl ?_
  exact g_weak [0, 1, 2, 3, 4, 5] rfl (Nat.le_refl _) (Nat.le_refl _) (wX11_near_gc114  C hB74 v3 v6 v12 v11 v11 I J R h)
set_option maxRecDepth 100000 in
theorem wX11_near_gb74 {Γ : gT} {D : gD} {ca : Nat → ClassId} {o : Nat → Nat} {Q : Int32 → gI → gJ → gR → Prop} {L : List Nat} {S : gS} (C : Cx Γ cX11_near RX11 14 D (tyW ca) (rl 5) (some .int) 0 0 (PXi ca o L S Q)) {B74 : Int32 → Int32 → Int64 → Int32 → Int32 → gI → gJ → gR → Prop} (hB74 : ∀ (v3 : Int32) (v6 : Int32) (v8 : Int64) (v10 : Int32) (v11 : Int32) (I : gI) (J : gJ) (R : gR), B74 v3 v6 v8 v10 v11 I J R → G Γ 0 0 74 [(0, .ref (o 0)), (3, .int v3), (6, .int v6), (8, .long v8), (10, .int v10), (11, .int v11)] [] (cX ca o I J R L S)) (v3 : Int32) (v6 : Int32) (v8 : Int64) (v10 : Int32) (v11 : Int32) (I : gI) (J : gJ) (R : gR) (h : wX11_near_b74 L S B74 v3 v6 v8 v10 v11 I J R Q) : G Γ 0 0 74 [(0, .ref (o 0)), (3, .int v3), (6, .int v6), (8, .long v8), (10, .int v10), (11, .int v11)] [] (cX ca o I J R L S) := by
  unfold wX11_near_b74 at h
  refine g_iload C (i := 11) dX11_near_74 rfl ?_
  refine g_iload_n C (i := 3) dX11_near_76 rfl rfl ?_
  refine g_icmp_gt C 134 dX11_near_77 rfl (fun c1 => ?_) (fun c1 => ?_)
  · replace h := h.1 c1
    refine g_iload C (i := 6) dX11_near_134 rfl ?_
    refine g_if_ne C 145 dX11_near_136 rfl (fun c2 => ?_) (fun c2 => ?_)
    · replace h := h.1 c2
      refine g_iload C (i := 10) dX11_near_145 rfl ?_
      exact g_ret_i C dX11_near_147 (Nat.le_refl _) (Nat.le_refl _) ⟨_, _, _, _, rfl, rfl, h⟩
    · replace h := h.2 c2
      refine g_lload C (i := 8) dX11_near_139 rfl ?_
      refine g_l2i C dX11_near_141 ?_
      refine g_goto C 147 dX11_near_142 rfl ?_
      exact g_ret_i C dX11_near_147 (Nat.le_refl _) (Nat.le_refl _) ⟨_, _, _, _, rfl, rfl, h⟩
  · replace h := h.2 c1
    refine g_aload_n C (i := 0) dX11_near_80 rfl rfl ?_
    refine x_get_X11_54 C dX11_near_81 ?_
    refine g_aload_n C (i := 0) dX11_near_84 rfl rfl ?_
    refine x_get_X11_58 C dX11_near_85 ?_
    refine x_callV C (wX1_k_apartSquared (by decide) (by decide) I J R L S _ h) sX11_265 (rcv_bug (b := 0) (by decide)) (rl_ok (by decide) (by decide)) rfl (Nat.le_of_ble_eq_true rfl) (st := []) _ rfl dX11_near_88 (py_l (fun r3 h => ?_))
    refine g_lstore C (i := 12) [(0, .ref (o 0)), (3, .int v3), (6, .int v6), (8, .long v8), (10, .int v10), (11, .int v11), (12, .long r3)] dX11_near_91 (by decide) rfl ?_
    refine g_iload C (i := 11) dX11_near_93 rfl ?_
    refine g_if_eq C 106 dX11_near_95 rfl (fun c4 => ?_) (fun c4 => ?_)
    · replace h := h.1 c4
      exact g_weak [0, 1, 2, 5, 6] rfl (Nat.le_refl _) (Nat.le_refl _) (wX11_near_gc106  C hB74 v3 v6 v11 r3 I J R h)
    · replace h := h.2 c4
      refine g_lload C (i := 12) dX11_near_98 rfl ?_
      refine g_lload C (i := 8) dX11_near_100 rfl ?_
      refine g_lge C 114 dX11_near_102 dX11_near_103 rfl (fun c5 => ?_) (fun c5 => ?_)
      · replace h := h.1 c5
        exact g_weak [0, 1, 2, 3, 4, 5] rfl (Nat.le_refl _) (Nat.le_refl _) (wX11_near_gc114  C hB74 v3 v6 v8 v10 v11 I J R h)
      · replace h := h.2 c5
        exact g_weak [0, 1, 2, 5, 6] rfl (Nat.le_refl _) (Nat.le_refl _) (wX11_near_gc106  C hB74 v3 v6 v11 r3 I J R h)
theorem wX11_near_gl74 {Γ : gT} {D : gD} {ca : Nat → ClassId} {o : Nat → Nat} {Q : Int32 → gI → gJ → gR → Prop} {L : List Nat} {S : gS} (C : Cx Γ cX11_near RX11 14 D (tyW ca) (rl 5) (some .int) 0 0 (PXi ca o L S Q)) : ∀ (n : Nat) (v3 : Int32) (v6 : Int32) (v8 : Int64) (v10 : Int32) (v11 : Int32) (I : gI) (J : gJ) (R : gR) (_ : wX11_near_l74 L S Q n v3 v6 v8 v10 v11 I J R), G Γ 0 0 74 [(0, .ref (o 0)), (3, .int v3), (6, .int v6), (8, .long v8), (10, .int v10), (11, .int v11)] [] (cX ca o I J R L S) := by
  intro n
  induction n with
  | zero => intro v3 v6 v8 v10 v11 I J R h; exact h.elim
  | succ n ih => intro v3 v6 v8 v10 v11 I J R h; exact wX11_near_gb74 C ih v3 v6 v8 v10 v11 I J R h
set_option maxRecDepth 100000 in
theorem wX11_near_g {Γ : gT} {D : gD} {ca : Nat → ClassId} {o : Nat → Nat} {I : gI} {J : gJ} {R : gR} {L : List Nat} {S : gS} {Q : Int32 → gI → gJ → gR → Prop} (v1 : Int32) (v2 : Int32) (v3 : Int32) (v4 : Int32) (v5 : Int32) (v6 : Int32) (C : Cx Γ cX11_near RX11 14 D (tyW ca) (rl 5) (some .int) 0 0 (PXi ca o L S Q)) (h : wX11_near v1 v2 v3 v4 v5 v6 I J R L S Q) : G Γ 0 0 0 [(0, .ref (o 0)), (1, .int v1), (2, .int v2), (3, .int v3), (4, .int v4), (5, .int v5), (6, .int v6)] [] (cX ca o I J R L S) := by
  unfold wX11_near at h
  refine g_aload_n C (i := 0) dX11_near_0 rfl rfl ?_
  refine g_iload_n C (i := 1) dX11_near_1 rfl rfl ?_
  refine g_iload_n C (i := 2) dX11_near_2 rfl rfl ?_
  refine g_iload_n C (i := 3) dX11_near_3 rfl rfl ?_
  refine g_iload C (i := 4) dX11_near_4 rfl ?_
  refine g_iload C (i := 5) dX11_near_6 rfl ?_
  refine g_iload C (i := 6) dX11_near_8 rfl ?_
  refine x_callV C (wX11_k_noNear v1 v2 v3 v4 v5 v6 I J R L S _ h) sX11_259 rcv_main (rl_ok (by decide) (by decide)) rfl (Nat.le_of_ble_eq_true rfl) (st := []) _ rfl dX11_near_10 (py_i (fun r1 h => ?_))
  refine g_istore C (i := 7) [(0, .ref (o 0)), (1, .int v1), (2, .int v2), (3, .int v3), (4, .int v4), (5, .int v5), (6, .int v6), (7, .int r1)] dX11_near_13 (by decide) rfl ?_
  refine g_iload C (i := 7) dX11_near_15 rfl ?_
  refine g_if_eq C 27 dX11_near_17 rfl (fun c2 => ?_) (fun c2 => ?_)
  · replace h := h.1 c2
    refine g_aload_n C (i := 0) dX11_near_27 rfl rfl ?_
    refine x_get_X11_54 C dX11_near_28 ?_
    refine g_aload_n C (i := 0) dX11_near_31 rfl rfl ?_
    refine x_get_X11_11 C dX11_near_32 ?_
    refine g_iload_n C (i := 1) dX11_near_35 rfl rfl ?_
    obtain ⟨h3, h⟩ := h
    refine x_aald C (k := 0) (by decide) h3 dX11_near_36 ?_
    refine g_lconst_0 C dX11_near_37 ?_
    refine g_lconst_0 C dX11_near_38 ?_
    refine g_iconst_0 C dX11_near_39 ?_
    obtain ⟨z4, h5, h6, h⟩ := h
    refine g_eqs (st' := [.int 0, .long 0, .long 0, .ref z4, .ref (o 10)]) (by rw [h5]; rfl) rfl ?_
    refine x_callV C (wX1_k_setOut (by decide) h6 0 0 0 I J R L S _ h) sX11_225 (rcv_bug (b := 0) (by decide)) (rl_ok (by decide) (by decide)) rfl (Nat.le_of_ble_eq_true rfl) (st := []) _ rfl dX11_near_40 (px_v (fun I8 J9 R10 h => ?_))
    refine g_aload_n C (i := 0) dX11_near_43 rfl rfl ?_
    refine x_get_X11_58 C dX11_near_44 ?_
    refine g_aload_n C (i := 0) dX11_near_47 rfl rfl ?_
    refine x_get_X11_11 C dX11_near_48 ?_
    refine g_iload_n C (i := 2) dX11_near_51 rfl rfl ?_
    obtain ⟨h11, h⟩ := h
    refine x_aald C (k := 0) (by decide) h11 dX11_near_52 ?_
    refine g_iload C (i := 4) dX11_near_53 rfl ?_
    refine g_i2l C dX11_near_55 ?_
    refine g_iload C (i := 5) dX11_near_56 rfl ?_
    refine g_i2l C dX11_near_58 ?_
    refine g_iconst_0 C dX11_near_59 ?_
    obtain ⟨z12, h13, h14, h⟩ := h
    refine g_eqs (st' := [.int 0, .long v5.toInt64, .long v4.toInt64, .ref z12, .ref (o 11)]) (by rw [h13]; rfl) rfl ?_
    refine x_callV C (wX1_k_setOut (by decide) h14 v4.toInt64 v5.toInt64 0 I8 J9 R10 L S _ h) sX11_225 (rcv_bug (b := 1) (by decide)) (rl_ok (by decide) (by decide)) rfl (Nat.le_of_ble_eq_true rfl) (st := []) _ rfl dX11_near_60 (px_v (fun I16 J17 R18 h => ?_))
    refine g_ldc2 C (v := (-1)) (tb_in (List.mem_of_getElem? (i := 943) (by decide +kernel)) (by decide +kernel)) dX11_near_63 ?_
    refine g_lstore C (i := 8) [(0, .ref (o 0)), (1, .int v1), (2, .int v2), (3, .int v3), (4, .int v4), (5, .int v5), (6, .int v6), (7, .int r1), (8, .long (-1))] dX11_near_66 (by decide) rfl ?_
    refine g_iconst_0 C dX11_near_68 ?_
    refine g_istore C (i := 10) [(0, .ref (o 0)), (1, .int v1), (2, .int v2), (3, .int v3), (4, .int v4), (5, .int v5), (6, .int v6), (7, .int r1), (8, .long (-1)), (10, .int 0)] dX11_near_69 (by decide) rfl ?_
    refine g_iconst_0 C dX11_near_71 ?_
    refine g_istore C (i := 11) [(0, .ref (o 0)), (1, .int v1), (2, .int v2), (3, .int v3), (4, .int v4), (5, .int v5), (6, .int v6), (7, .int r1), (8, .long (-1)), (10, .int 0), (11, .int 0)] dX11_near_72 (by decide) rfl ?_
    obtain ⟨n, h⟩ := h
    exact g_weak [0, 3, 6, 8, 9, 10] rfl (Nat.le_refl _) (Nat.le_refl _) (wX11_near_gl74  C  n v3 v6 (-1) 0 0 I16 J17 R18 h)
  · replace h := h.2 c2
    refine g_aload_n C (i := 0) dX11_near_20 rfl rfl ?_
    refine g_iload C (i := 7) dX11_near_21 rfl ?_
    refine x_callV C (wX11_k_refuse r1 I J R L S _ h) sX11_73 rcv_main (rl_ok (by decide) (by decide)) rfl (Nat.le_of_ble_eq_true rfl) (st := []) _ rfl dX11_near_23 (px_i (fun r19 I20 J21 R22 h => ?_))
    exact g_ret_i C dX11_near_26 (Nat.le_refl _) (Nat.le_refl _) ⟨_, _, _, _, rfl, rfl, h⟩
theorem wX11_k_near {D : gD} {ca : Nat → ClassId} {o : Nat → Nat} {L : List Nat} {S : gS} (v1 : Int32) (v2 : Int32) (v3 : Int32) (v4 : Int32) (v5 : Int32) (v6 : Int32) (I : gI) (J : gJ) (R : gR) (L0 : List Nat) (S0 : gS) (Q : Int32 → gI → gJ → gR → Prop) (h : wX11_near v1 v2 v3 v4 v5 v6 I J R L S Q) : Ct yX11_near cX11_near 14 (some .int) (rl 5) D (tyW ca) 0 0 [.ref (o 0), .int v1, .int v2, .int v3, .int v4, .int v5, .int v6] (cX ca o I J R L S) (PXi ca o L S Q) := ct_of (rm := (rl 5)) (by decide +kernel) (Nat.le_of_ble_eq_true rfl) (fun Γ C => wX11_near_g v1 v2 v3 v4 v5 v6 C h)
theorem sX11_272 : gSite RX11 yX1_wentOnceAlongAll cX1_wentOnceAlongAll 6 (some .boolean) 272 1 := gSite.of (tb_in (List.mem_of_getElem? (i := 952) (by decide +kernel)) (by decide +kernel)) (tb_in (List.mem_of_getElem? (i := 953) (by decide +kernel)) (by decide +kernel)) (tb_in (List.mem_of_getElem? (i := 954) (by decide +kernel)) (by decide +kernel)) (tb_in (List.mem_of_getElem? (i := 84) (by decide +kernel)) (by decide +kernel)) (tb_in (List.mem_of_getElem? (i := 955) (by decide +kernel)) (by decide +kernel)) (by decide +kernel)
set_option maxRecDepth 100000 in
theorem wX11_four_gb99 {Γ : gT} {D : gD} {ca : Nat → ClassId} {o : Nat → Nat} {Q : Int32 → gI → gJ → gR → Prop} {L : List Nat} {S : gS} (C : Cx Γ cX11_four RX11 6 D (tyW ca) (rl 5) (some .int) 0 0 (PXi ca o L S Q)) {B99 : Int32 → gI → gJ → gR → Prop} (hB99 : ∀ (v4 : Int32) (I : gI) (J : gJ) (R : gR), B99 v4 I J R → G Γ 0 0 99 [(0, .ref (o 0)), (4, .int v4)] [] (cX ca o I J R L S)) (v4 : Int32) (I : gI) (J : gJ) (R : gR) (h : wX11_four_b99 L S B99 v4 I J R Q) : G Γ 0 0 99 [(0, .ref (o 0)), (4, .int v4)] [] (cX ca o I J R L S) := by
  unfold wX11_four_b99 at h
  refine g_iload C (i := 4) dX11_four_99 rfl ?_
  refine g_bipush C (v := 30) dX11_four_101 (by decide) ?_
  refine g_icmp_ge C 126 dX11_four_103 rfl (fun c1 => ?_) (fun c1 => ?_)
  · replace h := h.1 c1
    refine g_iload C (i := 4) dX11_four_126 rfl ?_
    exact g_ret_i C dX11_four_128 (Nat.le_refl _) (Nat.le_refl _) ⟨_, _, _, _, rfl, rfl, h⟩
  · replace h := h.2 c1
    refine g_aload_n C (i := 0) dX11_four_106 rfl rfl ?_
    refine x_get_X11_54 C dX11_four_107 ?_
    refine g_iload C (i := 4) dX11_four_110 rfl ?_
    refine g_iconst_1 C dX11_four_112 ?_
    refine g_iadd C dX11_four_113 ?_
    refine x_callV C (wX1_k_wentOnceAlongAll (by decide) (v4 + 1) I J R L S _ h) sX11_272 (rcv_bug (b := 0) (by decide)) (rl_ok (by decide) (by decide)) rfl (Nat.le_of_ble_eq_true rfl) (st := []) _ rfl dX11_four_114 (py_z (fun r2 h => ?_))
    refine g_zeq C 126 dX11_four_117 rfl (fun c3 => ?_) (fun c3 => ?_)
    · replace h := h.1 c3
      refine g_iload C (i := 4) dX11_four_126 rfl ?_
      exact g_ret_i C dX11_four_128 (Nat.le_refl _) (Nat.le_refl _) ⟨_, _, _, _, rfl, rfl, h⟩
    · replace h := h.2 c3
      refine g_iinc C 1 [(0, .ref (o 0)), (4, .int (v4 + 1))] dX11_four_120 rfl (by decide) (by decide) rfl ?_
      refine g_goto C 99 dX11_four_123 rfl ?_
      exact g_weak [0, 1] rfl (Nat.le_refl _) (Nat.le_refl _) (hB99 (v4 + 1) I J R h)
theorem wX11_four_gl99 {Γ : gT} {D : gD} {ca : Nat → ClassId} {o : Nat → Nat} {Q : Int32 → gI → gJ → gR → Prop} {L : List Nat} {S : gS} (C : Cx Γ cX11_four RX11 6 D (tyW ca) (rl 5) (some .int) 0 0 (PXi ca o L S Q)) : ∀ (n : Nat) (v4 : Int32) (I : gI) (J : gJ) (R : gR) (_ : wX11_four_l99 L S Q n v4 I J R), G Γ 0 0 99 [(0, .ref (o 0)), (4, .int v4)] [] (cX ca o I J R L S) := by
  intro n
  induction n with
  | zero => intro v4 I J R h; exact h.elim
  | succ n ih => intro v4 I J R h; exact wX11_four_gb99 C ih v4 I J R h
set_option maxRecDepth 100000 in
theorem wX11_four_gb56 {Γ : gT} {D : gD} {ca : Nat → ClassId} {o : Nat → Nat} {Q : Int32 → gI → gJ → gR → Prop} {L : List Nat} {S : gS} (C : Cx Γ cX11_four RX11 6 D (tyW ca) (rl 5) (some .int) 0 0 (PXi ca o L S Q)) {B30 : Int32 → Int32 → Int32 → gI → gJ → gR → Prop} (hB30 : ∀ (v1 : Int32) (v2 : Int32) (v4 : Int32) (I : gI) (J : gJ) (R : gR), B30 v1 v2 v4 I J R → G Γ 0 0 30 [(0, .ref (o 0)), (1, .int v1), (2, .int v2), (4, .int v4)] [] (cX ca o I J R L S)) {B56 : Int32 → Int32 → Int32 → Int32 → gI → gJ → gR → Prop} (hB56 : ∀ (v1 : Int32) (v2 : Int32) (v4 : Int32) (v5 : Int32) (I : gI) (J : gJ) (R : gR), B56 v1 v2 v4 v5 I J R → G Γ 0 0 56 [(0, .ref (o 0)), (1, .int v1), (2, .int v2), (4, .int v4), (5, .int v5)] [] (cX ca o I J R L S)) (v1 : Int32) (v2 : Int32) (v4 : Int32) (v5 : Int32) (I : gI) (J : gJ) (R : gR) (h : wX11_four_b56 L S B30 B56 v1 v2 v4 v5 I J R Q) : G Γ 0 0 56 [(0, .ref (o 0)), (1, .int v1), (2, .int v2), (4, .int v4), (5, .int v5)] [] (cX ca o I J R L S) := by
  unfold wX11_four_b56 at h
  refine g_iload C (i := 5) dX11_four_56 rfl ?_
  refine g_iload_n C (i := 2) dX11_four_58 rfl rfl ?_
  refine g_icmp_ge C 90 dX11_four_59 rfl (fun c1 => ?_) (fun c1 => ?_)
  · replace h := h.1 c1
    refine g_iinc C 1 [(0, .ref (o 0)), (1, .int v1), (2, .int v2), (4, .int (v4 + 1)), (5, .int v5)] dX11_four_90 rfl (by decide) (by decide) rfl ?_
    refine g_goto C 30 dX11_four_93 rfl ?_
    exact g_weak [0, 1, 2, 3] rfl (Nat.le_refl _) (Nat.le_refl _) (hB30 v1 v2 (v4 + 1) I J R h)
  · replace h := h.2 c1
    refine g_aload_n C (i := 0) dX11_four_62 rfl rfl ?_
    refine x_get_X11_54 C dX11_four_63 ?_
    refine x_callV C (wX1_k_step (by decide) I J R L S _ h) sX11_232 (rcv_bug (b := 0) (by decide)) (rl_ok (by decide) (by decide)) rfl (Nat.le_of_ble_eq_true rfl) (st := []) _ rfl dX11_four_66 (px_v (fun I3 J4 R5 h => ?_))
    refine g_aload_n C (i := 0) dX11_four_69 rfl rfl ?_
    refine x_get_X11_54 C dX11_four_70 ?_
    refine g_aload_n C (i := 0) dX11_four_73 rfl rfl ?_
    refine x_get_X11_54 C dX11_four_74 ?_
    refine x_callV C (wX1_k_sideKey (by decide) I3 J4 R5 L S _ h) sX11_250 (rcv_bug (b := 0) (by decide)) (rl_ok (by decide) (by decide)) rfl (Nat.le_of_ble_eq_true rfl) (st := [.ref (o 10)]) _ rfl dX11_four_77 (py_i (fun r6 h => ?_))
    refine x_callV C (wX1_k_note (by decide) r6 I3 J4 R5 L S _ h) sX11_242 (rcv_bug (b := 0) (by decide)) (rl_ok (by decide) (by decide)) rfl (Nat.le_of_ble_eq_true rfl) (st := []) _ rfl dX11_four_80 (px_i (fun r7 I8 J9 R10 h => ?_))
    refine g_pop C dX11_four_83 rfl ?_
    refine g_iinc C 1 [(0, .ref (o 0)), (1, .int v1), (2, .int v2), (4, .int v4), (5, .int (v5 + 1))] dX11_four_84 rfl (by decide) (by decide) rfl ?_
    refine g_goto C 56 dX11_four_87 rfl ?_
    exact g_weak [0, 1, 2, 3, 4] rfl (Nat.le_refl _) (Nat.le_refl _) (hB56 v1 v2 v4 (v5 + 1) I8 J9 R10 h)
theorem wX11_four_gl56 {Γ : gT} {D : gD} {ca : Nat → ClassId} {o : Nat → Nat} {Q : Int32 → gI → gJ → gR → Prop} {L : List Nat} {S : gS} (C : Cx Γ cX11_four RX11 6 D (tyW ca) (rl 5) (some .int) 0 0 (PXi ca o L S Q)) {B30 : Int32 → Int32 → Int32 → gI → gJ → gR → Prop} (hB30 : ∀ (v1 : Int32) (v2 : Int32) (v4 : Int32) (I : gI) (J : gJ) (R : gR), B30 v1 v2 v4 I J R → G Γ 0 0 30 [(0, .ref (o 0)), (1, .int v1), (2, .int v2), (4, .int v4)] [] (cX ca o I J R L S)) : ∀ (n : Nat) (v1 : Int32) (v2 : Int32) (v4 : Int32) (v5 : Int32) (I : gI) (J : gJ) (R : gR) (_ : wX11_four_l56 L S B30 Q n v1 v2 v4 v5 I J R), G Γ 0 0 56 [(0, .ref (o 0)), (1, .int v1), (2, .int v2), (4, .int v4), (5, .int v5)] [] (cX ca o I J R L S) := by
  intro n
  induction n with
  | zero => intro v1 v2 v4 v5 I J R h; exact h.elim
  | succ n ih => intro v1 v2 v4 v5 I J R h; exact wX11_four_gb56 C hB30 ih v1 v2 v4 v5 I J R h
set_option maxRecDepth 100000 in
theorem wX11_four_gb30 {Γ : gT} {D : gD} {ca : Nat → ClassId} {o : Nat → Nat} {Q : Int32 → gI → gJ → gR → Prop} {L : List Nat} {S : gS} (C : Cx Γ cX11_four RX11 6 D (tyW ca) (rl 5) (some .int) 0 0 (PXi ca o L S Q)) {B30 : Int32 → Int32 → Int32 → gI → gJ → gR → Prop} (hB30 : ∀ (v1 : Int32) (v2 : Int32) (v4 : Int32) (I : gI) (J : gJ) (R : gR), B30 v1 v2 v4 I J R → G Γ 0 0 30 [(0, .ref (o 0)), (1, .int v1), (2, .int v2), (4, .int v4)] [] (cX ca o I J R L S)) (v1 : Int32) (v2 : Int32) (v4 : Int32) (I : gI) (J : gJ) (R : gR) (h : wX11_four_b30 L S B30 v1 v2 v4 I J R Q) : G Γ 0 0 30 [(0, .ref (o 0)), (1, .int v1), (2, .int v2), (4, .int v4)] [] (cX ca o I J R L S) := by
  unfold wX11_four_b30 at h
  refine g_iload C (i := 4) dX11_four_30 rfl ?_
  refine g_iconst_4 C dX11_four_32 ?_
  refine g_icmp_ge C 96 dX11_four_33 rfl (fun c1 => ?_) (fun c1 => ?_)
  · replace h := h.1 c1
    refine g_iconst_0 C dX11_four_96 ?_
    refine g_istore C (i := 4) [(0, .ref (o 0)), (1, .int v1), (2, .int v2), (4, .int 0)] dX11_four_97 (by decide) rfl ?_
    obtain ⟨n, h⟩ := h
    exact g_weak [0, 3] rfl (Nat.le_refl _) (Nat.le_refl _) (wX11_four_gl99  C  n 0 I J R h)
  · replace h := h.2 c1
    refine g_aload_n C (i := 0) dX11_four_36 rfl rfl ?_
    refine x_get_X11_54 C dX11_four_37 ?_
    refine g_aload_n C (i := 0) dX11_four_40 rfl rfl ?_
    refine x_get_X11_11 C dX11_four_41 ?_
    refine g_iload_n C (i := 1) dX11_four_44 rfl rfl ?_
    obtain ⟨h2, h⟩ := h
    refine x_aald C (k := 0) (by decide) h2 dX11_four_45 ?_
    refine g_lconst_0 C dX11_four_46 ?_
    refine g_lconst_0 C dX11_four_47 ?_
    refine g_iload C (i := 4) dX11_four_48 rfl ?_
    obtain ⟨z3, h4, h5, h⟩ := h
    refine g_eqs (st' := [.int v4, .long 0, .long 0, .ref z3, .ref (o 10)]) (by rw [h4]; rfl) rfl ?_
    refine x_callV C (wX1_k_setOut (by decide) h5 0 0 v4 I J R L S _ h) sX11_225 (rcv_bug (b := 0) (by decide)) (rl_ok (by decide) (by decide)) rfl (Nat.le_of_ble_eq_true rfl) (st := []) _ rfl dX11_four_50 (px_v (fun I7 J8 R9 h => ?_))
    refine g_iconst_0 C dX11_four_53 ?_
    refine g_istore C (i := 5) [(0, .ref (o 0)), (1, .int v1), (2, .int v2), (4, .int v4), (5, .int 0)] dX11_four_54 (by decide) rfl ?_
    obtain ⟨n, h⟩ := h
    exact g_weak [0, 1, 2, 3, 4] rfl (Nat.le_refl _) (Nat.le_refl _) (wX11_four_gl56  C hB30 n v1 v2 v4 0 I7 J8 R9 h)
theorem wX11_four_gl30 {Γ : gT} {D : gD} {ca : Nat → ClassId} {o : Nat → Nat} {Q : Int32 → gI → gJ → gR → Prop} {L : List Nat} {S : gS} (C : Cx Γ cX11_four RX11 6 D (tyW ca) (rl 5) (some .int) 0 0 (PXi ca o L S Q)) : ∀ (n : Nat) (v1 : Int32) (v2 : Int32) (v4 : Int32) (I : gI) (J : gJ) (R : gR) (_ : wX11_four_l30 L S Q n v1 v2 v4 I J R), G Γ 0 0 30 [(0, .ref (o 0)), (1, .int v1), (2, .int v2), (4, .int v4)] [] (cX ca o I J R L S) := by
  intro n
  induction n with
  | zero => intro v1 v2 v4 I J R h; exact h.elim
  | succ n ih => intro v1 v2 v4 I J R h; exact wX11_four_gb30 C ih v1 v2 v4 I J R h
set_option maxRecDepth 100000 in
theorem wX11_four_g {Γ : gT} {D : gD} {ca : Nat → ClassId} {o : Nat → Nat} {I : gI} {J : gJ} {R : gR} {L : List Nat} {S : gS} {Q : Int32 → gI → gJ → gR → Prop} (v1 : Int32) (v2 : Int32) (C : Cx Γ cX11_four RX11 6 D (tyW ca) (rl 5) (some .int) 0 0 (PXi ca o L S Q)) (h : wX11_four v1 v2 I J R L S Q) : G Γ 0 0 0 [(0, .ref (o 0)), (1, .int v1), (2, .int v2)] [] (cX ca o I J R L S) := by
  unfold wX11_four at h
  refine g_aload_n C (i := 0) dX11_four_0 rfl rfl ?_
  refine g_iload_n C (i := 1) dX11_four_1 rfl rfl ?_
  refine g_iload_n C (i := 2) dX11_four_2 rfl rfl ?_
  refine g_sipush C (v := 1000) dX11_four_3 (by decide) ?_
  refine x_callV C (wX11_k_noWalk v1 v2 1000 I J R L S _ h) sX11_221 rcv_main (rl_ok (by decide) (by decide)) rfl (Nat.le_of_ble_eq_true rfl) (st := []) _ rfl dX11_four_6 (py_i (fun r1 h => ?_))
  refine g_istore_n C (i := 3) [(0, .ref (o 0)), (1, .int v1), (2, .int v2), (3, .int r1)] dX11_four_9 rfl (by decide) rfl ?_
  refine g_iload_n C (i := 3) dX11_four_10 rfl rfl ?_
  refine g_if_eq C 20 dX11_four_11 rfl (fun c2 => ?_) (fun c2 => ?_)
  · replace h := h.1 c2
    refine g_aload_n C (i := 0) dX11_four_20 rfl rfl ?_
    refine x_get_X11_54 C dX11_four_21 ?_
    refine x_callV C (wX1_k_forget (by decide) I J R L S _ h) sX11_235 (rcv_bug (b := 0) (by decide)) (rl_ok (by decide) (by decide)) rfl (Nat.le_of_ble_eq_true rfl) (st := []) _ rfl dX11_four_24 (px_v (fun I4 J5 R6 h => ?_))
    refine g_iconst_0 C dX11_four_27 ?_
    refine g_istore C (i := 4) [(0, .ref (o 0)), (1, .int v1), (2, .int v2), (3, .int r1), (4, .int 0)] dX11_four_28 (by decide) rfl ?_
    obtain ⟨n, h⟩ := h
    exact g_weak [0, 1, 2, 4] rfl (Nat.le_refl _) (Nat.le_refl _) (wX11_four_gl30  C  n v1 v2 0 I4 J5 R6 h)
  · replace h := h.2 c2
    refine g_aload_n C (i := 0) dX11_four_14 rfl rfl ?_
    refine g_iload_n C (i := 3) dX11_four_15 rfl rfl ?_
    refine x_callV C (wX11_k_refuse r1 I J R L S _ h) sX11_73 rcv_main (rl_ok (by decide) (by decide)) rfl (Nat.le_of_ble_eq_true rfl) (st := []) _ rfl dX11_four_16 (px_i (fun r7 I8 J9 R10 h => ?_))
    exact g_ret_i C dX11_four_19 (Nat.le_refl _) (Nat.le_refl _) ⟨_, _, _, _, rfl, rfl, h⟩
theorem wX11_k_four {D : gD} {ca : Nat → ClassId} {o : Nat → Nat} {L : List Nat} {S : gS} (v1 : Int32) (v2 : Int32) (I : gI) (J : gJ) (R : gR) (L0 : List Nat) (S0 : gS) (Q : Int32 → gI → gJ → gR → Prop) (h : wX11_four v1 v2 I J R L S Q) : Ct yX11_four cX11_four 6 (some .int) (rl 5) D (tyW ca) 0 0 [.ref (o 0), .int v1, .int v2] (cX ca o I J R L S) (PXi ca o L S Q) := ct_of (rm := (rl 5)) (by decide +kernel) (Nat.le_of_ble_eq_true rfl) (fun Γ C => wX11_four_g v1 v2 C h)
theorem sX11_306 : gSiteS RX11 yX11_standsFrom cX11_standsFrom 5 (some .boolean) 306 4 := gSiteS.of (tb_in (List.mem_of_getElem? (i := 1018) (by decide +kernel)) (by decide +kernel)) (tb_in (List.mem_of_getElem? (i := 1019) (by decide +kernel)) (by decide +kernel)) (tb_in (List.mem_of_getElem? (i := 78) (by decide +kernel)) (by decide +kernel)) (tb_in (List.mem_of_getElem? (i := 1020) (by decide +kernel)) (by decide +kernel)) (by decide +kernel)
set_option maxRecDepth 100000 in
theorem wX11_piece_gb100 {Γ : gT} {D : gD} {ca : Nat → ClassId} {o : Nat → Nat} {Q : Int32 → gI → gJ → gR → Prop} {L : List Nat} {S : gS} (C : Cx Γ cX11_piece RX11 9 D (tyW ca) (rl 5) (some .int) 0 0 (PXi ca o L S Q)) {B100 : Int32 → Int32 → Int32 → Int32 → Int32 → Int32 → Int32 → gI → gJ → gR → Prop} (hB100 : ∀ (v1 : Int32) (v2 : Int32) (v3 : Int32) (v4 : Int32) (v6 : Int32) (v7 : Int32) (v8 : Int32) (I : gI) (J : gJ) (R : gR), B100 v1 v2 v3 v4 v6 v7 v8 I J R → G Γ 0 0 100 [(0, .ref (o 0)), (1, .int v1), (2, .int v2), (3, .int v3), (4, .int v4), (6, .int v6), (7, .int v7), (8, .int v8)] [] (cX ca o I J R L S)) (v1 : Int32) (v2 : Int32) (v3 : Int32) (v4 : Int32) (v6 : Int32) (v7 : Int32) (v8 : Int32) (I : gI) (J : gJ) (R : gR) (h : wX11_piece_b100 L S B100 v1 v2 v3 v4 v6 v7 v8 I J R Q) : G Γ 0 0 100 [(0, .ref (o 0)), (1, .int v1), (2, .int v2), (3, .int v3), (4, .int v4), (6, .int v6), (7, .int v7), (8, .int v8)] [] (cX ca o I J R L S) := by
  unfold wX11_piece_b100 at h
  refine g_iload C (i := 8) dX11_piece_100 rfl ?_
  refine g_iload C (i := 6) dX11_piece_102 rfl ?_
  refine g_icmp_gt C 146 dX11_piece_104 rfl (fun c1 => ?_) (fun c1 => ?_)
  · replace h := h.1 c1
    refine g_iload C (i := 4) dX11_piece_146 rfl ?_
    refine g_if_ne C 156 dX11_piece_148 rfl (fun c2 => ?_) (fun c2 => ?_)
    · replace h := h.1 c2
      refine g_aload_n C (i := 0) dX11_piece_156 rfl rfl ?_
      refine g_bipush C (v := (-5)) dX11_piece_157 (by decide) ?_
      refine x_callV C (wX11_k_refuse (-5) I J R L S _ h) sX11_73 rcv_main (rl_ok (by decide) (by decide)) rfl (Nat.le_of_ble_eq_true rfl) (st := []) _ rfl dX11_piece_159 (px_i (fun r3 I4 J5 R6 h => ?_))
      exact g_ret_i C dX11_piece_162 (Nat.le_refl _) (Nat.le_refl _) ⟨_, _, _, _, rfl, rfl, h⟩
    · replace h := h.2 c2
      refine g_iload C (i := 7) dX11_piece_151 rfl ?_
      refine g_goto C 162 dX11_piece_153 rfl ?_
      exact g_ret_i C dX11_piece_162 (Nat.le_refl _) (Nat.le_refl _) ⟨_, _, _, _, rfl, rfl, h⟩
  · replace h := h.2 c1
    refine g_aload_n C (i := 0) dX11_piece_107 rfl rfl ?_
    refine x_get_X11_11 C dX11_piece_108 ?_
    refine g_iload_n C (i := 1) dX11_piece_111 rfl rfl ?_
    obtain ⟨h7, h⟩ := h
    refine x_aald C (k := 0) (by decide) h7 dX11_piece_112 ?_
    refine g_aload_n C (i := 0) dX11_piece_113 rfl rfl ?_
    refine x_get_X11_24 C dX11_piece_114 ?_
    refine g_iload_n C (i := 2) dX11_piece_117 rfl rfl ?_
    obtain ⟨h8, h⟩ := h
    refine x_shelf C h8 dX11_piece_118 ?_
    refine g_iload_n C (i := 3) dX11_piece_119 rfl rfl ?_
    refine g_iload C (i := 8) dX11_piece_120 rfl ?_
    obtain ⟨z9, h10, h11, h⟩ := h
    refine g_eqs (st' := [.int v8, .int v3, .ref (o (20 + v2.toNatClampNeg)), .ref z9]) (by rw [h10]; rfl) rfl ?_
    refine x_callS C (wX11_k_standsFrom h11 (vp_lt h8) v3 v8 I J R L S _ h) sX11_306 (rl_ok (by decide) (by decide)) rfl (Nat.le_of_ble_eq_true rfl) (st := []) _ rfl dX11_piece_122 (py_z (fun r12 h => ?_))
    refine g_zeq C 140 dX11_piece_125 rfl (fun c13 => ?_) (fun c13 => ?_)
    · replace h := h.1 c13
      refine g_iinc C 1 [(0, .ref (o 0)), (1, .int v1), (2, .int v2), (3, .int v3), (4, .int v4), (6, .int v6), (7, .int v7), (8, .int (v8 + 1))] dX11_piece_140 rfl (by decide) (by decide) rfl ?_
      refine g_goto C 100 dX11_piece_143 rfl ?_
      exact g_weak [0, 1, 2, 3, 4, 5, 6, 7] rfl (Nat.le_refl _) (Nat.le_refl _) (hB100 v1 v2 v3 v4 v6 v7 (v8 + 1) I J R h)
    · replace h := h.2 c13
      refine g_iload C (i := 4) dX11_piece_128 rfl ?_
      refine g_iconst_1 C dX11_piece_130 ?_
      refine g_icmp_ne C 137 dX11_piece_131 rfl (fun c14 => ?_) (fun c14 => ?_)
      · replace h := h.1 c14
        refine g_iinc C 1 [(0, .ref (o 0)), (1, .int v1), (2, .int v2), (3, .int v3), (4, .int v4), (6, .int v6), (7, .int (v7 + 1)), (8, .int v8)] dX11_piece_137 rfl (by decide) (by decide) rfl ?_
        refine g_iinc C 1 [(0, .ref (o 0)), (1, .int v1), (2, .int v2), (3, .int v3), (4, .int v4), (6, .int v6), (7, .int (v7 + 1)), (8, .int (v8 + 1))] dX11_piece_140 rfl (by decide) (by decide) rfl ?_
        refine g_goto C 100 dX11_piece_143 rfl ?_
        exact g_weak [0, 1, 2, 3, 4, 5, 6, 7] rfl (Nat.le_refl _) (Nat.le_refl _) (hB100 v1 v2 v3 v4 v6 (v7 + 1) (v8 + 1) I J R h)
      · replace h := h.2 c14
        refine g_iload C (i := 8) dX11_piece_134 rfl ?_
        exact g_ret_i C dX11_piece_136 (Nat.le_refl _) (Nat.le_refl _) ⟨_, _, _, _, rfl, rfl, h⟩
theorem wX11_piece_gl100 {Γ : gT} {D : gD} {ca : Nat → ClassId} {o : Nat → Nat} {Q : Int32 → gI → gJ → gR → Prop} {L : List Nat} {S : gS} (C : Cx Γ cX11_piece RX11 9 D (tyW ca) (rl 5) (some .int) 0 0 (PXi ca o L S Q)) : ∀ (n : Nat) (v1 : Int32) (v2 : Int32) (v3 : Int32) (v4 : Int32) (v6 : Int32) (v7 : Int32) (v8 : Int32) (I : gI) (J : gJ) (R : gR) (_ : wX11_piece_l100 L S Q n v1 v2 v3 v4 v6 v7 v8 I J R), G Γ 0 0 100 [(0, .ref (o 0)), (1, .int v1), (2, .int v2), (3, .int v3), (4, .int v4), (6, .int v6), (7, .int v7), (8, .int v8)] [] (cX ca o I J R L S) := by
  intro n
  induction n with
  | zero => intro v1 v2 v3 v4 v6 v7 v8 I J R h; exact h.elim
  | succ n ih => intro v1 v2 v3 v4 v6 v7 v8 I J R h; exact wX11_piece_gb100 C ih v1 v2 v3 v4 v6 v7 v8 I J R h
set_option maxRecDepth 100000 in
theorem wX11_piece_gc60 {Γ : gT} {D : gD} {ca : Nat → ClassId} {o : Nat → Nat} {Q : Int32 → gI → gJ → gR → Prop} {L : List Nat} {S : gS} (C : Cx Γ cX11_piece RX11 9 D (tyW ca) (rl 5) (some .int) 0 0 (PXi ca o L S Q)) (v1 : Int32) (v2 : Int32) (v3 : Int32) (v4 : Int32) (v5 : Int32) (I : gI) (J : gJ) (R : gR) (h : wX11_piece_c60 L S v1 v2 v3 v4 v5 I J R Q) : G Γ 0 0 60 [(0, .ref (o 0)), (1, .int v1), (2, .int v2), (3, .int v3), (4, .int v4), (5, .int v5)] [] (cX ca o I J R L S) := by
  unfold wX11_piece_c60 at h
  refine g_iload C (i := 5) dX11_piece_60 rfl ?_
  refine g_if_eq C 72 dX11_piece_62 rfl (fun c1 => ?_) (fun c1 => ?_)
  · replace h := h.1 c1
    refine g_ldc2 C (v := 4000) (tb_in (List.mem_of_getElem? (i := 928) (by decide +kernel)) (by decide +kernel)) dX11_piece_72 ?_
    refine g_aload_n C (i := 0) dX11_piece_75 rfl rfl ?_
    refine x_get_X11_11 C dX11_piece_76 ?_
    refine g_iload_n C (i := 1) dX11_piece_79 rfl rfl ?_
    obtain ⟨h2, h⟩ := h
    refine x_aald C (k := 0) (by decide) h2 dX11_piece_80 ?_
    obtain ⟨z3, h4, h5, h⟩ := h
    refine g_eqs (st' := [.ref z3, .long 4000]) (by rw [h4]; rfl) rfl ?_
    refine xv_X11_141 C h5 I J R L S _ h (fun l m h1 h2 => rl_ok (by omega) h2) (Nat.le_of_ble_eq_true rfl) (st := [.long 4000]) _ rfl dX11_piece_81 (fun r6 h => ?_)
    refine x_mlmin C mlmin_X11_255 dX11_piece_84 (by decide) (by exact Nat.le_of_ble_eq_true rfl) (by decide) (by decide) ?_
    refine g_l2i C dX11_piece_87 ?_
    refine g_iload_n C (i := 3) dX11_piece_88 rfl rfl ?_
    refine g_isub C dX11_piece_89 ?_
    refine g_iconst_1 C dX11_piece_90 ?_
    refine g_iadd C dX11_piece_91 ?_
    refine g_istore C (i := 6) [(0, .ref (o 0)), (1, .int v1), (2, .int v2), (3, .int v3), (4, .int v4), (5, .int v5), (6, .int ((((if r6 < 4000 then r6 else 4000).toInt32) - v3) + 1))] dX11_piece_92 (by decide) rfl ?_
    refine g_iconst_0 C dX11_piece_94 ?_
    refine g_istore C (i := 7) [(0, .ref (o 0)), (1, .int v1), (2, .int v2), (3, .int v3), (4, .int v4), (5, .int v5), (6, .int ((((if r6 < 4000 then r6 else 4000).toInt32) - v3) + 1)), (7, .int 0)] dX11_piece_95 (by decide) rfl ?_
    refine g_iconst_1 C dX11_piece_97 ?_
    refine g_istore C (i := 8) [(0, .ref (o 0)), (1, .int v1), (2, .int v2), (3, .int v3), (4, .int v4), (5, .int v5), (6, .int ((((if r6 < 4000 then r6 else 4000).toInt32) - v3) + 1)), (7, .int 0), (8, .int 1)] dX11_piece_98 (by decide) rfl ?_
    obtain ⟨n, h⟩ := h
    exact g_weak [0, 1, 2, 3, 4, 6, 7, 8] rfl (Nat.le_refl _) (Nat.le_refl _) (wX11_piece_gl100  C  n v1 v2 v3 v4 ((((if r6 < 4000 then r6 else 4000).toInt32) - v3) + 1) 0 1 I J R h)
  · replace h := h.2 c1
    refine g_aload_n C (i := 0) dX11_piece_65 rfl rfl ?_
    refine g_iload C (i := 5) dX11_piece_66 rfl ?_
    refine x_callV C (wX11_k_refuse v5 I J R L S _ h) sX11_73 rcv_main (rl_ok (by decide) (by decide)) rfl (Nat.le_of_ble_eq_true rfl) (st := []) _ rfl dX11_piece_68 (px_i (fun r7 I8 J9 R10 h => ?_))
    exact g_ret_i C dX11_piece_71 (Nat.le_refl _) (Nat.le_refl _) ⟨_, _, _, _, rfl, rfl, h⟩
set_option maxRecDepth 100000 in
theorem wX11_piece_gc56 {Γ : gT} {D : gD} {ca : Nat → ClassId} {o : Nat → Nat} {Q : Int32 → gI → gJ → gR → Prop} {L : List Nat} {S : gS} (C : Cx Γ cX11_piece RX11 9 D (tyW ca) (rl 5) (some .int) 0 0 (PXi ca o L S Q)) (v1 : Int32) (v2 : Int32) (v3 : Int32) (v4 : Int32) (I : gI) (J : gJ) (R : gR) (h : wX11_piece_c56 L S v1 v2 v3 v4 I J R Q) : G Γ 0 0 56 [(0, .ref (o 0)), (1, .int v1), (2, .int v2), (3, .int v3), (4, .int v4)] [] (cX ca o I J R L S) := by
  unfold wX11_piece_c56 at h
  refine g_bipush C (v := (-6)) dX11_piece_56 (by decide) ?_
  refine g_istore C (i := 5) [(0, .ref (o 0)), (1, .int v1), (2, .int v2), (3, .int v3), (4, .int v4), (5, .int (-6))] dX11_piece_58 (by decide) rfl ?_
  exact g_weak [0, 1, 2, 3, 4, 5] rfl (Nat.le_refl _) (Nat.le_refl _) (wX11_piece_gc60  C  v1 v2 v3 v4 (-6) I J R h)
set_option maxRecDepth 100000 in
theorem wX11_piece_gc40 {Γ : gT} {D : gD} {ca : Nat → ClassId} {o : Nat → Nat} {Q : Int32 → gI → gJ → gR → Prop} {L : List Nat} {S : gS} (C : Cx Γ cX11_piece RX11 9 D (tyW ca) (rl 5) (some .int) 0 0 (PXi ca o L S Q)) (v1 : Int32) (v2 : Int32) (v3 : Int32) (v4 : Int32) (v5 : Int32) (I : gI) (J : gJ) (R : gR) (h : wX11_piece_c40 L S v1 v2 v3 v4 v5 I J R Q) : G Γ 0 0 40 [(0, .ref (o 0)), (1, .int v1), (2, .int v2), (3, .int v3), (4, .int v4), (5, .int v5)] [] (cX ca o I J R L S) := by
  unfold wX11_piece_c40 at h
  refine g_iload C (i := 5) dX11_piece_40 rfl ?_
  refine g_if_ne C 60 dX11_piece_42 rfl (fun c1 => ?_) (fun c1 => ?_)
  · replace h := h.1 c1
    exact g_weak [0, 1, 2, 3, 4, 5] rfl (Nat.le_refl _) (Nat.le_refl _) (wX11_piece_gc60  C  v1 v2 v3 v4 v5 I J R h)
  · replace h := h.2 c1
    refine g_iload_n C (i := 3) dX11_piece_45 rfl rfl ?_
    refine g_iconst_1 C dX11_piece_46 ?_
    refine g_icmp_lt C 56 dX11_piece_47 rfl (fun c2 => ?_) (fun c2 => ?_)
    · replace h := h.1 c2
      exact g_weak [0, 1, 2, 3, 4] rfl (Nat.le_refl _) (Nat.le_refl _) (wX11_piece_gc56  C  v1 v2 v3 v4 I J R h)
    · replace h := h.2 c2
      refine g_iload_n C (i := 3) dX11_piece_50 rfl rfl ?_
      refine g_bipush C (v := 40) dX11_piece_51 (by decide) ?_
      refine g_icmp_le C 60 dX11_piece_53 rfl (fun c3 => ?_) (fun c3 => ?_)
      · replace h := h.1 c3
        exact g_weak [0, 1, 2, 3, 4, 5] rfl (Nat.le_refl _) (Nat.le_refl _) (wX11_piece_gc60  C  v1 v2 v3 v4 v5 I J R h)
      · replace h := h.2 c3
        exact g_weak [0, 1, 2, 3, 4] rfl (Nat.le_refl _) (Nat.le_refl _) (wX11_piece_gc56  C  v1 v2 v3 v4 I J R h)
set_option maxRecDepth 100000 in
theorem wX11_piece_gc18 {Γ : gT} {D : gD} {ca : Nat → ClassId} {o : Nat → Nat} {Q : Int32 → gI → gJ → gR → Prop} {L : List Nat} {S : gS} (C : Cx Γ cX11_piece RX11 9 D (tyW ca) (rl 5) (some .int) 0 0 (PXi ca o L S Q)) (v1 : Int32) (v2 : Int32) (v3 : Int32) (v4 : Int32) (s0 : Int32) (I : gI) (J : gJ) (R : gR) (h : wX11_piece_c18 L S v1 v2 v3 v4 s0 I J R Q) : G Γ 0 0 18 [(0, .ref (o 0)), (1, .int v1), (2, .int v2), (3, .int v3), (4, .int v4)] [.int s0] (cX ca o I J R L S) := by
  unfold wX11_piece_c18 at h
  refine g_istore C (i := 5) [(0, .ref (o 0)), (1, .int v1), (2, .int v2), (3, .int v3), (4, .int v4), (5, .int s0)] dX11_piece_18 (by decide) rfl ?_
  refine g_iload C (i := 5) dX11_piece_20 rfl ?_
  refine g_if_ne C 40 dX11_piece_22 rfl (fun c1 => ?_) (fun c1 => ?_)
  · replace h := h.1 c1
    exact g_weak [0, 1, 2, 3, 4, 5] rfl (Nat.le_refl _) (Nat.le_refl _) (wX11_piece_gc40  C  v1 v2 v3 v4 s0 I J R h)
  · replace h := h.2 c1
    refine g_iload C (i := 4) dX11_piece_25 rfl ?_
    refine g_if_eq C 40 dX11_piece_27 rfl (fun c2 => ?_) (fun c2 => ?_)
    · replace h := h.1 c2
      exact g_weak [0, 1, 2, 3, 4, 5] rfl (Nat.le_refl _) (Nat.le_refl _) (wX11_piece_gc40  C  v1 v2 v3 v4 s0 I J R h)
    · replace h := h.2 c2
      refine g_iload C (i := 4) dX11_piece_30 rfl ?_
      refine g_iconst_1 C dX11_piece_32 ?_
      refine g_icmp_eq C 40 dX11_piece_33 rfl (fun c3 => ?_) (fun c3 => ?_)
      · replace h := h.1 c3
        exact g_weak [0, 1, 2, 3, 4, 5] rfl (Nat.le_refl _) (Nat.le_refl _) (wX11_piece_gc40  C  v1 v2 v3 v4 s0 I J R h)
      · replace h := h.2 c3
        refine g_bipush C (v := (-5)) dX11_piece_36 (by decide) ?_
        refine g_istore C (i := 5) [(0, .ref (o 0)), (1, .int v1), (2, .int v2), (3, .int v3), (4, .int v4), (5, .int (-5))] dX11_piece_38 (by decide) rfl ?_
        exact g_weak [0, 1, 2, 3, 4, 5] rfl (Nat.le_refl _) (Nat.le_refl _) (wX11_piece_gc40  C  v1 v2 v3 v4 (-5) I J R h)
set_option maxRecDepth 100000 in
theorem wX11_piece_g {Γ : gT} {D : gD} {ca : Nat → ClassId} {o : Nat → Nat} {I : gI} {J : gJ} {R : gR} {L : List Nat} {S : gS} {Q : Int32 → gI → gJ → gR → Prop} (v1 : Int32) (v2 : Int32) (v3 : Int32) (v4 : Int32) (C : Cx Γ cX11_piece RX11 9 D (tyW ca) (rl 5) (some .int) 0 0 (PXi ca o L S Q)) (h : wX11_piece v1 v2 v3 v4 I J R L S Q) : G Γ 0 0 0 [(0, .ref (o 0)), (1, .int v1), (2, .int v2), (3, .int v3), (4, .int v4)] [] (cX ca o I J R L S) := by
  unfold wX11_piece at h
  refine g_aload_n C (i := 0) dX11_piece_0 rfl rfl ?_
  refine g_iload_n C (i := 1) dX11_piece_1 rfl rfl ?_
  refine x_callV C (wX11_k_isStrip v1 I J R L S _ h) sX11_118 rcv_main (rl_ok (by decide) (by decide)) rfl (Nat.le_of_ble_eq_true rfl) (st := []) _ rfl dX11_piece_2 (py_z (fun r1 h => ?_))
  refine g_zeq C 17 dX11_piece_5 rfl (fun c2 => ?_) (fun c2 => ?_)
  · replace h := h.1 c2
    refine g_iconst_m1 C dX11_piece_17 ?_
    exact g_weak [0, 1, 2, 3, 4] rfl (Nat.le_refl _) (Nat.le_refl _) (wX11_piece_gc18  C  v1 v2 v3 v4 (-1) I J R h)
  · replace h := h.2 c2
    refine g_aload_n C (i := 0) dX11_piece_8 rfl rfl ?_
    refine g_iload_n C (i := 2) dX11_piece_9 rfl rfl ?_
    refine g_iload_n C (i := 3) dX11_piece_10 rfl rfl ?_
    refine x_callV C (wX11_k_noFirstElements v2 v3 I J R L S _ h) sX11_171 rcv_main (rl_ok (by decide) (by decide)) rfl (Nat.le_of_ble_eq_true rfl) (st := []) _ rfl dX11_piece_11 (py_i (fun r3 h => ?_))
    refine g_goto C 18 dX11_piece_14 rfl ?_
    exact g_weak [0, 1, 2, 3, 4] rfl (Nat.le_refl _) (Nat.le_refl _) (wX11_piece_gc18  C  v1 v2 v3 v4 r3 I J R h)
theorem wX11_k_piece {D : gD} {ca : Nat → ClassId} {o : Nat → Nat} {L : List Nat} {S : gS} (v1 : Int32) (v2 : Int32) (v3 : Int32) (v4 : Int32) (I : gI) (J : gJ) (R : gR) (L0 : List Nat) (S0 : gS) (Q : Int32 → gI → gJ → gR → Prop) (h : wX11_piece v1 v2 v3 v4 I J R L S Q) : Ct yX11_piece cX11_piece 9 (some .int) (rl 5) D (tyW ca) 0 0 [.ref (o 0), .int v1, .int v2, .int v3, .int v4] (cX ca o I J R L S) (PXi ca o L S Q) := ct_of (rm := (rl 5)) (by decide +kernel) (Nat.le_of_ble_eq_true rfl) (fun Γ C => wX11_piece_g v1 v2 v3 v4 C h)
theorem sX0_19_4 : gSiteU RX0 "FoldedInHalf$Back" "FoldedInHalf$Cut" ⟨"FoldedInHalf$Back", "creaseCount", "()J"⟩ yX2_creaseCount cX2_creaseCount 1 (some .long) 19 0 := gSiteU.inh (tb_in (List.mem_of_getElem? (i := 760) (by decide +kernel)) (by decide +kernel)) (tb_in (List.mem_of_getElem? (i := 761) (by decide +kernel)) (by decide +kernel)) (tb_in (List.mem_of_getElem? (i := 763) (by decide +kernel)) (by decide +kernel)) (tb_in (List.mem_of_getElem? (i := 398) (by decide +kernel)) (by decide +kernel)) (tb_in (List.mem_of_getElem? (i := 93) (by decide +kernel)) (by decide +kernel)) (tb_in (List.mem_of_getElem? (i := 399) (by decide +kernel)) (by decide +kernel)) rfl (by decide +kernel)
theorem sX0_22 : gSiteP RX0 yX2_wayBehind cX2_wayBehind 3 (some .int) 22 1 := gSiteP.of (tb_in (List.mem_of_getElem? (i := 764) (by decide +kernel)) (by decide +kernel)) (tb_in (List.mem_of_getElem? (i := 1848) (by decide +kernel)) (by decide +kernel)) (tb_in (List.mem_of_getElem? (i := 440) (by decide +kernel)) (by decide +kernel)) (tb_in (List.mem_of_getElem? (i := 765) (by decide +kernel)) (by decide +kernel)) (tb_in (List.mem_of_getElem? (i := 93) (by decide +kernel)) (by decide +kernel)) (tb_in (List.mem_of_getElem? (i := 766) (by decide +kernel)) (by decide +kernel)) (by decide +kernel)
set_option maxRecDepth 100000 in
theorem wX0_wayBehind_g {Γ : gT} {D : gD} {ca : Nat → ClassId} {o : Nat → Nat} {I : gI} {J : gJ} {R : gR} {L : List Nat} {S : gS} {Q : Int32 → Prop} {q0 : Nat} (hq0 : q0 ∈ L) (hc0 : sC (S q0) = 4) (v1 : Int64) (C : Cx Γ cX0_wayBehind RX0 3 D (tyW ca) (rl 5) (some .int) 0 0 (PYi ca o I J R L S Q)) (h : wX0_wayBehind q0 v1 I J R L S Q) : G Γ 0 0 0 [(0, .ref q0), (1, .long v1)] [] (cX ca o I J R L S) := by
  unfold wX0_wayBehind at h
  refine g_aload_n C (i := 0) dX0_wayBehind_0 rfl rfl ?_
  refine g_aload_n C (i := 0) dX0_wayBehind_1 rfl rfl ?_
  refine x_callU C (wX2_k_creaseCount hq0 (Or.inr hc0) I J R L S _ h) sX0_19_4 (rcv_4 hq0 hc0) (rl_ok (by decide) (by decide)) rfl (Nat.le_of_ble_eq_true rfl) (st := [.ref q0]) _ rfl dX0_wayBehind_2 (py_l (fun r1 h => ?_))
  refine g_lload_n C (i := 1) dX0_wayBehind_5 rfl rfl ?_
  refine g_lsub C dX0_wayBehind_6 ?_
  refine x_callP C (wX2_k_wayBehind hq0 (Or.inr hc0) (r1 - v1) I J R L S _ h) sX0_22 (rcv_any hq0) (rl_ok (by decide) (by decide)) rfl (Nat.le_of_ble_eq_true rfl) (st := []) _ rfl dX0_wayBehind_7 (py_i (fun r2 h => ?_))
  refine g_aload_n C (i := 0) dX0_wayBehind_10 rfl rfl ?_
  refine g_aload_n C (i := 0) dX0_wayBehind_11 rfl rfl ?_
  refine x_callU C (wX2_k_creaseCount hq0 (Or.inr hc0) I J R L S _ h) sX0_19_4 (rcv_4 hq0 hc0) (rl_ok (by decide) (by decide)) rfl (Nat.le_of_ble_eq_true rfl) (st := [.ref q0, .int r2]) _ rfl dX0_wayBehind_12 (py_l (fun r3 h => ?_))
  refine x_callP C (wX2_k_wayBehind hq0 (Or.inr hc0) r3 I J R L S _ h) sX0_22 (rcv_any hq0) (rl_ok (by decide) (by decide)) rfl (Nat.le_of_ble_eq_true rfl) (st := [.int r2]) _ rfl dX0_wayBehind_15 (py_i (fun r4 h => ?_))
  refine g_isub C dX0_wayBehind_18 ?_
  refine g_iconst_3 C dX0_wayBehind_19 ?_
  refine g_iand C dX0_wayBehind_20 ?_
  exact g_ret_i C dX0_wayBehind_21 (Nat.le_refl _) (Nat.le_refl _) ⟨_, rfl, rfl, h⟩
theorem wX0_k_wayBehind {D : gD} {ca : Nat → ClassId} {o : Nat → Nat} {L : List Nat} {S : gS} {q0 : Nat} (hq0 : q0 ∈ L) (hc0 : sC (S q0) = 4) (v1 : Int64) (I : gI) (J : gJ) (R : gR) (L0 : List Nat) (S0 : gS) (Q : Int32 → Prop) (h : wX0_wayBehind q0 v1 I J R L S Q) : Ct yX0_wayBehind cX0_wayBehind 3 (some .int) (rl 5) D (tyW ca) 0 0 [.ref q0, .long v1] (cX ca o I J R L S) (PYi ca o I J R L S Q) := ct_of (rm := (rl 5)) (by decide +kernel) (Nat.le_of_ble_eq_true rfl) (fun Γ C => wX0_wayBehind_g hq0 hc0 v1 C h)
theorem sX0_25 : gSiteP RX0 yX2_lead cX2_lead 8 none 25 2 := gSiteP.of (tb_in (List.mem_of_getElem? (i := 814) (by decide +kernel)) (by decide +kernel)) (tb_in (List.mem_of_getElem? (i := 1857) (by decide +kernel)) (by decide +kernel)) (tb_in (List.mem_of_getElem? (i := 440) (by decide +kernel)) (by decide +kernel)) (tb_in (List.mem_of_getElem? (i := 815) (by decide +kernel)) (by decide +kernel)) (tb_in (List.mem_of_getElem? (i := 93) (by decide +kernel)) (by decide +kernel)) (tb_in (List.mem_of_getElem? (i := 816) (by decide +kernel)) (by decide +kernel)) (by decide +kernel)
theorem sX0_38 : gSite RX0 yX1_standAt cX1_standAt 5 none 38 2 := gSite.of (tb_in (List.mem_of_getElem? (i := 827) (by decide +kernel)) (by decide +kernel)) (tb_in (List.mem_of_getElem? (i := 819) (by decide +kernel)) (by decide +kernel)) (tb_in (List.mem_of_getElem? (i := 820) (by decide +kernel)) (by decide +kernel)) (tb_in (List.mem_of_getElem? (i := 84) (by decide +kernel)) (by decide +kernel)) (tb_in (List.mem_of_getElem? (i := 821) (by decide +kernel)) (by decide +kernel)) (by decide +kernel)
theorem sX0_42 : gSite RX0 yX1_turnRound cX1_turnRound 3 none 42 1 := gSite.of (tb_in (List.mem_of_getElem? (i := 828) (by decide +kernel)) (by decide +kernel)) (tb_in (List.mem_of_getElem? (i := 823) (by decide +kernel)) (by decide +kernel)) (tb_in (List.mem_of_getElem? (i := 824) (by decide +kernel)) (by decide +kernel)) (tb_in (List.mem_of_getElem? (i := 84) (by decide +kernel)) (by decide +kernel)) (tb_in (List.mem_of_getElem? (i := 825) (by decide +kernel)) (by decide +kernel)) (by decide +kernel)
set_option maxRecDepth 100000 in
theorem wX0_lead_g {Γ : gT} {D : gD} {ca : Nat → ClassId} {o : Nat → Nat} {I : gI} {J : gJ} {R : gR} {L : List Nat} {S : gS} {Q : gI → gJ → gR → Prop} {q0 : Nat} (hq0 : q0 ∈ L) (hc0 : sC (S q0) = 4) {n1 : Nat} (hn1 : n1 < 2) (v2 : Int64) (C : Cx Γ cX0_lead RX0 8 D (tyW ca) (rl 5) none 0 0 (PXv ca o L S Q)) (h : wX0_lead q0 n1 v2 I J R L S Q) : G Γ 0 0 0 [(0, .ref q0), (1, .ref (o (10 + n1))), (2, .long v2)] [] (cX ca o I J R L S) := by
  unfold wX0_lead at h
  refine g_aload_n C (i := 0) dX0_lead_0 rfl rfl ?_
  refine g_aload_n C (i := 1) dX0_lead_1 rfl rfl ?_
  refine g_aload_n C (i := 0) dX0_lead_2 rfl rfl ?_
  refine x_callU C (wX9_k_sides hq0 I J R L S _ h) sX0_9_4 (rcv_4 hq0 hc0) (rl_ok (by decide) (by decide)) rfl (Nat.le_of_ble_eq_true rfl) (st := [.ref (o (10 + n1)), .ref q0]) _ rfl dX0_lead_3 (py_l (fun r1 h => ?_))
  refine x_callP C (wX2_k_lead hq0 (Or.inr hc0) hn1 r1 I J R L S _ h) sX0_25 (rcv_any hq0) (rl_ok (by decide) (by decide)) rfl (Nat.le_of_ble_eq_true rfl) (st := []) _ rfl dX0_lead_6 (px_v (fun I3 J4 R5 h => ?_))
  refine g_aload_n C (i := 1) dX0_lead_9 rfl rfl ?_
  refine x_get_X0_29 C (b := n1) hn1 dX0_lead_10 ?_
  refine g_lstore C (i := 4) [(0, .ref q0), (1, .ref (o (10 + n1))), (2, .long v2), (4, .long (J4 1 n1))] dX0_lead_13 (by decide) rfl ?_
  refine g_aload_n C (i := 1) dX0_lead_15 rfl rfl ?_
  refine x_get_X0_35 C (b := n1) hn1 dX0_lead_16 ?_
  refine g_lstore C (i := 6) [(0, .ref q0), (1, .ref (o (10 + n1))), (2, .long v2), (4, .long (J4 1 n1)), (6, .long (J4 2 n1))] dX0_lead_19 (by decide) rfl ?_
  refine g_aload_n C (i := 0) dX0_lead_21 rfl rfl ?_
  refine g_aload_n C (i := 1) dX0_lead_22 rfl rfl ?_
  refine g_aload_n C (i := 0) dX0_lead_23 rfl rfl ?_
  refine x_callU C (wX9_k_sides hq0 I3 J4 R5 L S _ h) sX0_9_4 (rcv_4 hq0 hc0) (rl_ok (by decide) (by decide)) rfl (Nat.le_of_ble_eq_true rfl) (st := [.ref (o (10 + n1)), .ref q0]) _ rfl dX0_lead_24 (py_l (fun r6 h => ?_))
  refine g_lload_n C (i := 2) dX0_lead_27 rfl rfl ?_
  refine g_lsub C dX0_lead_28 ?_
  refine x_callP C (wX2_k_lead hq0 (Or.inr hc0) hn1 (r6 - v2) I3 J4 R5 L S _ h) sX0_25 (rcv_any hq0) (rl_ok (by decide) (by decide)) rfl (Nat.le_of_ble_eq_true rfl) (st := []) _ rfl dX0_lead_29 (px_v (fun I8 J9 R10 h => ?_))
  refine g_aload_n C (i := 1) dX0_lead_32 rfl rfl ?_
  refine g_aload_n C (i := 1) dX0_lead_33 rfl rfl ?_
  refine x_get_X0_29 C (b := n1) hn1 dX0_lead_34 ?_
  refine g_lload C (i := 4) dX0_lead_37 rfl ?_
  refine g_lsub C dX0_lead_39 ?_
  refine g_aload_n C (i := 1) dX0_lead_40 rfl rfl ?_
  refine x_get_X0_35 C (b := n1) hn1 dX0_lead_41 ?_
  refine g_lload C (i := 6) dX0_lead_44 rfl ?_
  refine g_lsub C dX0_lead_46 ?_
  refine x_callV C (wX1_k_standAt hn1 ((J9 1 n1) - (J4 1 n1)) ((J9 2 n1) - (J4 2 n1)) I8 J9 R10 L S _ h) sX0_38 (rcv_bug (b := n1) hn1) (rl_ok (by decide) (by decide)) rfl (Nat.le_of_ble_eq_true rfl) (st := []) _ rfl dX0_lead_47 (px_v (fun I12 J13 R14 h => ?_))
  refine g_aload_n C (i := 1) dX0_lead_50 rfl rfl ?_
  refine g_iconst_2 C dX0_lead_51 ?_
  refine g_aload_n C (i := 0) dX0_lead_52 rfl rfl ?_
  refine g_aload_n C (i := 0) dX0_lead_53 rfl rfl ?_
  refine x_callU C (wX2_k_creaseCount hq0 (Or.inr hc0) I12 J13 R14 L S _ h) sX0_19_4 (rcv_4 hq0 hc0) (rl_ok (by decide) (by decide)) rfl (Nat.le_of_ble_eq_true rfl) (st := [.ref q0, .int 2, .ref (o (10 + n1))]) _ rfl dX0_lead_54 (py_l (fun r15 h => ?_))
  refine x_callP C (wX2_k_wayBehind hq0 (Or.inr hc0) r15 I12 J13 R14 L S _ h) sX0_22 (rcv_any hq0) (rl_ok (by decide) (by decide)) rfl (Nat.le_of_ble_eq_true rfl) (st := [.int 2, .ref (o (10 + n1))]) _ rfl dX0_lead_57 (py_i (fun r16 h => ?_))
  refine g_isub C dX0_lead_60 ?_
  refine x_callV C (wX1_k_turnRound hn1 (2 - r16) I12 J13 R14 L S _ h) sX0_42 (rcv_bug (b := n1) hn1) (rl_ok (by decide) (by decide)) rfl (Nat.le_of_ble_eq_true rfl) (st := []) _ rfl dX0_lead_61 (px_v (fun I18 J19 R20 h => ?_))
  exact g_ret_v C dX0_lead_64 (Nat.le_refl _) (Nat.le_refl _) ⟨_, _, _, rfl, rfl, h⟩
theorem wX0_k_lead {D : gD} {ca : Nat → ClassId} {o : Nat → Nat} {L : List Nat} {S : gS} {q0 : Nat} (hq0 : q0 ∈ L) (hc0 : sC (S q0) = 4) {n1 : Nat} (hn1 : n1 < 2) (v2 : Int64) (I : gI) (J : gJ) (R : gR) (L0 : List Nat) (S0 : gS) (Q : gI → gJ → gR → Prop) (h : wX0_lead q0 n1 v2 I J R L S Q) : Ct yX0_lead cX0_lead 8 none (rl 5) D (tyW ca) 0 0 [.ref q0, .ref (o (10 + n1)), .long v2] (cX ca o I J R L S) (PXv ca o L S Q) := ct_of (rm := (rl 5)) (by decide +kernel) (Nat.le_of_ble_eq_true rfl) (fun Γ C => wX0_lead_g hq0 hc0 hn1 v2 C h)
theorem sX5_21 : gSite RX5 yX1_setOut cX1_setOut 7 none 21 4 := gSite.of (tb_in (List.mem_of_getElem? (i := 834) (by decide +kernel)) (by decide +kernel)) (tb_in (List.mem_of_getElem? (i := 835) (by decide +kernel)) (by decide +kernel)) (tb_in (List.mem_of_getElem? (i := 836) (by decide +kernel)) (by decide +kernel)) (tb_in (List.mem_of_getElem? (i := 84) (by decide +kernel)) (by decide +kernel)) (tb_in (List.mem_of_getElem? (i := 837) (by decide +kernel)) (by decide +kernel)) (by decide +kernel)
theorem sX5_29 : gSite RX5 yX1_step cX1_step 1 none 29 0 := gSite.of (tb_in (List.mem_of_getElem? (i := 839) (by decide +kernel)) (by decide +kernel)) (tb_in (List.mem_of_getElem? (i := 840) (by decide +kernel)) (by decide +kernel)) (tb_in (List.mem_of_getElem? (i := 841) (by decide +kernel)) (by decide +kernel)) (tb_in (List.mem_of_getElem? (i := 84) (by decide +kernel)) (by decide +kernel)) (tb_in (List.mem_of_getElem? (i := 842) (by decide +kernel)) (by decide +kernel)) (by decide +kernel)
set_option maxRecDepth 100000 in
theorem wX5_lead_gb11 {Γ : gT} {D : gD} {ca : Nat → ClassId} {o : Nat → Nat} {Q : gI → gJ → gR → Prop} {L : List Nat} {S : gS} {q0 : Nat} (hq0 : q0 ∈ L) (hc0 : sC (S q0) = 6) {n1 : Nat} (hn1 : n1 < 2) (C : Cx Γ cX5_lead RX5 5 D (tyW ca) (rl 5) none 0 0 (PXv ca o L S Q)) {B11 : Int64 → Int32 → gI → gJ → gR → Prop} (hB11 : ∀ (v2 : Int64) (v4 : Int32) (I : gI) (J : gJ) (R : gR), B11 v2 v4 I J R → G Γ 0 0 11 [(1, .ref (o (10 + n1))), (2, .long v2), (4, .int v4)] [] (cX ca o I J R L S)) (v2 : Int64) (v4 : Int32) (I : gI) (J : gJ) (R : gR) (h : wX5_lead_b11 q0 n1 L S B11 v2 v4 I J R Q) : G Γ 0 0 11 [(1, .ref (o (10 + n1))), (2, .long v2), (4, .int v4)] [] (cX ca o I J R L S) := by
  unfold wX5_lead_b11 at h
  refine g_iload C (i := 4) dX5_lead_11 rfl ?_
  refine g_i2l C dX5_lead_13 ?_
  refine g_lload_n C (i := 2) dX5_lead_14 rfl rfl ?_
  refine g_ldc2 C (v := 16) (tb_in (List.mem_of_getElem? (i := 838) (by decide +kernel)) (by decide +kernel)) dX5_lead_15 ?_
  refine g_lrem C dX5_lead_18 (by decide) ?_
  refine g_lge C 33 dX5_lead_19 dX5_lead_20 rfl (fun c1 => ?_) (fun c1 => ?_)
  · replace h := h.1 c1
    exact g_ret_v C dX5_lead_33 (Nat.le_refl _) (Nat.le_refl _) ⟨_, _, _, rfl, rfl, h⟩
  · replace h := h.2 c1
    refine g_aload_n C (i := 1) dX5_lead_23 rfl rfl ?_
    refine x_callV C (wX1_k_step hn1 I J R L S _ h) sX5_29 (rcv_bug (b := n1) hn1) (rl_ok (by decide) (by decide)) rfl (Nat.le_of_ble_eq_true rfl) (st := []) _ rfl dX5_lead_24 (px_v (fun I3 J4 R5 h => ?_))
    refine g_iinc C 1 [(1, .ref (o (10 + n1))), (2, .long v2), (4, .int (v4 + 1))] dX5_lead_27 rfl (by decide) (by decide) rfl ?_
    refine g_goto C 11 dX5_lead_30 rfl ?_
    exact g_weak [0, 1, 2] rfl (Nat.le_refl _) (Nat.le_refl _) (hB11 v2 (v4 + 1) I3 J4 R5 h)
theorem wX5_lead_gl11 {Γ : gT} {D : gD} {ca : Nat → ClassId} {o : Nat → Nat} {Q : gI → gJ → gR → Prop} {L : List Nat} {S : gS} {q0 : Nat} (hq0 : q0 ∈ L) (hc0 : sC (S q0) = 6) {n1 : Nat} (hn1 : n1 < 2) (C : Cx Γ cX5_lead RX5 5 D (tyW ca) (rl 5) none 0 0 (PXv ca o L S Q)) : ∀ (n : Nat) (v2 : Int64) (v4 : Int32) (I : gI) (J : gJ) (R : gR) (_ : wX5_lead_l11 q0 n1 L S Q n v2 v4 I J R), G Γ 0 0 11 [(1, .ref (o (10 + n1))), (2, .long v2), (4, .int v4)] [] (cX ca o I J R L S) := by
  intro n
  induction n with
  | zero => intro v2 v4 I J R h; exact h.elim
  | succ n ih => intro v2 v4 I J R h; exact wX5_lead_gb11 hq0 hc0 hn1 C ih v2 v4 I J R h
set_option maxRecDepth 100000 in
theorem wX5_lead_g {Γ : gT} {D : gD} {ca : Nat → ClassId} {o : Nat → Nat} {I : gI} {J : gJ} {R : gR} {L : List Nat} {S : gS} {Q : gI → gJ → gR → Prop} {q0 : Nat} (hq0 : q0 ∈ L) (hc0 : sC (S q0) = 6) {n1 : Nat} (hn1 : n1 < 2) (v2 : Int64) (C : Cx Γ cX5_lead RX5 5 D (tyW ca) (rl 5) none 0 0 (PXv ca o L S Q)) (h : wX5_lead q0 n1 v2 I J R L S Q) : G Γ 0 0 0 [(0, .ref q0), (1, .ref (o (10 + n1))), (2, .long v2)] [] (cX ca o I J R L S) := by
  unfold wX5_lead at h
  refine g_aload_n C (i := 1) dX5_lead_0 rfl rfl ?_
  refine g_aload_n C (i := 0) dX5_lead_1 rfl rfl ?_
  refine g_lconst_0 C dX5_lead_2 ?_
  refine g_lconst_0 C dX5_lead_3 ?_
  refine g_iconst_0 C dX5_lead_4 ?_
  refine x_callV C (wX1_k_setOut hn1 hq0 0 0 0 I J R L S _ h) sX5_21 (rcv_bug (b := n1) hn1) (rl_ok (by decide) (by decide)) rfl (Nat.le_of_ble_eq_true rfl) (st := []) _ rfl dX5_lead_5 (px_v (fun I2 J3 R4 h => ?_))
  refine g_iconst_0 C dX5_lead_8 ?_
  refine g_istore C (i := 4) [(0, .ref q0), (1, .ref (o (10 + n1))), (2, .long v2), (4, .int 0)] dX5_lead_9 (by decide) rfl ?_
  obtain ⟨n, h⟩ := h
  exact g_weak [1, 2, 3] rfl (Nat.le_refl _) (Nat.le_refl _) (wX5_lead_gl11 hq0 hc0 hn1 C  n v2 0 I2 J3 R4 h)
theorem wX5_k_lead {D : gD} {ca : Nat → ClassId} {o : Nat → Nat} {L : List Nat} {S : gS} {q0 : Nat} (hq0 : q0 ∈ L) (hc0 : sC (S q0) = 6) {n1 : Nat} (hn1 : n1 < 2) (v2 : Int64) (I : gI) (J : gJ) (R : gR) (L0 : List Nat) (S0 : gS) (Q : gI → gJ → gR → Prop) (h : wX5_lead q0 n1 v2 I J R L S Q) : Ct yX5_lead cX5_lead 5 none (rl 5) D (tyW ca) 0 0 [.ref q0, .ref (o (10 + n1)), .long v2] (cX ca o I J R L S) (PXv ca o L S Q) := ct_of (rm := (rl 5)) (by decide +kernel) (Nat.le_of_ble_eq_true rfl) (fun Γ C => wX5_lead_g hq0 hc0 hn1 v2 C h)
theorem sX9_90_1 : gSiteU RX9 "FoldedInHalf$Same" "FoldedInHalf$Strip" ⟨"FoldedInHalf$Strip", "folds", "(Ljava/lang/StringBuilder;I)I"⟩ yX7_folds cX7_folds 3 (some .int) 90 2 := gSiteU.ovr (b0 := cX9_folds) (m0 := 3) (r0 := (some .int)) (tb_in (List.mem_of_getElem? (i := 1229) (by decide +kernel)) (by decide +kernel)) (tb_in (List.mem_of_getElem? (i := 1147) (by decide +kernel)) (by decide +kernel)) (tb_in (List.mem_of_getElem? (i := 1145) (by decide +kernel)) (by decide +kernel)) (tb_in (List.mem_of_getElem? (i := 1197) (by decide +kernel)) (by decide +kernel)) (tb_in (List.mem_of_getElem? (i := 1198) (by decide +kernel)) (by decide +kernel)) (tb_in (List.mem_of_getElem? (i := 91) (by decide +kernel)) (by decide +kernel)) (tb_in (List.mem_of_getElem? (i := 1199) (by decide +kernel)) (by decide +kernel)) (tb_in (List.mem_of_getElem? (i := 1203) (by decide +kernel)) (by decide +kernel)) (by decide +kernel)
theorem sX9_90_2 : gSiteU RX9 "FoldedInHalf$Third" "FoldedInHalf$Strip" ⟨"FoldedInHalf$Strip", "folds", "(Ljava/lang/StringBuilder;I)I"⟩ yX9_folds cX9_folds 3 (some .int) 90 2 := gSiteU.inh (tb_in (List.mem_of_getElem? (i := 1229) (by decide +kernel)) (by decide +kernel)) (tb_in (List.mem_of_getElem? (i := 1147) (by decide +kernel)) (by decide +kernel)) (tb_in (List.mem_of_getElem? (i := 1202) (by decide +kernel)) (by decide +kernel)) (tb_in (List.mem_of_getElem? (i := 1145) (by decide +kernel)) (by decide +kernel)) (tb_in (List.mem_of_getElem? (i := 90) (by decide +kernel)) (by decide +kernel)) (tb_in (List.mem_of_getElem? (i := 1203) (by decide +kernel)) (by decide +kernel)) rfl (by decide +kernel)
theorem sX9_90_3 : gSiteU RX9 "FoldedInHalf$Cut" "FoldedInHalf$Strip" ⟨"FoldedInHalf$Strip", "folds", "(Ljava/lang/StringBuilder;I)I"⟩ yX9_folds cX9_folds 3 (some .int) 90 2 := gSiteU.inh (tb_in (List.mem_of_getElem? (i := 1229) (by decide +kernel)) (by decide +kernel)) (tb_in (List.mem_of_getElem? (i := 1147) (by decide +kernel)) (by decide +kernel)) (tb_in (List.mem_of_getElem? (i := 1189) (by decide +kernel)) (by decide +kernel)) (tb_in (List.mem_of_getElem? (i := 1145) (by decide +kernel)) (by decide +kernel)) (tb_in (List.mem_of_getElem? (i := 90) (by decide +kernel)) (by decide +kernel)) (tb_in (List.mem_of_getElem? (i := 1203) (by decide +kernel)) (by decide +kernel)) rfl (by decide +kernel)
theorem sX9_90_4 : gSiteU RX9 "FoldedInHalf$Back" "FoldedInHalf$Strip" ⟨"FoldedInHalf$Strip", "folds", "(Ljava/lang/StringBuilder;I)I"⟩ yX0_folds cX0_folds 3 (some .int) 90 2 := gSiteU.ovr (b0 := cX9_folds) (m0 := 3) (r0 := (some .int)) (tb_in (List.mem_of_getElem? (i := 1229) (by decide +kernel)) (by decide +kernel)) (tb_in (List.mem_of_getElem? (i := 1147) (by decide +kernel)) (by decide +kernel)) (tb_in (List.mem_of_getElem? (i := 1145) (by decide +kernel)) (by decide +kernel)) (tb_in (List.mem_of_getElem? (i := 1148) (by decide +kernel)) (by decide +kernel)) (tb_in (List.mem_of_getElem? (i := 1149) (by decide +kernel)) (by decide +kernel)) (tb_in (List.mem_of_getElem? (i := 94) (by decide +kernel)) (by decide +kernel)) (tb_in (List.mem_of_getElem? (i := 1150) (by decide +kernel)) (by decide +kernel)) (tb_in (List.mem_of_getElem? (i := 1203) (by decide +kernel)) (by decide +kernel)) (by decide +kernel)
theorem sX9_90_5 : gSiteU RX9 "FoldedInHalf$Glass" "FoldedInHalf$Strip" ⟨"FoldedInHalf$Strip", "folds", "(Ljava/lang/StringBuilder;I)I"⟩ yX9_folds cX9_folds 3 (some .int) 90 2 := gSiteU.inh (tb_in (List.mem_of_getElem? (i := 1229) (by decide +kernel)) (by decide +kernel)) (tb_in (List.mem_of_getElem? (i := 1147) (by decide +kernel)) (by decide +kernel)) (tb_in (List.mem_of_getElem? (i := 1190) (by decide +kernel)) (by decide +kernel)) (tb_in (List.mem_of_getElem? (i := 1145) (by decide +kernel)) (by decide +kernel)) (tb_in (List.mem_of_getElem? (i := 90) (by decide +kernel)) (by decide +kernel)) (tb_in (List.mem_of_getElem? (i := 1203) (by decide +kernel)) (by decide +kernel)) rfl (by decide +kernel)
theorem sX9_90_6 : gSiteU RX9 "FoldedInHalf$Left" "FoldedInHalf$Strip" ⟨"FoldedInHalf$Strip", "folds", "(Ljava/lang/StringBuilder;I)I"⟩ yX5_folds cX5_folds 3 (some .int) 90 2 := gSiteU.ovr (b0 := cX9_folds) (m0 := 3) (r0 := (some .int)) (tb_in (List.mem_of_getElem? (i := 1229) (by decide +kernel)) (by decide +kernel)) (tb_in (List.mem_of_getElem? (i := 1147) (by decide +kernel)) (by decide +kernel)) (tb_in (List.mem_of_getElem? (i := 1145) (by decide +kernel)) (by decide +kernel)) (tb_in (List.mem_of_getElem? (i := 1191) (by decide +kernel)) (by decide +kernel)) (tb_in (List.mem_of_getElem? (i := 1192) (by decide +kernel)) (by decide +kernel)) (tb_in (List.mem_of_getElem? (i := 96) (by decide +kernel)) (by decide +kernel)) (tb_in (List.mem_of_getElem? (i := 1193) (by decide +kernel)) (by decide +kernel)) (tb_in (List.mem_of_getElem? (i := 1203) (by decide +kernel)) (by decide +kernel)) (by decide +kernel)
theorem sX9_90_0 : gSite RX9 yX9_folds cX9_folds 3 (some .int) 90 2 := gSite.of (tb_in (List.mem_of_getElem? (i := 1229) (by decide +kernel)) (by decide +kernel)) (tb_in (List.mem_of_getElem? (i := 1145) (by decide +kernel)) (by decide +kernel)) (tb_in (List.mem_of_getElem? (i := 1146) (by decide +kernel)) (by decide +kernel)) (tb_in (List.mem_of_getElem? (i := 90) (by decide +kernel)) (by decide +kernel)) (tb_in (List.mem_of_getElem? (i := 1203) (by decide +kernel)) (by decide +kernel)) (by decide +kernel)
theorem xv_X9_90 {Γ : gT} {cc : ByteArray} {nL : Nat} {D : gD} {ca : Nat → ClassId} {rm : Room} {ret : Option FieldType} {mc ms : Nat} {Post : Option Value → va_W → Prop} {cn sn pc : Nat} {lv : List (Nat × Value)} {st : List Value} {o : Nat → Nat} {L : List Nat} {S : gS} (C0 : Cx Γ cc RX9 nL D (tyW ca) rm ret mc ms Post) {q0 : Nat} (hq0 : q0 ∈ L) (v2 : Int32) (I : gI) (J : gJ) (R : gR) (L0 : List Nat) (S0 : gS) (Q : Int32 → gI → gJ → gR → Prop) (h : wv_folds q0 v2 I J R L S Q) (hroom : ∀ l maxL : Nat, l ≤ 4 → maxL ≤ 81 → gRm (rl l) rm maxL 0 0 cn sn) (hst : (st.map fun v => v.category).sum ≤ 8) (st0 : List Value) (hs0 : st0 = ([.ref (o 1), .int v2] : List Value).reverse ++ .ref q0 :: st) (hd : decode cc pc = .ok (.invokevirtual 90, 3)) (k : ∀ (r : Int32) (I1 : gI) (J1 : gJ) (R1 : gR), Q r I1 J1 R1 → G Γ cn sn (pc + 3) lv (.int r :: st) (cX ca o I1 J1 R1 L S)) : G Γ cn sn pc lv st0 (cX ca o I J R L S) := by
  unfold wv_folds at h
  by_cases h1 : sC (S q0) = 1
  · exact x_callU C0 (wX7_k_folds hq0 h1  v2 I J R L S Q (h.1 h1)) sX9_90_1 (rcv_1 hq0 h1) (hroom _ _ (by decide) (by decide)) rfl hst st0 hs0 hd (px_i k)
  replace h := h.2 h1
  by_cases h2 : sC (S q0) = 2
  · exact x_callU C0 (wX9_k_folds hq0  v2 I J R L S Q (h.1 h2)) sX9_90_2 (rcv_2 hq0 h2) (hroom _ _ (by decide) (by decide)) rfl hst st0 hs0 hd (px_i k)
  replace h := h.2 h2
  by_cases h3 : sC (S q0) = 3
  · exact x_callU C0 (wX9_k_folds hq0  v2 I J R L S Q (h.1 h3)) sX9_90_3 (rcv_3 hq0 h3) (hroom _ _ (by decide) (by decide)) rfl hst st0 hs0 hd (px_i k)
  replace h := h.2 h3
  by_cases h4 : sC (S q0) = 4
  · exact x_callU C0 (wX0_k_folds hq0 h4  v2 I J R L S Q (h.1 h4)) sX9_90_4 (rcv_4 hq0 h4) (hroom _ _ (by decide) (by decide)) rfl hst st0 hs0 hd (px_i k)
  replace h := h.2 h4
  by_cases h5 : sC (S q0) = 5
  · exact x_callU C0 (wX9_k_folds hq0  v2 I J R L S Q (h.1 h5)) sX9_90_5 (rcv_5 hq0 h5) (hroom _ _ (by decide) (by decide)) rfl hst st0 hs0 hd (px_i k)
  replace h := h.2 h5
  by_cases h6 : sC (S q0) = 6
  · exact x_callU C0 (wX5_k_folds hq0 h6  v2 I J R L S Q (h.1 h6)) sX9_90_6 (rcv_6 hq0 h6) (hroom _ _ (by decide) (by decide)) rfl hst st0 hs0 hd (px_i k)
  replace h := h.2 h6
  exact x_callV C0 (wX9_k_folds hq0  v2 I J R L S Q h) sX9_90_0 (rcv_0 hq0 h1 h2 h3 h4 h5 h6) (hroom _ _ (by decide) (by decide)) rfl hst st0 hs0 hd (px_i k)
set_option maxRecDepth 100000 in
theorem wX9_opens_g {Γ : gT} {D : gD} {ca : Nat → ClassId} {o : Nat → Nat} {I : gI} {J : gJ} {R : gR} {L : List Nat} {S : gS} {Q : Int32 → gI → gJ → gR → Prop} {q0 : Nat} (hq0 : q0 ∈ L) (v2 : Int32) (C : Cx Γ cX9_opens RX9 3 D (tyW ca) (rl 5) (some .int) 0 0 (PXi ca o L S Q)) (h : wX9_opens q0 v2 I J R L S Q) : G Γ 0 0 0 [(0, .ref q0), (1, .ref (o 1)), (2, .int v2)] [] (cX ca o I J R L S) := by
  unfold wX9_opens at h
  refine g_aload_n C (i := 1) dX9_opens_0 rfl rfl ?_
  refine g_bipush C (v := 11) dX9_opens_1 (by decide) ?_
  refine x_callV C (wJ4_k_append_cf468 11 I J R L S _ h) sX9_84 rcv_sb (rl_ok (by decide) (by decide)) rfl (Nat.le_of_ble_eq_true rfl) (st := []) _ rfl dX9_opens_3 (px_b (fun I2 J3 R4 h => ?_))
  refine g_pop C dX9_opens_6 rfl ?_
  refine g_aload_n C (i := 0) dX9_opens_7 rfl rfl ?_
  refine g_aload_n C (i := 1) dX9_opens_8 rfl rfl ?_
  refine g_iload_n C (i := 2) dX9_opens_9 rfl rfl ?_
  refine xv_X9_90 C hq0 v2 I2 J3 R4 L S _ h (fun l m h1 h2 => rl_ok (by omega) h2) (Nat.le_of_ble_eq_true rfl) (st := []) _ rfl dX9_opens_10 (fun r5 I6 J7 R8 h => ?_)
  refine g_iconst_2 C dX9_opens_13 ?_
  refine g_imul C dX9_opens_14 ?_
  exact g_ret_i C dX9_opens_15 (Nat.le_refl _) (Nat.le_refl _) ⟨_, _, _, _, rfl, rfl, h⟩
theorem wX9_k_opens {D : gD} {ca : Nat → ClassId} {o : Nat → Nat} {L : List Nat} {S : gS} {q0 : Nat} (hq0 : q0 ∈ L) (v2 : Int32) (I : gI) (J : gJ) (R : gR) (L0 : List Nat) (S0 : gS) (Q : Int32 → gI → gJ → gR → Prop) (h : wX9_opens q0 v2 I J R L S Q) : Ct yX9_opens cX9_opens 3 (some .int) (rl 5) D (tyW ca) 0 0 [.ref q0, .ref (o 1), .int v2] (cX ca o I J R L S) (PXi ca o L S Q) := ct_of (rm := (rl 5)) (by decide +kernel) (Nat.le_of_ble_eq_true rfl) (fun Γ C => wX9_opens_g hq0 v2 C h)
theorem sX11_204_1 : gSiteU RX11 "FoldedInHalf$Same" "FoldedInHalf$Strip" ⟨"FoldedInHalf$Strip", "wayBehind", "(J)I"⟩ yX9_wayBehind cX9_wayBehind 5 (some .int) 204 1 := gSiteU.inh (tb_in (List.mem_of_getElem? (i := 753) (by decide +kernel)) (by decide +kernel)) (tb_in (List.mem_of_getElem? (i := 756) (by decide +kernel)) (by decide +kernel)) (tb_in (List.mem_of_getElem? (i := 791) (by decide +kernel)) (by decide +kernel)) (tb_in (List.mem_of_getElem? (i := 754) (by decide +kernel)) (by decide +kernel)) (tb_in (List.mem_of_getElem? (i := 90) (by decide +kernel)) (by decide +kernel)) (tb_in (List.mem_of_getElem? (i := 799) (by decide +kernel)) (by decide +kernel)) rfl (by decide +kernel)
theorem sX11_204_2 : gSiteU RX11 "FoldedInHalf$Third" "FoldedInHalf$Strip" ⟨"FoldedInHalf$Strip", "wayBehind", "(J)I"⟩ yX10_wayBehind cX10_wayBehind 7 (some .int) 204 1 := gSiteU.ovr (b0 := cX9_wayBehind) (m0 := 5) (r0 := (some .int)) (tb_in (List.mem_of_getElem? (i := 753) (by decide +kernel)) (by decide +kernel)) (tb_in (List.mem_of_getElem? (i := 756) (by decide +kernel)) (by decide +kernel)) (tb_in (List.mem_of_getElem? (i := 754) (by decide +kernel)) (by decide +kernel)) (tb_in (List.mem_of_getElem? (i := 792) (by decide +kernel)) (by decide +kernel)) (tb_in (List.mem_of_getElem? (i := 793) (by decide +kernel)) (by decide +kernel)) (tb_in (List.mem_of_getElem? (i := 92) (by decide +kernel)) (by decide +kernel)) (tb_in (List.mem_of_getElem? (i := 794) (by decide +kernel)) (by decide +kernel)) (tb_in (List.mem_of_getElem? (i := 799) (by decide +kernel)) (by decide +kernel)) (by decide +kernel)
theorem sX11_204_3 : gSiteU RX11 "FoldedInHalf$Cut" "FoldedInHalf$Strip" ⟨"FoldedInHalf$Strip", "wayBehind", "(J)I"⟩ yX2_wayBehind cX2_wayBehind 3 (some .int) 204 1 := gSiteU.ovr (b0 := cX9_wayBehind) (m0 := 5) (r0 := (some .int)) (tb_in (List.mem_of_getElem? (i := 753) (by decide +kernel)) (by decide +kernel)) (tb_in (List.mem_of_getElem? (i := 756) (by decide +kernel)) (by decide +kernel)) (tb_in (List.mem_of_getElem? (i := 754) (by decide +kernel)) (by decide +kernel)) (tb_in (List.mem_of_getElem? (i := 768) (by decide +kernel)) (by decide +kernel)) (tb_in (List.mem_of_getElem? (i := 765) (by decide +kernel)) (by decide +kernel)) (tb_in (List.mem_of_getElem? (i := 93) (by decide +kernel)) (by decide +kernel)) (tb_in (List.mem_of_getElem? (i := 766) (by decide +kernel)) (by decide +kernel)) (tb_in (List.mem_of_getElem? (i := 799) (by decide +kernel)) (by decide +kernel)) (by decide +kernel)
theorem sX11_204_4 : gSiteU RX11 "FoldedInHalf$Back" "FoldedInHalf$Strip" ⟨"FoldedInHalf$Strip", "wayBehind", "(J)I"⟩ yX0_wayBehind cX0_wayBehind 3 (some .int) 204 1 := gSiteU.ovr (b0 := cX9_wayBehind) (m0 := 5) (r0 := (some .int)) (tb_in (List.mem_of_getElem? (i := 753) (by decide +kernel)) (by decide +kernel)) (tb_in (List.mem_of_getElem? (i := 756) (by decide +kernel)) (by decide +kernel)) (tb_in (List.mem_of_getElem? (i := 754) (by decide +kernel)) (by decide +kernel)) (tb_in (List.mem_of_getElem? (i := 757) (by decide +kernel)) (by decide +kernel)) (tb_in (List.mem_of_getElem? (i := 758) (by decide +kernel)) (by decide +kernel)) (tb_in (List.mem_of_getElem? (i := 94) (by decide +kernel)) (by decide +kernel)) (tb_in (List.mem_of_getElem? (i := 759) (by decide +kernel)) (by decide +kernel)) (tb_in (List.mem_of_getElem? (i := 799) (by decide +kernel)) (by decide +kernel)) (by decide +kernel)
theorem sX11_204_5 : gSiteU RX11 "FoldedInHalf$Glass" "FoldedInHalf$Strip" ⟨"FoldedInHalf$Strip", "wayBehind", "(J)I"⟩ yX9_wayBehind cX9_wayBehind 5 (some .int) 204 1 := gSiteU.inh (tb_in (List.mem_of_getElem? (i := 753) (by decide +kernel)) (by decide +kernel)) (tb_in (List.mem_of_getElem? (i := 756) (by decide +kernel)) (by decide +kernel)) (tb_in (List.mem_of_getElem? (i := 769) (by decide +kernel)) (by decide +kernel)) (tb_in (List.mem_of_getElem? (i := 754) (by decide +kernel)) (by decide +kernel)) (tb_in (List.mem_of_getElem? (i := 90) (by decide +kernel)) (by decide +kernel)) (tb_in (List.mem_of_getElem? (i := 799) (by decide +kernel)) (by decide +kernel)) rfl (by decide +kernel)
theorem sX11_204_6 : gSiteU RX11 "FoldedInHalf$Left" "FoldedInHalf$Strip" ⟨"FoldedInHalf$Strip", "wayBehind", "(J)I"⟩ yX5_wayBehind cX5_wayBehind 3 (some .int) 204 1 := gSiteU.ovr (b0 := cX9_wayBehind) (m0 := 5) (r0 := (some .int)) (tb_in (List.mem_of_getElem? (i := 753) (by decide +kernel)) (by decide +kernel)) (tb_in (List.mem_of_getElem? (i := 756) (by decide +kernel)) (by decide +kernel)) (tb_in (List.mem_of_getElem? (i := 754) (by decide +kernel)) (by decide +kernel)) (tb_in (List.mem_of_getElem? (i := 770) (by decide +kernel)) (by decide +kernel)) (tb_in (List.mem_of_getElem? (i := 771) (by decide +kernel)) (by decide +kernel)) (tb_in (List.mem_of_getElem? (i := 96) (by decide +kernel)) (by decide +kernel)) (tb_in (List.mem_of_getElem? (i := 772) (by decide +kernel)) (by decide +kernel)) (tb_in (List.mem_of_getElem? (i := 799) (by decide +kernel)) (by decide +kernel)) (by decide +kernel)
theorem sX11_204_0 : gSite RX11 yX9_wayBehind cX9_wayBehind 5 (some .int) 204 1 := gSite.of (tb_in (List.mem_of_getElem? (i := 753) (by decide +kernel)) (by decide +kernel)) (tb_in (List.mem_of_getElem? (i := 754) (by decide +kernel)) (by decide +kernel)) (tb_in (List.mem_of_getElem? (i := 755) (by decide +kernel)) (by decide +kernel)) (tb_in (List.mem_of_getElem? (i := 90) (by decide +kernel)) (by decide +kernel)) (tb_in (List.mem_of_getElem? (i := 799) (by decide +kernel)) (by decide +kernel)) (by decide +kernel)
theorem xv_X11_204 {Γ : gT} {cc : ByteArray} {nL : Nat} {D : gD} {ca : Nat → ClassId} {rm : Room} {ret : Option FieldType} {mc ms : Nat} {Post : Option Value → va_W → Prop} {cn sn pc : Nat} {lv : List (Nat × Value)} {st : List Value} {o : Nat → Nat} {L : List Nat} {S : gS} (C0 : Cx Γ cc RX11 nL D (tyW ca) rm ret mc ms Post) {q0 : Nat} (hq0 : q0 ∈ L) (v1 : Int64) (I : gI) (J : gJ) (R : gR) (L0 : List Nat) (S0 : gS) (Q : Int32 → Prop) (h : wv_wayBehind q0 v1 I J R L S Q) (hroom : ∀ l maxL : Nat, l ≤ 5 → maxL ≤ 81 → gRm (rl l) rm maxL 0 0 cn sn) (hst : (st.map fun v => v.category).sum ≤ 8) (st0 : List Value) (hs0 : st0 = ([.long v1] : List Value).reverse ++ .ref q0 :: st) (hd : decode cc pc = .ok (.invokevirtual 204, 3)) (k : ∀ (r : Int32) , Q r  → G Γ cn sn (pc + 3) lv (.int r :: st) (cX ca o I J R L S)) : G Γ cn sn pc lv st0 (cX ca o I J R L S) := by
  unfold wv_wayBehind at h
  by_cases h1 : sC (S q0) = 1
  · exact x_callU C0 (wX9_k_wayBehind hq0  v1 I J R L S Q (h.1 h1)) sX11_204_1 (rcv_1 hq0 h1) (hroom _ _ (by decide) (by decide)) rfl hst st0 hs0 hd (py_i k)
  replace h := h.2 h1
  by_cases h2 : sC (S q0) = 2
  · exact x_callU C0 (wX10_k_wayBehind hq0 h2  v1 I J R L S Q (h.1 h2)) sX11_204_2 (rcv_2 hq0 h2) (hroom _ _ (by decide) (by decide)) rfl hst st0 hs0 hd (py_i k)
  replace h := h.2 h2
  by_cases h3 : sC (S q0) = 3
  · exact x_callU C0 (wX2_k_wayBehind hq0 (Or.inl h3)  v1 I J R L S Q (h.1 h3)) sX11_204_3 (rcv_3 hq0 h3) (hroom _ _ (by decide) (by decide)) rfl hst st0 hs0 hd (py_i k)
  replace h := h.2 h3
  by_cases h4 : sC (S q0) = 4
  · exact x_callU C0 (wX0_k_wayBehind hq0 h4  v1 I J R L S Q (h.1 h4)) sX11_204_4 (rcv_4 hq0 h4) (hroom _ _ (by decide) (by decide)) rfl hst st0 hs0 hd (py_i k)
  replace h := h.2 h4
  by_cases h5 : sC (S q0) = 5
  · exact x_callU C0 (wX9_k_wayBehind hq0  v1 I J R L S Q (h.1 h5)) sX11_204_5 (rcv_5 hq0 h5) (hroom _ _ (by decide) (by decide)) rfl hst st0 hs0 hd (py_i k)
  replace h := h.2 h5
  by_cases h6 : sC (S q0) = 6
  · exact x_callU C0 (wX5_k_wayBehind hq0 h6  v1 I J R L S Q (h.1 h6)) sX11_204_6 (rcv_6 hq0 h6) (hroom _ _ (by decide) (by decide)) rfl hst st0 hs0 hd (py_i k)
  replace h := h.2 h6
  exact x_callV C0 (wX9_k_wayBehind hq0  v1 I J R L S Q h) sX11_204_0 (rcv_0 hq0 h1 h2 h3 h4 h5 h6) (hroom _ _ (by decide) (by decide)) rfl hst st0 hs0 hd (py_i k)
set_option maxRecDepth 100000 in
theorem wX11_way_gc34 {Γ : gT} {D : gD} {ca : Nat → ClassId} {o : Nat → Nat} {Q : Int32 → gI → gJ → gR → Prop} {L : List Nat} {S : gS} (C : Cx Γ cX11_way RX11 4 D (tyW ca) (rl 6) (some .int) 0 0 (PXi ca o L S Q)) (I : gI) (J : gJ) (R : gR) (h : wX11_way_c34 L S I J R Q) : G Γ 0 0 34 [(0, .ref (o 0))] [] (cX ca o I J R L S) := by
  unfold wX11_way_c34 at h
  refine g_aload_n C (i := 0) dX11_way_34 rfl rfl ?_
  refine g_bipush C (v := (-5)) dX11_way_35 (by decide) ?_
  refine x_callV C (wX11_k_refuse (-5) I J R L S _ h) sX11_73 rcv_main (rl_ok (by decide) (by decide)) rfl (Nat.le_of_ble_eq_true rfl) (st := []) _ rfl dX11_way_37 (px_i (fun r1 I2 J3 R4 h => ?_))
  exact g_ret_i C dX11_way_40 (Nat.le_refl _) (Nat.le_refl _) ⟨_, _, _, _, rfl, rfl, h⟩
set_option maxRecDepth 100000 in
theorem wX11_way_g {Γ : gT} {D : gD} {ca : Nat → ClassId} {o : Nat → Nat} {I : gI} {J : gJ} {R : gR} {L : List Nat} {S : gS} {Q : Int32 → gI → gJ → gR → Prop} (v1 : Int32) (v2 : Int64) (C : Cx Γ cX11_way RX11 4 D (tyW ca) (rl 6) (some .int) 0 0 (PXi ca o L S Q)) (h : wX11_way v1 v2 I J R L S Q) : G Γ 0 0 0 [(0, .ref (o 0)), (1, .int v1), (2, .long v2)] [] (cX ca o I J R L S) := by
  unfold wX11_way at h
  refine g_aload_n C (i := 0) dX11_way_0 rfl rfl ?_
  refine g_iload_n C (i := 1) dX11_way_1 rfl rfl ?_
  refine x_callV C (wX11_k_isStrip v1 I J R L S _ h) sX11_118 rcv_main (rl_ok (by decide) (by decide)) rfl (Nat.le_of_ble_eq_true rfl) (st := []) _ rfl dX11_way_2 (py_z (fun r1 h => ?_))
  refine g_zne C 14 dX11_way_5 rfl (fun c2 => ?_) (fun c2 => ?_)
  · replace h := h.1 c2
    refine g_lload_n C (i := 2) dX11_way_14 rfl rfl ?_
    refine g_lconst_1 C dX11_way_15 ?_
    refine g_llt C 34 dX11_way_16 dX11_way_17 rfl (fun c3 => ?_) (fun c3 => ?_)
    · replace h := h.1 c3
      exact g_weak [0] rfl (Nat.le_refl _) (Nat.le_refl _) (wX11_way_gc34  C   I J R h)
    · replace h := h.2 c3
      refine g_lload_n C (i := 2) dX11_way_20 rfl rfl ?_
      refine g_aload_n C (i := 0) dX11_way_21 rfl rfl ?_
      refine x_get_X11_11 C dX11_way_22 ?_
      refine g_iload_n C (i := 1) dX11_way_25 rfl rfl ?_
      obtain ⟨h4, h⟩ := h
      refine x_aald C (k := 0) (by decide) h4 dX11_way_26 ?_
      obtain ⟨z5, h6, h7, h⟩ := h
      refine g_eqs (st' := [.ref z5, .long v2]) (by rw [h6]; rfl) rfl ?_
      refine xv_X11_201 C h7 I J R L S _ h (fun l m h1 h2 => rl_ok (by omega) h2) (Nat.le_of_ble_eq_true rfl) (st := [.long v2]) _ rfl dX11_way_27 (fun r8 h => ?_)
      refine g_lle C 41 dX11_way_30 dX11_way_31 rfl (fun c9 => ?_) (fun c9 => ?_)
      · replace h := h.1 c9
        refine g_aload_n C (i := 0) dX11_way_41 rfl rfl ?_
        refine x_get_X11_11 C dX11_way_42 ?_
        refine g_iload_n C (i := 1) dX11_way_45 rfl rfl ?_
        refine x_aald C (k := 0) (by decide) h4 dX11_way_46 ?_
        refine g_lload_n C (i := 2) dX11_way_47 rfl rfl ?_
        refine g_lconst_1 C dX11_way_48 ?_
        refine g_lsub C dX11_way_49 ?_
        refine g_eqs (st' := [.long (v2 - 1), .ref z5]) (by rw [h6]; rfl) rfl ?_
        refine xv_X11_204 C h7 (v2 - 1) I J R L S _ h (fun l m h1 h2 => rl_ok (by omega) h2) (Nat.le_of_ble_eq_true rfl) (st := []) _ rfl dX11_way_50 (fun r10 h => ?_)
        exact g_ret_i C dX11_way_53 (Nat.le_refl _) (Nat.le_refl _) ⟨_, _, _, _, rfl, rfl, h⟩
      · replace h := h.2 c9
        exact g_weak [0] rfl (Nat.le_refl _) (Nat.le_refl _) (wX11_way_gc34  C   I J R h)
  · replace h := h.2 c2
    refine g_aload_n C (i := 0) dX11_way_8 rfl rfl ?_
    refine g_iconst_m1 C dX11_way_9 ?_
    refine x_callV C (wX11_k_refuse (-1) I J R L S _ h) sX11_73 rcv_main (rl_ok (by decide) (by decide)) rfl (Nat.le_of_ble_eq_true rfl) (st := []) _ rfl dX11_way_10 (px_i (fun r11 I12 J13 R14 h => ?_))
    exact g_ret_i C dX11_way_13 (Nat.le_refl _) (Nat.le_refl _) ⟨_, _, _, _, rfl, rfl, h⟩
theorem wX11_k_way {D : gD} {ca : Nat → ClassId} {o : Nat → Nat} {L : List Nat} {S : gS} (v1 : Int32) (v2 : Int64) (I : gI) (J : gJ) (R : gR) (L0 : List Nat) (S0 : gS) (Q : Int32 → gI → gJ → gR → Prop) (h : wX11_way v1 v2 I J R L S Q) : Ct yX11_way cX11_way 4 (some .int) (rl 6) D (tyW ca) 0 0 [.ref (o 0), .int v1, .long v2] (cX ca o I J R L S) (PXi ca o L S Q) := ct_of (rm := (rl 6)) (by decide +kernel) (Nat.le_of_ble_eq_true rfl) (fun Γ C => wX11_way_g v1 v2 C h)
theorem sX11_211_1 : gSiteU RX11 "FoldedInHalf$Same" "FoldedInHalf$Strip" ⟨"FoldedInHalf$Strip", "lead", "(LFoldedInHalf$Bug;J)V"⟩ yX9_lead cX9_lead 8 none 211 2 := gSiteU.inh (tb_in (List.mem_of_getElem? (i := 807) (by decide +kernel)) (by decide +kernel)) (tb_in (List.mem_of_getElem? (i := 810) (by decide +kernel)) (by decide +kernel)) (tb_in (List.mem_of_getElem? (i := 849) (by decide +kernel)) (by decide +kernel)) (tb_in (List.mem_of_getElem? (i := 808) (by decide +kernel)) (by decide +kernel)) (tb_in (List.mem_of_getElem? (i := 90) (by decide +kernel)) (by decide +kernel)) (tb_in (List.mem_of_getElem? (i := 863) (by decide +kernel)) (by decide +kernel)) rfl (by decide +kernel)
theorem sX11_211_2 : gSiteU RX11 "FoldedInHalf$Third" "FoldedInHalf$Strip" ⟨"FoldedInHalf$Strip", "lead", "(LFoldedInHalf$Bug;J)V"⟩ yX10_lead cX10_lead 11 none 211 2 := gSiteU.ovr (b0 := cX9_lead) (m0 := 8) (r0 := none) (tb_in (List.mem_of_getElem? (i := 807) (by decide +kernel)) (by decide +kernel)) (tb_in (List.mem_of_getElem? (i := 810) (by decide +kernel)) (by decide +kernel)) (tb_in (List.mem_of_getElem? (i := 808) (by decide +kernel)) (by decide +kernel)) (tb_in (List.mem_of_getElem? (i := 850) (by decide +kernel)) (by decide +kernel)) (tb_in (List.mem_of_getElem? (i := 851) (by decide +kernel)) (by decide +kernel)) (tb_in (List.mem_of_getElem? (i := 92) (by decide +kernel)) (by decide +kernel)) (tb_in (List.mem_of_getElem? (i := 852) (by decide +kernel)) (by decide +kernel)) (tb_in (List.mem_of_getElem? (i := 863) (by decide +kernel)) (by decide +kernel)) (by decide +kernel)
theorem sX11_211_3 : gSiteU RX11 "FoldedInHalf$Cut" "FoldedInHalf$Strip" ⟨"FoldedInHalf$Strip", "lead", "(LFoldedInHalf$Bug;J)V"⟩ yX2_lead cX2_lead 8 none 211 2 := gSiteU.ovr (b0 := cX9_lead) (m0 := 8) (r0 := none) (tb_in (List.mem_of_getElem? (i := 807) (by decide +kernel)) (by decide +kernel)) (tb_in (List.mem_of_getElem? (i := 810) (by decide +kernel)) (by decide +kernel)) (tb_in (List.mem_of_getElem? (i := 808) (by decide +kernel)) (by decide +kernel)) (tb_in (List.mem_of_getElem? (i := 829) (by decide +kernel)) (by decide +kernel)) (tb_in (List.mem_of_getElem? (i := 815) (by decide +kernel)) (by decide +kernel)) (tb_in (List.mem_of_getElem? (i := 93) (by decide +kernel)) (by decide +kernel)) (tb_in (List.mem_of_getElem? (i := 816) (by decide +kernel)) (by decide +kernel)) (tb_in (List.mem_of_getElem? (i := 863) (by decide +kernel)) (by decide +kernel)) (by decide +kernel)
theorem sX11_211_4 : gSiteU RX11 "FoldedInHalf$Back" "FoldedInHalf$Strip" ⟨"FoldedInHalf$Strip", "lead", "(LFoldedInHalf$Bug;J)V"⟩ yX0_lead cX0_lead 8 none 211 2 := gSiteU.ovr (b0 := cX9_lead) (m0 := 8) (r0 := none) (tb_in (List.mem_of_getElem? (i := 807) (by decide +kernel)) (by decide +kernel)) (tb_in (List.mem_of_getElem? (i := 810) (by decide +kernel)) (by decide +kernel)) (tb_in (List.mem_of_getElem? (i := 808) (by decide +kernel)) (by decide +kernel)) (tb_in (List.mem_of_getElem? (i := 811) (by decide +kernel)) (by decide +kernel)) (tb_in (List.mem_of_getElem? (i := 812) (by decide +kernel)) (by decide +kernel)) (tb_in (List.mem_of_getElem? (i := 94) (by decide +kernel)) (by decide +kernel)) (tb_in (List.mem_of_getElem? (i := 813) (by decide +kernel)) (by decide +kernel)) (tb_in (List.mem_of_getElem? (i := 863) (by decide +kernel)) (by decide +kernel)) (by decide +kernel)
theorem sX11_211_5 : gSiteU RX11 "FoldedInHalf$Glass" "FoldedInHalf$Strip" ⟨"FoldedInHalf$Strip", "lead", "(LFoldedInHalf$Bug;J)V"⟩ yX9_lead cX9_lead 8 none 211 2 := gSiteU.inh (tb_in (List.mem_of_getElem? (i := 807) (by decide +kernel)) (by decide +kernel)) (tb_in (List.mem_of_getElem? (i := 810) (by decide +kernel)) (by decide +kernel)) (tb_in (List.mem_of_getElem? (i := 830) (by decide +kernel)) (by decide +kernel)) (tb_in (List.mem_of_getElem? (i := 808) (by decide +kernel)) (by decide +kernel)) (tb_in (List.mem_of_getElem? (i := 90) (by decide +kernel)) (by decide +kernel)) (tb_in (List.mem_of_getElem? (i := 863) (by decide +kernel)) (by decide +kernel)) rfl (by decide +kernel)
theorem sX11_211_6 : gSiteU RX11 "FoldedInHalf$Left" "FoldedInHalf$Strip" ⟨"FoldedInHalf$Strip", "lead", "(LFoldedInHalf$Bug;J)V"⟩ yX5_lead cX5_lead 5 none 211 2 := gSiteU.ovr (b0 := cX9_lead) (m0 := 8) (r0 := none) (tb_in (List.mem_of_getElem? (i := 807) (by decide +kernel)) (by decide +kernel)) (tb_in (List.mem_of_getElem? (i := 810) (by decide +kernel)) (by decide +kernel)) (tb_in (List.mem_of_getElem? (i := 808) (by decide +kernel)) (by decide +kernel)) (tb_in (List.mem_of_getElem? (i := 831) (by decide +kernel)) (by decide +kernel)) (tb_in (List.mem_of_getElem? (i := 832) (by decide +kernel)) (by decide +kernel)) (tb_in (List.mem_of_getElem? (i := 96) (by decide +kernel)) (by decide +kernel)) (tb_in (List.mem_of_getElem? (i := 833) (by decide +kernel)) (by decide +kernel)) (tb_in (List.mem_of_getElem? (i := 863) (by decide +kernel)) (by decide +kernel)) (by decide +kernel)
theorem sX11_211_0 : gSite RX11 yX9_lead cX9_lead 8 none 211 2 := gSite.of (tb_in (List.mem_of_getElem? (i := 807) (by decide +kernel)) (by decide +kernel)) (tb_in (List.mem_of_getElem? (i := 808) (by decide +kernel)) (by decide +kernel)) (tb_in (List.mem_of_getElem? (i := 809) (by decide +kernel)) (by decide +kernel)) (tb_in (List.mem_of_getElem? (i := 90) (by decide +kernel)) (by decide +kernel)) (tb_in (List.mem_of_getElem? (i := 863) (by decide +kernel)) (by decide +kernel)) (by decide +kernel)
theorem xv_X11_211 {Γ : gT} {cc : ByteArray} {nL : Nat} {D : gD} {ca : Nat → ClassId} {rm : Room} {ret : Option FieldType} {mc ms : Nat} {Post : Option Value → va_W → Prop} {cn sn pc : Nat} {lv : List (Nat × Value)} {st : List Value} {o : Nat → Nat} {L : List Nat} {S : gS} (C0 : Cx Γ cc RX11 nL D (tyW ca) rm ret mc ms Post) {q0 : Nat} (hq0 : q0 ∈ L) {n1 : Nat} (hn1 : n1 < 2) (v2 : Int64) (I : gI) (J : gJ) (R : gR) (L0 : List Nat) (S0 : gS) (Q : gI → gJ → gR → Prop) (h : wv_lead q0 n1 v2 I J R L S Q) (hroom : ∀ l maxL : Nat, l ≤ 5 → maxL ≤ 81 → gRm (rl l) rm maxL 0 0 cn sn) (hst : (st.map fun v => v.category).sum ≤ 8) (st0 : List Value) (hs0 : st0 = ([.ref (o (10 + n1)), .long v2] : List Value).reverse ++ .ref q0 :: st) (hd : decode cc pc = .ok (.invokevirtual 211, 3)) (k : ∀  (I1 : gI) (J1 : gJ) (R1 : gR), Q  I1 J1 R1 → G Γ cn sn (pc + 3) lv (st) (cX ca o I1 J1 R1 L S)) : G Γ cn sn pc lv st0 (cX ca o I J R L S) := by
  unfold wv_lead at h
  by_cases h1 : sC (S q0) = 1
  · exact x_callU C0 (wX9_k_lead hq0 hn1 v2 I J R L S Q (h.1 h1)) sX11_211_1 (rcv_1 hq0 h1) (hroom _ _ (by decide) (by decide)) rfl hst st0 hs0 hd (px_v k)
  replace h := h.2 h1
  by_cases h2 : sC (S q0) = 2
  · exact x_callU C0 (wX10_k_lead hq0 h2 hn1 v2 I J R L S Q (h.1 h2)) sX11_211_2 (rcv_2 hq0 h2) (hroom _ _ (by decide) (by decide)) rfl hst st0 hs0 hd (px_v k)
  replace h := h.2 h2
  by_cases h3 : sC (S q0) = 3
  · exact x_callU C0 (wX2_k_lead hq0 (Or.inl h3) hn1 v2 I J R L S Q (h.1 h3)) sX11_211_3 (rcv_3 hq0 h3) (hroom _ _ (by decide) (by decide)) rfl hst st0 hs0 hd (px_v k)
  replace h := h.2 h3
  by_cases h4 : sC (S q0) = 4
  · exact x_callU C0 (wX0_k_lead hq0 h4 hn1 v2 I J R L S Q (h.1 h4)) sX11_211_4 (rcv_4 hq0 h4) (hroom _ _ (by decide) (by decide)) rfl hst st0 hs0 hd (px_v k)
  replace h := h.2 h4
  by_cases h5 : sC (S q0) = 5
  · exact x_callU C0 (wX9_k_lead hq0 hn1 v2 I J R L S Q (h.1 h5)) sX11_211_5 (rcv_5 hq0 h5) (hroom _ _ (by decide) (by decide)) rfl hst st0 hs0 hd (px_v k)
  replace h := h.2 h5
  by_cases h6 : sC (S q0) = 6
  · exact x_callU C0 (wX5_k_lead hq0 h6 hn1 v2 I J R L S Q (h.1 h6)) sX11_211_6 (rcv_6 hq0 h6) (hroom _ _ (by decide) (by decide)) rfl hst st0 hs0 hd (px_v k)
  replace h := h.2 h6
  exact x_callV C0 (wX9_k_lead hq0 hn1 v2 I J R L S Q h) sX11_211_0 (rcv_0 hq0 h1 h2 h3 h4 h5 h6) (hroom _ _ (by decide) (by decide)) rfl hst st0 hs0 hd (px_v k)
set_option maxRecDepth 100000 in
theorem wX11_place_gc81 {Γ : gT} {D : gD} {ca : Nat → ClassId} {o : Nat → Nat} {Q : Int64 → gI → gJ → gR → Prop} {L : List Nat} {S : gS} (C : Cx Γ cX11_place RX11 6 D (tyW ca) (rl 6) (some .long) 0 0 (PXl ca o L S Q)) (v1 : Int32) (v2 : Int64) (v4 : Int32) (v5 : Int32) (I : gI) (J : gJ) (R : gR) (h : wX11_place_c81 L S v1 v2 v4 v5 I J R Q) : G Γ 0 0 81 [(0, .ref (o 0)), (1, .int v1), (2, .long v2), (4, .int v4), (5, .int v5)] [] (cX ca o I J R L S) := by
  unfold wX11_place_c81 at h
  refine g_iload C (i := 5) dX11_place_81 rfl ?_
  refine g_if_eq C 98 dX11_place_83 rfl (fun c1 => ?_) (fun c1 => ?_)
  · replace h := h.1 c1
    refine g_aload_n C (i := 0) dX11_place_98 rfl rfl ?_
    refine x_get_X11_11 C dX11_place_99 ?_
    refine g_iload_n C (i := 1) dX11_place_102 rfl rfl ?_
    obtain ⟨h2, h⟩ := h
    refine x_aald C (k := 0) (by decide) h2 dX11_place_103 ?_
    refine g_aload_n C (i := 0) dX11_place_104 rfl rfl ?_
    refine x_get_X11_54 C dX11_place_105 ?_
    refine g_lload_n C (i := 2) dX11_place_108 rfl rfl ?_
    obtain ⟨z3, h4, h5, h⟩ := h
    refine g_eqs (st' := [.long v2, .ref (o 10), .ref z3]) (by rw [h4]; rfl) rfl ?_
    refine xv_X11_211 C h5 (by decide) v2 I J R L S _ h (fun l m h1 h2 => rl_ok (by omega) h2) (Nat.le_of_ble_eq_true rfl) (st := []) _ rfl dX11_place_109 (fun I7 J8 R9 h => ?_)
    refine g_iload C (i := 4) dX11_place_112 rfl ?_
    refine g_if_ne C 127 dX11_place_114 rfl (fun c10 => ?_) (fun c10 => ?_)
    · replace h := h.1 c10
      refine g_aload_n C (i := 0) dX11_place_127 rfl rfl ?_
      refine x_get_X11_54 C dX11_place_128 ?_
      refine x_get_X11_218 C (b := 0) (by decide) dX11_place_131 ?_
      exact g_ret_l C dX11_place_134 (Nat.le_refl _) (Nat.le_refl _) ⟨_, _, _, _, rfl, rfl, h⟩
    · replace h := h.2 c10
      refine g_aload_n C (i := 0) dX11_place_117 rfl rfl ?_
      refine x_get_X11_54 C dX11_place_118 ?_
      refine x_get_X11_215 C (b := 0) (by decide) dX11_place_121 ?_
      refine g_goto C 134 dX11_place_124 rfl ?_
      exact g_ret_l C dX11_place_134 (Nat.le_refl _) (Nat.le_refl _) ⟨_, _, _, _, rfl, rfl, h⟩
  · replace h := h.2 c1
    refine g_ldc2 C (v := (-2000000000000000)) (tb_in (List.mem_of_getElem? (i := 806) (by decide +kernel)) (by decide +kernel)) dX11_place_86 ?_
    refine g_aload_n C (i := 0) dX11_place_89 rfl rfl ?_
    refine g_iload C (i := 5) dX11_place_90 rfl ?_
    refine x_callV C (wX11_k_refuse v5 I J R L S _ h) sX11_73 rcv_main (rl_ok (by decide) (by decide)) rfl (Nat.le_of_ble_eq_true rfl) (st := [.long (-2000000000000000)]) _ rfl dX11_place_92 (px_i (fun r11 I12 J13 R14 h => ?_))
    refine g_i2l C dX11_place_95 ?_
    refine g_ladd C dX11_place_96 ?_
    exact g_ret_l C dX11_place_97 (Nat.le_refl _) (Nat.le_refl _) ⟨_, _, _, _, rfl, rfl, h⟩
set_option maxRecDepth 100000 in
theorem wX11_place_gc55 {Γ : gT} {D : gD} {ca : Nat → ClassId} {o : Nat → Nat} {Q : Int64 → gI → gJ → gR → Prop} {L : List Nat} {S : gS} (C : Cx Γ cX11_place RX11 6 D (tyW ca) (rl 6) (some .long) 0 0 (PXl ca o L S Q)) (v1 : Int32) (v2 : Int64) (v4 : Int32) (v5 : Int32) (I : gI) (J : gJ) (R : gR) (h : wX11_place_c55 L S v1 v2 v4 v5 I J R Q) : G Γ 0 0 55 [(0, .ref (o 0)), (1, .int v1), (2, .long v2), (4, .int v4), (5, .int v5)] [] (cX ca o I J R L S) := by
  unfold wX11_place_c55 at h
  refine g_aload_n C (i := 0) dX11_place_55 rfl rfl ?_
  refine x_get_X11_11 C dX11_place_56 ?_
  refine g_iload_n C (i := 1) dX11_place_59 rfl rfl ?_
  obtain ⟨h1, h⟩ := h
  refine x_aald C (k := 0) (by decide) h1 dX11_place_60 ?_
  obtain ⟨z2, h3, h4, h⟩ := h
  refine g_eqs (st' := [.ref z2]) (by rw [h3]; rfl) rfl ?_
  refine x_get_X11_124 C h4 dX11_place_61 ?_
  refine g_bipush C (v := 6) dX11_place_64 (by decide) ?_
  refine g_icmp_ne C 81 dX11_place_66 rfl (fun c5 => ?_) (fun c5 => ?_)
  · replace h := h.1 c5
    exact g_weak [0, 1, 2, 3, 4] rfl (Nat.le_refl _) (Nat.le_refl _) (wX11_place_gc81  C  v1 v2 v4 v5 I J R h)
  · replace h := h.2 c5
    refine g_lload_n C (i := 2) dX11_place_69 rfl rfl ?_
    refine g_ldc2 C (v := 100000) (tb_in (List.mem_of_getElem? (i := 805) (by decide +kernel)) (by decide +kernel)) dX11_place_70 ?_
    refine g_lle C 81 dX11_place_73 dX11_place_74 rfl (fun c6 => ?_) (fun c6 => ?_)
    · replace h := h.1 c6
      exact g_weak [0, 1, 2, 3, 4] rfl (Nat.le_refl _) (Nat.le_refl _) (wX11_place_gc81  C  v1 v2 v4 v5 I J R h)
    · replace h := h.2 c6
      refine g_bipush C (v := (-7)) dX11_place_77 (by decide) ?_
      refine g_istore C (i := 5) [(0, .ref (o 0)), (1, .int v1), (2, .long v2), (4, .int v4), (5, .int (-7))] dX11_place_79 (by decide) rfl ?_
      exact g_weak [0, 1, 2, 3, 4] rfl (Nat.le_refl _) (Nat.le_refl _) (wX11_place_gc81  C  v1 v2 v4 (-7) I J R h)
set_option maxRecDepth 100000 in
theorem wX11_place_gc48 {Γ : gT} {D : gD} {ca : Nat → ClassId} {o : Nat → Nat} {Q : Int64 → gI → gJ → gR → Prop} {L : List Nat} {S : gS} (C : Cx Γ cX11_place RX11 6 D (tyW ca) (rl 6) (some .long) 0 0 (PXl ca o L S Q)) (v1 : Int32) (v2 : Int64) (v4 : Int32) (I : gI) (J : gJ) (R : gR) (h : wX11_place_c48 L S v1 v2 v4 I J R Q) : G Γ 0 0 48 [(0, .ref (o 0)), (1, .int v1), (2, .long v2), (4, .int v4)] [] (cX ca o I J R L S) := by
  unfold wX11_place_c48 at h
  refine g_bipush C (v := (-5)) dX11_place_48 (by decide) ?_
  refine g_istore C (i := 5) [(0, .ref (o 0)), (1, .int v1), (2, .long v2), (4, .int v4), (5, .int (-5))] dX11_place_50 (by decide) rfl ?_
  refine g_goto C 81 dX11_place_52 rfl ?_
  exact g_weak [0, 1, 2, 3, 4] rfl (Nat.le_refl _) (Nat.le_refl _) (wX11_place_gc81  C  v1 v2 v4 (-5) I J R h)
set_option maxRecDepth 100000 in
theorem wX11_place_g {Γ : gT} {D : gD} {ca : Nat → ClassId} {o : Nat → Nat} {I : gI} {J : gJ} {R : gR} {L : List Nat} {S : gS} {Q : Int64 → gI → gJ → gR → Prop} (v1 : Int32) (v2 : Int64) (v4 : Int32) (C : Cx Γ cX11_place RX11 6 D (tyW ca) (rl 6) (some .long) 0 0 (PXl ca o L S Q)) (h : wX11_place v1 v2 v4 I J R L S Q) : G Γ 0 0 0 [(0, .ref (o 0)), (1, .int v1), (2, .long v2), (4, .int v4)] [] (cX ca o I J R L S) := by
  unfold wX11_place at h
  refine g_iconst_0 C dX11_place_0 ?_
  refine g_istore C (i := 5) [(0, .ref (o 0)), (1, .int v1), (2, .long v2), (4, .int v4), (5, .int 0)] dX11_place_1 (by decide) rfl ?_
  refine g_aload_n C (i := 0) dX11_place_3 rfl rfl ?_
  refine g_iload_n C (i := 1) dX11_place_4 rfl rfl ?_
  refine x_callV C (wX11_k_isStrip v1 I J R L S _ h) sX11_118 rcv_main (rl_ok (by decide) (by decide)) rfl (Nat.le_of_ble_eq_true rfl) (st := []) _ rfl dX11_place_5 (py_z (fun r1 h => ?_))
  refine g_zne C 17 dX11_place_8 rfl (fun c2 => ?_) (fun c2 => ?_)
  · replace h := h.1 c2
    refine g_lload_n C (i := 2) dX11_place_17 rfl rfl ?_
    refine g_lconst_0 C dX11_place_18 ?_
    refine g_llt C 48 dX11_place_19 dX11_place_20 rfl (fun c3 => ?_) (fun c3 => ?_)
    · replace h := h.1 c3
      exact g_weak [0, 1, 2, 3] rfl (Nat.le_refl _) (Nat.le_refl _) (wX11_place_gc48  C  v1 v2 v4 I J R h)
    · replace h := h.2 c3
      refine g_lload_n C (i := 2) dX11_place_23 rfl rfl ?_
      refine g_aload_n C (i := 0) dX11_place_24 rfl rfl ?_
      refine x_get_X11_11 C dX11_place_25 ?_
      refine g_iload_n C (i := 1) dX11_place_28 rfl rfl ?_
      obtain ⟨h4, h⟩ := h
      refine x_aald C (k := 0) (by decide) h4 dX11_place_29 ?_
      obtain ⟨z5, h6, h7, h⟩ := h
      refine g_eqs (st' := [.ref z5, .long v2]) (by rw [h6]; rfl) rfl ?_
      refine xv_X11_201 C h7 I J R L S _ h (fun l m h1 h2 => rl_ok (by omega) h2) (Nat.le_of_ble_eq_true rfl) (st := [.long v2]) _ rfl dX11_place_30 (fun r8 h => ?_)
      refine g_lgt C 48 dX11_place_33 dX11_place_34 rfl (fun c9 => ?_) (fun c9 => ?_)
      · replace h := h.1 c9
        exact g_weak [0, 1, 2, 3] rfl (Nat.le_refl _) (Nat.le_refl _) (wX11_place_gc48  C  v1 v2 v4 I J R h)
      · replace h := h.2 c9
        refine g_iload C (i := 4) dX11_place_37 rfl ?_
        refine g_if_eq C 55 dX11_place_39 rfl (fun c10 => ?_) (fun c10 => ?_)
        · replace h := h.1 c10
          exact g_weak [0, 1, 2, 3, 4] rfl (Nat.le_refl _) (Nat.le_refl _) (wX11_place_gc55  C  v1 v2 v4 0 I J R h)
        · replace h := h.2 c10
          refine g_iload C (i := 4) dX11_place_42 rfl ?_
          refine g_iconst_1 C dX11_place_44 ?_
          refine g_icmp_eq C 55 dX11_place_45 rfl (fun c11 => ?_) (fun c11 => ?_)
          · replace h := h.1 c11
            exact g_weak [0, 1, 2, 3, 4] rfl (Nat.le_refl _) (Nat.le_refl _) (wX11_place_gc55  C  v1 v2 v4 0 I J R h)
          · replace h := h.2 c11
            exact g_weak [0, 1, 2, 3] rfl (Nat.le_refl _) (Nat.le_refl _) (wX11_place_gc48  C  v1 v2 v4 I J R h)
  · replace h := h.2 c2
    refine g_iconst_m1 C dX11_place_11 ?_
    refine g_istore C (i := 5) [(0, .ref (o 0)), (1, .int v1), (2, .long v2), (4, .int v4), (5, .int (-1))] dX11_place_12 (by decide) rfl ?_
    refine g_goto C 81 dX11_place_14 rfl ?_
    exact g_weak [0, 1, 2, 3, 4] rfl (Nat.le_refl _) (Nat.le_refl _) (wX11_place_gc81  C  v1 v2 v4 (-1) I J R h)
theorem wX11_k_place {D : gD} {ca : Nat → ClassId} {o : Nat → Nat} {L : List Nat} {S : gS} (v1 : Int32) (v2 : Int64) (v4 : Int32) (I : gI) (J : gJ) (R : gR) (L0 : List Nat) (S0 : gS) (Q : Int64 → gI → gJ → gR → Prop) (h : wX11_place v1 v2 v4 I J R L S Q) : Ct yX11_place cX11_place 6 (some .long) (rl 6) D (tyW ca) 0 0 [.ref (o 0), .int v1, .long v2, .int v4] (cX ca o I J R L S) (PXl ca o L S Q) := ct_of (rm := (rl 6)) (by decide +kernel) (Nat.le_of_ble_eq_true rfl) (fun Γ C => wX11_place_g v1 v2 v4 C h)
theorem sX2_44 : gSite RX2 yJ4_append_cf468 cJ4_append_cf468 2 (some (.object "java/lang/StringBuilder")) 44 1 := gSite.of (tb_in (List.mem_of_getElem? (i := 1212) (by decide +kernel)) (by decide +kernel)) (tb_in (List.mem_of_getElem? (i := 1152) (by decide +kernel)) (by decide +kernel)) (tb_in (List.mem_of_getElem? (i := 1153) (by decide +kernel)) (by decide +kernel)) (tb_in (List.mem_of_getElem? (i := 80) (by decide +kernel)) (by decide +kernel)) (tb_in (List.mem_of_getElem? (i := 1154) (by decide +kernel)) (by decide +kernel)) (by decide +kernel)
theorem sX2_50 : gSiteP RX2 yX9_opens cX9_opens 3 (some .int) 50 2 := gSiteP.of (tb_in (List.mem_of_getElem? (i := 1213) (by decide +kernel)) (by decide +kernel)) (tb_in (List.mem_of_getElem? (i := 1208) (by decide +kernel)) (by decide +kernel)) (tb_in (List.mem_of_getElem? (i := 401) (by decide +kernel)) (by decide +kernel)) (tb_in (List.mem_of_getElem? (i := 1206) (by decide +kernel)) (by decide +kernel)) (tb_in (List.mem_of_getElem? (i := 90) (by decide +kernel)) (by decide +kernel)) (tb_in (List.mem_of_getElem? (i := 1228) (by decide +kernel)) (by decide +kernel)) (by decide +kernel)
set_option maxRecDepth 100000 in
theorem wX2_opens_g {Γ : gT} {D : gD} {ca : Nat → ClassId} {o : Nat → Nat} {I : gI} {J : gJ} {R : gR} {L : List Nat} {S : gS} {Q : Int32 → gI → gJ → gR → Prop} {q0 : Nat} (hq0 : q0 ∈ L) (hc0 : sC (S q0) = 3 ∨ sC (S q0) = 4) (v2 : Int32) (C : Cx Γ cX2_opens RX2 3 D (tyW ca) (rl 6) (some .int) 0 0 (PXi ca o L S Q)) (h : wX2_opens q0 v2 I J R L S Q) : G Γ 0 0 0 [(0, .ref q0), (1, .ref (o 1)), (2, .int v2)] [] (cX ca o I J R L S) := by
  unfold wX2_opens at h
  refine g_aload_n C (i := 1) dX2_opens_0 rfl rfl ?_
  refine g_bipush C (v := 40) dX2_opens_1 (by decide) ?_
  refine x_callV C (wJ4_k_append_cf468 40 I J R L S _ h) sX2_44 rcv_sb (rl_ok (by decide) (by decide)) rfl (Nat.le_of_ble_eq_true rfl) (st := []) _ rfl dX2_opens_3 (px_b (fun I2 J3 R4 h => ?_))
  refine g_pop C dX2_opens_6 rfl ?_
  refine g_aload_n C (i := 0) dX2_opens_7 rfl rfl ?_
  refine g_aload_n C (i := 1) dX2_opens_8 rfl rfl ?_
  refine g_iload_n C (i := 2) dX2_opens_9 rfl rfl ?_
  refine g_iconst_1 C dX2_opens_10 ?_
  refine g_iadd C dX2_opens_11 ?_
  refine x_callP C (wX9_k_opens hq0 (v2 + 1) I2 J3 R4 L S _ h) sX2_50 (rcv_any hq0) (rl_ok (by decide) (by decide)) rfl (Nat.le_of_ble_eq_true rfl) (st := []) _ rfl dX2_opens_12 (px_i (fun r5 I6 J7 R8 h => ?_))
  exact g_ret_i C dX2_opens_15 (Nat.le_refl _) (Nat.le_refl _) ⟨_, _, _, _, rfl, rfl, h⟩
theorem wX2_k_opens {D : gD} {ca : Nat → ClassId} {o : Nat → Nat} {L : List Nat} {S : gS} {q0 : Nat} (hq0 : q0 ∈ L) (hc0 : sC (S q0) = 3 ∨ sC (S q0) = 4) (v2 : Int32) (I : gI) (J : gJ) (R : gR) (L0 : List Nat) (S0 : gS) (Q : Int32 → gI → gJ → gR → Prop) (h : wX2_opens q0 v2 I J R L S Q) : Ct yX2_opens cX2_opens 3 (some .int) (rl 6) D (tyW ca) 0 0 [.ref q0, .ref (o 1), .int v2] (cX ca o I J R L S) (PXi ca o L S Q) := ct_of (rm := (rl 6)) (by decide +kernel) (Nat.le_of_ble_eq_true rfl) (fun Γ C => wX2_opens_g hq0 hc0 v2 C h)
theorem sX5_47 : gSiteQ RX5 "FoldedInHalf$Strip" ⟨"FoldedInHalf$Glass", "opens", "(Ljava/lang/StringBuilder;I)I"⟩ yX9_opens cX9_opens 3 (some .int) 47 2 := gSiteQ.of (tb_in (List.mem_of_getElem? (i := 1219) (by decide +kernel)) (by decide +kernel)) (tb_in (List.mem_of_getElem? (i := 1220) (by decide +kernel)) (by decide +kernel)) (tb_in (List.mem_of_getElem? (i := 453) (by decide +kernel)) (by decide +kernel)) (tb_in (List.mem_of_getElem? (i := 454) (by decide +kernel)) (by decide +kernel)) (tb_in (List.mem_of_getElem? (i := 1206) (by decide +kernel)) (by decide +kernel)) (tb_in (List.mem_of_getElem? (i := 90) (by decide +kernel)) (by decide +kernel)) (tb_in (List.mem_of_getElem? (i := 1228) (by decide +kernel)) (by decide +kernel)) rfl (by decide +kernel)
set_option maxRecDepth 100000 in
theorem wX5_opens_g {Γ : gT} {D : gD} {ca : Nat → ClassId} {o : Nat → Nat} {I : gI} {J : gJ} {R : gR} {L : List Nat} {S : gS} {Q : Int32 → gI → gJ → gR → Prop} {q0 : Nat} (hq0 : q0 ∈ L) (hc0 : sC (S q0) = 6) (v2 : Int32) (C : Cx Γ cX5_opens RX5 3 D (tyW ca) (rl 6) (some .int) 0 0 (PXi ca o L S Q)) (h : wX5_opens q0 v2 I J R L S Q) : G Γ 0 0 0 [(0, .ref q0), (1, .ref (o 1)), (2, .int v2)] [] (cX ca o I J R L S) := by
  unfold wX5_opens at h
  refine g_aload_n C (i := 1) dX5_opens_0 rfl rfl ?_
  refine g_bipush C (v := 71) dX5_opens_1 (by decide) ?_
  refine x_callV C (wJ4_k_append_cf468 71 I J R L S _ h) sX5_33 rcv_sb (rl_ok (by decide) (by decide)) rfl (Nat.le_of_ble_eq_true rfl) (st := []) _ rfl dX5_opens_3 (px_b (fun I2 J3 R4 h => ?_))
  refine g_pop C dX5_opens_6 rfl ?_
  refine g_aload_n C (i := 0) dX5_opens_7 rfl rfl ?_
  refine g_aload_n C (i := 1) dX5_opens_8 rfl rfl ?_
  refine g_iload_n C (i := 2) dX5_opens_9 rfl rfl ?_
  refine g_aload_n C (i := 0) dX5_opens_10 rfl rfl ?_
  refine x_get_X5_43 C hq0 hc0 dX5_opens_11 ?_
  refine g_isub C dX5_opens_14 ?_
  refine x_callP2 C (wX9_k_opens hq0 (v2 - (sA (S q0))) I2 J3 R4 L S _ h) sX5_47 (rcv_any hq0) (rl_ok (by decide) (by decide)) rfl (Nat.le_of_ble_eq_true rfl) (st := []) _ rfl dX5_opens_15 (px_i (fun r5 I6 J7 R8 h => ?_))
  exact g_ret_i C dX5_opens_18 (Nat.le_refl _) (Nat.le_refl _) ⟨_, _, _, _, rfl, rfl, h⟩
theorem wX5_k_opens {D : gD} {ca : Nat → ClassId} {o : Nat → Nat} {L : List Nat} {S : gS} {q0 : Nat} (hq0 : q0 ∈ L) (hc0 : sC (S q0) = 6) (v2 : Int32) (I : gI) (J : gJ) (R : gR) (L0 : List Nat) (S0 : gS) (Q : Int32 → gI → gJ → gR → Prop) (h : wX5_opens q0 v2 I J R L S Q) : Ct yX5_opens cX5_opens 3 (some .int) (rl 6) D (tyW ca) 0 0 [.ref q0, .ref (o 1), .int v2] (cX ca o I J R L S) (PXi ca o L S Q) := ct_of (rm := (rl 6)) (by decide +kernel) (Nat.le_of_ble_eq_true rfl) (fun Γ C => wX5_opens_g hq0 hc0 v2 C h)
theorem sX10_45 : gSite RX10 yJ4_append_cf468 cJ4_append_cf468 2 (some (.object "java/lang/StringBuilder")) 45 1 := gSite.of (tb_in (List.mem_of_getElem? (i := 1226) (by decide +kernel)) (by decide +kernel)) (tb_in (List.mem_of_getElem? (i := 1152) (by decide +kernel)) (by decide +kernel)) (tb_in (List.mem_of_getElem? (i := 1153) (by decide +kernel)) (by decide +kernel)) (tb_in (List.mem_of_getElem? (i := 80) (by decide +kernel)) (by decide +kernel)) (tb_in (List.mem_of_getElem? (i := 1154) (by decide +kernel)) (by decide +kernel)) (by decide +kernel)
theorem sX10_51 : gSiteP RX10 yX9_opens cX9_opens 3 (some .int) 51 2 := gSiteP.of (tb_in (List.mem_of_getElem? (i := 1227) (by decide +kernel)) (by decide +kernel)) (tb_in (List.mem_of_getElem? (i := 1208) (by decide +kernel)) (by decide +kernel)) (tb_in (List.mem_of_getElem? (i := 560) (by decide +kernel)) (by decide +kernel)) (tb_in (List.mem_of_getElem? (i := 1206) (by decide +kernel)) (by decide +kernel)) (tb_in (List.mem_of_getElem? (i := 90) (by decide +kernel)) (by decide +kernel)) (tb_in (List.mem_of_getElem? (i := 1228) (by decide +kernel)) (by decide +kernel)) (by decide +kernel)
set_option maxRecDepth 100000 in
theorem wX10_opens_g {Γ : gT} {D : gD} {ca : Nat → ClassId} {o : Nat → Nat} {I : gI} {J : gJ} {R : gR} {L : List Nat} {S : gS} {Q : Int32 → gI → gJ → gR → Prop} {q0 : Nat} (hq0 : q0 ∈ L) (hc0 : sC (S q0) = 2) (v2 : Int32) (C : Cx Γ cX10_opens RX10 3 D (tyW ca) (rl 6) (some .int) 0 0 (PXi ca o L S Q)) (h : wX10_opens q0 v2 I J R L S Q) : G Γ 0 0 0 [(0, .ref q0), (1, .ref (o 1)), (2, .int v2)] [] (cX ca o I J R L S) := by
  unfold wX10_opens at h
  refine g_aload_n C (i := 1) dX10_opens_0 rfl rfl ?_
  refine g_bipush C (v := 30) dX10_opens_1 (by decide) ?_
  refine x_callV C (wJ4_k_append_cf468 30 I J R L S _ h) sX10_45 rcv_sb (rl_ok (by decide) (by decide)) rfl (Nat.le_of_ble_eq_true rfl) (st := []) _ rfl dX10_opens_3 (px_b (fun I2 J3 R4 h => ?_))
  refine g_pop C dX10_opens_6 rfl ?_
  refine g_aload_n C (i := 0) dX10_opens_7 rfl rfl ?_
  refine g_aload_n C (i := 1) dX10_opens_8 rfl rfl ?_
  refine g_iload_n C (i := 2) dX10_opens_9 rfl rfl ?_
  refine x_callP C (wX9_k_opens hq0 v2 I2 J3 R4 L S _ h) sX10_51 (rcv_any hq0) (rl_ok (by decide) (by decide)) rfl (Nat.le_of_ble_eq_true rfl) (st := []) _ rfl dX10_opens_10 (px_i (fun r5 I6 J7 R8 h => ?_))
  refine g_iconst_3 C dX10_opens_13 ?_
  refine g_imul C dX10_opens_14 ?_
  exact g_ret_i C dX10_opens_15 (Nat.le_refl _) (Nat.le_refl _) ⟨_, _, _, _, rfl, rfl, h⟩
theorem wX10_k_opens {D : gD} {ca : Nat → ClassId} {o : Nat → Nat} {L : List Nat} {S : gS} {q0 : Nat} (hq0 : q0 ∈ L) (hc0 : sC (S q0) = 2) (v2 : Int32) (I : gI) (J : gJ) (R : gR) (L0 : List Nat) (S0 : gS) (Q : Int32 → gI → gJ → gR → Prop) (h : wX10_opens q0 v2 I J R L S Q) : Ct yX10_opens cX10_opens 3 (some .int) (rl 6) D (tyW ca) 0 0 [.ref q0, .ref (o 1), .int v2] (cX ca o I J R L S) (PXi ca o L S Q) := ct_of (rm := (rl 6)) (by decide +kernel) (Nat.le_of_ble_eq_true rfl) (fun Γ C => wX10_opens_g hq0 hc0 v2 C h)
theorem sX11_157 : gSite RX11 yX11_noStrip cX11_noStrip 6 (some .int) 157 4 := gSite.of (tb_in (List.mem_of_getElem? (i := 487) (by decide +kernel)) (by decide +kernel)) (tb_in (List.mem_of_getElem? (i := 489) (by decide +kernel)) (by decide +kernel)) (tb_in (List.mem_of_getElem? (i := 6) (by decide +kernel)) (by decide +kernel)) (tb_in (List.mem_of_getElem? (i := 78) (by decide +kernel)) (by decide +kernel)) (tb_in (List.mem_of_getElem? (i := 490) (by decide +kernel)) (by decide +kernel)) (by decide +kernel)
theorem sX11_167 : gSiteS RX11 yX9_made cX9_made 6 (some (.object "FoldedInHalf$Strip")) 167 5 := gSiteS.of (tb_in (List.mem_of_getElem? (i := 503) (by decide +kernel)) (by decide +kernel)) (tb_in (List.mem_of_getElem? (i := 504) (by decide +kernel)) (by decide +kernel)) (tb_in (List.mem_of_getElem? (i := 90) (by decide +kernel)) (by decide +kernel)) (tb_in (List.mem_of_getElem? (i := 505) (by decide +kernel)) (by decide +kernel)) (by decide +kernel)
set_option maxRecDepth 100000 in
theorem wX11_strip_gb29 {Γ : gT} {D : gD} {ca : Nat → ClassId} {o : Nat → Nat} {Q : Int32 → gI → gJ → gR → List Nat → gS → Prop} (C : Cx Γ cX11_strip RX11 9 D (tyW ca) (rla 7 1 6) (some .int) 1 6 (PAi ca o Q)) {B29 : Int32 → Int32 → Int32 → Int32 → Int64 → Int32 → gI → gJ → gR → List Nat → gS → Prop} (hB29 : ∀ (v1 : Int32) (v2 : Int32) (v3 : Int32) (v4 : Int32) (v6 : Int64) (v8 : Int32) (I : gI) (J : gJ) (R : gR) (L : List Nat) (S : gS), B29 v1 v2 v3 v4 v6 v8 I J R L S → G Γ 0 0 29 [(0, .ref (o 0)), (1, .int v1), (2, .int v2), (3, .int v3), (4, .int v4), (6, .long v6), (8, .int v8)] [] (cX ca o I J R L S)) (v1 : Int32) (v2 : Int32) (v3 : Int32) (v4 : Int32) (v6 : Int64) (v8 : Int32) (I : gI) (J : gJ) (R : gR) (L : List Nat) (S : gS) (h : wX11_strip_b29 B29 v1 v2 v3 v4 v6 v8 I J R L S Q) : G Γ 0 0 29 [(0, .ref (o 0)), (1, .int v1), (2, .int v2), (3, .int v3), (4, .int v4), (6, .long v6), (8, .int v8)] [] (cX ca o I J R L S) := by
  unfold wX11_strip_b29 at h
  refine g_iload C (i := 8) dX11_strip_29 rfl ?_
  refine g_iload C (i := 4) dX11_strip_31 rfl ?_
  refine g_icmp_ge C 64 dX11_strip_33 rfl (fun c1 => ?_) (fun c1 => ?_)
  · replace h := h.1 c1
    refine g_aload_n C (i := 0) dX11_strip_64 rfl rfl ?_
    refine x_get_X11_11 C dX11_strip_65 ?_
    refine g_aload_n C (i := 0) dX11_strip_68 rfl rfl ?_
    refine x_get_X11_164 C dX11_strip_69 ?_
    refine g_iload_n C (i := 1) dX11_strip_72 rfl rfl ?_
    refine g_aload_n C (i := 0) dX11_strip_73 rfl rfl ?_
    refine x_get_X11_164 C dX11_strip_74 ?_
    refine g_iload_n C (i := 2) dX11_strip_77 rfl rfl ?_
    refine g_iload C (i := 4) dX11_strip_78 rfl ?_
    refine g_lload C (i := 6) dX11_strip_80 rfl ?_
    refine x_callS C (wX9_k_made v1 (I 0 0) v2 v4 v6 I J R L S _ h) sX11_167 (rla_ok (by decide) (by decide) (by decide) (by decide)) rfl (Nat.le_of_ble_eq_true rfl) (st := [.int (I 0 0), .ref (o 5)]) _ rfl dX11_strip_82 (pa_r (fun r2 I3 J4 R5 L6 S7 hr2 h => ?_))
    obtain ⟨h8, h⟩ := h
    refine x_aast C (k := 0) (r := (some r2)) (by decide) (fun _ z => by cases z; exact hr2) h8 dX11_strip_85 ?_
    refine x_nmR _ (fun R9 e10 => ?_)
    replace h := h R9 e10
    refine g_aload_n C (i := 0) dX11_strip_86 rfl rfl ?_
    refine g_dup C dX11_strip_87 rfl ?_
    refine x_get_X11_164 C dX11_strip_88 ?_
    refine g_iconst_1 C dX11_strip_91 ?_
    refine g_iadd C dX11_strip_92 ?_
    refine x_put_X11_164 C dX11_strip_93 ?_
    refine x_nmI _ (fun I11 e12 => ?_)
    replace h := h I11 e12
    refine g_aload_n C (i := 0) dX11_strip_96 rfl rfl ?_
    refine x_get_X11_164 C dX11_strip_97 ?_
    refine g_iconst_1 C dX11_strip_100 ?_
    refine g_isub C dX11_strip_101 ?_
    exact g_ret_i C dX11_strip_102 (by decide) (by decide) ⟨_, _, _, _, _, _, rfl, rfl, h⟩
  · replace h := h.2 c1
    refine g_lload C (i := 6) dX11_strip_36 rfl ?_
    refine g_aload_n C (i := 0) dX11_strip_38 rfl rfl ?_
    refine x_get_X11_24 C dX11_strip_39 ?_
    refine g_iload_n C (i := 3) dX11_strip_42 rfl rfl ?_
    obtain ⟨h13, h⟩ := h
    refine x_shelf C h13 dX11_strip_43 ?_
    refine g_iload C (i := 8) dX11_strip_44 rfl ?_
    refine x_callV C (wX8_k_asInt (vp_lt h13) v8 I J R L S _ h) sX11_161 (rcv_shelf (s := v3.toNatClampNeg) (vp_lt h13)) (rl_in_rla (by decide) (by decide) (by decide) (by decide)) rfl (Nat.le_of_ble_eq_true rfl) (st := [.long v6]) _ rfl dX11_strip_46 (py_i (fun r14 h => ?_))
    refine g_i2l C dX11_strip_49 ?_
    refine g_lconst_1 C dX11_strip_50 ?_
    refine g_land C dX11_strip_51 ?_
    refine g_iload C (i := 8) dX11_strip_52 rfl ?_
    refine g_lshl C dX11_strip_54 ?_
    refine g_lor C dX11_strip_55 ?_
    refine g_lstore C (i := 6) [(0, .ref (o 0)), (1, .int v1), (2, .int v2), (3, .int v3), (4, .int v4), (6, .long (v6 ||| ((r14.toInt64 &&& 1) <<< (v8.toInt64 &&& 63)))), (8, .int v8)] dX11_strip_56 (by decide) rfl ?_
    refine g_iinc C 1 [(0, .ref (o 0)), (1, .int v1), (2, .int v2), (3, .int v3), (4, .int v4), (6, .long (v6 ||| ((r14.toInt64 &&& 1) <<< (v8.toInt64 &&& 63)))), (8, .int (v8 + 1))] dX11_strip_58 rfl (by decide) (by decide) rfl ?_
    refine g_goto C 29 dX11_strip_61 rfl ?_
    exact g_weak [0, 1, 2, 3, 4, 5, 6] rfl (by decide) (by decide) (hB29 v1 v2 v3 v4 (v6 ||| ((r14.toInt64 &&& 1) <<< (v8.toInt64 &&& 63))) (v8 + 1) I J R L S h)
theorem wX11_strip_gl29 {Γ : gT} {D : gD} {ca : Nat → ClassId} {o : Nat → Nat} {Q : Int32 → gI → gJ → gR → List Nat → gS → Prop} (C : Cx Γ cX11_strip RX11 9 D (tyW ca) (rla 7 1 6) (some .int) 1 6 (PAi ca o Q)) : ∀ (n : Nat) (v1 : Int32) (v2 : Int32) (v3 : Int32) (v4 : Int32) (v6 : Int64) (v8 : Int32) (I : gI) (J : gJ) (R : gR) (L : List Nat) (S : gS) (_ : wX11_strip_l29 Q n v1 v2 v3 v4 v6 v8 I J R L S), G Γ 0 0 29 [(0, .ref (o 0)), (1, .int v1), (2, .int v2), (3, .int v3), (4, .int v4), (6, .long v6), (8, .int v8)] [] (cX ca o I J R L S) := by
  intro n
  induction n with
  | zero => intro v1 v2 v3 v4 v6 v8 I J R L S h; exact h.elim
  | succ n ih => intro v1 v2 v3 v4 v6 v8 I J R L S h; exact wX11_strip_gb29 C ih v1 v2 v3 v4 v6 v8 I J R L S h
set_option maxRecDepth 100000 in
theorem wX11_strip_g {Γ : gT} {D : gD} {ca : Nat → ClassId} {o : Nat → Nat} {I : gI} {J : gJ} {R : gR} {L : List Nat} {S : gS} {Q : Int32 → gI → gJ → gR → List Nat → gS → Prop} (v1 : Int32) (v2 : Int32) (v3 : Int32) (v4 : Int32) (C : Cx Γ cX11_strip RX11 9 D (tyW ca) (rla 7 1 6) (some .int) 1 6 (PAi ca o Q)) (h : wX11_strip v1 v2 v3 v4 I J R L S Q) : G Γ 0 0 0 [(0, .ref (o 0)), (1, .int v1), (2, .int v2), (3, .int v3), (4, .int v4)] [] (cX ca o I J R L S) := by
  unfold wX11_strip at h
  refine g_aload_n C (i := 0) dX11_strip_0 rfl rfl ?_
  refine g_iload_n C (i := 1) dX11_strip_1 rfl rfl ?_
  refine g_iload_n C (i := 2) dX11_strip_2 rfl rfl ?_
  refine g_iload_n C (i := 3) dX11_strip_3 rfl rfl ?_
  refine g_iload C (i := 4) dX11_strip_4 rfl ?_
  refine x_callV C (wX11_k_noStrip v1 v2 v3 v4 I J R L S _ h) sX11_157 rcv_main (rl_in_rla (by decide) (by decide) (by decide) (by decide)) rfl (Nat.le_of_ble_eq_true rfl) (st := []) _ rfl dX11_strip_6 (py_i (fun r1 h => ?_))
  refine g_istore C (i := 5) [(0, .ref (o 0)), (1, .int v1), (2, .int v2), (3, .int v3), (4, .int v4), (5, .int r1)] dX11_strip_9 (by decide) rfl ?_
  refine g_iload C (i := 5) dX11_strip_11 rfl ?_
  refine g_if_eq C 23 dX11_strip_13 rfl (fun c2 => ?_) (fun c2 => ?_)
  · replace h := h.1 c2
    refine g_lconst_0 C dX11_strip_23 ?_
    refine g_lstore C (i := 6) [(0, .ref (o 0)), (1, .int v1), (2, .int v2), (3, .int v3), (4, .int v4), (5, .int r1), (6, .long 0)] dX11_strip_24 (by decide) rfl ?_
    refine g_iconst_0 C dX11_strip_26 ?_
    refine g_istore C (i := 8) [(0, .ref (o 0)), (1, .int v1), (2, .int v2), (3, .int v3), (4, .int v4), (5, .int r1), (6, .long 0), (8, .int 0)] dX11_strip_27 (by decide) rfl ?_
    obtain ⟨n, h⟩ := h
    exact g_weak [0, 1, 2, 3, 4, 6, 7] rfl (by decide) (by decide) (wX11_strip_gl29  C  n v1 v2 v3 v4 0 0 I J R L S h)
  · replace h := h.2 c2
    refine g_aload_n C (i := 0) dX11_strip_16 rfl rfl ?_
    refine g_iload C (i := 5) dX11_strip_17 rfl ?_
    refine x_callV C (wX11_k_refuse r1 I J R L S _ h) sX11_73 rcv_main (rl_in_rla (by decide) (by decide) (by decide) (by decide)) rfl (Nat.le_of_ble_eq_true rfl) (st := []) _ rfl dX11_strip_19 (px_i (fun r3 I4 J5 R6 h => ?_))
    exact g_ret_i C dX11_strip_22 (by decide) (by decide) ⟨_, _, _, _, _, _, rfl, rfl, h⟩
theorem wX11_k_strip {D : gD} {ca : Nat → ClassId} {o : Nat → Nat} {L : List Nat} {S : gS} (v1 : Int32) (v2 : Int32) (v3 : Int32) (v4 : Int32) (I : gI) (J : gJ) (R : gR) (L0 : List Nat) (S0 : gS) (Q : Int32 → gI → gJ → gR → List Nat → gS → Prop) (h : wX11_strip v1 v2 v3 v4 I J R L S Q) : Ct yX11_strip cX11_strip 9 (some .int) (rla 7 1 6) D (tyW ca) 1 6 [.ref (o 0), .int v1, .int v2, .int v3, .int v4] (cX ca o I J R L S) (PAi ca o Q) := ct_of (rm := (rla 7 1 6)) (by decide +kernel) (Nat.le_of_ble_eq_true rfl) (fun Γ C => wX11_strip_g v1 v2 v3 v4 C h)
set_option maxRecDepth 100000 in
theorem wX11_turn_gc33 {Γ : gT} {D : gD} {ca : Nat → ClassId} {o : Nat → Nat} {Q : Int32 → gI → gJ → gR → List Nat → gS → Prop} (C : Cx Γ cX11_turn RX11 4 D (tyW ca) (rla 7 1 6) (some .int) 1 6 (PAi ca o Q)) (I : gI) (J : gJ) (R : gR) (L : List Nat) (S : gS) (h : wX11_turn_c33 I J R L S Q) : G Γ 0 0 33 [(0, .ref (o 0))] [] (cX ca o I J R L S) := by
  unfold wX11_turn_c33 at h
  refine g_aload_n C (i := 0) dX11_turn_33 rfl rfl ?_
  refine g_bipush C (v := (-5)) dX11_turn_34 (by decide) ?_
  refine x_callV C (wX11_k_refuse (-5) I J R L S _ h) sX11_73 rcv_main (rl_in_rla (by decide) (by decide) (by decide) (by decide)) rfl (Nat.le_of_ble_eq_true rfl) (st := []) _ rfl dX11_turn_36 (px_i (fun r1 I2 J3 R4 h => ?_))
  exact g_ret_i C dX11_turn_39 (by decide) (by decide) ⟨_, _, _, _, _, _, rfl, rfl, h⟩
set_option maxRecDepth 100000 in
theorem wX11_turn_g {Γ : gT} {D : gD} {ca : Nat → ClassId} {o : Nat → Nat} {I : gI} {J : gJ} {R : gR} {L : List Nat} {S : gS} {Q : Int32 → gI → gJ → gR → List Nat → gS → Prop} (v1 : Int32) (v2 : Int32) (C : Cx Γ cX11_turn RX11 4 D (tyW ca) (rla 7 1 6) (some .int) 1 6 (PAi ca o Q)) (h : wX11_turn v1 v2 I J R L S Q) : G Γ 0 0 0 [(0, .ref (o 0)), (1, .int v1), (2, .int v2)] [] (cX ca o I J R L S) := by
  unfold wX11_turn at h
  refine g_aload_n C (i := 0) dX11_turn_0 rfl rfl ?_
  refine g_iload_n C (i := 1) dX11_turn_1 rfl rfl ?_
  refine x_callV C (wX11_k_isStrip v1 I J R L S _ h) sX11_118 rcv_main (rl_in_rla (by decide) (by decide) (by decide) (by decide)) rfl (Nat.le_of_ble_eq_true rfl) (st := []) _ rfl dX11_turn_2 (py_z (fun r1 h => ?_))
  refine g_zne C 14 dX11_turn_5 rfl (fun c2 => ?_) (fun c2 => ?_)
  · replace h := h.1 c2
    refine g_aload_n C (i := 0) dX11_turn_14 rfl rfl ?_
    refine x_get_X11_11 C dX11_turn_15 ?_
    refine g_iload_n C (i := 1) dX11_turn_18 rfl rfl ?_
    obtain ⟨h3, h⟩ := h
    refine x_aald C (k := 0) (by decide) h3 dX11_turn_19 ?_
    refine g_astoreq_n C (i := 3) [(0, .ref (o 0)), (1, .int v1), (2, .int v2), (3, va_rf (R 0 v1.toNatClampNeg))] dX11_turn_20 rfl (by decide) (by cases (R 0 v1.toNatClampNeg) <;> rfl) ?_
    refine g_iload_n C (i := 2) dX11_turn_21 rfl rfl ?_
    refine g_if_lt C 33 dX11_turn_22 rfl (fun c4 => ?_) (fun c4 => ?_)
    · replace h := h.1 c4
      exact g_weak [0] rfl (by decide) (by decide) (wX11_turn_gc33  C   I J R L S h)
    · replace h := h.2 c4
      refine g_iload_n C (i := 2) dX11_turn_25 rfl rfl ?_
      refine g_aloadq_n C (i := 3) dX11_turn_26 rfl rfl ?_
      obtain ⟨z5, h6, h7, h⟩ := h
      refine g_eqs (st' := [.ref z5, .int v2]) (by rw [h6]; rfl) rfl ?_
      refine x_get_X11_135 C h7 dX11_turn_27 ?_
      refine g_icmp_lt C 40 dX11_turn_30 rfl (fun c8 => ?_) (fun c8 => ?_)
      · replace h := h.1 c8
        refine g_aload_n C (i := 0) dX11_turn_40 rfl rfl ?_
        refine x_get_X11_11 C dX11_turn_41 ?_
        refine g_iload_n C (i := 1) dX11_turn_44 rfl rfl ?_
        refine g_aloadq_n C (i := 3) dX11_turn_45 rfl rfl ?_
        refine g_eqs (st' := [.ref z5, .int v1, .ref (o 5)]) (by rw [h6]; rfl) rfl ?_
        refine x_get_X11_124 C h7 dX11_turn_46 ?_
        refine g_iload_n C (i := 1) dX11_turn_49 rfl rfl ?_
        refine g_aloadq_n C (i := 3) dX11_turn_50 rfl rfl ?_
        refine g_eqs (st' := [.ref z5, .int v1, .int (sK (S z5)), .int v1, .ref (o 5)]) (by rw [h6]; rfl) rfl ?_
        refine x_get_X11_138 C h7 dX11_turn_51 ?_
        refine g_aloadq_n C (i := 3) dX11_turn_54 rfl rfl ?_
        refine g_eqs (st' := [.ref z5, .int (sA (S z5)), .int v1, .int (sK (S z5)), .int v1, .ref (o 5)]) (by rw [h6]; rfl) rfl ?_
        refine x_get_X11_135 C h7 dX11_turn_55 ?_
        refine g_aloadq_n C (i := 3) dX11_turn_58 rfl rfl ?_
        refine g_eqs (st' := [.ref z5, .int (sL (S z5)), .int (sA (S z5)), .int v1, .int (sK (S z5)), .int v1, .ref (o 5)]) (by rw [h6]; rfl) rfl ?_
        refine x_get_X11_182 C h7 dX11_turn_59 ?_
        refine g_lconst_1 C dX11_turn_62 ?_
        refine g_iload_n C (i := 2) dX11_turn_63 rfl rfl ?_
        refine g_lshl C dX11_turn_64 ?_
        refine g_lxor C dX11_turn_65 ?_
        refine x_callS C (wX9_k_made (sK (S z5)) v1 (sA (S z5)) (sL (S z5)) ((sW (S z5)) ^^^ (((1 : Int64)) <<< (v2.toInt64 &&& 63))) I J R L S _ h) sX11_167 (rla_ok (by decide) (by decide) (by decide) (by decide)) rfl (Nat.le_of_ble_eq_true rfl) (st := [.int v1, .ref (o 5)]) _ rfl dX11_turn_66 (pa_r (fun r9 I10 J11 R12 L13 S14 hr9 h => ?_))
        refine x_aast C (k := 0) (r := (some r9)) (by decide) (fun _ z => by cases z; exact hr9) h3 dX11_turn_69 ?_
        refine x_nmR _ (fun R15 e16 => ?_)
        replace h := h R15 e16
        refine g_aloadq_n C (i := 3) dX11_turn_70 rfl rfl ?_
        refine g_iload_n C (i := 2) dX11_turn_71 rfl rfl ?_
        obtain ⟨z17, h18, h19, h⟩ := h
        refine g_eqs (st' := [.int v2, .ref z17]) (by rw [h18]; rfl) rfl ?_
        refine xv_X11_179 C h19 v2 I10 J11 R15 L13 S14 _ h (fun l m h1 h2 => rl_in_rla (by omega) h2 (by decide) (by decide)) (Nat.le_of_ble_eq_true rfl) (st := []) _ rfl dX11_turn_72 (fun r20 h => ?_)
        exact g_ret_i C dX11_turn_75 (by decide) (by decide) ⟨_, _, _, _, _, _, rfl, rfl, h⟩
      · replace h := h.2 c8
        exact g_weak [0] rfl (by decide) (by decide) (wX11_turn_gc33  C   I J R L S h)
  · replace h := h.2 c2
    refine g_aload_n C (i := 0) dX11_turn_8 rfl rfl ?_
    refine g_iconst_m1 C dX11_turn_9 ?_
    refine x_callV C (wX11_k_refuse (-1) I J R L S _ h) sX11_73 rcv_main (rl_in_rla (by decide) (by decide) (by decide) (by decide)) rfl (Nat.le_of_ble_eq_true rfl) (st := []) _ rfl dX11_turn_10 (px_i (fun r21 I22 J23 R24 h => ?_))
    exact g_ret_i C dX11_turn_13 (by decide) (by decide) ⟨_, _, _, _, _, _, rfl, rfl, h⟩
theorem wX11_k_turn {D : gD} {ca : Nat → ClassId} {o : Nat → Nat} {L : List Nat} {S : gS} (v1 : Int32) (v2 : Int32) (I : gI) (J : gJ) (R : gR) (L0 : List Nat) (S0 : gS) (Q : Int32 → gI → gJ → gR → List Nat → gS → Prop) (h : wX11_turn v1 v2 I J R L S Q) : Ct yX11_turn cX11_turn 4 (some .int) (rla 7 1 6) D (tyW ca) 1 6 [.ref (o 0), .int v1, .int v2] (cX ca o I J R L S) (PAi ca o Q) := ct_of (rm := (rla 7 1 6)) (by decide +kernel) (Nat.le_of_ble_eq_true rfl) (fun Γ C => wX11_turn_g v1 v2 C h)
