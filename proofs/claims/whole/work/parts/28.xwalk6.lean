theorem sX6_60 : gSite RX6 yX6_letters cX6_letters 3 (some .boolean) 60 1 := gSite.of (tb_in (List.mem_of_getElem? (i := 653) (by decide +kernel)) (by decide +kernel)) (tb_in (List.mem_of_getElem? (i := 655) (by decide +kernel)) (by decide +kernel)) (tb_in (List.mem_of_getElem? (i := 10) (by decide +kernel)) (by decide +kernel)) (tb_in (List.mem_of_getElem? (i := 83) (by decide +kernel)) (by decide +kernel)) (tb_in (List.mem_of_getElem? (i := 656) (by decide +kernel)) (by decide +kernel)) (by decide +kernel)
theorem sX6_79 : gSite RX6 yX6_wordUpTo cX6_wordUpTo 2 (some .boolean) 79 1 := gSite.of (tb_in (List.mem_of_getElem? (i := 715) (by decide +kernel)) (by decide +kernel)) (tb_in (List.mem_of_getElem? (i := 717) (by decide +kernel)) (by decide +kernel)) (tb_in (List.mem_of_getElem? (i := 13) (by decide +kernel)) (by decide +kernel)) (tb_in (List.mem_of_getElem? (i := 83) (by decide +kernel)) (by decide +kernel)) (tb_in (List.mem_of_getElem? (i := 718) (by decide +kernel)) (by decide +kernel)) (by decide +kernel)
theorem sX6_89 : gSiteS RX6 yX9_made cX9_made 6 (some (.object "FoldedInHalf$Strip")) 89 5 := gSiteS.of (tb_in (List.mem_of_getElem? (i := 719) (by decide +kernel)) (by decide +kernel)) (tb_in (List.mem_of_getElem? (i := 504) (by decide +kernel)) (by decide +kernel)) (tb_in (List.mem_of_getElem? (i := 90) (by decide +kernel)) (by decide +kernel)) (tb_in (List.mem_of_getElem? (i := 505) (by decide +kernel)) (by decide +kernel)) (by decide +kernel)
set_option maxRecDepth 100000 in
theorem wX6_stripItem_g {Γ : gT} {D : gD} {ca : Nat → ClassId} {o : Nat → Nat} {I : gI} {J : gJ} {R : gR} {L : List Nat} {S : gS} {Q : Bool → gI → gJ → gR → List Nat → gS → Prop} (C : Cx Γ cX6_stripItem RX6 4 D (tyW ca) (rla 7 1 6) (some .boolean) 1 6 (PAz ca o Q)) (h : wX6_stripItem I J R L S Q) : G Γ 0 0 0 [(0, .ref (o 3))] [] (cX ca o I J R L S) := by
  unfold wX6_stripItem at h
  refine g_aload_n C (i := 0) dX6_stripItem_0 rfl rfl ?_
  refine x_get_X6_28 C dX6_stripItem_1 ?_
  refine g_istore_n C (i := 1) [(0, .ref (o 3)), (1, .int (I 0 7))] dX6_stripItem_4 rfl (by decide) rfl ?_
  refine g_aload_n C (i := 0) dX6_stripItem_5 rfl rfl ?_
  refine x_text C (i := 0) (by decide) rfl dX6_stripItem_6 ?_
  refine x_callV C (wX6_k_letters (by decide) I J R L S _ h) sX6_60 rcv_reader (rl_in_rla (by decide) (by decide) (by decide) (by decide)) rfl (Nat.le_of_ble_eq_true rfl) (st := []) _ rfl dX6_stripItem_8 (px_z (fun r1 I2 J3 R4 h => ?_))
  refine g_zne C 16 dX6_stripItem_11 rfl (fun c5 => ?_) (fun c5 => ?_)
  · replace h := h.1 c5
    refine g_aload_n C (i := 0) dX6_stripItem_16 rfl rfl ?_
    refine x_get_X6_21 C dX6_stripItem_17 ?_
    refine g_aload_n C (i := 0) dX6_stripItem_20 rfl rfl ?_
    refine x_get_X6_11 C dX6_stripItem_21 ?_
    refine x_rlen C (k := 2) (by decide) dX6_stripItem_24 ?_
    refine g_icmp_lt C 34 dX6_stripItem_25 rfl (fun c6 => ?_) (fun c6 => ?_)
    · replace h := h.1 c6
      refine g_aload_n C (i := 0) dX6_stripItem_34 rfl rfl ?_
      refine x_text C (i := 1) (by decide) rfl dX6_stripItem_35 ?_
      refine x_callV C (wX6_k_letters (by decide) I2 J3 R4 L S _ h) sX6_60 rcv_reader (rl_in_rla (by decide) (by decide) (by decide) (by decide)) rfl (Nat.le_of_ble_eq_true rfl) (st := []) _ rfl dX6_stripItem_37 (px_z (fun r7 I8 J9 R10 h => ?_))
      refine g_zeq C 52 dX6_stripItem_40 rfl (fun c11 => ?_) (fun c11 => ?_)
      · replace h := h.1 c11
        refine g_iconst_0 C dX6_stripItem_52 ?_
        exact g_ret_z C false rfl dX6_stripItem_53 (by decide) (by decide) ⟨_, _, _, _, _, _, rfl, rfl, h⟩
      · replace h := h.2 c11
        refine g_aload_n C (i := 0) dX6_stripItem_43 rfl rfl ?_
        refine g_bipush C (v := 6) dX6_stripItem_44 (by decide) ?_
        refine x_callV C (wX6_k_numberUpTo 6 I8 J9 R10 L S _ h) sX6_68 rcv_reader (rl_in_rla (by decide) (by decide) (by decide) (by decide)) rfl (Nat.le_of_ble_eq_true rfl) (st := []) _ rfl dX6_stripItem_46 (px_z (fun r12 I13 J14 R15 h => ?_))
        refine g_zne C 54 dX6_stripItem_49 rfl (fun c16 => ?_) (fun c16 => ?_)
        · replace h := h.1 c16
          refine g_aload_n C (i := 0) dX6_stripItem_54 rfl rfl ?_
          refine x_get_X6_71 C dX6_stripItem_55 ?_
          refine g_istore_n C (i := 2) [(0, .ref (o 3)), (1, .int (I 0 7)), (2, .int (I13 0 8))] dX6_stripItem_58 rfl (by decide) rfl ?_
          refine g_aload_n C (i := 0) dX6_stripItem_59 rfl rfl ?_
          refine x_text C (i := 1) (by decide) rfl dX6_stripItem_60 ?_
          refine x_callV C (wX6_k_letters (by decide) I13 J14 R15 L S _ h) sX6_60 rcv_reader (rl_in_rla (by decide) (by decide) (by decide) (by decide)) rfl (Nat.le_of_ble_eq_true rfl) (st := []) _ rfl dX6_stripItem_62 (px_z (fun r17 I18 J19 R20 h => ?_))
          refine g_zeq C 77 dX6_stripItem_65 rfl (fun c21 => ?_) (fun c21 => ?_)
          · replace h := h.1 c21
            refine g_iconst_0 C dX6_stripItem_77 ?_
            exact g_ret_z C false rfl dX6_stripItem_78 (by decide) (by decide) ⟨_, _, _, _, _, _, rfl, rfl, h⟩
          · replace h := h.2 c21
            refine g_aload_n C (i := 0) dX6_stripItem_68 rfl rfl ?_
            refine g_ldc C (v := 999999) (tb_in (List.mem_of_getElem? (i := 713) (by decide +kernel)) (by decide +kernel)) dX6_stripItem_69 ?_
            refine x_callV C (wX6_k_numberUpTo 999999 I18 J19 R20 L S _ h) sX6_68 rcv_reader (rl_in_rla (by decide) (by decide) (by decide) (by decide)) rfl (Nat.le_of_ble_eq_true rfl) (st := []) _ rfl dX6_stripItem_71 (px_z (fun r22 I23 J24 R25 h => ?_))
            refine g_zne C 79 dX6_stripItem_74 rfl (fun c26 => ?_) (fun c26 => ?_)
            · replace h := h.1 c26
              refine g_aload_n C (i := 0) dX6_stripItem_79 rfl rfl ?_
              refine x_get_X6_71 C dX6_stripItem_80 ?_
              refine g_istore_n C (i := 3) [(0, .ref (o 3)), (1, .int (I 0 7)), (2, .int (I13 0 8)), (3, .int (I23 0 8))] dX6_stripItem_83 rfl (by decide) rfl ?_
              refine g_aload_n C (i := 0) dX6_stripItem_84 rfl rfl ?_
              refine x_text C (i := 1) (by decide) rfl dX6_stripItem_85 ?_
              refine x_callV C (wX6_k_letters (by decide) I23 J24 R25 L S _ h) sX6_60 rcv_reader (rl_in_rla (by decide) (by decide) (by decide) (by decide)) rfl (Nat.le_of_ble_eq_true rfl) (st := []) _ rfl dX6_stripItem_87 (px_z (fun r27 I28 J29 R30 h => ?_))
              refine g_zeq C 104 dX6_stripItem_90 rfl (fun c31 => ?_) (fun c31 => ?_)
              · replace h := h.1 c31
                refine g_iconst_0 C dX6_stripItem_104 ?_
                exact g_ret_z C false rfl dX6_stripItem_105 (by decide) (by decide) ⟨_, _, _, _, _, _, rfl, rfl, h⟩
              · replace h := h.2 c31
                refine g_aload_n C (i := 0) dX6_stripItem_93 rfl rfl ?_
                refine g_iload_n C (i := 2) dX6_stripItem_94 rfl rfl ?_
                refine x_callN C (n := 1) (wX11_k_mostLevels (I13 0 8) I28 J29 R30 L S _ h) (host := "FoldedInHalf") (by decide) (tb_in (List.mem_of_getElem? (i := 497) (by decide +kernel)) (by decide +kernel)) (tb_in (List.mem_of_getElem? (i := 78) (by decide +kernel)) (by decide +kernel)) (tb_in (List.mem_of_getElem? (i := 496) (by decide +kernel)) (by decide +kernel)) (by decide +kernel) (rl_in_rla (by decide) (by decide) (by decide) (by decide)) rfl (Nat.le_of_ble_eq_true rfl) (st := [.ref (o 3)]) _ rfl dX6_stripItem_95 (py_i (fun r32 h => ?_))
                refine x_callV C (wX6_k_wordUpTo r32 I28 J29 R30 L S _ h) sX6_79 rcv_reader (rl_in_rla (by decide) (by decide) (by decide) (by decide)) rfl (Nat.le_of_ble_eq_true rfl) (st := []) _ rfl dX6_stripItem_98 (px_z (fun r33 I34 J35 R36 h => ?_))
                refine g_zne C 106 dX6_stripItem_101 rfl (fun c37 => ?_) (fun c37 => ?_)
                · replace h := h.1 c37
                  refine g_aload_n C (i := 0) dX6_stripItem_106 rfl rfl ?_
                  refine x_get_X6_11 C dX6_stripItem_107 ?_
                  refine g_aload_n C (i := 0) dX6_stripItem_110 rfl rfl ?_
                  refine x_get_X6_21 C dX6_stripItem_111 ?_
                  refine g_iload_n C (i := 2) dX6_stripItem_114 rfl rfl ?_
                  refine g_aload_n C (i := 0) dX6_stripItem_115 rfl rfl ?_
                  refine x_get_X6_21 C dX6_stripItem_116 ?_
                  refine g_iload_n C (i := 3) dX6_stripItem_119 rfl rfl ?_
                  refine g_aload_n C (i := 0) dX6_stripItem_120 rfl rfl ?_
                  refine x_get_X6_82 C dX6_stripItem_121 ?_
                  refine g_aload_n C (i := 0) dX6_stripItem_124 rfl rfl ?_
                  refine x_get_X6_85 C dX6_stripItem_125 ?_
                  refine x_callS C (wX9_k_made (I13 0 8) (I34 0 5) (I23 0 8) (I34 0 10) (J35 0 0) I34 J35 R36 L S _ h) sX6_89 (rla_ok (by decide) (by decide) (by decide) (by decide)) rfl (Nat.le_of_ble_eq_true rfl) (st := [.int (I34 0 5), .ref (o 7)]) _ rfl dX6_stripItem_128 (pa_r (fun r38 I39 J40 R41 L42 S43 hr38 h => ?_))
                  obtain ⟨h44, h⟩ := h
                  refine x_aast C (k := 2) (r := (some r38)) (by decide) (fun _ z => by cases z; exact hr38) h44 dX6_stripItem_131 ?_
                  refine x_nmR _ (fun R45 e46 => ?_)
                  replace h := h R45 e46
                  refine g_aload_n C (i := 0) dX6_stripItem_132 rfl rfl ?_
                  refine g_dup C dX6_stripItem_133 rfl ?_
                  refine x_get_X6_21 C dX6_stripItem_134 ?_
                  refine g_iconst_1 C dX6_stripItem_137 ?_
                  refine g_iadd C dX6_stripItem_138 ?_
                  refine x_put_X6_21 C dX6_stripItem_139 ?_
                  refine x_nmI _ (fun I47 e48 => ?_)
                  replace h := h I47 e48
                  refine g_iconst_1 C dX6_stripItem_142 ?_
                  exact g_ret_z C true rfl dX6_stripItem_143 (by decide) (by decide) ⟨_, _, _, _, _, _, rfl, rfl, h⟩
                · replace h := h.2 c37
                  refine g_iconst_0 C dX6_stripItem_104 ?_
                  exact g_ret_z C false rfl dX6_stripItem_105 (by decide) (by decide) ⟨_, _, _, _, _, _, rfl, rfl, h⟩
            · replace h := h.2 c26
              refine g_iconst_0 C dX6_stripItem_77 ?_
              exact g_ret_z C false rfl dX6_stripItem_78 (by decide) (by decide) ⟨_, _, _, _, _, _, rfl, rfl, h⟩
        · replace h := h.2 c16
          refine g_iconst_0 C dX6_stripItem_52 ?_
          exact g_ret_z C false rfl dX6_stripItem_53 (by decide) (by decide) ⟨_, _, _, _, _, _, rfl, rfl, h⟩
    · replace h := h.2 c6
      refine g_aload_n C (i := 0) dX6_stripItem_28 rfl rfl ?_
      refine g_iload_n C (i := 1) dX6_stripItem_29 rfl rfl ?_
      refine x_callV C (wX6_k_fail (I 0 7) I2 J3 R4 L S _ h) sX6_49 rcv_reader (rl_in_rla (by decide) (by decide) (by decide) (by decide)) rfl (Nat.le_of_ble_eq_true rfl) (st := []) _ rfl dX6_stripItem_30 (px_z (fun r49 I50 J51 R52 h => ?_))
      exact g_ret_z C r49 rfl dX6_stripItem_33 (by decide) (by decide) ⟨_, _, _, _, _, _, rfl, rfl, h⟩
  · replace h := h.2 c5
    refine g_iconst_0 C dX6_stripItem_14 ?_
    exact g_ret_z C false rfl dX6_stripItem_15 (by decide) (by decide) ⟨_, _, _, _, _, _, rfl, rfl, h⟩
theorem wX6_k_stripItem {D : gD} {ca : Nat → ClassId} {o : Nat → Nat} {L : List Nat} {S : gS} (I : gI) (J : gJ) (R : gR) (L0 : List Nat) (S0 : gS) (Q : Bool → gI → gJ → gR → List Nat → gS → Prop) (h : wX6_stripItem I J R L S Q) : Ct yX6_stripItem cX6_stripItem 4 (some .boolean) (rla 7 1 6) D (tyW ca) 1 6 [.ref (o 3)] (cX ca o I J R L S) (PAz ca o Q) := ct_of (rm := (rla 7 1 6)) (by decide +kernel) (Nat.le_of_ble_eq_true rfl) (fun Γ C => wX6_stripItem_g C h)
theorem sX6_95 : gSite RX6 yX6_numberOfStrip cX6_numberOfStrip 1 (some .boolean) 95 0 := gSite.of (tb_in (List.mem_of_getElem? (i := 725) (by decide +kernel)) (by decide +kernel)) (tb_in (List.mem_of_getElem? (i := 727) (by decide +kernel)) (by decide +kernel)) (tb_in (List.mem_of_getElem? (i := 15) (by decide +kernel)) (by decide +kernel)) (tb_in (List.mem_of_getElem? (i := 83) (by decide +kernel)) (by decide +kernel)) (tb_in (List.mem_of_getElem? (i := 728) (by decide +kernel)) (by decide +kernel)) (by decide +kernel)
set_option maxRecDepth 100000 in
theorem wX6_turnItem_g {Γ : gT} {D : gD} {ca : Nat → ClassId} {o : Nat → Nat} {I : gI} {J : gJ} {R : gR} {L : List Nat} {S : gS} {Q : Bool → gI → gJ → gR → List Nat → gS → Prop} (C : Cx Γ cX6_turnItem RX6 3 D (tyW ca) (rla 7 1 6) (some .boolean) 1 6 (PAz ca o Q)) (h : wX6_turnItem I J R L S Q) : G Γ 0 0 0 [(0, .ref (o 3))] [] (cX ca o I J R L S) := by
  unfold wX6_turnItem at h
  refine g_aload_n C (i := 0) dX6_turnItem_0 rfl rfl ?_
  refine x_text C (i := 2) (by decide) rfl dX6_turnItem_1 ?_
  refine x_callV C (wX6_k_letters (by decide) I J R L S _ h) sX6_60 rcv_reader (rl_in_rla (by decide) (by decide) (by decide) (by decide)) rfl (Nat.le_of_ble_eq_true rfl) (st := []) _ rfl dX6_turnItem_3 (px_z (fun r1 I2 J3 R4 h => ?_))
  refine g_zeq C 16 dX6_turnItem_6 rfl (fun c5 => ?_) (fun c5 => ?_)
  · replace h := h.1 c5
    refine g_iconst_0 C dX6_turnItem_16 ?_
    exact g_ret_z C false rfl dX6_turnItem_17 (by decide) (by decide) ⟨_, _, _, _, _, _, rfl, rfl, h⟩
  · replace h := h.2 c5
    refine g_aload_n C (i := 0) dX6_turnItem_9 rfl rfl ?_
    refine x_callV C (wX6_k_numberOfStrip I2 J3 R4 L S _ h) sX6_95 rcv_reader (rl_in_rla (by decide) (by decide) (by decide) (by decide)) rfl (Nat.le_of_ble_eq_true rfl) (st := []) _ rfl dX6_turnItem_10 (px_z (fun r6 I7 J8 R9 h => ?_))
    refine g_zne C 18 dX6_turnItem_13 rfl (fun c10 => ?_) (fun c10 => ?_)
    · replace h := h.1 c10
      refine g_aload_n C (i := 0) dX6_turnItem_18 rfl rfl ?_
      refine x_get_X6_71 C dX6_turnItem_19 ?_
      refine g_istore_n C (i := 1) [(0, .ref (o 3)), (1, .int (I7 0 8))] dX6_turnItem_22 rfl (by decide) rfl ?_
      refine g_aload_n C (i := 0) dX6_turnItem_23 rfl rfl ?_
      refine x_get_X6_11 C dX6_turnItem_24 ?_
      refine g_iload_n C (i := 1) dX6_turnItem_27 rfl rfl ?_
      obtain ⟨h11, h⟩ := h
      refine x_aald C (k := 2) (by decide) h11 dX6_turnItem_28 ?_
      refine g_astoreq_n C (i := 2) [(0, .ref (o 3)), (1, .int (I7 0 8)), (2, va_rf (R9 2 (I7 0 8).toNatClampNeg))] dX6_turnItem_29 rfl (by decide) (by cases (R9 2 (I7 0 8).toNatClampNeg) <;> rfl) ?_
      refine g_aload_n C (i := 0) dX6_turnItem_30 rfl rfl ?_
      refine x_text C (i := 1) (by decide) rfl dX6_turnItem_31 ?_
      refine x_callV C (wX6_k_letters (by decide) I7 J8 R9 L S _ h) sX6_60 rcv_reader (rl_in_rla (by decide) (by decide) (by decide) (by decide)) rfl (Nat.le_of_ble_eq_true rfl) (st := []) _ rfl dX6_turnItem_33 (px_z (fun r12 I13 J14 R15 h => ?_))
      refine g_zeq C 52 dX6_turnItem_36 rfl (fun c16 => ?_) (fun c16 => ?_)
      · replace h := h.1 c16
        refine g_iconst_0 C dX6_turnItem_52 ?_
        exact g_ret_z C false rfl dX6_turnItem_53 (by decide) (by decide) ⟨_, _, _, _, _, _, rfl, rfl, h⟩
      · replace h := h.2 c16
        refine g_aload_n C (i := 0) dX6_turnItem_39 rfl rfl ?_
        refine g_aloadq_n C (i := 2) dX6_turnItem_40 rfl rfl ?_
        obtain ⟨z17, h18, h19, h⟩ := h
        refine g_eqs (st' := [.ref z17, .ref (o 3)]) (by rw [h18]; rfl) rfl ?_
        refine x_get_X6_98 C h19 dX6_turnItem_41 ?_
        refine g_iconst_1 C dX6_turnItem_44 ?_
        refine g_isub C dX6_turnItem_45 ?_
        refine x_callV C (wX6_k_numberUpTo ((sL (S z17)) - 1) I13 J14 R15 L S _ h) sX6_68 rcv_reader (rl_in_rla (by decide) (by decide) (by decide) (by decide)) rfl (Nat.le_of_ble_eq_true rfl) (st := []) _ rfl dX6_turnItem_46 (px_z (fun r20 I21 J22 R23 h => ?_))
        refine g_zne C 54 dX6_turnItem_49 rfl (fun c24 => ?_) (fun c24 => ?_)
        · replace h := h.1 c24
          refine g_aload_n C (i := 0) dX6_turnItem_54 rfl rfl ?_
          refine x_get_X6_11 C dX6_turnItem_55 ?_
          refine g_iload_n C (i := 1) dX6_turnItem_58 rfl rfl ?_
          refine g_aloadq_n C (i := 2) dX6_turnItem_59 rfl rfl ?_
          refine g_eqs (st' := [.ref z17, .int (I7 0 8), .ref (o 7)]) (by rw [h18]; rfl) rfl ?_
          refine x_get_X6_99 C h19 dX6_turnItem_60 ?_
          refine g_iload_n C (i := 1) dX6_turnItem_63 rfl rfl ?_
          refine g_aloadq_n C (i := 2) dX6_turnItem_64 rfl rfl ?_
          refine g_eqs (st' := [.ref z17, .int (I7 0 8), .int (sK (S z17)), .int (I7 0 8), .ref (o 7)]) (by rw [h18]; rfl) rfl ?_
          refine x_get_X6_102 C h19 dX6_turnItem_65 ?_
          refine g_aloadq_n C (i := 2) dX6_turnItem_68 rfl rfl ?_
          refine g_eqs (st' := [.ref z17, .int (sA (S z17)), .int (I7 0 8), .int (sK (S z17)), .int (I7 0 8), .ref (o 7)]) (by rw [h18]; rfl) rfl ?_
          refine x_get_X6_98 C h19 dX6_turnItem_69 ?_
          refine g_aloadq_n C (i := 2) dX6_turnItem_72 rfl rfl ?_
          refine g_eqs (st' := [.ref z17, .int (sL (S z17)), .int (sA (S z17)), .int (I7 0 8), .int (sK (S z17)), .int (I7 0 8), .ref (o 7)]) (by rw [h18]; rfl) rfl ?_
          refine x_get_X6_105 C h19 dX6_turnItem_73 ?_
          refine g_lconst_1 C dX6_turnItem_76 ?_
          refine g_aload_n C (i := 0) dX6_turnItem_77 rfl rfl ?_
          refine x_get_X6_71 C dX6_turnItem_78 ?_
          refine g_lshl C dX6_turnItem_81 ?_
          refine g_lxor C dX6_turnItem_82 ?_
          refine x_callS C (wX9_k_made (sK (S z17)) (I7 0 8) (sA (S z17)) (sL (S z17)) ((sW (S z17)) ^^^ (((1 : Int64)) <<< ((I21 0 8).toInt64 &&& 63))) I21 J22 R23 L S _ h) sX6_89 (rla_ok (by decide) (by decide) (by decide) (by decide)) rfl (Nat.le_of_ble_eq_true rfl) (st := [.int (I7 0 8), .ref (o 7)]) _ rfl dX6_turnItem_83 (pa_r (fun r25 I26 J27 R28 L29 S30 hr25 h => ?_))
          refine x_aast C (k := 2) (r := (some r25)) (by decide) (fun _ z => by cases z; exact hr25) h11 dX6_turnItem_86 ?_
          refine x_nmR _ (fun R31 e32 => ?_)
          replace h := h R31 e32
          refine g_iconst_1 C dX6_turnItem_87 ?_
          exact g_ret_z C true rfl dX6_turnItem_88 (by decide) (by decide) ⟨_, _, _, _, _, _, rfl, rfl, h⟩
        · replace h := h.2 c24
          refine g_iconst_0 C dX6_turnItem_52 ?_
          exact g_ret_z C false rfl dX6_turnItem_53 (by decide) (by decide) ⟨_, _, _, _, _, _, rfl, rfl, h⟩
    · replace h := h.2 c10
      refine g_iconst_0 C dX6_turnItem_16 ?_
      exact g_ret_z C false rfl dX6_turnItem_17 (by decide) (by decide) ⟨_, _, _, _, _, _, rfl, rfl, h⟩
theorem wX6_k_turnItem {D : gD} {ca : Nat → ClassId} {o : Nat → Nat} {L : List Nat} {S : gS} (I : gI) (J : gJ) (R : gR) (L0 : List Nat) (S0 : gS) (Q : Bool → gI → gJ → gR → List Nat → gS → Prop) (h : wX6_turnItem I J R L S Q) : Ct yX6_turnItem cX6_turnItem 3 (some .boolean) (rla 7 1 6) D (tyW ca) 1 6 [.ref (o 3)] (cX ca o I J R L S) (PAz ca o Q) := ct_of (rm := (rla 7 1 6)) (by decide +kernel) (Nat.le_of_ble_eq_true rfl) (fun Γ C => wX6_turnItem_g C h)
set_option maxRecDepth 100000 in
theorem wX6_lessItem_g {Γ : gT} {D : gD} {ca : Nat → ClassId} {o : Nat → Nat} {I : gI} {J : gJ} {R : gR} {L : List Nat} {S : gS} {Q : Bool → gI → gJ → gR → List Nat → gS → Prop} (C : Cx Γ cX6_lessItem RX6 3 D (tyW ca) (rla 7 1 6) (some .boolean) 1 6 (PAz ca o Q)) (h : wX6_lessItem I J R L S Q) : G Γ 0 0 0 [(0, .ref (o 3))] [] (cX ca o I J R L S) := by
  unfold wX6_lessItem at h
  refine g_aload_n C (i := 0) dX6_lessItem_0 rfl rfl ?_
  refine x_text C (i := 3) (by decide) rfl dX6_lessItem_1 ?_
  refine x_callV C (wX6_k_letters (by decide) I J R L S _ h) sX6_60 rcv_reader (rl_in_rla (by decide) (by decide) (by decide) (by decide)) rfl (Nat.le_of_ble_eq_true rfl) (st := []) _ rfl dX6_lessItem_3 (px_z (fun r1 I2 J3 R4 h => ?_))
  refine g_zeq C 16 dX6_lessItem_6 rfl (fun c5 => ?_) (fun c5 => ?_)
  · replace h := h.1 c5
    refine g_iconst_0 C dX6_lessItem_16 ?_
    exact g_ret_z C false rfl dX6_lessItem_17 (by decide) (by decide) ⟨_, _, _, _, _, _, rfl, rfl, h⟩
  · replace h := h.2 c5
    refine g_aload_n C (i := 0) dX6_lessItem_9 rfl rfl ?_
    refine x_callV C (wX6_k_numberOfStrip I2 J3 R4 L S _ h) sX6_95 rcv_reader (rl_in_rla (by decide) (by decide) (by decide) (by decide)) rfl (Nat.le_of_ble_eq_true rfl) (st := []) _ rfl dX6_lessItem_10 (px_z (fun r6 I7 J8 R9 h => ?_))
    refine g_zne C 18 dX6_lessItem_13 rfl (fun c10 => ?_) (fun c10 => ?_)
    · replace h := h.1 c10
      refine g_aload_n C (i := 0) dX6_lessItem_18 rfl rfl ?_
      refine x_get_X6_11 C dX6_lessItem_19 ?_
      refine g_aload_n C (i := 0) dX6_lessItem_22 rfl rfl ?_
      refine x_get_X6_71 C dX6_lessItem_23 ?_
      obtain ⟨h11, h⟩ := h
      refine x_aald C (k := 2) (by decide) h11 dX6_lessItem_26 ?_
      refine g_astoreq_n C (i := 1) [(0, .ref (o 3)), (1, va_rf (R9 2 (I7 0 8).toNatClampNeg))] dX6_lessItem_27 rfl (by decide) (by cases (R9 2 (I7 0 8).toNatClampNeg) <;> rfl) ?_
      refine g_aloadq_n C (i := 1) dX6_lessItem_28 rfl rfl ?_
      obtain ⟨z12, h13, h14, h⟩ := h
      refine g_eqs (st' := [.ref z12]) (by rw [h13]; rfl) rfl ?_
      refine x_get_X6_98 C h14 dX6_lessItem_29 ?_
      refine g_iconst_2 C dX6_lessItem_32 ?_
      refine g_icmp_ge C 45 dX6_lessItem_33 rfl (fun c15 => ?_) (fun c15 => ?_)
      · replace h := h.1 c15
        refine g_aloadq_n C (i := 1) dX6_lessItem_45 rfl rfl ?_
        refine g_eqs (st' := [.ref z12]) (by rw [h13]; rfl) rfl ?_
        refine x_get_X6_98 C h14 dX6_lessItem_46 ?_
        refine g_iconst_1 C dX6_lessItem_49 ?_
        refine g_isub C dX6_lessItem_50 ?_
        refine g_istore_n C (i := 2) [(0, .ref (o 3)), (1, va_rf (R9 2 (I7 0 8).toNatClampNeg)), (2, .int ((sL (S z12)) - 1))] dX6_lessItem_51 rfl (by decide) (by cases (R9 2 (I7 0 8).toNatClampNeg) <;> rfl) ?_
        refine g_aload_n C (i := 0) dX6_lessItem_52 rfl rfl ?_
        refine x_get_X6_11 C dX6_lessItem_53 ?_
        refine g_aload_n C (i := 0) dX6_lessItem_56 rfl rfl ?_
        refine x_get_X6_71 C dX6_lessItem_57 ?_
        refine g_aloadq_n C (i := 1) dX6_lessItem_60 rfl rfl ?_
        refine g_eqs (st' := [.ref z12, .int (I7 0 8), .ref (o 7)]) (by rw [h13]; rfl) rfl ?_
        refine x_get_X6_99 C h14 dX6_lessItem_61 ?_
        refine g_aload_n C (i := 0) dX6_lessItem_64 rfl rfl ?_
        refine x_get_X6_71 C dX6_lessItem_65 ?_
        refine g_aloadq_n C (i := 1) dX6_lessItem_68 rfl rfl ?_
        refine g_eqs (st' := [.ref z12, .int (I7 0 8), .int (sK (S z12)), .int (I7 0 8), .ref (o 7)]) (by rw [h13]; rfl) rfl ?_
        refine x_get_X6_102 C h14 dX6_lessItem_69 ?_
        refine g_iload_n C (i := 2) dX6_lessItem_72 rfl rfl ?_
        refine g_aloadq_n C (i := 1) dX6_lessItem_73 rfl rfl ?_
        refine g_eqs (st' := [.ref z12, .int ((sL (S z12)) - 1), .int (sA (S z12)), .int (I7 0 8), .int (sK (S z12)), .int (I7 0 8), .ref (o 7)]) (by rw [h13]; rfl) rfl ?_
        refine x_get_X6_105 C h14 dX6_lessItem_74 ?_
        refine g_lconst_1 C dX6_lessItem_77 ?_
        refine g_iload_n C (i := 2) dX6_lessItem_78 rfl rfl ?_
        refine g_lshl C dX6_lessItem_79 ?_
        refine g_lconst_1 C dX6_lessItem_80 ?_
        refine g_lsub C dX6_lessItem_81 ?_
        refine g_land C dX6_lessItem_82 ?_
        refine x_callS C (wX9_k_made (sK (S z12)) (I7 0 8) (sA (S z12)) ((sL (S z12)) - 1) ((sW (S z12)) &&& ((((1 : Int64)) <<< (((sL (S z12)) - 1).toInt64 &&& 63)) - 1)) I7 J8 R9 L S _ h) sX6_89 (rla_ok (by decide) (by decide) (by decide) (by decide)) rfl (Nat.le_of_ble_eq_true rfl) (st := [.int (I7 0 8), .ref (o 7)]) _ rfl dX6_lessItem_83 (pa_r (fun r16 I17 J18 R19 L20 S21 hr16 h => ?_))
        refine x_aast C (k := 2) (r := (some r16)) (by decide) (fun _ z => by cases z; exact hr16) h11 dX6_lessItem_86 ?_
        refine x_nmR _ (fun R22 e23 => ?_)
        replace h := h R22 e23
        refine g_iconst_1 C dX6_lessItem_87 ?_
        exact g_ret_z C true rfl dX6_lessItem_88 (by decide) (by decide) ⟨_, _, _, _, _, _, rfl, rfl, h⟩
      · replace h := h.2 c15
        refine g_aload_n C (i := 0) dX6_lessItem_36 rfl rfl ?_
        refine g_aload_n C (i := 0) dX6_lessItem_37 rfl rfl ?_
        refine x_get_X6_108 C dX6_lessItem_38 ?_
        refine x_callV C (wX6_k_fail (I7 0 9) I7 J8 R9 L S _ h) sX6_49 rcv_reader (rl_in_rla (by decide) (by decide) (by decide) (by decide)) rfl (Nat.le_of_ble_eq_true rfl) (st := []) _ rfl dX6_lessItem_41 (px_z (fun r24 I25 J26 R27 h => ?_))
        exact g_ret_z C r24 rfl dX6_lessItem_44 (by decide) (by decide) ⟨_, _, _, _, _, _, rfl, rfl, h⟩
    · replace h := h.2 c10
      refine g_iconst_0 C dX6_lessItem_16 ?_
      exact g_ret_z C false rfl dX6_lessItem_17 (by decide) (by decide) ⟨_, _, _, _, _, _, rfl, rfl, h⟩
theorem wX6_k_lessItem {D : gD} {ca : Nat → ClassId} {o : Nat → Nat} {L : List Nat} {S : gS} (I : gI) (J : gJ) (R : gR) (L0 : List Nat) (S0 : gS) (Q : Bool → gI → gJ → gR → List Nat → gS → Prop) (h : wX6_lessItem I J R L S Q) : Ct yX6_lessItem cX6_lessItem 3 (some .boolean) (rla 7 1 6) D (tyW ca) 1 6 [.ref (o 3)] (cX ca o I J R L S) (PAz ca o Q) := ct_of (rm := (rla 7 1 6)) (by decide +kernel) (Nat.le_of_ble_eq_true rfl) (fun Γ C => wX6_lessItem_g C h)
theorem sX9_94_1 : gSiteU RX9 "FoldedInHalf$Same" "FoldedInHalf$Strip" ⟨"FoldedInHalf$Strip", "opens", "(Ljava/lang/StringBuilder;I)I"⟩ yX9_opens cX9_opens 3 (some .int) 94 2 := gSiteU.inh (tb_in (List.mem_of_getElem? (i := 1250) (by decide +kernel)) (by decide +kernel)) (tb_in (List.mem_of_getElem? (i := 1208) (by decide +kernel)) (by decide +kernel)) (tb_in (List.mem_of_getElem? (i := 1222) (by decide +kernel)) (by decide +kernel)) (tb_in (List.mem_of_getElem? (i := 1206) (by decide +kernel)) (by decide +kernel)) (tb_in (List.mem_of_getElem? (i := 90) (by decide +kernel)) (by decide +kernel)) (tb_in (List.mem_of_getElem? (i := 1228) (by decide +kernel)) (by decide +kernel)) rfl (by decide +kernel)
theorem sX9_94_2 : gSiteU RX9 "FoldedInHalf$Third" "FoldedInHalf$Strip" ⟨"FoldedInHalf$Strip", "opens", "(Ljava/lang/StringBuilder;I)I"⟩ yX10_opens cX10_opens 3 (some .int) 94 2 := gSiteU.ovr (b0 := cX9_opens) (m0 := 3) (r0 := (some .int)) (tb_in (List.mem_of_getElem? (i := 1250) (by decide +kernel)) (by decide +kernel)) (tb_in (List.mem_of_getElem? (i := 1208) (by decide +kernel)) (by decide +kernel)) (tb_in (List.mem_of_getElem? (i := 1206) (by decide +kernel)) (by decide +kernel)) (tb_in (List.mem_of_getElem? (i := 1223) (by decide +kernel)) (by decide +kernel)) (tb_in (List.mem_of_getElem? (i := 1224) (by decide +kernel)) (by decide +kernel)) (tb_in (List.mem_of_getElem? (i := 92) (by decide +kernel)) (by decide +kernel)) (tb_in (List.mem_of_getElem? (i := 1225) (by decide +kernel)) (by decide +kernel)) (tb_in (List.mem_of_getElem? (i := 1228) (by decide +kernel)) (by decide +kernel)) (by decide +kernel)
theorem sX9_94_3 : gSiteU RX9 "FoldedInHalf$Cut" "FoldedInHalf$Strip" ⟨"FoldedInHalf$Strip", "opens", "(Ljava/lang/StringBuilder;I)I"⟩ yX2_opens cX2_opens 3 (some .int) 94 2 := gSiteU.ovr (b0 := cX9_opens) (m0 := 3) (r0 := (some .int)) (tb_in (List.mem_of_getElem? (i := 1250) (by decide +kernel)) (by decide +kernel)) (tb_in (List.mem_of_getElem? (i := 1208) (by decide +kernel)) (by decide +kernel)) (tb_in (List.mem_of_getElem? (i := 1206) (by decide +kernel)) (by decide +kernel)) (tb_in (List.mem_of_getElem? (i := 1214) (by decide +kernel)) (by decide +kernel)) (tb_in (List.mem_of_getElem? (i := 1210) (by decide +kernel)) (by decide +kernel)) (tb_in (List.mem_of_getElem? (i := 93) (by decide +kernel)) (by decide +kernel)) (tb_in (List.mem_of_getElem? (i := 1211) (by decide +kernel)) (by decide +kernel)) (tb_in (List.mem_of_getElem? (i := 1228) (by decide +kernel)) (by decide +kernel)) (by decide +kernel)
theorem sX9_94_4 : gSiteU RX9 "FoldedInHalf$Back" "FoldedInHalf$Strip" ⟨"FoldedInHalf$Strip", "opens", "(Ljava/lang/StringBuilder;I)I"⟩ yX2_opens cX2_opens 3 (some .int) 94 2 := gSiteU.ovr (b0 := cX9_opens) (m0 := 3) (r0 := (some .int)) (tb_in (List.mem_of_getElem? (i := 1250) (by decide +kernel)) (by decide +kernel)) (tb_in (List.mem_of_getElem? (i := 1208) (by decide +kernel)) (by decide +kernel)) (tb_in (List.mem_of_getElem? (i := 1206) (by decide +kernel)) (by decide +kernel)) (tb_in (List.mem_of_getElem? (i := 1209) (by decide +kernel)) (by decide +kernel)) (tb_in (List.mem_of_getElem? (i := 1210) (by decide +kernel)) (by decide +kernel)) (tb_in (List.mem_of_getElem? (i := 93) (by decide +kernel)) (by decide +kernel)) (tb_in (List.mem_of_getElem? (i := 1211) (by decide +kernel)) (by decide +kernel)) (tb_in (List.mem_of_getElem? (i := 1228) (by decide +kernel)) (by decide +kernel)) (by decide +kernel)
theorem sX9_94_5 : gSiteU RX9 "FoldedInHalf$Glass" "FoldedInHalf$Strip" ⟨"FoldedInHalf$Strip", "opens", "(Ljava/lang/StringBuilder;I)I"⟩ yX9_opens cX9_opens 3 (some .int) 94 2 := gSiteU.inh (tb_in (List.mem_of_getElem? (i := 1250) (by decide +kernel)) (by decide +kernel)) (tb_in (List.mem_of_getElem? (i := 1208) (by decide +kernel)) (by decide +kernel)) (tb_in (List.mem_of_getElem? (i := 1215) (by decide +kernel)) (by decide +kernel)) (tb_in (List.mem_of_getElem? (i := 1206) (by decide +kernel)) (by decide +kernel)) (tb_in (List.mem_of_getElem? (i := 90) (by decide +kernel)) (by decide +kernel)) (tb_in (List.mem_of_getElem? (i := 1228) (by decide +kernel)) (by decide +kernel)) rfl (by decide +kernel)
theorem sX9_94_6 : gSiteU RX9 "FoldedInHalf$Left" "FoldedInHalf$Strip" ⟨"FoldedInHalf$Strip", "opens", "(Ljava/lang/StringBuilder;I)I"⟩ yX5_opens cX5_opens 3 (some .int) 94 2 := gSiteU.ovr (b0 := cX9_opens) (m0 := 3) (r0 := (some .int)) (tb_in (List.mem_of_getElem? (i := 1250) (by decide +kernel)) (by decide +kernel)) (tb_in (List.mem_of_getElem? (i := 1208) (by decide +kernel)) (by decide +kernel)) (tb_in (List.mem_of_getElem? (i := 1206) (by decide +kernel)) (by decide +kernel)) (tb_in (List.mem_of_getElem? (i := 1216) (by decide +kernel)) (by decide +kernel)) (tb_in (List.mem_of_getElem? (i := 1217) (by decide +kernel)) (by decide +kernel)) (tb_in (List.mem_of_getElem? (i := 96) (by decide +kernel)) (by decide +kernel)) (tb_in (List.mem_of_getElem? (i := 1218) (by decide +kernel)) (by decide +kernel)) (tb_in (List.mem_of_getElem? (i := 1228) (by decide +kernel)) (by decide +kernel)) (by decide +kernel)
theorem sX9_94_0 : gSite RX9 yX9_opens cX9_opens 3 (some .int) 94 2 := gSite.of (tb_in (List.mem_of_getElem? (i := 1250) (by decide +kernel)) (by decide +kernel)) (tb_in (List.mem_of_getElem? (i := 1206) (by decide +kernel)) (by decide +kernel)) (tb_in (List.mem_of_getElem? (i := 1207) (by decide +kernel)) (by decide +kernel)) (tb_in (List.mem_of_getElem? (i := 90) (by decide +kernel)) (by decide +kernel)) (tb_in (List.mem_of_getElem? (i := 1228) (by decide +kernel)) (by decide +kernel)) (by decide +kernel)
theorem xv_X9_94 {Γ : gT} {cc : ByteArray} {nL : Nat} {D : gD} {ca : Nat → ClassId} {rm : Room} {ret : Option FieldType} {mc ms : Nat} {Post : Option Value → va_W → Prop} {cn sn pc : Nat} {lv : List (Nat × Value)} {st : List Value} {o : Nat → Nat} {L : List Nat} {S : gS} (C0 : Cx Γ cc RX9 nL D (tyW ca) rm ret mc ms Post) {q0 : Nat} (hq0 : q0 ∈ L) (v2 : Int32) (I : gI) (J : gJ) (R : gR) (L0 : List Nat) (S0 : gS) (Q : Int32 → gI → gJ → gR → Prop) (h : wv_opens q0 v2 I J R L S Q) (hroom : ∀ l maxL : Nat, l ≤ 6 → maxL ≤ 81 → gRm (rl l) rm maxL 0 0 cn sn) (hst : (st.map fun v => v.category).sum ≤ 8) (st0 : List Value) (hs0 : st0 = ([.ref (o 1), .int v2] : List Value).reverse ++ .ref q0 :: st) (hd : decode cc pc = .ok (.invokevirtual 94, 3)) (k : ∀ (r : Int32) (I1 : gI) (J1 : gJ) (R1 : gR), Q r I1 J1 R1 → G Γ cn sn (pc + 3) lv (.int r :: st) (cX ca o I1 J1 R1 L S)) : G Γ cn sn pc lv st0 (cX ca o I J R L S) := by
  unfold wv_opens at h
  by_cases h1 : sC (S q0) = 1
  · exact x_callU C0 (wX9_k_opens hq0  v2 I J R L S Q (h.1 h1)) sX9_94_1 (rcv_1 hq0 h1) (hroom _ _ (by decide) (by decide)) rfl hst st0 hs0 hd (px_i k)
  replace h := h.2 h1
  by_cases h2 : sC (S q0) = 2
  · exact x_callU C0 (wX10_k_opens hq0 h2  v2 I J R L S Q (h.1 h2)) sX9_94_2 (rcv_2 hq0 h2) (hroom _ _ (by decide) (by decide)) rfl hst st0 hs0 hd (px_i k)
  replace h := h.2 h2
  by_cases h3 : sC (S q0) = 3
  · exact x_callU C0 (wX2_k_opens hq0 (Or.inl h3)  v2 I J R L S Q (h.1 h3)) sX9_94_3 (rcv_3 hq0 h3) (hroom _ _ (by decide) (by decide)) rfl hst st0 hs0 hd (px_i k)
  replace h := h.2 h3
  by_cases h4 : sC (S q0) = 4
  · exact x_callU C0 (wX2_k_opens hq0 (Or.inr h4)  v2 I J R L S Q (h.1 h4)) sX9_94_4 (rcv_4 hq0 h4) (hroom _ _ (by decide) (by decide)) rfl hst st0 hs0 hd (px_i k)
  replace h := h.2 h4
  by_cases h5 : sC (S q0) = 5
  · exact x_callU C0 (wX9_k_opens hq0  v2 I J R L S Q (h.1 h5)) sX9_94_5 (rcv_5 hq0 h5) (hroom _ _ (by decide) (by decide)) rfl hst st0 hs0 hd (px_i k)
  replace h := h.2 h5
  by_cases h6 : sC (S q0) = 6
  · exact x_callU C0 (wX5_k_opens hq0 h6  v2 I J R L S Q (h.1 h6)) sX9_94_6 (rcv_6 hq0 h6) (hroom _ _ (by decide) (by decide)) rfl hst st0 hs0 hd (px_i k)
  replace h := h.2 h6
  exact x_callV C0 (wX9_k_opens hq0  v2 I J R L S Q h) sX9_94_0 (rcv_0 hq0 h1 h2 h3 h4 h5 h6) (hroom _ _ (by decide) (by decide)) rfl hst st0 hs0 hd (px_i k)
set_option maxRecDepth 100000 in
theorem wX9_lies_g {Γ : gT} {D : gD} {ca : Nat → ClassId} {o : Nat → Nat} {I : gI} {J : gJ} {R : gR} {L : List Nat} {S : gS} {Q : Int32 → gI → gJ → gR → Prop} {q0 : Nat} (hq0 : q0 ∈ L) (v2 : Int32) (C : Cx Γ cX9_lies RX9 3 D (tyW ca) (rl 7) (some .int) 0 0 (PXi ca o L S Q)) (h : wX9_lies q0 v2 I J R L S Q) : G Γ 0 0 0 [(0, .ref q0), (1, .ref (o 1)), (2, .int v2)] [] (cX ca o I J R L S) := by
  unfold wX9_lies at h
  refine g_aload_n C (i := 1) dX9_lies_0 rfl rfl ?_
  refine g_bipush C (v := 12) dX9_lies_1 (by decide) ?_
  refine x_callV C (wJ4_k_append_cf468 12 I J R L S _ h) sX9_84 rcv_sb (rl_ok (by decide) (by decide)) rfl (Nat.le_of_ble_eq_true rfl) (st := []) _ rfl dX9_lies_3 (px_b (fun I2 J3 R4 h => ?_))
  refine g_pop C dX9_lies_6 rfl ?_
  refine g_aload_n C (i := 0) dX9_lies_7 rfl rfl ?_
  refine g_aload_n C (i := 1) dX9_lies_8 rfl rfl ?_
  refine g_iload_n C (i := 2) dX9_lies_9 rfl rfl ?_
  refine xv_X9_94 C hq0 v2 I2 J3 R4 L S _ h (fun l m h1 h2 => rl_ok (by omega) h2) (Nat.le_of_ble_eq_true rfl) (st := []) _ rfl dX9_lies_10 (fun r5 I6 J7 R8 h => ?_)
  refine g_aload_n C (i := 0) dX9_lies_13 rfl rfl ?_
  refine g_aload_n C (i := 1) dX9_lies_14 rfl rfl ?_
  refine g_iload_n C (i := 2) dX9_lies_15 rfl rfl ?_
  refine g_aload_n C (i := 0) dX9_lies_16 rfl rfl ?_
  refine x_get_X9_18 C hq0 dX9_lies_17 ?_
  refine g_isub C dX9_lies_20 ?_
  refine xv_X9_90 C hq0 (v2 - (sA (S q0))) I6 J7 R8 L S _ h (fun l m h1 h2 => rl_ok (by omega) h2) (Nat.le_of_ble_eq_true rfl) (st := [.int r5]) _ rfl dX9_lies_21 (fun r9 I10 J11 R12 h => ?_)
  refine g_ixor C dX9_lies_24 ?_
  exact g_ret_i C dX9_lies_25 (Nat.le_refl _) (Nat.le_refl _) ⟨_, _, _, _, rfl, rfl, h⟩
theorem wX9_k_lies {D : gD} {ca : Nat → ClassId} {o : Nat → Nat} {L : List Nat} {S : gS} {q0 : Nat} (hq0 : q0 ∈ L) (v2 : Int32) (I : gI) (J : gJ) (R : gR) (L0 : List Nat) (S0 : gS) (Q : Int32 → gI → gJ → gR → Prop) (h : wX9_lies q0 v2 I J R L S Q) : Ct yX9_lies cX9_lies 3 (some .int) (rl 7) D (tyW ca) 0 0 [.ref q0, .ref (o 1), .int v2] (cX ca o I J R L S) (PXi ca o L S Q) := ct_of (rm := (rl 7)) (by decide +kernel) (Nat.le_of_ble_eq_true rfl) (fun Γ C => wX9_lies_g hq0 v2 C h)
theorem sX0_52 : gSiteQ RX0 "FoldedInHalf$Strip" ⟨"FoldedInHalf$Cut", "lies", "(Ljava/lang/StringBuilder;I)I"⟩ yX9_lies cX9_lies 3 (some .int) 52 2 := gSiteQ.of (tb_in (List.mem_of_getElem? (i := 1237) (by decide +kernel)) (by decide +kernel)) (tb_in (List.mem_of_getElem? (i := 1238) (by decide +kernel)) (by decide +kernel)) (tb_in (List.mem_of_getElem? (i := 440) (by decide +kernel)) (by decide +kernel)) (tb_in (List.mem_of_getElem? (i := 401) (by decide +kernel)) (by decide +kernel)) (tb_in (List.mem_of_getElem? (i := 1231) (by decide +kernel)) (by decide +kernel)) (tb_in (List.mem_of_getElem? (i := 90) (by decide +kernel)) (by decide +kernel)) (tb_in (List.mem_of_getElem? (i := 1249) (by decide +kernel)) (by decide +kernel)) rfl (by decide +kernel)
set_option maxRecDepth 100000 in
theorem wX0_lies_g {Γ : gT} {D : gD} {ca : Nat → ClassId} {o : Nat → Nat} {I : gI} {J : gJ} {R : gR} {L : List Nat} {S : gS} {Q : Int32 → gI → gJ → gR → Prop} {q0 : Nat} (hq0 : q0 ∈ L) (hc0 : sC (S q0) = 4) (v2 : Int32) (C : Cx Γ cX0_lies RX0 3 D (tyW ca) (rl 8) (some .int) 0 0 (PXi ca o L S Q)) (h : wX0_lies q0 v2 I J R L S Q) : G Γ 0 0 0 [(0, .ref q0), (1, .ref (o 1)), (2, .int v2)] [] (cX ca o I J R L S) := by
  unfold wX0_lies at h
  refine g_aload_n C (i := 1) dX0_lies_0 rfl rfl ?_
  refine g_bipush C (v := 50) dX0_lies_1 (by decide) ?_
  refine x_callV C (wJ4_k_append_cf468 50 I J R L S _ h) sX0_46 rcv_sb (rl_ok (by decide) (by decide)) rfl (Nat.le_of_ble_eq_true rfl) (st := []) _ rfl dX0_lies_3 (px_b (fun I2 J3 R4 h => ?_))
  refine g_pop C dX0_lies_6 rfl ?_
  refine g_aload_n C (i := 0) dX0_lies_7 rfl rfl ?_
  refine g_aload_n C (i := 1) dX0_lies_8 rfl rfl ?_
  refine g_iload_n C (i := 2) dX0_lies_9 rfl rfl ?_
  refine x_callP2 C (wX9_k_lies hq0 v2 I2 J3 R4 L S _ h) sX0_52 (rcv_any hq0) (rl_ok (by decide) (by decide)) rfl (Nat.le_of_ble_eq_true rfl) (st := []) _ rfl dX0_lies_10 (px_i (fun r5 I6 J7 R8 h => ?_))
  refine g_ineg C dX0_lies_13 ?_
  exact g_ret_i C dX0_lies_14 (Nat.le_refl _) (Nat.le_refl _) ⟨_, _, _, _, rfl, rfl, h⟩
theorem wX0_k_lies {D : gD} {ca : Nat → ClassId} {o : Nat → Nat} {L : List Nat} {S : gS} {q0 : Nat} (hq0 : q0 ∈ L) (hc0 : sC (S q0) = 4) (v2 : Int32) (I : gI) (J : gJ) (R : gR) (L0 : List Nat) (S0 : gS) (Q : Int32 → gI → gJ → gR → Prop) (h : wX0_lies q0 v2 I J R L S Q) : Ct yX0_lies cX0_lies 3 (some .int) (rl 8) D (tyW ca) 0 0 [.ref q0, .ref (o 1), .int v2] (cX ca o I J R L S) (PXi ca o L S Q) := ct_of (rm := (rl 8)) (by decide +kernel) (Nat.le_of_ble_eq_true rfl) (fun Γ C => wX0_lies_g hq0 hc0 v2 C h)
theorem sX3_15 : gSite RX3 yJ4_append_cf468 cJ4_append_cf468 2 (some (.object "java/lang/StringBuilder")) 15 1 := gSite.of (tb_in (List.mem_of_getElem? (i := 1244) (by decide +kernel)) (by decide +kernel)) (tb_in (List.mem_of_getElem? (i := 1152) (by decide +kernel)) (by decide +kernel)) (tb_in (List.mem_of_getElem? (i := 1153) (by decide +kernel)) (by decide +kernel)) (tb_in (List.mem_of_getElem? (i := 80) (by decide +kernel)) (by decide +kernel)) (tb_in (List.mem_of_getElem? (i := 1154) (by decide +kernel)) (by decide +kernel)) (by decide +kernel)
theorem sX3_21 : gSiteP RX3 yX9_lies cX9_lies 3 (some .int) 21 2 := gSiteP.of (tb_in (List.mem_of_getElem? (i := 1245) (by decide +kernel)) (by decide +kernel)) (tb_in (List.mem_of_getElem? (i := 1233) (by decide +kernel)) (by decide +kernel)) (tb_in (List.mem_of_getElem? (i := 454) (by decide +kernel)) (by decide +kernel)) (tb_in (List.mem_of_getElem? (i := 1231) (by decide +kernel)) (by decide +kernel)) (tb_in (List.mem_of_getElem? (i := 90) (by decide +kernel)) (by decide +kernel)) (tb_in (List.mem_of_getElem? (i := 1249) (by decide +kernel)) (by decide +kernel)) (by decide +kernel)
set_option maxRecDepth 100000 in
theorem wX3_lies_g {Γ : gT} {D : gD} {ca : Nat → ClassId} {o : Nat → Nat} {I : gI} {J : gJ} {R : gR} {L : List Nat} {S : gS} {Q : Int32 → gI → gJ → gR → Prop} {q0 : Nat} (hq0 : q0 ∈ L) (hc0 : sC (S q0) = 5 ∨ sC (S q0) = 6) (v2 : Int32) (C : Cx Γ cX3_lies RX3 3 D (tyW ca) (rl 8) (some .int) 0 0 (PXi ca o L S Q)) (h : wX3_lies q0 v2 I J R L S Q) : G Γ 0 0 0 [(0, .ref q0), (1, .ref (o 1)), (2, .int v2)] [] (cX ca o I J R L S) := by
  unfold wX3_lies at h
  refine g_aload_n C (i := 1) dX3_lies_0 rfl rfl ?_
  refine g_bipush C (v := 60) dX3_lies_1 (by decide) ?_
  refine x_callV C (wJ4_k_append_cf468 60 I J R L S _ h) sX3_15 rcv_sb (rl_ok (by decide) (by decide)) rfl (Nat.le_of_ble_eq_true rfl) (st := []) _ rfl dX3_lies_3 (px_b (fun I2 J3 R4 h => ?_))
  refine g_pop C dX3_lies_6 rfl ?_
  refine g_aload_n C (i := 0) dX3_lies_7 rfl rfl ?_
  refine g_aload_n C (i := 1) dX3_lies_8 rfl rfl ?_
  refine g_iload_n C (i := 2) dX3_lies_9 rfl rfl ?_
  refine x_callP C (wX9_k_lies hq0 v2 I2 J3 R4 L S _ h) sX3_21 (rcv_any hq0) (rl_ok (by decide) (by decide)) rfl (Nat.le_of_ble_eq_true rfl) (st := []) _ rfl dX3_lies_10 (px_i (fun r5 I6 J7 R8 h => ?_))
  refine g_iconst_5 C dX3_lies_13 ?_
  refine g_ixor C dX3_lies_14 ?_
  exact g_ret_i C dX3_lies_15 (Nat.le_refl _) (Nat.le_refl _) ⟨_, _, _, _, rfl, rfl, h⟩
theorem wX3_k_lies {D : gD} {ca : Nat → ClassId} {o : Nat → Nat} {L : List Nat} {S : gS} {q0 : Nat} (hq0 : q0 ∈ L) (hc0 : sC (S q0) = 5 ∨ sC (S q0) = 6) (v2 : Int32) (I : gI) (J : gJ) (R : gR) (L0 : List Nat) (S0 : gS) (Q : Int32 → gI → gJ → gR → Prop) (h : wX3_lies q0 v2 I J R L S Q) : Ct yX3_lies cX3_lies 3 (some .int) (rl 8) D (tyW ca) 0 0 [.ref q0, .ref (o 1), .int v2] (cX ca o I J R L S) (PXi ca o L S Q) := ct_of (rm := (rl 8)) (by decide +kernel) (Nat.le_of_ble_eq_true rfl) (fun Γ C => wX3_lies_g hq0 hc0 v2 C h)
theorem sX11_329_1 : gSiteU RX11 "FoldedInHalf$Same" "FoldedInHalf$Strip" ⟨"FoldedInHalf$Strip", "folds", "(Ljava/lang/StringBuilder;I)I"⟩ yX7_folds cX7_folds 3 (some .int) 329 2 := gSiteU.ovr (b0 := cX9_folds) (m0 := 3) (r0 := (some .int)) (tb_in (List.mem_of_getElem? (i := 1144) (by decide +kernel)) (by decide +kernel)) (tb_in (List.mem_of_getElem? (i := 1147) (by decide +kernel)) (by decide +kernel)) (tb_in (List.mem_of_getElem? (i := 1145) (by decide +kernel)) (by decide +kernel)) (tb_in (List.mem_of_getElem? (i := 1197) (by decide +kernel)) (by decide +kernel)) (tb_in (List.mem_of_getElem? (i := 1198) (by decide +kernel)) (by decide +kernel)) (tb_in (List.mem_of_getElem? (i := 91) (by decide +kernel)) (by decide +kernel)) (tb_in (List.mem_of_getElem? (i := 1199) (by decide +kernel)) (by decide +kernel)) (tb_in (List.mem_of_getElem? (i := 1203) (by decide +kernel)) (by decide +kernel)) (by decide +kernel)
theorem sX11_329_2 : gSiteU RX11 "FoldedInHalf$Third" "FoldedInHalf$Strip" ⟨"FoldedInHalf$Strip", "folds", "(Ljava/lang/StringBuilder;I)I"⟩ yX9_folds cX9_folds 3 (some .int) 329 2 := gSiteU.inh (tb_in (List.mem_of_getElem? (i := 1144) (by decide +kernel)) (by decide +kernel)) (tb_in (List.mem_of_getElem? (i := 1147) (by decide +kernel)) (by decide +kernel)) (tb_in (List.mem_of_getElem? (i := 1202) (by decide +kernel)) (by decide +kernel)) (tb_in (List.mem_of_getElem? (i := 1145) (by decide +kernel)) (by decide +kernel)) (tb_in (List.mem_of_getElem? (i := 90) (by decide +kernel)) (by decide +kernel)) (tb_in (List.mem_of_getElem? (i := 1203) (by decide +kernel)) (by decide +kernel)) rfl (by decide +kernel)
theorem sX11_329_3 : gSiteU RX11 "FoldedInHalf$Cut" "FoldedInHalf$Strip" ⟨"FoldedInHalf$Strip", "folds", "(Ljava/lang/StringBuilder;I)I"⟩ yX9_folds cX9_folds 3 (some .int) 329 2 := gSiteU.inh (tb_in (List.mem_of_getElem? (i := 1144) (by decide +kernel)) (by decide +kernel)) (tb_in (List.mem_of_getElem? (i := 1147) (by decide +kernel)) (by decide +kernel)) (tb_in (List.mem_of_getElem? (i := 1189) (by decide +kernel)) (by decide +kernel)) (tb_in (List.mem_of_getElem? (i := 1145) (by decide +kernel)) (by decide +kernel)) (tb_in (List.mem_of_getElem? (i := 90) (by decide +kernel)) (by decide +kernel)) (tb_in (List.mem_of_getElem? (i := 1203) (by decide +kernel)) (by decide +kernel)) rfl (by decide +kernel)
theorem sX11_329_4 : gSiteU RX11 "FoldedInHalf$Back" "FoldedInHalf$Strip" ⟨"FoldedInHalf$Strip", "folds", "(Ljava/lang/StringBuilder;I)I"⟩ yX0_folds cX0_folds 3 (some .int) 329 2 := gSiteU.ovr (b0 := cX9_folds) (m0 := 3) (r0 := (some .int)) (tb_in (List.mem_of_getElem? (i := 1144) (by decide +kernel)) (by decide +kernel)) (tb_in (List.mem_of_getElem? (i := 1147) (by decide +kernel)) (by decide +kernel)) (tb_in (List.mem_of_getElem? (i := 1145) (by decide +kernel)) (by decide +kernel)) (tb_in (List.mem_of_getElem? (i := 1148) (by decide +kernel)) (by decide +kernel)) (tb_in (List.mem_of_getElem? (i := 1149) (by decide +kernel)) (by decide +kernel)) (tb_in (List.mem_of_getElem? (i := 94) (by decide +kernel)) (by decide +kernel)) (tb_in (List.mem_of_getElem? (i := 1150) (by decide +kernel)) (by decide +kernel)) (tb_in (List.mem_of_getElem? (i := 1203) (by decide +kernel)) (by decide +kernel)) (by decide +kernel)
theorem sX11_329_5 : gSiteU RX11 "FoldedInHalf$Glass" "FoldedInHalf$Strip" ⟨"FoldedInHalf$Strip", "folds", "(Ljava/lang/StringBuilder;I)I"⟩ yX9_folds cX9_folds 3 (some .int) 329 2 := gSiteU.inh (tb_in (List.mem_of_getElem? (i := 1144) (by decide +kernel)) (by decide +kernel)) (tb_in (List.mem_of_getElem? (i := 1147) (by decide +kernel)) (by decide +kernel)) (tb_in (List.mem_of_getElem? (i := 1190) (by decide +kernel)) (by decide +kernel)) (tb_in (List.mem_of_getElem? (i := 1145) (by decide +kernel)) (by decide +kernel)) (tb_in (List.mem_of_getElem? (i := 90) (by decide +kernel)) (by decide +kernel)) (tb_in (List.mem_of_getElem? (i := 1203) (by decide +kernel)) (by decide +kernel)) rfl (by decide +kernel)
theorem sX11_329_6 : gSiteU RX11 "FoldedInHalf$Left" "FoldedInHalf$Strip" ⟨"FoldedInHalf$Strip", "folds", "(Ljava/lang/StringBuilder;I)I"⟩ yX5_folds cX5_folds 3 (some .int) 329 2 := gSiteU.ovr (b0 := cX9_folds) (m0 := 3) (r0 := (some .int)) (tb_in (List.mem_of_getElem? (i := 1144) (by decide +kernel)) (by decide +kernel)) (tb_in (List.mem_of_getElem? (i := 1147) (by decide +kernel)) (by decide +kernel)) (tb_in (List.mem_of_getElem? (i := 1145) (by decide +kernel)) (by decide +kernel)) (tb_in (List.mem_of_getElem? (i := 1191) (by decide +kernel)) (by decide +kernel)) (tb_in (List.mem_of_getElem? (i := 1192) (by decide +kernel)) (by decide +kernel)) (tb_in (List.mem_of_getElem? (i := 96) (by decide +kernel)) (by decide +kernel)) (tb_in (List.mem_of_getElem? (i := 1193) (by decide +kernel)) (by decide +kernel)) (tb_in (List.mem_of_getElem? (i := 1203) (by decide +kernel)) (by decide +kernel)) (by decide +kernel)
theorem sX11_329_0 : gSite RX11 yX9_folds cX9_folds 3 (some .int) 329 2 := gSite.of (tb_in (List.mem_of_getElem? (i := 1144) (by decide +kernel)) (by decide +kernel)) (tb_in (List.mem_of_getElem? (i := 1145) (by decide +kernel)) (by decide +kernel)) (tb_in (List.mem_of_getElem? (i := 1146) (by decide +kernel)) (by decide +kernel)) (tb_in (List.mem_of_getElem? (i := 90) (by decide +kernel)) (by decide +kernel)) (tb_in (List.mem_of_getElem? (i := 1203) (by decide +kernel)) (by decide +kernel)) (by decide +kernel)
theorem xv_X11_329 {Γ : gT} {cc : ByteArray} {nL : Nat} {D : gD} {ca : Nat → ClassId} {rm : Room} {ret : Option FieldType} {mc ms : Nat} {Post : Option Value → va_W → Prop} {cn sn pc : Nat} {lv : List (Nat × Value)} {st : List Value} {o : Nat → Nat} {L : List Nat} {S : gS} (C0 : Cx Γ cc RX11 nL D (tyW ca) rm ret mc ms Post) {q0 : Nat} (hq0 : q0 ∈ L) (v2 : Int32) (I : gI) (J : gJ) (R : gR) (L0 : List Nat) (S0 : gS) (Q : Int32 → gI → gJ → gR → Prop) (h : wv_folds q0 v2 I J R L S Q) (hroom : ∀ l maxL : Nat, l ≤ 4 → maxL ≤ 81 → gRm (rl l) rm maxL 0 0 cn sn) (hst : (st.map fun v => v.category).sum ≤ 8) (st0 : List Value) (hs0 : st0 = ([.ref (o 1), .int v2] : List Value).reverse ++ .ref q0 :: st) (hd : decode cc pc = .ok (.invokevirtual 329, 3)) (k : ∀ (r : Int32) (I1 : gI) (J1 : gJ) (R1 : gR), Q r I1 J1 R1 → G Γ cn sn (pc + 3) lv (.int r :: st) (cX ca o I1 J1 R1 L S)) : G Γ cn sn pc lv st0 (cX ca o I J R L S) := by
  unfold wv_folds at h
  by_cases h1 : sC (S q0) = 1
  · exact x_callU C0 (wX7_k_folds hq0 h1  v2 I J R L S Q (h.1 h1)) sX11_329_1 (rcv_1 hq0 h1) (hroom _ _ (by decide) (by decide)) rfl hst st0 hs0 hd (px_i k)
  replace h := h.2 h1
  by_cases h2 : sC (S q0) = 2
  · exact x_callU C0 (wX9_k_folds hq0  v2 I J R L S Q (h.1 h2)) sX11_329_2 (rcv_2 hq0 h2) (hroom _ _ (by decide) (by decide)) rfl hst st0 hs0 hd (px_i k)
  replace h := h.2 h2
  by_cases h3 : sC (S q0) = 3
  · exact x_callU C0 (wX9_k_folds hq0  v2 I J R L S Q (h.1 h3)) sX11_329_3 (rcv_3 hq0 h3) (hroom _ _ (by decide) (by decide)) rfl hst st0 hs0 hd (px_i k)
  replace h := h.2 h3
  by_cases h4 : sC (S q0) = 4
  · exact x_callU C0 (wX0_k_folds hq0 h4  v2 I J R L S Q (h.1 h4)) sX11_329_4 (rcv_4 hq0 h4) (hroom _ _ (by decide) (by decide)) rfl hst st0 hs0 hd (px_i k)
  replace h := h.2 h4
  by_cases h5 : sC (S q0) = 5
  · exact x_callU C0 (wX9_k_folds hq0  v2 I J R L S Q (h.1 h5)) sX11_329_5 (rcv_5 hq0 h5) (hroom _ _ (by decide) (by decide)) rfl hst st0 hs0 hd (px_i k)
  replace h := h.2 h5
  by_cases h6 : sC (S q0) = 6
  · exact x_callU C0 (wX5_k_folds hq0 h6  v2 I J R L S Q (h.1 h6)) sX11_329_6 (rcv_6 hq0 h6) (hroom _ _ (by decide) (by decide)) rfl hst st0 hs0 hd (px_i k)
  replace h := h.2 h6
  exact x_callV C0 (wX9_k_folds hq0  v2 I J R L S Q h) sX11_329_0 (rcv_0 hq0 h1 h2 h3 h4 h5 h6) (hroom _ _ (by decide) (by decide)) rfl hst st0 hs0 hd (px_i k)
theorem sX11_333_1 : gSiteU RX11 "FoldedInHalf$Same" "FoldedInHalf$Strip" ⟨"FoldedInHalf$Strip", "opens", "(Ljava/lang/StringBuilder;I)I"⟩ yX9_opens cX9_opens 3 (some .int) 333 2 := gSiteU.inh (tb_in (List.mem_of_getElem? (i := 1205) (by decide +kernel)) (by decide +kernel)) (tb_in (List.mem_of_getElem? (i := 1208) (by decide +kernel)) (by decide +kernel)) (tb_in (List.mem_of_getElem? (i := 1222) (by decide +kernel)) (by decide +kernel)) (tb_in (List.mem_of_getElem? (i := 1206) (by decide +kernel)) (by decide +kernel)) (tb_in (List.mem_of_getElem? (i := 90) (by decide +kernel)) (by decide +kernel)) (tb_in (List.mem_of_getElem? (i := 1228) (by decide +kernel)) (by decide +kernel)) rfl (by decide +kernel)
theorem sX11_333_2 : gSiteU RX11 "FoldedInHalf$Third" "FoldedInHalf$Strip" ⟨"FoldedInHalf$Strip", "opens", "(Ljava/lang/StringBuilder;I)I"⟩ yX10_opens cX10_opens 3 (some .int) 333 2 := gSiteU.ovr (b0 := cX9_opens) (m0 := 3) (r0 := (some .int)) (tb_in (List.mem_of_getElem? (i := 1205) (by decide +kernel)) (by decide +kernel)) (tb_in (List.mem_of_getElem? (i := 1208) (by decide +kernel)) (by decide +kernel)) (tb_in (List.mem_of_getElem? (i := 1206) (by decide +kernel)) (by decide +kernel)) (tb_in (List.mem_of_getElem? (i := 1223) (by decide +kernel)) (by decide +kernel)) (tb_in (List.mem_of_getElem? (i := 1224) (by decide +kernel)) (by decide +kernel)) (tb_in (List.mem_of_getElem? (i := 92) (by decide +kernel)) (by decide +kernel)) (tb_in (List.mem_of_getElem? (i := 1225) (by decide +kernel)) (by decide +kernel)) (tb_in (List.mem_of_getElem? (i := 1228) (by decide +kernel)) (by decide +kernel)) (by decide +kernel)
theorem sX11_333_3 : gSiteU RX11 "FoldedInHalf$Cut" "FoldedInHalf$Strip" ⟨"FoldedInHalf$Strip", "opens", "(Ljava/lang/StringBuilder;I)I"⟩ yX2_opens cX2_opens 3 (some .int) 333 2 := gSiteU.ovr (b0 := cX9_opens) (m0 := 3) (r0 := (some .int)) (tb_in (List.mem_of_getElem? (i := 1205) (by decide +kernel)) (by decide +kernel)) (tb_in (List.mem_of_getElem? (i := 1208) (by decide +kernel)) (by decide +kernel)) (tb_in (List.mem_of_getElem? (i := 1206) (by decide +kernel)) (by decide +kernel)) (tb_in (List.mem_of_getElem? (i := 1214) (by decide +kernel)) (by decide +kernel)) (tb_in (List.mem_of_getElem? (i := 1210) (by decide +kernel)) (by decide +kernel)) (tb_in (List.mem_of_getElem? (i := 93) (by decide +kernel)) (by decide +kernel)) (tb_in (List.mem_of_getElem? (i := 1211) (by decide +kernel)) (by decide +kernel)) (tb_in (List.mem_of_getElem? (i := 1228) (by decide +kernel)) (by decide +kernel)) (by decide +kernel)
theorem sX11_333_4 : gSiteU RX11 "FoldedInHalf$Back" "FoldedInHalf$Strip" ⟨"FoldedInHalf$Strip", "opens", "(Ljava/lang/StringBuilder;I)I"⟩ yX2_opens cX2_opens 3 (some .int) 333 2 := gSiteU.ovr (b0 := cX9_opens) (m0 := 3) (r0 := (some .int)) (tb_in (List.mem_of_getElem? (i := 1205) (by decide +kernel)) (by decide +kernel)) (tb_in (List.mem_of_getElem? (i := 1208) (by decide +kernel)) (by decide +kernel)) (tb_in (List.mem_of_getElem? (i := 1206) (by decide +kernel)) (by decide +kernel)) (tb_in (List.mem_of_getElem? (i := 1209) (by decide +kernel)) (by decide +kernel)) (tb_in (List.mem_of_getElem? (i := 1210) (by decide +kernel)) (by decide +kernel)) (tb_in (List.mem_of_getElem? (i := 93) (by decide +kernel)) (by decide +kernel)) (tb_in (List.mem_of_getElem? (i := 1211) (by decide +kernel)) (by decide +kernel)) (tb_in (List.mem_of_getElem? (i := 1228) (by decide +kernel)) (by decide +kernel)) (by decide +kernel)
theorem sX11_333_5 : gSiteU RX11 "FoldedInHalf$Glass" "FoldedInHalf$Strip" ⟨"FoldedInHalf$Strip", "opens", "(Ljava/lang/StringBuilder;I)I"⟩ yX9_opens cX9_opens 3 (some .int) 333 2 := gSiteU.inh (tb_in (List.mem_of_getElem? (i := 1205) (by decide +kernel)) (by decide +kernel)) (tb_in (List.mem_of_getElem? (i := 1208) (by decide +kernel)) (by decide +kernel)) (tb_in (List.mem_of_getElem? (i := 1215) (by decide +kernel)) (by decide +kernel)) (tb_in (List.mem_of_getElem? (i := 1206) (by decide +kernel)) (by decide +kernel)) (tb_in (List.mem_of_getElem? (i := 90) (by decide +kernel)) (by decide +kernel)) (tb_in (List.mem_of_getElem? (i := 1228) (by decide +kernel)) (by decide +kernel)) rfl (by decide +kernel)
theorem sX11_333_6 : gSiteU RX11 "FoldedInHalf$Left" "FoldedInHalf$Strip" ⟨"FoldedInHalf$Strip", "opens", "(Ljava/lang/StringBuilder;I)I"⟩ yX5_opens cX5_opens 3 (some .int) 333 2 := gSiteU.ovr (b0 := cX9_opens) (m0 := 3) (r0 := (some .int)) (tb_in (List.mem_of_getElem? (i := 1205) (by decide +kernel)) (by decide +kernel)) (tb_in (List.mem_of_getElem? (i := 1208) (by decide +kernel)) (by decide +kernel)) (tb_in (List.mem_of_getElem? (i := 1206) (by decide +kernel)) (by decide +kernel)) (tb_in (List.mem_of_getElem? (i := 1216) (by decide +kernel)) (by decide +kernel)) (tb_in (List.mem_of_getElem? (i := 1217) (by decide +kernel)) (by decide +kernel)) (tb_in (List.mem_of_getElem? (i := 96) (by decide +kernel)) (by decide +kernel)) (tb_in (List.mem_of_getElem? (i := 1218) (by decide +kernel)) (by decide +kernel)) (tb_in (List.mem_of_getElem? (i := 1228) (by decide +kernel)) (by decide +kernel)) (by decide +kernel)
theorem sX11_333_0 : gSite RX11 yX9_opens cX9_opens 3 (some .int) 333 2 := gSite.of (tb_in (List.mem_of_getElem? (i := 1205) (by decide +kernel)) (by decide +kernel)) (tb_in (List.mem_of_getElem? (i := 1206) (by decide +kernel)) (by decide +kernel)) (tb_in (List.mem_of_getElem? (i := 1207) (by decide +kernel)) (by decide +kernel)) (tb_in (List.mem_of_getElem? (i := 90) (by decide +kernel)) (by decide +kernel)) (tb_in (List.mem_of_getElem? (i := 1228) (by decide +kernel)) (by decide +kernel)) (by decide +kernel)
theorem xv_X11_333 {Γ : gT} {cc : ByteArray} {nL : Nat} {D : gD} {ca : Nat → ClassId} {rm : Room} {ret : Option FieldType} {mc ms : Nat} {Post : Option Value → va_W → Prop} {cn sn pc : Nat} {lv : List (Nat × Value)} {st : List Value} {o : Nat → Nat} {L : List Nat} {S : gS} (C0 : Cx Γ cc RX11 nL D (tyW ca) rm ret mc ms Post) {q0 : Nat} (hq0 : q0 ∈ L) (v2 : Int32) (I : gI) (J : gJ) (R : gR) (L0 : List Nat) (S0 : gS) (Q : Int32 → gI → gJ → gR → Prop) (h : wv_opens q0 v2 I J R L S Q) (hroom : ∀ l maxL : Nat, l ≤ 6 → maxL ≤ 81 → gRm (rl l) rm maxL 0 0 cn sn) (hst : (st.map fun v => v.category).sum ≤ 8) (st0 : List Value) (hs0 : st0 = ([.ref (o 1), .int v2] : List Value).reverse ++ .ref q0 :: st) (hd : decode cc pc = .ok (.invokevirtual 333, 3)) (k : ∀ (r : Int32) (I1 : gI) (J1 : gJ) (R1 : gR), Q r I1 J1 R1 → G Γ cn sn (pc + 3) lv (.int r :: st) (cX ca o I1 J1 R1 L S)) : G Γ cn sn pc lv st0 (cX ca o I J R L S) := by
  unfold wv_opens at h
  by_cases h1 : sC (S q0) = 1
  · exact x_callU C0 (wX9_k_opens hq0  v2 I J R L S Q (h.1 h1)) sX11_333_1 (rcv_1 hq0 h1) (hroom _ _ (by decide) (by decide)) rfl hst st0 hs0 hd (px_i k)
  replace h := h.2 h1
  by_cases h2 : sC (S q0) = 2
  · exact x_callU C0 (wX10_k_opens hq0 h2  v2 I J R L S Q (h.1 h2)) sX11_333_2 (rcv_2 hq0 h2) (hroom _ _ (by decide) (by decide)) rfl hst st0 hs0 hd (px_i k)
  replace h := h.2 h2
  by_cases h3 : sC (S q0) = 3
  · exact x_callU C0 (wX2_k_opens hq0 (Or.inl h3)  v2 I J R L S Q (h.1 h3)) sX11_333_3 (rcv_3 hq0 h3) (hroom _ _ (by decide) (by decide)) rfl hst st0 hs0 hd (px_i k)
  replace h := h.2 h3
  by_cases h4 : sC (S q0) = 4
  · exact x_callU C0 (wX2_k_opens hq0 (Or.inr h4)  v2 I J R L S Q (h.1 h4)) sX11_333_4 (rcv_4 hq0 h4) (hroom _ _ (by decide) (by decide)) rfl hst st0 hs0 hd (px_i k)
  replace h := h.2 h4
  by_cases h5 : sC (S q0) = 5
  · exact x_callU C0 (wX9_k_opens hq0  v2 I J R L S Q (h.1 h5)) sX11_333_5 (rcv_5 hq0 h5) (hroom _ _ (by decide) (by decide)) rfl hst st0 hs0 hd (px_i k)
  replace h := h.2 h5
  by_cases h6 : sC (S q0) = 6
  · exact x_callU C0 (wX5_k_opens hq0 h6  v2 I J R L S Q (h.1 h6)) sX11_333_6 (rcv_6 hq0 h6) (hroom _ _ (by decide) (by decide)) rfl hst st0 hs0 hd (px_i k)
  replace h := h.2 h6
  exact x_callV C0 (wX9_k_opens hq0  v2 I J R L S Q h) sX11_333_0 (rcv_0 hq0 h1 h2 h3 h4 h5 h6) (hroom _ _ (by decide) (by decide)) rfl hst st0 hs0 hd (px_i k)
theorem sX11_336_1 : gSiteU RX11 "FoldedInHalf$Same" "FoldedInHalf$Strip" ⟨"FoldedInHalf$Strip", "lies", "(Ljava/lang/StringBuilder;I)I"⟩ yX9_lies cX9_lies 3 (some .int) 336 2 := gSiteU.inh (tb_in (List.mem_of_getElem? (i := 1230) (by decide +kernel)) (by decide +kernel)) (tb_in (List.mem_of_getElem? (i := 1233) (by decide +kernel)) (by decide +kernel)) (tb_in (List.mem_of_getElem? (i := 1247) (by decide +kernel)) (by decide +kernel)) (tb_in (List.mem_of_getElem? (i := 1231) (by decide +kernel)) (by decide +kernel)) (tb_in (List.mem_of_getElem? (i := 90) (by decide +kernel)) (by decide +kernel)) (tb_in (List.mem_of_getElem? (i := 1249) (by decide +kernel)) (by decide +kernel)) rfl (by decide +kernel)
theorem sX11_336_2 : gSiteU RX11 "FoldedInHalf$Third" "FoldedInHalf$Strip" ⟨"FoldedInHalf$Strip", "lies", "(Ljava/lang/StringBuilder;I)I"⟩ yX9_lies cX9_lies 3 (some .int) 336 2 := gSiteU.inh (tb_in (List.mem_of_getElem? (i := 1230) (by decide +kernel)) (by decide +kernel)) (tb_in (List.mem_of_getElem? (i := 1233) (by decide +kernel)) (by decide +kernel)) (tb_in (List.mem_of_getElem? (i := 1248) (by decide +kernel)) (by decide +kernel)) (tb_in (List.mem_of_getElem? (i := 1231) (by decide +kernel)) (by decide +kernel)) (tb_in (List.mem_of_getElem? (i := 90) (by decide +kernel)) (by decide +kernel)) (tb_in (List.mem_of_getElem? (i := 1249) (by decide +kernel)) (by decide +kernel)) rfl (by decide +kernel)
theorem sX11_336_3 : gSiteU RX11 "FoldedInHalf$Cut" "FoldedInHalf$Strip" ⟨"FoldedInHalf$Strip", "lies", "(Ljava/lang/StringBuilder;I)I"⟩ yX9_lies cX9_lies 3 (some .int) 336 2 := gSiteU.inh (tb_in (List.mem_of_getElem? (i := 1230) (by decide +kernel)) (by decide +kernel)) (tb_in (List.mem_of_getElem? (i := 1233) (by decide +kernel)) (by decide +kernel)) (tb_in (List.mem_of_getElem? (i := 1240) (by decide +kernel)) (by decide +kernel)) (tb_in (List.mem_of_getElem? (i := 1231) (by decide +kernel)) (by decide +kernel)) (tb_in (List.mem_of_getElem? (i := 90) (by decide +kernel)) (by decide +kernel)) (tb_in (List.mem_of_getElem? (i := 1249) (by decide +kernel)) (by decide +kernel)) rfl (by decide +kernel)
theorem sX11_336_4 : gSiteU RX11 "FoldedInHalf$Back" "FoldedInHalf$Strip" ⟨"FoldedInHalf$Strip", "lies", "(Ljava/lang/StringBuilder;I)I"⟩ yX0_lies cX0_lies 3 (some .int) 336 2 := gSiteU.ovr (b0 := cX9_lies) (m0 := 3) (r0 := (some .int)) (tb_in (List.mem_of_getElem? (i := 1230) (by decide +kernel)) (by decide +kernel)) (tb_in (List.mem_of_getElem? (i := 1233) (by decide +kernel)) (by decide +kernel)) (tb_in (List.mem_of_getElem? (i := 1231) (by decide +kernel)) (by decide +kernel)) (tb_in (List.mem_of_getElem? (i := 1234) (by decide +kernel)) (by decide +kernel)) (tb_in (List.mem_of_getElem? (i := 1235) (by decide +kernel)) (by decide +kernel)) (tb_in (List.mem_of_getElem? (i := 94) (by decide +kernel)) (by decide +kernel)) (tb_in (List.mem_of_getElem? (i := 1236) (by decide +kernel)) (by decide +kernel)) (tb_in (List.mem_of_getElem? (i := 1249) (by decide +kernel)) (by decide +kernel)) (by decide +kernel)
theorem sX11_336_5 : gSiteU RX11 "FoldedInHalf$Glass" "FoldedInHalf$Strip" ⟨"FoldedInHalf$Strip", "lies", "(Ljava/lang/StringBuilder;I)I"⟩ yX3_lies cX3_lies 3 (some .int) 336 2 := gSiteU.ovr (b0 := cX9_lies) (m0 := 3) (r0 := (some .int)) (tb_in (List.mem_of_getElem? (i := 1230) (by decide +kernel)) (by decide +kernel)) (tb_in (List.mem_of_getElem? (i := 1233) (by decide +kernel)) (by decide +kernel)) (tb_in (List.mem_of_getElem? (i := 1231) (by decide +kernel)) (by decide +kernel)) (tb_in (List.mem_of_getElem? (i := 1241) (by decide +kernel)) (by decide +kernel)) (tb_in (List.mem_of_getElem? (i := 1242) (by decide +kernel)) (by decide +kernel)) (tb_in (List.mem_of_getElem? (i := 95) (by decide +kernel)) (by decide +kernel)) (tb_in (List.mem_of_getElem? (i := 1243) (by decide +kernel)) (by decide +kernel)) (tb_in (List.mem_of_getElem? (i := 1249) (by decide +kernel)) (by decide +kernel)) (by decide +kernel)
theorem sX11_336_6 : gSiteU RX11 "FoldedInHalf$Left" "FoldedInHalf$Strip" ⟨"FoldedInHalf$Strip", "lies", "(Ljava/lang/StringBuilder;I)I"⟩ yX3_lies cX3_lies 3 (some .int) 336 2 := gSiteU.ovr (b0 := cX9_lies) (m0 := 3) (r0 := (some .int)) (tb_in (List.mem_of_getElem? (i := 1230) (by decide +kernel)) (by decide +kernel)) (tb_in (List.mem_of_getElem? (i := 1233) (by decide +kernel)) (by decide +kernel)) (tb_in (List.mem_of_getElem? (i := 1231) (by decide +kernel)) (by decide +kernel)) (tb_in (List.mem_of_getElem? (i := 1246) (by decide +kernel)) (by decide +kernel)) (tb_in (List.mem_of_getElem? (i := 1242) (by decide +kernel)) (by decide +kernel)) (tb_in (List.mem_of_getElem? (i := 95) (by decide +kernel)) (by decide +kernel)) (tb_in (List.mem_of_getElem? (i := 1243) (by decide +kernel)) (by decide +kernel)) (tb_in (List.mem_of_getElem? (i := 1249) (by decide +kernel)) (by decide +kernel)) (by decide +kernel)
theorem sX11_336_0 : gSite RX11 yX9_lies cX9_lies 3 (some .int) 336 2 := gSite.of (tb_in (List.mem_of_getElem? (i := 1230) (by decide +kernel)) (by decide +kernel)) (tb_in (List.mem_of_getElem? (i := 1231) (by decide +kernel)) (by decide +kernel)) (tb_in (List.mem_of_getElem? (i := 1232) (by decide +kernel)) (by decide +kernel)) (tb_in (List.mem_of_getElem? (i := 90) (by decide +kernel)) (by decide +kernel)) (tb_in (List.mem_of_getElem? (i := 1249) (by decide +kernel)) (by decide +kernel)) (by decide +kernel)
theorem xv_X11_336 {Γ : gT} {cc : ByteArray} {nL : Nat} {D : gD} {ca : Nat → ClassId} {rm : Room} {ret : Option FieldType} {mc ms : Nat} {Post : Option Value → va_W → Prop} {cn sn pc : Nat} {lv : List (Nat × Value)} {st : List Value} {o : Nat → Nat} {L : List Nat} {S : gS} (C0 : Cx Γ cc RX11 nL D (tyW ca) rm ret mc ms Post) {q0 : Nat} (hq0 : q0 ∈ L) (v2 : Int32) (I : gI) (J : gJ) (R : gR) (L0 : List Nat) (S0 : gS) (Q : Int32 → gI → gJ → gR → Prop) (h : wv_lies q0 v2 I J R L S Q) (hroom : ∀ l maxL : Nat, l ≤ 8 → maxL ≤ 81 → gRm (rl l) rm maxL 0 0 cn sn) (hst : (st.map fun v => v.category).sum ≤ 8) (st0 : List Value) (hs0 : st0 = ([.ref (o 1), .int v2] : List Value).reverse ++ .ref q0 :: st) (hd : decode cc pc = .ok (.invokevirtual 336, 3)) (k : ∀ (r : Int32) (I1 : gI) (J1 : gJ) (R1 : gR), Q r I1 J1 R1 → G Γ cn sn (pc + 3) lv (.int r :: st) (cX ca o I1 J1 R1 L S)) : G Γ cn sn pc lv st0 (cX ca o I J R L S) := by
  unfold wv_lies at h
  by_cases h1 : sC (S q0) = 1
  · exact x_callU C0 (wX9_k_lies hq0  v2 I J R L S Q (h.1 h1)) sX11_336_1 (rcv_1 hq0 h1) (hroom _ _ (by decide) (by decide)) rfl hst st0 hs0 hd (px_i k)
  replace h := h.2 h1
  by_cases h2 : sC (S q0) = 2
  · exact x_callU C0 (wX9_k_lies hq0  v2 I J R L S Q (h.1 h2)) sX11_336_2 (rcv_2 hq0 h2) (hroom _ _ (by decide) (by decide)) rfl hst st0 hs0 hd (px_i k)
  replace h := h.2 h2
  by_cases h3 : sC (S q0) = 3
  · exact x_callU C0 (wX9_k_lies hq0  v2 I J R L S Q (h.1 h3)) sX11_336_3 (rcv_3 hq0 h3) (hroom _ _ (by decide) (by decide)) rfl hst st0 hs0 hd (px_i k)
  replace h := h.2 h3
  by_cases h4 : sC (S q0) = 4
  · exact x_callU C0 (wX0_k_lies hq0 h4  v2 I J R L S Q (h.1 h4)) sX11_336_4 (rcv_4 hq0 h4) (hroom _ _ (by decide) (by decide)) rfl hst st0 hs0 hd (px_i k)
  replace h := h.2 h4
  by_cases h5 : sC (S q0) = 5
  · exact x_callU C0 (wX3_k_lies hq0 (Or.inl h5)  v2 I J R L S Q (h.1 h5)) sX11_336_5 (rcv_5 hq0 h5) (hroom _ _ (by decide) (by decide)) rfl hst st0 hs0 hd (px_i k)
  replace h := h.2 h5
  by_cases h6 : sC (S q0) = 6
  · exact x_callU C0 (wX3_k_lies hq0 (Or.inr h6)  v2 I J R L S Q (h.1 h6)) sX11_336_6 (rcv_6 hq0 h6) (hroom _ _ (by decide) (by decide)) rfl hst st0 hs0 hd (px_i k)
  replace h := h.2 h6
  exact x_callV C0 (wX9_k_lies hq0  v2 I J R L S Q h) sX11_336_0 (rcv_0 hq0 h1 h2 h3 h4 h5 h6) (hroom _ _ (by decide) (by decide)) rfl hst st0 hs0 hd (px_i k)
theorem sX11_326 : gSite RX11 yJ4_setLength_d00df cJ4_setLength_d00df 2 none 326 1 := gSite.of (tb_in (List.mem_of_getElem? (i := 1090) (by decide +kernel)) (by decide +kernel)) (tb_in (List.mem_of_getElem? (i := 1091) (by decide +kernel)) (by decide +kernel)) (tb_in (List.mem_of_getElem? (i := 1092) (by decide +kernel)) (by decide +kernel)) (tb_in (List.mem_of_getElem? (i := 80) (by decide +kernel)) (by decide +kernel)) (tb_in (List.mem_of_getElem? (i := 1093) (by decide +kernel)) (by decide +kernel)) (by decide +kernel)
set_option maxRecDepth 100000 in
theorem wX11_act_g {Γ : gT} {D : gD} {ca : Nat → ClassId} {o : Nat → Nat} {I : gI} {J : gJ} {R : gR} {L : List Nat} {S : gS} {Q : Int32 → gI → gJ → gR → Prop} (v1 : Int32) (v2 : Int32) (v3 : Int32) (C : Cx Γ cX11_act RX11 4 D (tyW ca) (rl 9) (some .int) 0 0 (PXi ca o L S Q)) (h : wX11_act v1 v2 v3 I J R L S Q) : G Γ 0 0 0 [(0, .ref (o 0)), (1, .int v1), (2, .int v2), (3, .int v3)] [] (cX ca o I J R L S) := by
  unfold wX11_act at h
  refine g_aload_n C (i := 0) dX11_act_0 rfl rfl ?_
  refine x_get_X11_38 C dX11_act_1 ?_
  refine g_iconst_0 C dX11_act_4 ?_
  refine x_callV C (wJ4_k_setLength_d00df 0 I J R L S _ h) sX11_326 rcv_sb (rl_ok (by decide) (by decide)) rfl (Nat.le_of_ble_eq_true rfl) (st := []) _ rfl dX11_act_5 (px_v (fun I2 J3 R4 h => ?_))
  refine g_aload_n C (i := 0) dX11_act_8 rfl rfl ?_
  refine g_iload_n C (i := 1) dX11_act_9 rfl rfl ?_
  refine x_callV C (wX11_k_isStrip v1 I2 J3 R4 L S _ h) sX11_118 rcv_main (rl_ok (by decide) (by decide)) rfl (Nat.le_of_ble_eq_true rfl) (st := []) _ rfl dX11_act_10 (py_z (fun r5 h => ?_))
  refine g_zne C 18 dX11_act_13 rfl (fun c6 => ?_) (fun c6 => ?_)
  · replace h := h.1 c6
    refine g_iload_n C (i := 2) dX11_act_18 rfl rfl ?_
    by_cases c7 : v2 = 0
    · replace h := h.1 c7
      refine g_tin C 44 0 c7 (by decide) (by decide) rfl rfl dX11_act_19 ?_
      refine g_aload_n C (i := 0) dX11_act_44 rfl rfl ?_
      refine x_get_X11_11 C dX11_act_45 ?_
      refine g_iload_n C (i := 1) dX11_act_48 rfl rfl ?_
      obtain ⟨h8, h⟩ := h
      refine x_aald C (k := 0) (by decide) h8 dX11_act_49 ?_
      refine g_aload_n C (i := 0) dX11_act_50 rfl rfl ?_
      refine x_get_X11_38 C dX11_act_51 ?_
      refine g_iload_n C (i := 3) dX11_act_54 rfl rfl ?_
      obtain ⟨z9, h10, h11, h⟩ := h
      refine g_eqs (st' := [.int v3, .ref (o 1), .ref z9]) (by rw [h10]; rfl) rfl ?_
      refine xv_X11_329 C h11 v3 I2 J3 R4 L S _ h (fun l m h1 h2 => rl_ok (by omega) h2) (Nat.le_of_ble_eq_true rfl) (st := []) _ rfl dX11_act_55 (fun r12 I13 J14 R15 h => ?_)
      exact g_ret_i C dX11_act_58 (Nat.le_refl _) (Nat.le_refl _) ⟨_, _, _, _, rfl, rfl, h⟩
    replace h := h.2 c7
    by_cases c16 : v2 = 1
    · replace h := h.1 c16
      refine g_tin C 59 1 c16 (by decide) (by decide) rfl rfl dX11_act_19 ?_
      refine g_aload_n C (i := 0) dX11_act_59 rfl rfl ?_
      refine x_get_X11_11 C dX11_act_60 ?_
      refine g_iload_n C (i := 1) dX11_act_63 rfl rfl ?_
      obtain ⟨h17, h⟩ := h
      refine x_aald C (k := 0) (by decide) h17 dX11_act_64 ?_
      refine g_aload_n C (i := 0) dX11_act_65 rfl rfl ?_
      refine x_get_X11_38 C dX11_act_66 ?_
      refine g_iload_n C (i := 3) dX11_act_69 rfl rfl ?_
      obtain ⟨z18, h19, h20, h⟩ := h
      refine g_eqs (st' := [.int v3, .ref (o 1), .ref z18]) (by rw [h19]; rfl) rfl ?_
      refine xv_X11_333 C h20 v3 I2 J3 R4 L S _ h (fun l m h1 h2 => rl_ok (by omega) h2) (Nat.le_of_ble_eq_true rfl) (st := []) _ rfl dX11_act_70 (fun r21 I22 J23 R24 h => ?_)
      exact g_ret_i C dX11_act_73 (Nat.le_refl _) (Nat.le_refl _) ⟨_, _, _, _, rfl, rfl, h⟩
    replace h := h.2 c16
    by_cases c25 : v2 = 2
    · replace h := h.1 c25
      refine g_tin C 74 2 c25 (by decide) (by decide) rfl rfl dX11_act_19 ?_
      refine g_aload_n C (i := 0) dX11_act_74 rfl rfl ?_
      refine x_get_X11_11 C dX11_act_75 ?_
      refine g_iload_n C (i := 1) dX11_act_78 rfl rfl ?_
      obtain ⟨h26, h⟩ := h
      refine x_aald C (k := 0) (by decide) h26 dX11_act_79 ?_
      refine g_aload_n C (i := 0) dX11_act_80 rfl rfl ?_
      refine x_get_X11_38 C dX11_act_81 ?_
      refine g_iload_n C (i := 3) dX11_act_84 rfl rfl ?_
      obtain ⟨z27, h28, h29, h⟩ := h
      refine g_eqs (st' := [.int v3, .ref (o 1), .ref z27]) (by rw [h28]; rfl) rfl ?_
      refine xv_X11_336 C h29 v3 I2 J3 R4 L S _ h (fun l m h1 h2 => rl_ok (by omega) h2) (Nat.le_of_ble_eq_true rfl) (st := []) _ rfl dX11_act_85 (fun r30 I31 J32 R33 h => ?_)
      exact g_ret_i C dX11_act_88 (Nat.le_refl _) (Nat.le_refl _) ⟨_, _, _, _, rfl, rfl, h⟩
    replace h := h.2 c25
    refine g_tout C 89 (by have := g_ne (v := 0) (n := 0) c7 (by decide); have := g_ne (v := 1) (n := 1) c16 (by decide); have := g_ne (v := 2) (n := 2) c25 (by decide); omega) rfl dX11_act_19 ?_
    refine g_iconst_0 C dX11_act_89 ?_
    exact g_ret_i C dX11_act_90 (Nat.le_refl _) (Nat.le_refl _) ⟨_, _, _, _, rfl, rfl, h⟩
  · replace h := h.2 c6
    refine g_iconst_0 C dX11_act_16 ?_
    exact g_ret_i C dX11_act_17 (Nat.le_refl _) (Nat.le_refl _) ⟨_, _, _, _, rfl, rfl, h⟩
theorem wX11_k_act {D : gD} {ca : Nat → ClassId} {o : Nat → Nat} {L : List Nat} {S : gS} (v1 : Int32) (v2 : Int32) (v3 : Int32) (I : gI) (J : gJ) (R : gR) (L0 : List Nat) (S0 : gS) (Q : Int32 → gI → gJ → gR → Prop) (h : wX11_act v1 v2 v3 I J R L S Q) : Ct yX11_act cX11_act 4 (some .int) (rl 9) D (tyW ca) 0 0 [.ref (o 0), .int v1, .int v2, .int v3] (cX ca o I J R L S) (PXi ca o L S Q) := ct_of (rm := (rl 9)) (by decide +kernel) (Nat.le_of_ble_eq_true rfl) (fun Γ C => wX11_act_g v1 v2 v3 C h)
set_option maxRecDepth 100000 in
theorem wX4_howMany_g {Γ : gT} {D : gD} {ca : Nat → ClassId} {o : Nat → Nat} {I : gI} {J : gJ} {R : gR} {L : List Nat} {S : gS} {Q : Int32 → gI → gJ → gR → Prop} (v1 : Int32) (C : Cx Γ cX4_howMany RX4 2 D (tyW ca) (rl 15) (some .int) 0 0 (PXi ca o L S Q)) (h : wX4_howMany v1 I J R L S Q) : G Γ 0 0 0 [(0, .ref (o 4)), (1, .int v1)] [] (cX ca o I J R L S) := by
  unfold wX4_howMany at h
  refine g_iload_n C (i := 1) dX4_howMany_0 rfl rfl ?_
  refine g_iconst_1 C dX4_howMany_1 ?_
  refine g_icmp_lt C 14 dX4_howMany_2 rfl (fun c1 => ?_) (fun c1 => ?_)
  · replace h := h.1 c1
    refine g_iconst_0 C dX4_howMany_14 ?_
    exact g_ret_i C dX4_howMany_15 (Nat.le_refl _) (Nat.le_refl _) ⟨_, _, _, _, rfl, rfl, h⟩
  · replace h := h.2 c1
    refine g_iload_n C (i := 1) dX4_howMany_5 rfl rfl ?_
    refine g_aload_n C (i := 0) dX4_howMany_6 rfl rfl ?_
    refine x_get_X4_24 C dX4_howMany_7 ?_
    refine x_alen C (k := 14) (v := 9) (by decide) rfl dX4_howMany_10 ?_
    refine g_icmp_lt C 16 dX4_howMany_11 rfl (fun c2 => ?_) (fun c2 => ?_)
    · replace h := h.1 c2
      refine g_aload_n C (i := 0) dX4_howMany_16 rfl rfl ?_
      refine x_get_X4_24 C dX4_howMany_17 ?_
      refine g_iload_n C (i := 1) dX4_howMany_20 rfl rfl ?_
      obtain ⟨h3, h⟩ := h
      refine x_iald C (k := 14) (by decide) h3 dX4_howMany_21 ?_
      refine g_if_ne C 62 dX4_howMany_22 rfl (fun c4 => ?_) (fun c4 => ?_)
      · replace h := h.1 c4
        refine g_aload_n C (i := 0) dX4_howMany_62 rfl rfl ?_
        refine x_get_X4_24 C dX4_howMany_63 ?_
        refine g_iload_n C (i := 1) dX4_howMany_66 rfl rfl ?_
        refine x_iald C (k := 14) (by decide) h3 dX4_howMany_67 ?_
        exact g_ret_i C dX4_howMany_68 (Nat.le_refl _) (Nat.le_refl _) ⟨_, _, _, _, rfl, rfl, h⟩
      · replace h := h.2 c4
        refine g_aload_n C (i := 0) dX4_howMany_25 rfl rfl ?_
        refine x_callV C (wX4_k_clear I J R L S _ h) sX4_33 rcv_leaves (rl_ok (by decide) (by decide)) rfl (Nat.le_of_ble_eq_true rfl) (st := []) _ rfl dX4_howMany_26 (px_v (fun I6 J7 R8 h => ?_))
        refine g_aload_n C (i := 0) dX4_howMany_29 rfl rfl ?_
        refine x_get_X4_21 C dX4_howMany_30 ?_
        refine g_iload_n C (i := 1) dX4_howMany_33 rfl rfl ?_
        refine g_aload_n C (i := 0) dX4_howMany_34 rfl rfl ?_
        refine x_get_X4_40 C dX4_howMany_35 ?_
        refine x_iast C (k := 13) (by decide) h3 dX4_howMany_38 ?_
        refine x_nmI _ (fun I9 e10 => ?_)
        replace h := h I9 e10
        refine g_aload_n C (i := 0) dX4_howMany_39 rfl rfl ?_
        refine g_iload_n C (i := 1) dX4_howMany_40 rfl rfl ?_
        refine g_iconst_0 C dX4_howMany_41 ?_
        obtain ⟨q15, hq15, h⟩ := h
        refine x_callS C (wX4_k_layFrom q15 v1 0 I9 J7 R8 L S _ h) sX4_44 (rl_ok (by omega) (by decide)) rfl (Nat.le_of_ble_eq_true rfl) (st := []) _ rfl dX4_howMany_42 (px_v (fun I12 J13 R14 h => ?_))
        refine g_aload_n C (i := 0) dX4_howMany_45 rfl rfl ?_
        refine x_get_X4_24 C dX4_howMany_46 ?_
        refine g_iload_n C (i := 1) dX4_howMany_49 rfl rfl ?_
        refine g_aload_n C (i := 0) dX4_howMany_50 rfl rfl ?_
        refine x_get_X4_40 C dX4_howMany_51 ?_
        refine g_aload_n C (i := 0) dX4_howMany_54 rfl rfl ?_
        refine x_get_X4_21 C dX4_howMany_55 ?_
        refine g_iload_n C (i := 1) dX4_howMany_58 rfl rfl ?_
        refine x_iald C (k := 13) (by decide) h3 dX4_howMany_59 ?_
        refine g_isub C dX4_howMany_60 ?_
        refine x_iast C (k := 14) (by decide) h3 dX4_howMany_61 ?_
        refine x_nmI _ (fun I16 e17 => ?_)
        replace h := h I16 e17
        refine g_aload_n C (i := 0) dX4_howMany_62 rfl rfl ?_
        refine x_get_X4_24 C dX4_howMany_63 ?_
        refine g_iload_n C (i := 1) dX4_howMany_66 rfl rfl ?_
        refine x_iald C (k := 14) (by decide) h3 dX4_howMany_67 ?_
        exact g_ret_i C dX4_howMany_68 (Nat.le_refl _) (Nat.le_refl _) ⟨_, _, _, _, rfl, rfl, h⟩
    · replace h := h.2 c2
      refine g_iconst_0 C dX4_howMany_14 ?_
      exact g_ret_i C dX4_howMany_15 (Nat.le_refl _) (Nat.le_refl _) ⟨_, _, _, _, rfl, rfl, h⟩
theorem wX4_k_howMany {D : gD} {ca : Nat → ClassId} {o : Nat → Nat} {L : List Nat} {S : gS} (v1 : Int32) (I : gI) (J : gJ) (R : gR) (L0 : List Nat) (S0 : gS) (Q : Int32 → gI → gJ → gR → Prop) (h : wX4_howMany v1 I J R L S Q) : Ct yX4_howMany cX4_howMany 2 (some .int) (rl 15) D (tyW ca) 0 0 [.ref (o 4), .int v1] (cX ca o I J R L S) (PXi ca o L S Q) := ct_of (rm := (rl 15)) (by decide +kernel) (Nat.le_of_ble_eq_true rfl) (fun Γ C => wX4_howMany_g v1 C h)
theorem sX11_317 : gSite RX11 yX4_howMany cX4_howMany 2 (some .int) 317 1 := gSite.of (tb_in (List.mem_of_getElem? (i := 1054) (by decide +kernel)) (by decide +kernel)) (tb_in (List.mem_of_getElem? (i := 1055) (by decide +kernel)) (by decide +kernel)) (tb_in (List.mem_of_getElem? (i := 1056) (by decide +kernel)) (by decide +kernel)) (tb_in (List.mem_of_getElem? (i := 85) (by decide +kernel)) (by decide +kernel)) (tb_in (List.mem_of_getElem? (i := 1057) (by decide +kernel)) (by decide +kernel)) (by decide +kernel)
set_option maxRecDepth 100000 in
theorem wX11_orders_gc11 {Γ : gT} {D : gD} {ca : Nat → ClassId} {o : Nat → Nat} {Q : Int32 → gI → gJ → gR → Prop} {L : List Nat} {S : gS} (C : Cx Γ cX11_orders RX11 2 D (tyW ca) (rl 16) (some .int) 0 0 (PXi ca o L S Q)) (I : gI) (J : gJ) (R : gR) (h : wX11_orders_c11 L S I J R Q) : G Γ 0 0 11 [(0, .ref (o 0))] [] (cX ca o I J R L S) := by
  unfold wX11_orders_c11 at h
  refine g_aload_n C (i := 0) dX11_orders_11 rfl rfl ?_
  refine g_bipush C (v := (-6)) dX11_orders_12 (by decide) ?_
  refine x_callV C (wX11_k_refuse (-6) I J R L S _ h) sX11_73 rcv_main (rl_ok (by decide) (by decide)) rfl (Nat.le_of_ble_eq_true rfl) (st := []) _ rfl dX11_orders_14 (px_i (fun r1 I2 J3 R4 h => ?_))
  exact g_ret_i C dX11_orders_17 (Nat.le_refl _) (Nat.le_refl _) ⟨_, _, _, _, rfl, rfl, h⟩
set_option maxRecDepth 100000 in
theorem wX11_orders_g {Γ : gT} {D : gD} {ca : Nat → ClassId} {o : Nat → Nat} {I : gI} {J : gJ} {R : gR} {L : List Nat} {S : gS} {Q : Int32 → gI → gJ → gR → Prop} (v1 : Int32) (C : Cx Γ cX11_orders RX11 2 D (tyW ca) (rl 16) (some .int) 0 0 (PXi ca o L S Q)) (h : wX11_orders v1 I J R L S Q) : G Γ 0 0 0 [(0, .ref (o 0)), (1, .int v1)] [] (cX ca o I J R L S) := by
  unfold wX11_orders at h
  refine g_iload_n C (i := 1) dX11_orders_0 rfl rfl ?_
  refine g_iconst_1 C dX11_orders_1 ?_
  refine g_icmp_lt C 11 dX11_orders_2 rfl (fun c1 => ?_) (fun c1 => ?_)
  · replace h := h.1 c1
    exact g_weak [0] rfl (Nat.le_refl _) (Nat.le_refl _) (wX11_orders_gc11  C   I J R h)
  · replace h := h.2 c1
    refine g_iload_n C (i := 1) dX11_orders_5 rfl rfl ?_
    refine g_bipush C (v := 8) dX11_orders_6 (by decide) ?_
    refine g_icmp_le C 18 dX11_orders_8 rfl (fun c2 => ?_) (fun c2 => ?_)
    · replace h := h.1 c2
      refine g_aload_n C (i := 0) dX11_orders_18 rfl rfl ?_
      refine x_get_X11_64 C dX11_orders_19 ?_
      refine g_iload_n C (i := 1) dX11_orders_22 rfl rfl ?_
      refine x_callV C (wX4_k_howMany v1 I J R L S _ h) sX11_317 rcv_leaves (rl_ok (by decide) (by decide)) rfl (Nat.le_of_ble_eq_true rfl) (st := []) _ rfl dX11_orders_23 (px_i (fun r3 I4 J5 R6 h => ?_))
      exact g_ret_i C dX11_orders_26 (Nat.le_refl _) (Nat.le_refl _) ⟨_, _, _, _, rfl, rfl, h⟩
    · replace h := h.2 c2
      exact g_weak [0] rfl (Nat.le_refl _) (Nat.le_refl _) (wX11_orders_gc11  C   I J R h)
theorem wX11_k_orders {D : gD} {ca : Nat → ClassId} {o : Nat → Nat} {L : List Nat} {S : gS} (v1 : Int32) (I : gI) (J : gJ) (R : gR) (L0 : List Nat) (S0 : gS) (Q : Int32 → gI → gJ → gR → Prop) (h : wX11_orders v1 I J R L S Q) : Ct yX11_orders cX11_orders 2 (some .int) (rl 16) D (tyW ca) 0 0 [.ref (o 0), .int v1] (cX ca o I J R L S) (PXi ca o L S Q) := ct_of (rm := (rl 16)) (by decide +kernel) (Nat.le_of_ble_eq_true rfl) (fun Γ C => wX11_orders_g v1 C h)
theorem sX4_48 : gSite RX4 yX4_howMany cX4_howMany 2 (some .int) 48 1 := gSite.of (tb_in (List.mem_of_getElem? (i := 1073) (by decide +kernel)) (by decide +kernel)) (tb_in (List.mem_of_getElem? (i := 1055) (by decide +kernel)) (by decide +kernel)) (tb_in (List.mem_of_getElem? (i := 1056) (by decide +kernel)) (by decide +kernel)) (tb_in (List.mem_of_getElem? (i := 85) (by decide +kernel)) (by decide +kernel)) (tb_in (List.mem_of_getElem? (i := 1057) (by decide +kernel)) (by decide +kernel)) (by decide +kernel)
set_option maxRecDepth 100000 in
theorem wX4_leafOf_g {Γ : gT} {D : gD} {ca : Nat → ClassId} {o : Nat → Nat} {I : gI} {J : gJ} {R : gR} {L : List Nat} {S : gS} {Q : Int32 → gI → gJ → gR → Prop} (v1 : Int32) (v2 : Int32) (v3 : Int32) (C : Cx Γ cX4_leafOf RX4 4 D (tyW ca) (rl 16) (some .int) 0 0 (PXi ca o L S Q)) (h : wX4_leafOf v1 v2 v3 I J R L S Q) : G Γ 0 0 0 [(0, .ref (o 4)), (1, .int v1), (2, .int v2), (3, .int v3)] [] (cX ca o I J R L S) := by
  unfold wX4_leafOf at h
  refine g_iload_n C (i := 2) dX4_leafOf_0 rfl rfl ?_
  refine g_if_lt C 38 dX4_leafOf_1 rfl (fun c1 => ?_) (fun c1 => ?_)
  · replace h := h.1 c1
    refine g_iconst_m1 C dX4_leafOf_38 ?_
    exact g_ret_i C dX4_leafOf_39 (Nat.le_refl _) (Nat.le_refl _) ⟨_, _, _, _, rfl, rfl, h⟩
  · replace h := h.2 c1
    refine g_iload_n C (i := 2) dX4_leafOf_4 rfl rfl ?_
    refine g_aload_n C (i := 0) dX4_leafOf_5 rfl rfl ?_
    refine g_iload_n C (i := 1) dX4_leafOf_6 rfl rfl ?_
    refine x_callV C (wX4_k_howMany v1 I J R L S _ h) sX4_48 rcv_leaves (rl_ok (by decide) (by decide)) rfl (Nat.le_of_ble_eq_true rfl) (st := [.int v2]) _ rfl dX4_leafOf_7 (px_i (fun r2 I3 J4 R5 h => ?_))
    refine g_icmp_ge C 38 dX4_leafOf_10 rfl (fun c6 => ?_) (fun c6 => ?_)
    · replace h := h.1 c6
      refine g_iconst_m1 C dX4_leafOf_38 ?_
      exact g_ret_i C dX4_leafOf_39 (Nat.le_refl _) (Nat.le_refl _) ⟨_, _, _, _, rfl, rfl, h⟩
    · replace h := h.2 c6
      refine g_iload_n C (i := 3) dX4_leafOf_13 rfl rfl ?_
      refine g_if_lt C 38 dX4_leafOf_14 rfl (fun c7 => ?_) (fun c7 => ?_)
      · replace h := h.1 c7
        refine g_iconst_m1 C dX4_leafOf_38 ?_
        exact g_ret_i C dX4_leafOf_39 (Nat.le_refl _) (Nat.le_refl _) ⟨_, _, _, _, rfl, rfl, h⟩
      · replace h := h.2 c7
        refine g_iload_n C (i := 3) dX4_leafOf_17 rfl rfl ?_
        refine g_iload_n C (i := 1) dX4_leafOf_18 rfl rfl ?_
        refine g_icmp_ge C 38 dX4_leafOf_19 rfl (fun c8 => ?_) (fun c8 => ?_)
        · replace h := h.1 c8
          refine g_iconst_m1 C dX4_leafOf_38 ?_
          exact g_ret_i C dX4_leafOf_39 (Nat.le_refl _) (Nat.le_refl _) ⟨_, _, _, _, rfl, rfl, h⟩
        · replace h := h.2 c8
          refine g_aload_n C (i := 0) dX4_leafOf_22 rfl rfl ?_
          refine x_get_X4_21 C dX4_leafOf_23 ?_
          refine g_iload_n C (i := 1) dX4_leafOf_26 rfl rfl ?_
          obtain ⟨h9, h⟩ := h
          refine x_iald C (k := 13) (by decide) h9 dX4_leafOf_27 ?_
          refine g_iload_n C (i := 2) dX4_leafOf_28 rfl rfl ?_
          refine g_iadd C dX4_leafOf_29 ?_
          refine g_aload_n C (i := 0) dX4_leafOf_30 rfl rfl ?_
          refine x_get_X4_18 C dX4_leafOf_31 ?_
          refine x_alen C (k := 12) (v := 2073) (by decide) rfl dX4_leafOf_34 ?_
          refine g_icmp_lt C 40 dX4_leafOf_35 rfl (fun c10 => ?_) (fun c10 => ?_)
          · replace h := h.1 c10
            refine g_aload_n C (i := 0) dX4_leafOf_40 rfl rfl ?_
            refine x_get_X4_18 C dX4_leafOf_41 ?_
            refine g_aload_n C (i := 0) dX4_leafOf_44 rfl rfl ?_
            refine x_get_X4_21 C dX4_leafOf_45 ?_
            refine g_iload_n C (i := 1) dX4_leafOf_48 rfl rfl ?_
            refine x_iald C (k := 13) (by decide) h9 dX4_leafOf_49 ?_
            refine g_iload_n C (i := 2) dX4_leafOf_50 rfl rfl ?_
            refine g_iadd C dX4_leafOf_51 ?_
            obtain ⟨h11, h⟩ := h
            refine x_iald C (k := 12) (by decide) h11 dX4_leafOf_52 ?_
            refine g_iconst_3 C dX4_leafOf_53 ?_
            refine g_iload_n C (i := 3) dX4_leafOf_54 rfl rfl ?_
            refine g_imul C dX4_leafOf_55 ?_
            refine g_ishr C dX4_leafOf_56 ?_
            refine g_bipush C (v := 7) dX4_leafOf_57 (by decide) ?_
            refine g_iand C dX4_leafOf_59 ?_
            exact g_ret_i C dX4_leafOf_60 (Nat.le_refl _) (Nat.le_refl _) ⟨_, _, _, _, rfl, rfl, h⟩
          · replace h := h.2 c10
            refine g_iconst_m1 C dX4_leafOf_38 ?_
            exact g_ret_i C dX4_leafOf_39 (Nat.le_refl _) (Nat.le_refl _) ⟨_, _, _, _, rfl, rfl, h⟩
theorem wX4_k_leafOf {D : gD} {ca : Nat → ClassId} {o : Nat → Nat} {L : List Nat} {S : gS} (v1 : Int32) (v2 : Int32) (v3 : Int32) (I : gI) (J : gJ) (R : gR) (L0 : List Nat) (S0 : gS) (Q : Int32 → gI → gJ → gR → Prop) (h : wX4_leafOf v1 v2 v3 I J R L S Q) : Ct yX4_leafOf cX4_leafOf 4 (some .int) (rl 16) D (tyW ca) 0 0 [.ref (o 4), .int v1, .int v2, .int v3] (cX ca o I J R L S) (PXi ca o L S Q) := ct_of (rm := (rl 16)) (by decide +kernel) (Nat.le_of_ble_eq_true rfl) (fun Γ C => wX4_leafOf_g v1 v2 v3 C h)
theorem sX11_320 : gSite RX11 yX4_leafOf cX4_leafOf 4 (some .int) 320 3 := gSite.of (tb_in (List.mem_of_getElem? (i := 1069) (by decide +kernel)) (by decide +kernel)) (tb_in (List.mem_of_getElem? (i := 1070) (by decide +kernel)) (by decide +kernel)) (tb_in (List.mem_of_getElem? (i := 1071) (by decide +kernel)) (by decide +kernel)) (tb_in (List.mem_of_getElem? (i := 85) (by decide +kernel)) (by decide +kernel)) (tb_in (List.mem_of_getElem? (i := 1072) (by decide +kernel)) (by decide +kernel)) (by decide +kernel)
set_option maxRecDepth 100000 in
theorem wX11_order_gc50 {Γ : gT} {D : gD} {ca : Nat → ClassId} {o : Nat → Nat} {Q : Int32 → gI → gJ → gR → Prop} {L : List Nat} {S : gS} (C : Cx Γ cX11_order RX11 4 D (tyW ca) (rl 17) (some .int) 0 0 (PXi ca o L S Q)) (I : gI) (J : gJ) (R : gR) (h : wX11_order_c50 L S I J R Q) : G Γ 0 0 50 [(0, .ref (o 0))] [] (cX ca o I J R L S) := by
  unfold wX11_order_c50 at h
  refine g_aload_n C (i := 0) dX11_order_50 rfl rfl ?_
  refine g_bipush C (v := (-5)) dX11_order_51 (by decide) ?_
  refine x_callV C (wX11_k_refuse (-5) I J R L S _ h) sX11_73 rcv_main (rl_ok (by decide) (by decide)) rfl (Nat.le_of_ble_eq_true rfl) (st := []) _ rfl dX11_order_53 (px_i (fun r1 I2 J3 R4 h => ?_))
  exact g_ret_i C dX11_order_56 (Nat.le_refl _) (Nat.le_refl _) ⟨_, _, _, _, rfl, rfl, h⟩
set_option maxRecDepth 100000 in
theorem wX11_order_gc26 {Γ : gT} {D : gD} {ca : Nat → ClassId} {o : Nat → Nat} {Q : Int32 → gI → gJ → gR → Prop} {L : List Nat} {S : gS} (C : Cx Γ cX11_order RX11 4 D (tyW ca) (rl 17) (some .int) 0 0 (PXi ca o L S Q)) (I : gI) (J : gJ) (R : gR) (h : wX11_order_c26 L S I J R Q) : G Γ 0 0 26 [(0, .ref (o 0))] [] (cX ca o I J R L S) := by
  unfold wX11_order_c26 at h
  refine g_aload_n C (i := 0) dX11_order_26 rfl rfl ?_
  refine g_bipush C (v := (-6)) dX11_order_27 (by decide) ?_
  refine x_callV C (wX11_k_refuse (-6) I J R L S _ h) sX11_73 rcv_main (rl_ok (by decide) (by decide)) rfl (Nat.le_of_ble_eq_true rfl) (st := []) _ rfl dX11_order_29 (px_i (fun r1 I2 J3 R4 h => ?_))
  exact g_ret_i C dX11_order_32 (Nat.le_refl _) (Nat.le_refl _) ⟨_, _, _, _, rfl, rfl, h⟩
set_option maxRecDepth 100000 in
theorem wX11_order_gc8 {Γ : gT} {D : gD} {ca : Nat → ClassId} {o : Nat → Nat} {Q : Int32 → gI → gJ → gR → Prop} {L : List Nat} {S : gS} (C : Cx Γ cX11_order RX11 4 D (tyW ca) (rl 17) (some .int) 0 0 (PXi ca o L S Q)) (I : gI) (J : gJ) (R : gR) (h : wX11_order_c8 L S I J R Q) : G Γ 0 0 8 [(0, .ref (o 0))] [] (cX ca o I J R L S) := by
  unfold wX11_order_c8 at h
  refine g_aload_n C (i := 0) dX11_order_8 rfl rfl ?_
  refine g_bipush C (v := (-5)) dX11_order_9 (by decide) ?_
  refine x_callV C (wX11_k_refuse (-5) I J R L S _ h) sX11_73 rcv_main (rl_ok (by decide) (by decide)) rfl (Nat.le_of_ble_eq_true rfl) (st := []) _ rfl dX11_order_11 (px_i (fun r1 I2 J3 R4 h => ?_))
  exact g_ret_i C dX11_order_14 (Nat.le_refl _) (Nat.le_refl _) ⟨_, _, _, _, rfl, rfl, h⟩
set_option maxRecDepth 100000 in
theorem wX11_order_g {Γ : gT} {D : gD} {ca : Nat → ClassId} {o : Nat → Nat} {I : gI} {J : gJ} {R : gR} {L : List Nat} {S : gS} {Q : Int32 → gI → gJ → gR → Prop} (v1 : Int32) (v2 : Int32) (v3 : Int32) (C : Cx Γ cX11_order RX11 4 D (tyW ca) (rl 17) (some .int) 0 0 (PXi ca o L S Q)) (h : wX11_order v1 v2 v3 I J R L S Q) : G Γ 0 0 0 [(0, .ref (o 0)), (1, .int v1), (2, .int v2), (3, .int v3)] [] (cX ca o I J R L S) := by
  unfold wX11_order at h
  refine g_iload_n C (i := 2) dX11_order_0 rfl rfl ?_
  refine g_if_lt C 8 dX11_order_1 rfl (fun c1 => ?_) (fun c1 => ?_)
  · replace h := h.1 c1
    exact g_weak [0] rfl (Nat.le_refl _) (Nat.le_refl _) (wX11_order_gc8  C   I J R h)
  · replace h := h.2 c1
    refine g_iload_n C (i := 3) dX11_order_4 rfl rfl ?_
    refine g_if_ge C 15 dX11_order_5 rfl (fun c2 => ?_) (fun c2 => ?_)
    · replace h := h.1 c2
      refine g_iload_n C (i := 1) dX11_order_15 rfl rfl ?_
      refine g_iconst_1 C dX11_order_16 ?_
      refine g_icmp_lt C 26 dX11_order_17 rfl (fun c3 => ?_) (fun c3 => ?_)
      · replace h := h.1 c3
        exact g_weak [0] rfl (Nat.le_refl _) (Nat.le_refl _) (wX11_order_gc26  C   I J R h)
      · replace h := h.2 c3
        refine g_iload_n C (i := 1) dX11_order_20 rfl rfl ?_
        refine g_bipush C (v := 8) dX11_order_21 (by decide) ?_
        refine g_icmp_le C 33 dX11_order_23 rfl (fun c4 => ?_) (fun c4 => ?_)
        · replace h := h.1 c4
          refine g_iload_n C (i := 3) dX11_order_33 rfl rfl ?_
          refine g_iload_n C (i := 1) dX11_order_34 rfl rfl ?_
          refine g_icmp_ge C 50 dX11_order_35 rfl (fun c5 => ?_) (fun c5 => ?_)
          · replace h := h.1 c5
            exact g_weak [0] rfl (Nat.le_refl _) (Nat.le_refl _) (wX11_order_gc50  C   I J R h)
          · replace h := h.2 c5
            refine g_iload_n C (i := 2) dX11_order_38 rfl rfl ?_
            refine g_aload_n C (i := 0) dX11_order_39 rfl rfl ?_
            refine x_get_X11_64 C dX11_order_40 ?_
            refine g_iload_n C (i := 1) dX11_order_43 rfl rfl ?_
            refine x_callV C (wX4_k_howMany v1 I J R L S _ h) sX11_317 rcv_leaves (rl_ok (by decide) (by decide)) rfl (Nat.le_of_ble_eq_true rfl) (st := [.int v2]) _ rfl dX11_order_44 (px_i (fun r6 I7 J8 R9 h => ?_))
            refine g_icmp_lt C 57 dX11_order_47 rfl (fun c10 => ?_) (fun c10 => ?_)
            · replace h := h.1 c10
              refine g_aload_n C (i := 0) dX11_order_57 rfl rfl ?_
              refine x_get_X11_64 C dX11_order_58 ?_
              refine g_iload_n C (i := 1) dX11_order_61 rfl rfl ?_
              refine g_iload_n C (i := 2) dX11_order_62 rfl rfl ?_
              refine g_iload_n C (i := 3) dX11_order_63 rfl rfl ?_
              refine x_callV C (wX4_k_leafOf v1 v2 v3 I7 J8 R9 L S _ h) sX11_320 rcv_leaves (rl_ok (by decide) (by decide)) rfl (Nat.le_of_ble_eq_true rfl) (st := []) _ rfl dX11_order_64 (px_i (fun r11 I12 J13 R14 h => ?_))
              exact g_ret_i C dX11_order_67 (Nat.le_refl _) (Nat.le_refl _) ⟨_, _, _, _, rfl, rfl, h⟩
            · replace h := h.2 c10
              exact g_weak [0] rfl (Nat.le_refl _) (Nat.le_refl _) (wX11_order_gc50  C   I7 J8 R9 h)
        · replace h := h.2 c4
          exact g_weak [0] rfl (Nat.le_refl _) (Nat.le_refl _) (wX11_order_gc26  C   I J R h)
    · replace h := h.2 c2
      exact g_weak [0] rfl (Nat.le_refl _) (Nat.le_refl _) (wX11_order_gc8  C   I J R h)
theorem wX11_k_order {D : gD} {ca : Nat → ClassId} {o : Nat → Nat} {L : List Nat} {S : gS} (v1 : Int32) (v2 : Int32) (v3 : Int32) (I : gI) (J : gJ) (R : gR) (L0 : List Nat) (S0 : gS) (Q : Int32 → gI → gJ → gR → Prop) (h : wX11_order v1 v2 v3 I J R L S Q) : Ct yX11_order cX11_order 4 (some .int) (rl 17) D (tyW ca) 0 0 [.ref (o 0), .int v1, .int v2, .int v3] (cX ca o I J R L S) (PXi ca o L S Q) := ct_of (rm := (rl 17)) (by decide +kernel) (Nat.le_of_ble_eq_true rfl) (fun Γ C => wX11_order_g v1 v2 v3 C h)

