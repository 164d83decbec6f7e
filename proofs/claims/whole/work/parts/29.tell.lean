theorem sX6_46 : gSite RX6 yX6_lessItem cX6_lessItem 3 (some .boolean) 46 0 := gSite.of (tb_in (List.mem_of_getElem? (i := 729) (by decide +kernel)) (by decide +kernel)) (tb_in (List.mem_of_getElem? (i := 731) (by decide +kernel)) (by decide +kernel)) (tb_in (List.mem_of_getElem? (i := 16) (by decide +kernel)) (by decide +kernel)) (tb_in (List.mem_of_getElem? (i := 83) (by decide +kernel)) (by decide +kernel)) (tb_in (List.mem_of_getElem? (i := 732) (by decide +kernel)) (by decide +kernel)) (by decide +kernel)
theorem sX6_43 : gSite RX6 yX6_turnItem cX6_turnItem 3 (some .boolean) 43 0 := gSite.of (tb_in (List.mem_of_getElem? (i := 720) (by decide +kernel)) (by decide +kernel)) (tb_in (List.mem_of_getElem? (i := 722) (by decide +kernel)) (by decide +kernel)) (tb_in (List.mem_of_getElem? (i := 14) (by decide +kernel)) (by decide +kernel)) (tb_in (List.mem_of_getElem? (i := 83) (by decide +kernel)) (by decide +kernel)) (tb_in (List.mem_of_getElem? (i := 723) (by decide +kernel)) (by decide +kernel)) (by decide +kernel)
theorem sX6_39 : gSite RX6 yX6_stripItem cX6_stripItem 4 (some .boolean) 39 0 := gSite.of (tb_in (List.mem_of_getElem? (i := 648) (by decide +kernel)) (by decide +kernel)) (tb_in (List.mem_of_getElem? (i := 650) (by decide +kernel)) (by decide +kernel)) (tb_in (List.mem_of_getElem? (i := 9) (by decide +kernel)) (by decide +kernel)) (tb_in (List.mem_of_getElem? (i := 83) (by decide +kernel)) (by decide +kernel)) (tb_in (List.mem_of_getElem? (i := 651) (by decide +kernel)) (by decide +kernel)) (by decide +kernel)
set_option maxRecDepth 100000 in
theorem wX6_tell_gc83 {Γ : gT} {D : gD} {ca : Nat → ClassId} {o : Nat → Nat} {Q : Int32 → gI → gJ → gR → List Nat → gS → Prop} {n1 : Nat} (hn1 : n1 < 8) (C : Cx Γ cX6_tell RX6 5 D (tyW ca) (rla 8 161 966) (some .int) 161 966 (PAi ca o Q)) (c0 s0 : Nat) (hc0 : c0 + 1 ≤ 161) (hs0 : s0 + 6 ≤ 966) {B9 : Int32 → Int32 → gI → gJ → gR → List Nat → gS → Prop} (hB9 : ∀ (v2 : Int32) (v3 : Int32) (I : gI) (J : gJ) (R : gR) (L : List Nat) (S : gS), B9 v2 v3 I J R L S → G Γ (c0 + 1) (s0 + 6) 9 [(0, .ref (o 3)), (1, .ref (o (20 + n1))), (2, .int v2), (3, .int v3)] [] (cX ca o I J R L S)) (v2 : Int32) (v3 : Int32) (I : gI) (J : gJ) (R : gR) (L : List Nat) (S : gS) (h : wX6_tell_c83 n1 B9 v2 v3 I J R L S Q) : G Γ (c0 + 1) (s0 + 6) 83 [(0, .ref (o 3)), (1, .ref (o (20 + n1))), (2, .int v2), (3, .int v3)] [] (cX ca o I J R L S) := by
  unfold wX6_tell_c83 at h
  refine g_iload_n C (i := 3) dX6_tell_83 rfl rfl ?_
  refine g_if_eq C 111 dX6_tell_84 rfl (fun c1 => ?_) (fun c1 => ?_)
  · replace h := h.1 c1
    refine g_iconst_0 C dX6_tell_111 ?_
    refine g_istore_n C (i := 3) [(0, .ref (o 3)), (1, .ref (o (20 + n1))), (2, .int v2), (3, .int 0)] dX6_tell_112 rfl (by decide) rfl ?_
    refine g_goto C 9 dX6_tell_113 rfl ?_
    exact g_weak [0, 1, 2, 3] rfl (by omega) (by omega) (hB9 v2 0 I J R L S h)
  · replace h := h.2 c1
    refine g_aload_n C (i := 0) dX6_tell_87 rfl rfl ?_
    refine x_get_X6_28 C dX6_tell_88 ?_
    refine g_aload_n C (i := 1) dX6_tell_91 rfl rfl ?_
    refine x_get_X6_53 C (s := n1) hn1 dX6_tell_92 ?_
    refine g_icmp_ge C 111 dX6_tell_95 rfl (fun c2 => ?_) (fun c2 => ?_)
    · replace h := h.1 c2
      refine g_iconst_0 C dX6_tell_111 ?_
      refine g_istore_n C (i := 3) [(0, .ref (o 3)), (1, .ref (o (20 + n1))), (2, .int v2), (3, .int 0)] dX6_tell_112 rfl (by decide) rfl ?_
      refine g_goto C 9 dX6_tell_113 rfl ?_
      exact g_weak [0, 1, 2, 3] rfl (by omega) (by omega) (hB9 v2 0 I J R L S h)
    · replace h := h.2 c2
      refine g_aload_n C (i := 0) dX6_tell_98 rfl rfl ?_
      refine x_text C (i := 4) (by decide) rfl dX6_tell_99 ?_
      refine x_callV C (wX6_k_letters (by decide) I J R L S _ h) sX6_60 rcv_reader (rl_in_rla (by decide) (by decide) (by omega) (by omega)) rfl (Nat.le_of_ble_eq_true rfl) (st := []) _ rfl dX6_tell_101 (px_z (fun r3 I4 J5 R6 h => ?_))
      refine g_zeq C 111 dX6_tell_104 rfl (fun c7 => ?_) (fun c7 => ?_)
      · replace h := h.1 c7
        refine g_iconst_0 C dX6_tell_111 ?_
        refine g_istore_n C (i := 3) [(0, .ref (o 3)), (1, .ref (o (20 + n1))), (2, .int v2), (3, .int 0)] dX6_tell_112 rfl (by decide) rfl ?_
        refine g_goto C 9 dX6_tell_113 rfl ?_
        exact g_weak [0, 1, 2, 3] rfl (by omega) (by omega) (hB9 v2 0 I4 J5 R6 L S h)
      · replace h := h.2 c7
        refine g_iconst_1 C dX6_tell_107 ?_
        refine g_goto C 112 dX6_tell_108 rfl ?_
        refine g_istore_n C (i := 3) [(0, .ref (o 3)), (1, .ref (o (20 + n1))), (2, .int v2), (3, .int 1)] dX6_tell_112 rfl (by decide) rfl ?_
        refine g_goto C 9 dX6_tell_113 rfl ?_
        exact g_weak [0, 1, 2, 3] rfl (by omega) (by omega) (hB9 v2 1 I4 J5 R6 L S h)
set_option maxRecDepth 100000 in
theorem wX6_tell_gb9 {Γ : gT} {D : gD} {ca : Nat → ClassId} {o : Nat → Nat} {Q : Int32 → gI → gJ → gR → List Nat → gS → Prop} {n1 : Nat} (hn1 : n1 < 8) (C : Cx Γ cX6_tell RX6 5 D (tyW ca) (rla 8 161 966) (some .int) 161 966 (PAi ca o Q)) (c0 s0 : Nat) (hc0 : c0 + 1 ≤ 161) (hs0 : s0 + 6 ≤ 966) {B9 : Int32 → Int32 → gI → gJ → gR → List Nat → gS → Prop} (hB9 : ∀ (v2 : Int32) (v3 : Int32) (I : gI) (J : gJ) (R : gR) (L : List Nat) (S : gS), B9 v2 v3 I J R L S → G Γ (c0 + 1) (s0 + 6) 9 [(0, .ref (o 3)), (1, .ref (o (20 + n1))), (2, .int v2), (3, .int v3)] [] (cX ca o I J R L S)) (v2 : Int32) (v3 : Int32) (I : gI) (J : gJ) (R : gR) (L : List Nat) (S : gS) (h : wX6_tell_b9 n1 B9 v2 v3 I J R L S Q) : G Γ c0 s0 9 [(0, .ref (o 3)), (1, .ref (o (20 + n1))), (2, .int v2), (3, .int v3)] [] (cX ca o I J R L S) := by
  unfold wX6_tell_b9 at h
  refine g_iload_n C (i := 3) dX6_tell_9 rfl rfl ?_
  refine g_if_eq C 116 dX6_tell_10 rfl (fun c1 => ?_) (fun c1 => ?_)
  · replace h := h.1 c1
    refine g_iload_n C (i := 2) dX6_tell_116 rfl rfl ?_
    exact g_ret_i C dX6_tell_117 (by omega) (by omega) ⟨_, _, _, _, _, _, rfl, rfl, h⟩
  · replace h := h.2 c1
    refine g_iload_n C (i := 2) dX6_tell_13 rfl rfl ?_
    refine g_sipush C (v := 160) dX6_tell_14 (by decide) ?_
    refine g_icmp_ge C 116 dX6_tell_17 rfl (fun c2 => ?_) (fun c2 => ?_)
    · replace h := h.1 c2
      refine g_iload_n C (i := 2) dX6_tell_116 rfl rfl ?_
      exact g_ret_i C dX6_tell_117 (by omega) (by omega) ⟨_, _, _, _, _, _, rfl, rfl, h⟩
    · replace h := h.2 c2
      refine g_iinc C 1 [(0, .ref (o 3)), (1, .ref (o (20 + n1))), (2, .int (v2 + 1)), (3, .int v3)] dX6_tell_20 rfl (by decide) (by decide) rfl ?_
      refine g_aload_n C (i := 0) dX6_tell_23 rfl rfl ?_
      refine x_callV C (wX6_k_here I J R L S _ h) sX6_35 rcv_reader (rl_in_rla (by decide) (by decide) (by omega) (by omega)) rfl (Nat.le_of_ble_eq_true rfl) (st := []) _ rfl dX6_tell_24 (py_i (fun r3 h => ?_))
      refine g_istore C (i := 4) [(0, .ref (o 3)), (1, .ref (o (20 + n1))), (2, .int (v2 + 1)), (3, .int v3), (4, .int r3)] dX6_tell_27 (by decide) rfl ?_
      refine g_iload C (i := 4) dX6_tell_29 rfl ?_
      refine g_bipush C (v := 115) dX6_tell_31 (by decide) ?_
      refine g_icmp_ne C 44 dX6_tell_33 rfl (fun c4 => ?_) (fun c4 => ?_)
      · replace h := h.1 c4
        refine g_iload C (i := 4) dX6_tell_44 rfl ?_
        refine g_bipush C (v := 116) dX6_tell_46 (by decide) ?_
        refine g_icmp_ne C 59 dX6_tell_48 rfl (fun c5 => ?_) (fun c5 => ?_)
        · replace h := h.1 c5
          refine g_iload C (i := 4) dX6_tell_59 rfl ?_
          refine g_bipush C (v := 108) dX6_tell_61 (by decide) ?_
          refine g_icmp_ne C 74 dX6_tell_63 rfl (fun c6 => ?_) (fun c6 => ?_)
          · replace h := h.1 c6
            refine g_aload_n C (i := 0) dX6_tell_74 rfl rfl ?_
            refine g_aload_n C (i := 0) dX6_tell_75 rfl rfl ?_
            refine x_get_X6_28 C dX6_tell_76 ?_
            refine x_callV C (wX6_k_fail (I 0 7) I J R L S _ h) sX6_49 rcv_reader (rl_in_rla (by decide) (by decide) (by omega) (by omega)) rfl (Nat.le_of_ble_eq_true rfl) (st := []) _ rfl dX6_tell_79 (px_z (fun r7 I8 J9 R10 h => ?_))
            refine g_istore_n C (i := 3) [(0, .ref (o 3)), (1, .ref (o (20 + n1))), (2, .int (v2 + 1)), (3, .int (bI r7)), (4, .int r3)] dX6_tell_82 rfl (by decide) rfl ?_
            exact g_weak [0, 1, 2, 3] rfl (by omega) (by omega) (wX6_tell_gc83 hn1 C c0 s0 hc0 hs0 hB9 (v2 + 1) (bI r7) I8 J9 R10 L S h)
          · replace h := h.2 c6
            refine g_aload_n C (i := 0) dX6_tell_66 rfl rfl ?_
            refine x_callV C (wX6_k_lessItem I J R L S _ h) sX6_46 rcv_reader (rla_ok (by decide) (by decide) (by omega) (by omega)) rfl (Nat.le_of_ble_eq_true rfl) (st := []) _ rfl dX6_tell_67 (pa_z (fun r11 I12 J13 R14 L15 S16 h => ?_))
            refine g_istore_n C (i := 3) [(0, .ref (o 3)), (1, .ref (o (20 + n1))), (2, .int (v2 + 1)), (3, .int (bI r11)), (4, .int r3)] dX6_tell_70 rfl (by decide) rfl ?_
            refine g_goto C 83 dX6_tell_71 rfl ?_
            exact g_weak [0, 1, 2, 3] rfl (by omega) (by omega) (wX6_tell_gc83 hn1 C c0 s0 hc0 hs0 hB9 (v2 + 1) (bI r11) I12 J13 R14 L15 S16 h)
        · replace h := h.2 c5
          refine g_aload_n C (i := 0) dX6_tell_51 rfl rfl ?_
          refine x_callV C (wX6_k_turnItem I J R L S _ h) sX6_43 rcv_reader (rla_ok (by decide) (by decide) (by omega) (by omega)) rfl (Nat.le_of_ble_eq_true rfl) (st := []) _ rfl dX6_tell_52 (pa_z (fun r17 I18 J19 R20 L21 S22 h => ?_))
          refine g_istore_n C (i := 3) [(0, .ref (o 3)), (1, .ref (o (20 + n1))), (2, .int (v2 + 1)), (3, .int (bI r17)), (4, .int r3)] dX6_tell_55 rfl (by decide) rfl ?_
          refine g_goto C 83 dX6_tell_56 rfl ?_
          exact g_weak [0, 1, 2, 3] rfl (by omega) (by omega) (wX6_tell_gc83 hn1 C c0 s0 hc0 hs0 hB9 (v2 + 1) (bI r17) I18 J19 R20 L21 S22 h)
      · replace h := h.2 c4
        refine g_aload_n C (i := 0) dX6_tell_36 rfl rfl ?_
        refine x_callV C (wX6_k_stripItem I J R L S _ h) sX6_39 rcv_reader (rla_ok (by decide) (by decide) (by omega) (by omega)) rfl (Nat.le_of_ble_eq_true rfl) (st := []) _ rfl dX6_tell_37 (pa_z (fun r23 I24 J25 R26 L27 S28 h => ?_))
        refine g_istore_n C (i := 3) [(0, .ref (o 3)), (1, .ref (o (20 + n1))), (2, .int (v2 + 1)), (3, .int (bI r23)), (4, .int r3)] dX6_tell_40 rfl (by decide) rfl ?_
        refine g_goto C 83 dX6_tell_41 rfl ?_
        exact g_weak [0, 1, 2, 3] rfl (by omega) (by omega) (wX6_tell_gc83 hn1 C c0 s0 hc0 hs0 hB9 (v2 + 1) (bI r23) I24 J25 R26 L27 S28 h)
theorem wX6_tell_gl9 {Γ : gT} {D : gD} {ca : Nat → ClassId} {o : Nat → Nat} {Q : Int32 → gI → gJ → gR → List Nat → gS → Prop} {n1 : Nat} (hn1 : n1 < 8) (C : Cx Γ cX6_tell RX6 5 D (tyW ca) (rla 8 161 966) (some .int) 161 966 (PAi ca o Q)) : ∀ (n : Nat) (_ : n ≤ 161) (v2 : Int32) (v3 : Int32) (I : gI) (J : gJ) (R : gR) (L : List Nat) (S : gS) (_ : wX6_tell_l9 n1 Q n v2 v3 I J R L S), G Γ (161 - n) (6 * (161 - n)) 9 [(0, .ref (o 3)), (1, .ref (o (20 + n1))), (2, .int v2), (3, .int v3)] [] (cX ca o I J R L S) := by
  intro n
  induction n with
  | zero => intro hn v2 v3 I J R L S h; exact h.elim
  | succ n ih =>
    intro hn v2 v3 I J R L S h
    have e1 : 161 - (n + 1) + 1 = 161 - n := by omega
    have e2 : 6 * (161 - (n + 1)) + 6 = 6 * (161 - n) := by omega
    exact wX6_tell_gb9 hn1 C (161 - (n + 1)) (6 * (161 - (n + 1))) (by omega) (by omega) (by rw [e1, e2]; exact ih (by omega)) v2 v3 I J R L S h
set_option maxRecDepth 100000 in
theorem wX6_tell_g {Γ : gT} {D : gD} {ca : Nat → ClassId} {o : Nat → Nat} {I : gI} {J : gJ} {R : gR} {L : List Nat} {S : gS} {Q : Int32 → gI → gJ → gR → List Nat → gS → Prop} {n1 : Nat} (hn1 : n1 < 8) (C : Cx Γ cX6_tell RX6 5 D (tyW ca) (rla 8 161 966) (some .int) 161 966 (PAi ca o Q)) (h : wX6_tell n1 I J R L S Q) : G Γ 0 0 0 [(0, .ref (o 3)), (1, .ref (o (20 + n1)))] [] (cX ca o I J R L S) := by
  unfold wX6_tell at h
  refine g_aload_n C (i := 0) dX6_tell_0 rfl rfl ?_
  refine g_aload_n C (i := 1) dX6_tell_1 rfl rfl ?_
  refine x_put_X6_31 C (v := (some n1)) dX6_tell_2 ?_
  refine x_nmR _ (fun R1 e2 => ?_)
  replace h := h R1 e2
  refine g_iconst_0 C dX6_tell_5 ?_
  refine g_istore_n C (i := 2) [(0, .ref (o 3)), (1, .ref (o (20 + n1))), (2, .int 0)] dX6_tell_6 rfl (by decide) rfl ?_
  refine g_iconst_1 C dX6_tell_7 ?_
  refine g_istore_n C (i := 3) [(0, .ref (o 3)), (1, .ref (o (20 + n1))), (2, .int 0), (3, .int 1)] dX6_tell_8 rfl (by decide) rfl ?_
  obtain ⟨n, hn, h⟩ := h
  exact g_weak [0, 1, 2, 3] rfl (Nat.zero_le _) (Nat.zero_le _) (wX6_tell_gl9 hn1 C n hn 0 1 I J R1 L S h)
theorem wX6_k_tell {D : gD} {ca : Nat → ClassId} {o : Nat → Nat} {L : List Nat} {S : gS} {n1 : Nat} (hn1 : n1 < 8) (I : gI) (J : gJ) (R : gR) (L0 : List Nat) (S0 : gS) (Q : Int32 → gI → gJ → gR → List Nat → gS → Prop) (h : wX6_tell n1 I J R L S Q) : Ct yX6_tell cX6_tell 5 (some .int) (rla 8 161 966) D (tyW ca) 161 966 [.ref (o 3), .ref (o (20 + n1))] (cX ca o I J R L S) (PAi ca o Q) := ct_of (rm := (rla 8 161 966)) (by decide +kernel) (Nat.le_of_ble_eq_true rfl) (fun Γ C => wX6_tell_g hn1 C h)
theorem sX11_186 : gSite RX11 yX6_beginWith cX6_beginWith 3 none 186 2 := gSite.of (tb_in (List.mem_of_getElem? (i := 631) (by decide +kernel)) (by decide +kernel)) (tb_in (List.mem_of_getElem? (i := 632) (by decide +kernel)) (by decide +kernel)) (tb_in (List.mem_of_getElem? (i := 633) (by decide +kernel)) (by decide +kernel)) (tb_in (List.mem_of_getElem? (i := 83) (by decide +kernel)) (by decide +kernel)) (tb_in (List.mem_of_getElem? (i := 634) (by decide +kernel)) (by decide +kernel)) (by decide +kernel)
theorem sX11_190 : gSite RX11 yX6_tell cX6_tell 5 (some .int) 190 1 := gSite.of (tb_in (List.mem_of_getElem? (i := 638) (by decide +kernel)) (by decide +kernel)) (tb_in (List.mem_of_getElem? (i := 639) (by decide +kernel)) (by decide +kernel)) (tb_in (List.mem_of_getElem? (i := 640) (by decide +kernel)) (by decide +kernel)) (tb_in (List.mem_of_getElem? (i := 83) (by decide +kernel)) (by decide +kernel)) (tb_in (List.mem_of_getElem? (i := 641) (by decide +kernel)) (by decide +kernel)) (by decide +kernel)
set_option maxRecDepth 100000 in
theorem wX11_read_g {Γ : gT} {D : gD} {ca : Nat → ClassId} {o : Nat → Nat} {I : gI} {J : gJ} {R : gR} {L : List Nat} {S : gS} {Q : Int32 → gI → gJ → gR → List Nat → gS → Prop} (v1 : Int32) (C : Cx Γ cX11_read RX11 4 D (tyW ca) (rla 9 161 966) (some .int) 161 966 (PAi ca o Q)) (h : wX11_read v1 I J R L S Q) : G Γ 0 0 0 [(0, .ref (o 0)), (1, .int v1)] [] (cX ca o I J R L S) := by
  unfold wX11_read at h
  refine g_aload_n C (i := 0) dX11_read_0 rfl rfl ?_
  refine g_iload_n C (i := 1) dX11_read_1 rfl rfl ?_
  refine x_callV C (wX11_k_noRow v1 I J R L S _ h) sX11_81 rcv_main (rl_in_rla (by decide) (by decide) (by decide) (by decide)) rfl (Nat.le_of_ble_eq_true rfl) (st := []) _ rfl dX11_read_2 (py_i (fun r1 h => ?_))
  refine g_istore_n C (i := 2) [(0, .ref (o 0)), (1, .int v1), (2, .int r1)] dX11_read_5 rfl (by decide) rfl ?_
  refine g_iload_n C (i := 2) dX11_read_6 rfl rfl ?_
  refine g_if_eq C 16 dX11_read_7 rfl (fun c2 => ?_) (fun c2 => ?_)
  · replace h := h.1 c2
    refine g_aload_n C (i := 0) dX11_read_16 rfl rfl ?_
    refine x_get_X11_45 C dX11_read_17 ?_
    refine g_aload_n C (i := 0) dX11_read_20 rfl rfl ?_
    refine x_get_X11_11 C dX11_read_21 ?_
    refine g_aload_n C (i := 0) dX11_read_24 rfl rfl ?_
    refine x_get_X11_164 C dX11_read_25 ?_
    refine x_callV C (wX6_k_beginWith (by decide) (I 0 0) I J R L S _ h) sX11_186 rcv_reader (rl_in_rla (by decide) (by decide) (by decide) (by decide)) rfl (Nat.le_of_ble_eq_true rfl) (st := []) _ rfl dX11_read_28 (px_v (fun I4 J5 R6 h => ?_))
    refine g_aload_n C (i := 0) dX11_read_31 rfl rfl ?_
    refine x_get_X11_45 C dX11_read_32 ?_
    refine g_aload_n C (i := 0) dX11_read_35 rfl rfl ?_
    refine x_get_X11_24 C dX11_read_36 ?_
    refine g_iload_n C (i := 1) dX11_read_39 rfl rfl ?_
    obtain ⟨h7, h⟩ := h
    refine x_shelf C h7 dX11_read_40 ?_
    refine x_callV C (wX6_k_tell (vp_lt h7) I4 J5 R6 L S _ h) sX11_190 rcv_reader (rla_ok (by decide) (by decide) (by decide) (by decide)) rfl (Nat.le_of_ble_eq_true rfl) (st := []) _ rfl dX11_read_41 (pa_i (fun r8 I9 J10 R11 L12 S13 h => ?_))
    refine g_istore_n C (i := 3) [(0, .ref (o 0)), (1, .int v1), (2, .int r1), (3, .int r8)] dX11_read_44 rfl (by decide) rfl ?_
    refine g_aload_n C (i := 0) dX11_read_45 rfl rfl ?_
    refine g_aload_n C (i := 0) dX11_read_46 rfl rfl ?_
    refine x_get_X11_45 C dX11_read_47 ?_
    refine x_get_X11_194 C dX11_read_50 ?_
    refine x_put_X11_32 C dX11_read_53 ?_
    refine x_nmI _ (fun I14 e15 => ?_)
    replace h := h I14 e15
    refine g_aload_n C (i := 0) dX11_read_56 rfl rfl ?_
    refine x_get_X11_32 C dX11_read_57 ?_
    refine g_iconst_m1 C dX11_read_60 ?_
    refine g_icmp_eq C 71 dX11_read_61 rfl (fun c16 => ?_) (fun c16 => ?_)
    · replace h := h.1 c16
      refine g_aload_n C (i := 0) dX11_read_71 rfl rfl ?_
      refine x_get_X11_45 C dX11_read_72 ?_
      refine x_get_X11_195 C dX11_read_75 ?_
      refine g_aload_n C (i := 0) dX11_read_78 rfl rfl ?_
      refine x_get_X11_11 C dX11_read_79 ?_
      refine x_callS C (wX11_k_copyStrips (by decide) (by decide) I14 J10 R11 L12 S13 _ h) sX11_196 (rl_in_rla (by decide) (by decide) (by decide) (by decide)) rfl (Nat.le_of_ble_eq_true rfl) (st := []) _ rfl dX11_read_82 (px_v (fun I18 J19 R20 h => ?_))
      refine g_aload_n C (i := 0) dX11_read_85 rfl rfl ?_
      refine g_aload_n C (i := 0) dX11_read_86 rfl rfl ?_
      refine x_get_X11_45 C dX11_read_87 ?_
      refine x_get_X11_200 C dX11_read_90 ?_
      refine x_put_X11_164 C dX11_read_93 ?_
      refine x_nmI _ (fun I21 e22 => ?_)
      replace h := h I21 e22
      refine g_iload_n C (i := 3) dX11_read_96 rfl rfl ?_
      exact g_ret_i C dX11_read_97 (by decide) (by decide) ⟨_, _, _, _, _, _, rfl, rfl, h⟩
    · replace h := h.2 c16
      refine g_aload_n C (i := 0) dX11_read_64 rfl rfl ?_
      refine g_bipush C (v := (-6)) dX11_read_65 (by decide) ?_
      refine x_callV C (wX11_k_refuse (-6) I14 J10 R11 L12 S13 _ h) sX11_73 rcv_main (rl_in_rla (by decide) (by decide) (by decide) (by decide)) rfl (Nat.le_of_ble_eq_true rfl) (st := []) _ rfl dX11_read_67 (px_i (fun r23 I24 J25 R26 h => ?_))
      exact g_ret_i C dX11_read_70 (by decide) (by decide) ⟨_, _, _, _, _, _, rfl, rfl, h⟩
  · replace h := h.2 c2
    refine g_aload_n C (i := 0) dX11_read_10 rfl rfl ?_
    refine g_iload_n C (i := 2) dX11_read_11 rfl rfl ?_
    refine x_callV C (wX11_k_refuse r1 I J R L S _ h) sX11_73 rcv_main (rl_in_rla (by decide) (by decide) (by decide) (by decide)) rfl (Nat.le_of_ble_eq_true rfl) (st := []) _ rfl dX11_read_12 (px_i (fun r27 I28 J29 R30 h => ?_))
    exact g_ret_i C dX11_read_15 (by decide) (by decide) ⟨_, _, _, _, _, _, rfl, rfl, h⟩
theorem wX11_k_read {D : gD} {ca : Nat → ClassId} {o : Nat → Nat} {L : List Nat} {S : gS} (v1 : Int32) (I : gI) (J : gJ) (R : gR) (L0 : List Nat) (S0 : gS) (Q : Int32 → gI → gJ → gR → List Nat → gS → Prop) (h : wX11_read v1 I J R L S Q) : Ct yX11_read cX11_read 4 (some .int) (rla 9 161 966) D (tyW ca) 161 966 [.ref (o 0), .int v1] (cX ca o I J R L S) (PAi ca o Q) := ct_of (rm := (rla 9 161 966)) (by decide +kernel) (Nat.le_of_ble_eq_true rfl) (fun Γ C => wX11_read_g v1 C h)
