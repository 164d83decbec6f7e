set_option maxRecDepth 100000 in
theorem wM_no_g {Γ : gT} {D : gD} {ca : Nat → ClassId} {o : Nat → Nat} {Q : Int32 → gI → gJ → Prop} (v1 : Int32) (I : gI) (J : gJ) (C : Cx Γ cX12_no RX12 2 D (tyW ca) (rl 0) (some .int) 0 0 (PMi ca o Q)) (h : wM_no v1 I J Q) : G Γ 0 0 0 [(0, .ref (o 0)), (1, .int v1)] [] (cM ca o I J) := by
  unfold wM_no at h
  refine g_aload_n C (i := 0) dX12_no_0 rfl rfl ?_
  refine m_get_refused C dX12_no_1 ?_
  refine g_iload_n C (i := 1) dX12_no_4 rfl rfl ?_
  refine g_ineg C dX12_no_5 ?_
  refine g_dup2 C dX12_no_6 rfl rfl ?_
  obtain ⟨h1, h⟩ := h
  refine m_iald C (k := 1) (by decide) h1 dX12_no_7 ?_
  refine g_iconst_1 C dX12_no_8 ?_
  refine g_iadd C dX12_no_9 ?_
  refine m_iast C (k := 1) (by decide) h1 dX12_no_10 ?_
  refine m_nmI _ (fun I2 e3 => ?_)
  replace h := h I2 e3
  refine g_iload_n C (i := 1) dX12_no_11 rfl rfl ?_
  exact g_ret_i C dX12_no_12 (Nat.le_refl _) (Nat.le_refl _) ⟨_, _, _, rfl, rfl, h⟩
theorem wM_k_no {D : gD} {ca : Nat → ClassId} {o : Nat → Nat} (v1 : Int32) (I : gI) (J : gJ) (Q : Int32 → gI → gJ → Prop) (h : wM_no v1 I J Q) : Ct yX12_no cX12_no 2 (some .int) (rl 0) D (tyW ca) 0 0 [.ref (o 0), .int v1] (cM ca o I J) (PMi ca o Q) := ct_of (rm := rl 0) (by decide +kernel) (Nat.le_of_ble_eq_true rfl) (fun Γ C => wM_no_g v1 I J C h)
set_option maxRecDepth 100000 in
theorem wM_noTen_g {Γ : gT} {D : gD} {ca : Nat → ClassId} {o : Nat → Nat} {Q : Int32 → gI → gJ → Prop} (v1 : Int32) (I : gI) (J : gJ) (C : Cx Γ cX12_noTen RX12 2 D (tyW ca) (rl 0) (some .int) 0 0 (PMi ca o Q)) (h : wM_noTen v1 I J Q) : G Γ 0 0 0 [(0, .ref (o 0)), (1, .int v1)] [] (cM ca o I J) := by
  unfold wM_noTen at h
  refine g_aload_n C (i := 0) dX12_noTen_0 rfl rfl ?_
  refine m_get_refused C dX12_noTen_1 ?_
  refine g_iload_n C (i := 1) dX12_noTen_4 rfl rfl ?_
  refine g_ineg C dX12_noTen_5 ?_
  refine g_dup2 C dX12_noTen_6 rfl rfl ?_
  obtain ⟨h1, h⟩ := h
  refine m_iald C (k := 1) (by decide) h1 dX12_noTen_7 ?_
  refine g_iconst_1 C dX12_noTen_8 ?_
  refine g_iadd C dX12_noTen_9 ?_
  refine m_iast C (k := 1) (by decide) h1 dX12_noTen_10 ?_
  refine m_nmI _ (fun I2 e3 => ?_)
  replace h := h I2 e3
  refine g_iload_n C (i := 1) dX12_noTen_11 rfl rfl ?_
  refine g_bipush C (v := 10) dX12_noTen_12 (by decide) ?_
  refine g_isub C dX12_noTen_14 ?_
  exact g_ret_i C dX12_noTen_15 (Nat.le_refl _) (Nat.le_refl _) ⟨_, _, _, rfl, rfl, h⟩
theorem wM_k_noTen {D : gD} {ca : Nat → ClassId} {o : Nat → Nat} (v1 : Int32) (I : gI) (J : gJ) (Q : Int32 → gI → gJ → Prop) (h : wM_noTen v1 I J Q) : Ct yX12_noTen cX12_noTen 2 (some .int) (rl 0) D (tyW ca) 0 0 [.ref (o 0), .int v1] (cM ca o I J) (PMi ca o Q) := ct_of (rm := rl 0) (by decide +kernel) (Nat.le_of_ble_eq_true rfl) (fun Γ C => wM_noTen_g v1 I J C h)
set_option maxRecDepth 100000 in
theorem wM_isShelf_g {Γ : gT} {D : gD} {ca : Nat → ClassId} {o : Nat → Nat} {Q : Bool → Prop} (v1 : Int32) (I : gI) (J : gJ) (C : Cx Γ cX12_isShelf RX12 2 D (tyW ca) (rl 0) (some .boolean) 0 0 (PPz ca o I J Q)) (h : wM_isShelf v1 I J Q) : G Γ 0 0 0 [(0, .ref (o 0)), (1, .int v1)] [] (cM ca o I J) := by
  unfold wM_isShelf at h
  refine g_iload_n C (i := 1) dX12_isShelf_0 rfl rfl ?_
  refine g_if_lt C 14 dX12_isShelf_1 rfl (fun c1 => ?_) (fun c1 => ?_)
  · replace h := h.1 c1
    refine g_iconst_0 C dX12_isShelf_14 ?_
    exact g_ret_z C false rfl dX12_isShelf_15 (Nat.le_refl _) (Nat.le_refl _) ⟨_, rfl, rfl, h⟩
  · replace h := h.2 c1
    refine g_iload_n C (i := 1) dX12_isShelf_4 rfl rfl ?_
    refine g_bipush C (v := 8) dX12_isShelf_5 (by decide) ?_
    refine g_icmp_ge C 14 dX12_isShelf_7 rfl (fun c2 => ?_) (fun c2 => ?_)
    · replace h := h.1 c2
      refine g_iconst_0 C dX12_isShelf_14 ?_
      exact g_ret_z C false rfl dX12_isShelf_15 (Nat.le_refl _) (Nat.le_refl _) ⟨_, rfl, rfl, h⟩
    · replace h := h.2 c2
      refine g_iconst_1 C dX12_isShelf_10 ?_
      refine g_goto C 15 dX12_isShelf_11 rfl ?_
      exact g_ret_z C true rfl dX12_isShelf_15 (Nat.le_refl _) (Nat.le_refl _) ⟨_, rfl, rfl, h⟩
theorem wM_k_isShelf {D : gD} {ca : Nat → ClassId} {o : Nat → Nat} (v1 : Int32) (I : gI) (J : gJ) (Q : Bool → Prop) (h : wM_isShelf v1 I J Q) : Ct yX12_isShelf cX12_isShelf 2 (some .boolean) (rl 0) D (tyW ca) 0 0 [.ref (o 0), .int v1] (cM ca o I J) (PPz ca o I J Q) := ct_of (rm := rl 0) (by decide +kernel) (Nat.le_of_ble_eq_true rfl) (fun Γ C => wM_isShelf_g v1 I J C h)
set_option maxRecDepth 100000 in
theorem wM_isStrip_g {Γ : gT} {D : gD} {ca : Nat → ClassId} {o : Nat → Nat} {Q : Bool → Prop} (v1 : Int32) (I : gI) (J : gJ) (C : Cx Γ cX12_isStrip RX12 2 D (tyW ca) (rl 0) (some .boolean) 0 0 (PPz ca o I J Q)) (h : wM_isStrip v1 I J Q) : G Γ 0 0 0 [(0, .ref (o 0)), (1, .int v1)] [] (cM ca o I J) := by
  unfold wM_isStrip at h
  refine g_iload_n C (i := 1) dX12_isStrip_0 rfl rfl ?_
  refine g_if_lt C 16 dX12_isStrip_1 rfl (fun c1 => ?_) (fun c1 => ?_)
  · replace h := h.1 c1
    refine g_iconst_0 C dX12_isStrip_16 ?_
    exact g_ret_z C false rfl dX12_isStrip_17 (Nat.le_refl _) (Nat.le_refl _) ⟨_, rfl, rfl, h⟩
  · replace h := h.2 c1
    refine g_iload_n C (i := 1) dX12_isStrip_4 rfl rfl ?_
    refine g_aload_n C (i := 0) dX12_isStrip_5 rfl rfl ?_
    refine m_get_strips C dX12_isStrip_6 ?_
    refine g_icmp_ge C 16 dX12_isStrip_9 rfl (fun c2 => ?_) (fun c2 => ?_)
    · replace h := h.1 c2
      refine g_iconst_0 C dX12_isStrip_16 ?_
      exact g_ret_z C false rfl dX12_isStrip_17 (Nat.le_refl _) (Nat.le_refl _) ⟨_, rfl, rfl, h⟩
    · replace h := h.2 c2
      refine g_iconst_1 C dX12_isStrip_12 ?_
      refine g_goto C 17 dX12_isStrip_13 rfl ?_
      exact g_ret_z C true rfl dX12_isStrip_17 (Nat.le_refl _) (Nat.le_refl _) ⟨_, rfl, rfl, h⟩
theorem wM_k_isStrip {D : gD} {ca : Nat → ClassId} {o : Nat → Nat} (v1 : Int32) (I : gI) (J : gJ) (Q : Bool → Prop) (h : wM_isStrip v1 I J Q) : Ct yX12_isStrip cX12_isStrip 2 (some .boolean) (rl 0) D (tyW ca) 0 0 [.ref (o 0), .int v1] (cM ca o I J) (PPz ca o I J Q) := ct_of (rm := rl 0) (by decide +kernel) (Nat.le_of_ble_eq_true rfl) (fun Γ C => wM_isStrip_g v1 I J C h)
set_option maxRecDepth 100000 in
theorem wM_intAt_g {Γ : gT} {D : gD} {ca : Nat → ClassId} {o : Nat → Nat} {Q : Int32 → Prop} (v1 : Int32) (v2 : Int32) (I : gI) (J : gJ) (C : Cx Γ cX12_intAt RX12 3 D (tyW ca) (rl 0) (some .int) 0 0 (PPi ca o I J Q)) (h : wM_intAt v1 v2 I J Q) : G Γ 0 0 0 [(0, .ref (o 0)), (1, .int v1), (2, .int v2)] [] (cM ca o I J) := by
  unfold wM_intAt at h
  refine g_aload_n C (i := 0) dX12_intAt_0 rfl rfl ?_
  refine m_get_cells C dX12_intAt_1 ?_
  refine g_sipush C (v := 160) dX12_intAt_4 (by decide) ?_
  refine g_iload_n C (i := 1) dX12_intAt_7 rfl rfl ?_
  refine g_imul C dX12_intAt_8 ?_
  refine g_iload_n C (i := 2) dX12_intAt_9 rfl rfl ?_
  refine g_iadd C dX12_intAt_10 ?_
  obtain ⟨h1, h⟩ := h
  refine m_lald C (k := 2) (by decide) h1 dX12_intAt_11 ?_
  refine g_l2i C dX12_intAt_12 ?_
  exact g_ret_i C dX12_intAt_13 (Nat.le_refl _) (Nat.le_refl _) ⟨_, rfl, rfl, h⟩
theorem wM_k_intAt {D : gD} {ca : Nat → ClassId} {o : Nat → Nat} (v1 : Int32) (v2 : Int32) (I : gI) (J : gJ) (Q : Int32 → Prop) (h : wM_intAt v1 v2 I J Q) : Ct yX12_intAt cX12_intAt 3 (some .int) (rl 0) D (tyW ca) 0 0 [.ref (o 0), .int v1, .int v2] (cM ca o I J) (PPi ca o I J Q) := ct_of (rm := rl 0) (by decide +kernel) (Nat.le_of_ble_eq_true rfl) (fun Γ C => wM_intAt_g v1 v2 I J C h)
set_option maxRecDepth 100000 in
theorem wM_adds_g {Γ : gT} {D : gD} {ca : Nat → ClassId} {o : Nat → Nat} {Q : Int32 → gI → gJ → Prop} (v1 : Int32) (v2 : Int32) (v3 : Int32) (v4 : Int64) (I : gI) (J : gJ) (C : Cx Γ cX12_adds RX12 6 D (tyW ca) (rl 0) (some .int) 0 0 (PMi ca o Q)) (h : wM_adds v1 v2 v3 v4 I J Q) : G Γ 0 0 0 [(0, .ref (o 0)), (1, .int v1), (2, .int v2), (3, .int v3), (4, .long v4)] [] (cM ca o I J) := by
  unfold wM_adds at h
  refine g_aload_n C (i := 0) dX12_adds_0 rfl rfl ?_
  refine m_get_kind C dX12_adds_1 ?_
  refine g_aload_n C (i := 0) dX12_adds_4 rfl rfl ?_
  refine m_get_strips C dX12_adds_5 ?_
  refine g_iload_n C (i := 1) dX12_adds_8 rfl rfl ?_
  obtain ⟨h1, h⟩ := h
  refine m_iast C (k := 2) (by decide) h1 dX12_adds_9 ?_
  refine m_nmI _ (fun I2 e3 => ?_)
  replace h := h I2 e3
  refine g_aload_n C (i := 0) dX12_adds_10 rfl rfl ?_
  refine m_get_part C dX12_adds_11 ?_
  refine g_aload_n C (i := 0) dX12_adds_14 rfl rfl ?_
  refine m_get_strips C dX12_adds_15 ?_
  refine g_iload_n C (i := 2) dX12_adds_18 rfl rfl ?_
  obtain ⟨h4, h⟩ := h
  refine m_iast C (k := 3) (by decide) h4 dX12_adds_19 ?_
  refine m_nmI _ (fun I5 e6 => ?_)
  replace h := h I5 e6
  refine g_aload_n C (i := 0) dX12_adds_20 rfl rfl ?_
  refine m_get_folds C dX12_adds_21 ?_
  refine g_aload_n C (i := 0) dX12_adds_24 rfl rfl ?_
  refine m_get_strips C dX12_adds_25 ?_
  refine g_iload_n C (i := 3) dX12_adds_28 rfl rfl ?_
  obtain ⟨h7, h⟩ := h
  refine m_iast C (k := 4) (by decide) h7 dX12_adds_29 ?_
  refine m_nmI _ (fun I8 e9 => ?_)
  replace h := h I8 e9
  refine g_aload_n C (i := 0) dX12_adds_30 rfl rfl ?_
  refine m_get_word C dX12_adds_31 ?_
  refine g_aload_n C (i := 0) dX12_adds_34 rfl rfl ?_
  refine m_get_strips C dX12_adds_35 ?_
  refine g_lload C (i := 4) dX12_adds_38 rfl ?_
  obtain ⟨h10, h⟩ := h
  refine m_last C (k := 1) (by decide) h10 dX12_adds_40 ?_
  refine m_nmJ _ (fun J11 e12 => ?_)
  replace h := h J11 e12
  refine g_aload_n C (i := 0) dX12_adds_41 rfl rfl ?_
  refine g_dup C dX12_adds_42 rfl ?_
  refine m_get_strips C dX12_adds_43 ?_
  refine g_dup_x1 C dX12_adds_46 rfl rfl ?_
  refine g_iconst_1 C dX12_adds_47 ?_
  refine g_iadd C dX12_adds_48 ?_
  refine m_put_strips C dX12_adds_49 ?_
  refine m_nmI _ (fun I13 e14 => ?_)
  replace h := h I13 e14
  exact g_ret_i C dX12_adds_52 (Nat.le_refl _) (Nat.le_refl _) ⟨_, _, _, rfl, rfl, h⟩
theorem wM_k_adds {D : gD} {ca : Nat → ClassId} {o : Nat → Nat} (v1 : Int32) (v2 : Int32) (v3 : Int32) (v4 : Int64) (I : gI) (J : gJ) (Q : Int32 → gI → gJ → Prop) (h : wM_adds v1 v2 v3 v4 I J Q) : Ct yX12_adds cX12_adds 6 (some .int) (rl 0) D (tyW ca) 0 0 [.ref (o 0), .int v1, .int v2, .int v3, .long v4] (cM ca o I J) (PMi ca o Q) := ct_of (rm := rl 0) (by decide +kernel) (Nat.le_of_ble_eq_true rfl) (fun Γ C => wM_adds_g v1 v2 v3 v4 I J C h)
set_option maxRecDepth 100000 in
theorem wM_letter_g {Γ : gT} {D : gD} {ca : Nat → ClassId} {o : Nat → Nat} {Q : Int32 → Prop} (v1 : Int32) (v2 : Int32) (I : gI) (J : gJ) (C : Cx Γ cX12_letter RX12 3 D (tyW ca) (rl 0) (some .int) 0 0 (PPi ca o I J Q)) (h : wM_letter v1 v2 I J Q) : G Γ 0 0 0 [(0, .ref (o 0)), (1, .int v1), (2, .int v2)] [] (cM ca o I J) := by
  unfold wM_letter at h
  refine g_aload_n C (i := 0) dX12_letter_0 rfl rfl ?_
  refine m_get_word C dX12_letter_1 ?_
  refine g_iload_n C (i := 1) dX12_letter_4 rfl rfl ?_
  obtain ⟨h1, h⟩ := h
  refine m_lald C (k := 1) (by decide) h1 dX12_letter_5 ?_
  refine g_iload_n C (i := 2) dX12_letter_6 rfl rfl ?_
  refine g_lshr C dX12_letter_7 ?_
  refine g_lconst_1 C dX12_letter_8 ?_
  refine g_land C dX12_letter_9 ?_
  refine g_l2i C dX12_letter_10 ?_
  exact g_ret_i C dX12_letter_11 (Nat.le_refl _) (Nat.le_refl _) ⟨_, rfl, rfl, h⟩
theorem wM_k_letter {D : gD} {ca : Nat → ClassId} {o : Nat → Nat} (v1 : Int32) (v2 : Int32) (I : gI) (J : gJ) (Q : Int32 → Prop) (h : wM_letter v1 v2 I J Q) : Ct yX12_letter cX12_letter 3 (some .int) (rl 0) D (tyW ca) 0 0 [.ref (o 0), .int v1, .int v2] (cM ca o I J) (PPi ca o I J Q) := ct_of (rm := rl 0) (by decide +kernel) (Nat.le_of_ble_eq_true rfl) (fun Γ C => wM_letter_g v1 v2 I J C h)
set_option maxRecDepth 100000 in
theorem wM_isWrong_g {Γ : gT} {D : gD} {ca : Nat → ClassId} {o : Nat → Nat} {Q : Bool → gI → gJ → Prop} (v1 : Int32) (I : gI) (J : gJ) (C : Cx Γ cX12_isWrong RX12 2 D (tyW ca) (rl 0) (some .boolean) 0 0 (PMz ca o Q)) (h : wM_isWrong v1 I J Q) : G Γ 0 0 0 [(0, .ref (o 0)), (1, .int v1)] [] (cM ca o I J) := by
  unfold wM_isWrong at h
  refine g_aload_n C (i := 0) dX12_isWrong_0 rfl rfl ?_
  refine g_iload_n C (i := 1) dX12_isWrong_1 rfl rfl ?_
  refine m_put_wrongAt C dX12_isWrong_2 ?_
  refine m_nmI _ (fun I1 e2 => ?_)
  replace h := h I1 e2
  refine g_iconst_0 C dX12_isWrong_5 ?_
  exact g_ret_z C false rfl dX12_isWrong_6 (Nat.le_refl _) (Nat.le_refl _) ⟨_, _, _, rfl, rfl, h⟩
theorem wM_k_isWrong {D : gD} {ca : Nat → ClassId} {o : Nat → Nat} (v1 : Int32) (I : gI) (J : gJ) (Q : Bool → gI → gJ → Prop) (h : wM_isWrong v1 I J Q) : Ct yX12_isWrong cX12_isWrong 2 (some .boolean) (rl 0) D (tyW ca) 0 0 [.ref (o 0), .int v1] (cM ca o I J) (PMz ca o Q) := ct_of (rm := rl 0) (by decide +kernel) (Nat.le_of_ble_eq_true rfl) (fun Γ C => wM_isWrong_g v1 I J C h)
set_option maxRecDepth 100000 in
theorem wM_wordOf_gb105 {Γ : gT} {D : gD} {ca : Nat → ClassId} {o : Nat → Nat} {Q : Int32 → gI → gJ → Prop} (C : Cx Γ cX12_wordOf RX12 6 D (tyW ca) (rl 0) (some .int) 0 0 (PMi ca o Q)) {B9 : Int32 → Int32 → Int32 → gI → gJ → Prop} (hB9 : ∀ (v1 : Int32) (v2 : Int32) (v3 : Int32) (I : gI) (J : gJ), B9 v1 v2 v3 I J → G Γ 0 0 9 [(0, .ref (o 0)), (1, .int v1), (2, .int v2), (3, .int v3)] [] (cM ca o I J)) {B105 : Int32 → Int32 → Int32 → gI → gJ → Prop} (hB105 : ∀ (v1 : Int32) (v2 : Int32) (v3 : Int32) (I : gI) (J : gJ), B105 v1 v2 v3 I J → G Γ 0 0 105 [(0, .ref (o 0)), (1, .int v1), (2, .int v2), (3, .int v3)] [] (cM ca o I J)) (v1 : Int32) (v2 : Int32) (v3 : Int32) (I : gI) (J : gJ) (h : wM_wordOf_b105 B9 B105 v1 v2 v3 I J Q) : G Γ 0 0 105 [(0, .ref (o 0)), (1, .int v1), (2, .int v2), (3, .int v3)] [] (cM ca o I J) := by
  unfold wM_wordOf_b105 at h
  refine g_aload_n C (i := 0) dX12_wordOf_105 rfl rfl ?_
  refine m_get_words C dX12_wordOf_106 ?_
  refine g_iload_n C (i := 1) dX12_wordOf_109 rfl rfl ?_
  obtain ⟨h1, h⟩ := h
  refine m_iald C (k := 9) (by decide) h1 dX12_wordOf_110 ?_
  refine g_if_eq C 120 dX12_wordOf_111 rfl (fun c2 => ?_) (fun c2 => ?_)
  · replace h := h.1 c2
    refine g_iinc C 1 [(0, .ref (o 0)), (1, .int (v1 + 1)), (2, .int v2), (3, .int v3)] dX12_wordOf_120 rfl (by decide) (by decide) rfl ?_
    refine g_iinc C 1 [(0, .ref (o 0)), (1, .int (v1 + 1)), (2, .int v2), (3, .int (v3 + 1))] dX12_wordOf_123 rfl (by decide) (by decide) rfl ?_
    refine g_goto C 9 dX12_wordOf_126 rfl ?_
    exact g_weak [0, 1, 2, 3] rfl (Nat.le_refl _) (Nat.le_refl _) (hB9 (v1 + 1) v2 (v3 + 1) I J h)
  · replace h := h.2 c2
    refine g_iinc C 1 [(0, .ref (o 0)), (1, .int (v1 + 1)), (2, .int v2), (3, .int v3)] dX12_wordOf_114 rfl (by decide) (by decide) rfl ?_
    refine g_goto C 105 dX12_wordOf_117 rfl ?_
    exact g_weak [0, 1, 2, 3] rfl (Nat.le_refl _) (Nat.le_refl _) (hB105 (v1 + 1) v2 v3 I J h)
theorem wM_wordOf_gl105 {Γ : gT} {D : gD} {ca : Nat → ClassId} {o : Nat → Nat} {Q : Int32 → gI → gJ → Prop} (C : Cx Γ cX12_wordOf RX12 6 D (tyW ca) (rl 0) (some .int) 0 0 (PMi ca o Q)) {B9 : Int32 → Int32 → Int32 → gI → gJ → Prop} (hB9 : ∀ (v1 : Int32) (v2 : Int32) (v3 : Int32) (I : gI) (J : gJ), B9 v1 v2 v3 I J → G Γ 0 0 9 [(0, .ref (o 0)), (1, .int v1), (2, .int v2), (3, .int v3)] [] (cM ca o I J)) : ∀ (n : Nat) (v1 : Int32) (v2 : Int32) (v3 : Int32) (I : gI) (J : gJ) (_ : wM_wordOf_l105 B9 Q n v1 v2 v3 I J), G Γ 0 0 105 [(0, .ref (o 0)), (1, .int v1), (2, .int v2), (3, .int v3)] [] (cM ca o I J) := by
  intro n
  induction n with
  | zero => intro v1 v2 v3 I J h; exact h.elim
  | succ n ih => intro v1 v2 v3 I J h; exact wM_wordOf_gb105 C hB9 ih v1 v2 v3 I J h
set_option maxRecDepth 100000 in
theorem wM_wordOf_gc74 {Γ : gT} {D : gD} {ca : Nat → ClassId} {o : Nat → Nat} {Q : Int32 → gI → gJ → Prop} (C : Cx Γ cX12_wordOf RX12 6 D (tyW ca) (rl 0) (some .int) 0 0 (PMi ca o Q)) {B9 : Int32 → Int32 → Int32 → gI → gJ → Prop} (hB9 : ∀ (v1 : Int32) (v2 : Int32) (v3 : Int32) (I : gI) (J : gJ), B9 v1 v2 v3 I J → G Γ 0 0 9 [(0, .ref (o 0)), (1, .int v1), (2, .int v2), (3, .int v3)] [] (cM ca o I J)) (v1 : Int32) (v2 : Int32) (v3 : Int32) (v4 : Int32) (v5 : Int32) (I : gI) (J : gJ) (h : wM_wordOf_c74 B9 v1 v2 v3 v4 v5 I J Q) : G Γ 0 0 74 [(0, .ref (o 0)), (1, .int v1), (2, .int v2), (3, .int v3), (4, .int v4), (5, .int v5)] [] (cM ca o I J) := by
  unfold wM_wordOf_c74 at h
  refine g_aload_n C (i := 0) dX12_wordOf_74 rfl rfl ?_
  refine m_get_words C dX12_wordOf_75 ?_
  refine g_iload C (i := 5) dX12_wordOf_78 rfl ?_
  obtain ⟨h1, h⟩ := h
  refine m_iald C (k := 9) (by decide) h1 dX12_wordOf_80 ?_
  refine g_if_ne C 92 dX12_wordOf_81 rfl (fun c2 => ?_) (fun c2 => ?_)
  · replace h := h.1 c2
    refine g_iload C (i := 4) dX12_wordOf_92 rfl ?_
    refine g_iload_n C (i := 2) dX12_wordOf_94 rfl rfl ?_
    refine g_icmp_le C 103 dX12_wordOf_95 rfl (fun c3 => ?_) (fun c3 => ?_)
    · replace h := h.1 c3
      refine g_iload_n C (i := 2) dX12_wordOf_103 rfl rfl ?_
      refine g_istore_n C (i := 2) [(0, .ref (o 0)), (1, .int v1), (2, .int v2), (3, .int v3), (4, .int v4), (5, .int v5)] dX12_wordOf_104 rfl (by decide) rfl ?_
      obtain ⟨n, h⟩ := h
      exact g_weak [0, 1, 2, 3] rfl (Nat.le_refl _) (Nat.le_refl _) (wM_wordOf_gl105  C hB9 n v1 v2 v3 I J h)
    · replace h := h.2 c3
      refine g_iload C (i := 4) dX12_wordOf_98 rfl ?_
      refine g_goto C 104 dX12_wordOf_100 rfl ?_
      refine g_istore_n C (i := 2) [(0, .ref (o 0)), (1, .int v1), (2, .int v4), (3, .int v3), (4, .int v4), (5, .int v5)] dX12_wordOf_104 rfl (by decide) rfl ?_
      obtain ⟨n, h⟩ := h
      exact g_weak [0, 1, 2, 3] rfl (Nat.le_refl _) (Nat.le_refl _) (wM_wordOf_gl105  C hB9 n v1 v4 v3 I J h)
  · replace h := h.2 c2
    refine g_aload_n C (i := 0) dX12_wordOf_84 rfl rfl ?_
    refine g_iload C (i := 4) dX12_wordOf_85 rfl ?_
    refine m_put_place C dX12_wordOf_87 ?_
    refine m_nmI _ (fun I4 e5 => ?_)
    replace h := h I4 e5
    refine g_iload_n C (i := 3) dX12_wordOf_90 rfl rfl ?_
    exact g_ret_i C dX12_wordOf_91 (Nat.le_refl _) (Nat.le_refl _) ⟨_, _, _, rfl, rfl, h⟩
set_option maxRecDepth 100000 in
theorem wM_wordOf_gb23 {Γ : gT} {D : gD} {ca : Nat → ClassId} {o : Nat → Nat} {Q : Int32 → gI → gJ → Prop} (C : Cx Γ cX12_wordOf RX12 6 D (tyW ca) (rl 0) (some .int) 0 0 (PMi ca o Q)) {B9 : Int32 → Int32 → Int32 → gI → gJ → Prop} (hB9 : ∀ (v1 : Int32) (v2 : Int32) (v3 : Int32) (I : gI) (J : gJ), B9 v1 v2 v3 I J → G Γ 0 0 9 [(0, .ref (o 0)), (1, .int v1), (2, .int v2), (3, .int v3)] [] (cM ca o I J)) {B23 : Int32 → Int32 → Int32 → Int32 → Int32 → gI → gJ → Prop} (hB23 : ∀ (v1 : Int32) (v2 : Int32) (v3 : Int32) (v4 : Int32) (v5 : Int32) (I : gI) (J : gJ), B23 v1 v2 v3 v4 v5 I J → G Γ 0 0 23 [(0, .ref (o 0)), (1, .int v1), (2, .int v2), (3, .int v3), (4, .int v4), (5, .int v5)] [] (cM ca o I J)) (v1 : Int32) (v2 : Int32) (v3 : Int32) (v4 : Int32) (v5 : Int32) (I : gI) (J : gJ) (h : wM_wordOf_b23 B9 B23 v1 v2 v3 v4 v5 I J Q) : G Γ 0 0 23 [(0, .ref (o 0)), (1, .int v1), (2, .int v2), (3, .int v3), (4, .int v4), (5, .int v5)] [] (cM ca o I J) := by
  unfold wM_wordOf_b23 at h
  refine g_aload_n C (i := 0) dX12_wordOf_23 rfl rfl ?_
  refine m_get_words C dX12_wordOf_24 ?_
  refine g_iload C (i := 5) dX12_wordOf_27 rfl ?_
  obtain ⟨h1, h⟩ := h
  refine m_iald C (k := 9) (by decide) h1 dX12_wordOf_29 ?_
  refine g_if_eq C 74 dX12_wordOf_30 rfl (fun c2 => ?_) (fun c2 => ?_)
  · replace h := h.1 c2
    exact g_weak [0, 1, 2, 3, 4, 5] rfl (Nat.le_refl _) (Nat.le_refl _) (wM_wordOf_gc74  C hB9 v1 v2 v3 v4 v5 I J h)
  · replace h := h.2 c2
    refine g_iload C (i := 4) dX12_wordOf_33 rfl ?_
    refine g_aload_n C (i := 0) dX12_wordOf_35 rfl rfl ?_
    refine m_get_end C dX12_wordOf_36 ?_
    refine g_icmp_ge C 74 dX12_wordOf_39 rfl (fun c3 => ?_) (fun c3 => ?_)
    · replace h := h.1 c3
      exact g_weak [0, 1, 2, 3, 4, 5] rfl (Nat.le_refl _) (Nat.le_refl _) (wM_wordOf_gc74  C hB9 v1 v2 v3 v4 v5 I J h)
    · replace h := h.2 c3
      refine g_aload_n C (i := 0) dX12_wordOf_42 rfl rfl ?_
      refine m_get_cells C dX12_wordOf_43 ?_
      refine g_aload_n C (i := 0) dX12_wordOf_46 rfl rfl ?_
      refine m_get_base C dX12_wordOf_47 ?_
      refine g_iload C (i := 4) dX12_wordOf_50 rfl ?_
      refine g_iadd C dX12_wordOf_52 ?_
      obtain ⟨h4, h⟩ := h
      refine m_lald C (k := 2) (by decide) h4 dX12_wordOf_53 ?_
      refine g_l2i C dX12_wordOf_54 ?_
      refine g_aload_n C (i := 0) dX12_wordOf_55 rfl rfl ?_
      refine m_get_words C dX12_wordOf_56 ?_
      refine g_iload C (i := 5) dX12_wordOf_59 rfl ?_
      refine m_iald C (k := 9) (by decide) h1 dX12_wordOf_61 ?_
      refine g_icmp_ne C 74 dX12_wordOf_62 rfl (fun c5 => ?_) (fun c5 => ?_)
      · replace h := h.1 c5
        exact g_weak [0, 1, 2, 3, 4, 5] rfl (Nat.le_refl _) (Nat.le_refl _) (wM_wordOf_gc74  C hB9 v1 v2 v3 v4 v5 I J h)
      · replace h := h.2 c5
        refine g_iinc C 1 [(0, .ref (o 0)), (1, .int v1), (2, .int v2), (3, .int v3), (4, .int (v4 + 1)), (5, .int v5)] dX12_wordOf_65 rfl (by decide) (by decide) rfl ?_
        refine g_iinc C 1 [(0, .ref (o 0)), (1, .int v1), (2, .int v2), (3, .int v3), (4, .int (v4 + 1)), (5, .int (v5 + 1))] dX12_wordOf_68 rfl (by decide) (by decide) rfl ?_
        refine g_goto C 23 dX12_wordOf_71 rfl ?_
        exact g_weak [0, 1, 2, 3, 4, 5] rfl (Nat.le_refl _) (Nat.le_refl _) (hB23 v1 v2 v3 (v4 + 1) (v5 + 1) I J h)
theorem wM_wordOf_gl23 {Γ : gT} {D : gD} {ca : Nat → ClassId} {o : Nat → Nat} {Q : Int32 → gI → gJ → Prop} (C : Cx Γ cX12_wordOf RX12 6 D (tyW ca) (rl 0) (some .int) 0 0 (PMi ca o Q)) {B9 : Int32 → Int32 → Int32 → gI → gJ → Prop} (hB9 : ∀ (v1 : Int32) (v2 : Int32) (v3 : Int32) (I : gI) (J : gJ), B9 v1 v2 v3 I J → G Γ 0 0 9 [(0, .ref (o 0)), (1, .int v1), (2, .int v2), (3, .int v3)] [] (cM ca o I J)) : ∀ (n : Nat) (v1 : Int32) (v2 : Int32) (v3 : Int32) (v4 : Int32) (v5 : Int32) (I : gI) (J : gJ) (_ : wM_wordOf_l23 B9 Q n v1 v2 v3 v4 v5 I J), G Γ 0 0 23 [(0, .ref (o 0)), (1, .int v1), (2, .int v2), (3, .int v3), (4, .int v4), (5, .int v5)] [] (cM ca o I J) := by
  intro n
  induction n with
  | zero => intro v1 v2 v3 v4 v5 I J h; exact h.elim
  | succ n ih => intro v1 v2 v3 v4 v5 I J h; exact wM_wordOf_gb23 C hB9 ih v1 v2 v3 v4 v5 I J h
set_option maxRecDepth 100000 in
theorem wM_wordOf_gb9 {Γ : gT} {D : gD} {ca : Nat → ClassId} {o : Nat → Nat} {Q : Int32 → gI → gJ → Prop} (C : Cx Γ cX12_wordOf RX12 6 D (tyW ca) (rl 0) (some .int) 0 0 (PMi ca o Q)) {B9 : Int32 → Int32 → Int32 → gI → gJ → Prop} (hB9 : ∀ (v1 : Int32) (v2 : Int32) (v3 : Int32) (I : gI) (J : gJ), B9 v1 v2 v3 I J → G Γ 0 0 9 [(0, .ref (o 0)), (1, .int v1), (2, .int v2), (3, .int v3)] [] (cM ca o I J)) (v1 : Int32) (v2 : Int32) (v3 : Int32) (I : gI) (J : gJ) (h : wM_wordOf_b9 B9 v1 v2 v3 I J Q) : G Γ 0 0 9 [(0, .ref (o 0)), (1, .int v1), (2, .int v2), (3, .int v3)] [] (cM ca o I J) := by
  unfold wM_wordOf_b9 at h
  refine g_iload_n C (i := 3) dX12_wordOf_9 rfl rfl ?_
  refine g_iconst_3 C dX12_wordOf_10 ?_
  refine g_icmp_ge C 129 dX12_wordOf_11 rfl (fun c1 => ?_) (fun c1 => ?_)
  · replace h := h.1 c1
    refine g_aload_n C (i := 0) dX12_wordOf_129 rfl rfl ?_
    refine g_iload_n C (i := 2) dX12_wordOf_130 rfl rfl ?_
    refine m_put_wrongAt C dX12_wordOf_131 ?_
    refine m_nmI _ (fun I2 e3 => ?_)
    replace h := h I2 e3
    refine g_iconst_m1 C dX12_wordOf_134 ?_
    exact g_ret_i C dX12_wordOf_135 (Nat.le_refl _) (Nat.le_refl _) ⟨_, _, _, rfl, rfl, h⟩
  · replace h := h.2 c1
    refine g_aload_n C (i := 0) dX12_wordOf_14 rfl rfl ?_
    refine m_get_place C dX12_wordOf_15 ?_
    refine g_istore C (i := 4) [(0, .ref (o 0)), (1, .int v1), (2, .int v2), (3, .int v3), (4, .int (I 0 3))] dX12_wordOf_18 (by decide) rfl ?_
    refine g_iload_n C (i := 1) dX12_wordOf_20 rfl rfl ?_
    refine g_istore C (i := 5) [(0, .ref (o 0)), (1, .int v1), (2, .int v2), (3, .int v3), (4, .int (I 0 3)), (5, .int v1)] dX12_wordOf_21 (by decide) rfl ?_
    obtain ⟨n, h⟩ := h
    exact g_weak [0, 1, 2, 3, 4, 5] rfl (Nat.le_refl _) (Nat.le_refl _) (wM_wordOf_gl23  C hB9 n v1 v2 v3 (I 0 3) v1 I J h)
theorem wM_wordOf_gl9 {Γ : gT} {D : gD} {ca : Nat → ClassId} {o : Nat → Nat} {Q : Int32 → gI → gJ → Prop} (C : Cx Γ cX12_wordOf RX12 6 D (tyW ca) (rl 0) (some .int) 0 0 (PMi ca o Q)) : ∀ (n : Nat) (v1 : Int32) (v2 : Int32) (v3 : Int32) (I : gI) (J : gJ) (_ : wM_wordOf_l9 Q n v1 v2 v3 I J), G Γ 0 0 9 [(0, .ref (o 0)), (1, .int v1), (2, .int v2), (3, .int v3)] [] (cM ca o I J) := by
  intro n
  induction n with
  | zero => intro v1 v2 v3 I J h; exact h.elim
  | succ n ih => intro v1 v2 v3 I J h; exact wM_wordOf_gb9 C ih v1 v2 v3 I J h
set_option maxRecDepth 100000 in
theorem wM_wordOf_g {Γ : gT} {D : gD} {ca : Nat → ClassId} {o : Nat → Nat} {Q : Int32 → gI → gJ → Prop} (I : gI) (J : gJ) (C : Cx Γ cX12_wordOf RX12 6 D (tyW ca) (rl 0) (some .int) 0 0 (PMi ca o Q)) (h : wM_wordOf I J Q) : G Γ 0 0 0 [(0, .ref (o 0))] [] (cM ca o I J) := by
  unfold wM_wordOf at h
  refine g_iconst_0 C dX12_wordOf_0 ?_
  refine g_istore_n C (i := 1) [(0, .ref (o 0)), (1, .int 0)] dX12_wordOf_1 rfl (by decide) rfl ?_
  refine g_aload_n C (i := 0) dX12_wordOf_2 rfl rfl ?_
  refine m_get_place C dX12_wordOf_3 ?_
  refine g_istore_n C (i := 2) [(0, .ref (o 0)), (1, .int 0), (2, .int (I 0 3))] dX12_wordOf_6 rfl (by decide) rfl ?_
  refine g_iconst_0 C dX12_wordOf_7 ?_
  refine g_istore_n C (i := 3) [(0, .ref (o 0)), (1, .int 0), (2, .int (I 0 3)), (3, .int 0)] dX12_wordOf_8 rfl (by decide) rfl ?_
  obtain ⟨n, h⟩ := h
  exact g_weak [0, 1, 2, 3] rfl (Nat.le_refl _) (Nat.le_refl _) (wM_wordOf_gl9  C  n 0 (I 0 3) 0 I J h)
theorem wM_k_wordOf {D : gD} {ca : Nat → ClassId} {o : Nat → Nat} (I : gI) (J : gJ) (Q : Int32 → gI → gJ → Prop) (h : wM_wordOf I J Q) : Ct yX12_wordOf cX12_wordOf 6 (some .int) (rl 0) D (tyW ca) 0 0 [.ref (o 0)] (cM ca o I J) (PMi ca o Q) := ct_of (rm := rl 0) (by decide +kernel) (Nat.le_of_ble_eq_true rfl) (fun Γ C => wM_wordOf_g I J C h)
set_option maxRecDepth 100000 in
theorem wM_isDigit_g {Γ : gT} {D : gD} {ca : Nat → ClassId} {o : Nat → Nat} {Q : Bool → Prop} (I : gI) (J : gJ) (C : Cx Γ cX12_isDigit RX12 1 D (tyW ca) (rl 0) (some .boolean) 0 0 (PPz ca o I J Q)) (h : wM_isDigit I J Q) : G Γ 0 0 0 [(0, .ref (o 0))] [] (cM ca o I J) := by
  unfold wM_isDigit at h
  refine g_aload_n C (i := 0) dX12_isDigit_0 rfl rfl ?_
  refine m_get_place C dX12_isDigit_1 ?_
  refine g_aload_n C (i := 0) dX12_isDigit_4 rfl rfl ?_
  refine m_get_end C dX12_isDigit_5 ?_
  refine g_icmp_ge C 55 dX12_isDigit_8 rfl (fun c1 => ?_) (fun c1 => ?_)
  · replace h := h.1 c1
    refine g_iconst_0 C dX12_isDigit_55 ?_
    exact g_ret_z C false rfl dX12_isDigit_56 (Nat.le_refl _) (Nat.le_refl _) ⟨_, rfl, rfl, h⟩
  · replace h := h.2 c1
    refine g_aload_n C (i := 0) dX12_isDigit_11 rfl rfl ?_
    refine m_get_cells C dX12_isDigit_12 ?_
    refine g_aload_n C (i := 0) dX12_isDigit_15 rfl rfl ?_
    refine m_get_base C dX12_isDigit_16 ?_
    refine g_aload_n C (i := 0) dX12_isDigit_19 rfl rfl ?_
    refine m_get_place C dX12_isDigit_20 ?_
    refine g_iadd C dX12_isDigit_23 ?_
    obtain ⟨h2, h⟩ := h
    refine m_lald C (k := 2) (by decide) h2 dX12_isDigit_24 ?_
    refine g_l2i C dX12_isDigit_25 ?_
    refine g_bipush C (v := 48) dX12_isDigit_26 (by decide) ?_
    refine g_icmp_lt C 55 dX12_isDigit_28 rfl (fun c3 => ?_) (fun c3 => ?_)
    · replace h := h.1 c3
      refine g_iconst_0 C dX12_isDigit_55 ?_
      exact g_ret_z C false rfl dX12_isDigit_56 (Nat.le_refl _) (Nat.le_refl _) ⟨_, rfl, rfl, h⟩
    · replace h := h.2 c3
      refine g_aload_n C (i := 0) dX12_isDigit_31 rfl rfl ?_
      refine m_get_cells C dX12_isDigit_32 ?_
      refine g_aload_n C (i := 0) dX12_isDigit_35 rfl rfl ?_
      refine m_get_base C dX12_isDigit_36 ?_
      refine g_aload_n C (i := 0) dX12_isDigit_39 rfl rfl ?_
      refine m_get_place C dX12_isDigit_40 ?_
      refine g_iadd C dX12_isDigit_43 ?_
      refine m_lald C (k := 2) (by decide) h2 dX12_isDigit_44 ?_
      refine g_l2i C dX12_isDigit_45 ?_
      refine g_bipush C (v := 57) dX12_isDigit_46 (by decide) ?_
      refine g_icmp_gt C 55 dX12_isDigit_48 rfl (fun c4 => ?_) (fun c4 => ?_)
      · replace h := h.1 c4
        refine g_iconst_0 C dX12_isDigit_55 ?_
        exact g_ret_z C false rfl dX12_isDigit_56 (Nat.le_refl _) (Nat.le_refl _) ⟨_, rfl, rfl, h⟩
      · replace h := h.2 c4
        refine g_iconst_1 C dX12_isDigit_51 ?_
        refine g_goto C 56 dX12_isDigit_52 rfl ?_
        exact g_ret_z C true rfl dX12_isDigit_56 (Nat.le_refl _) (Nat.le_refl _) ⟨_, rfl, rfl, h⟩
theorem wM_k_isDigit {D : gD} {ca : Nat → ClassId} {o : Nat → Nat} (I : gI) (J : gJ) (Q : Bool → Prop) (h : wM_isDigit I J Q) : Ct yX12_isDigit cX12_isDigit 1 (some .boolean) (rl 0) D (tyW ca) 0 0 [.ref (o 0)] (cM ca o I J) (PPz ca o I J Q) := ct_of (rm := rl 0) (by decide +kernel) (Nat.le_of_ble_eq_true rfl) (fun Γ C => wM_isDigit_g I J C h)
set_option maxRecDepth 100000 in
theorem wM_isStrip__gc52 {Γ : gT} {D : gD} {ca : Nat → ClassId} {o : Nat → Nat} {Q : Bool → Prop} {I : gI} {J : gJ} (C : Cx Γ cX12_isStrip_ RX12 2 D (tyW ca) (rl 0) (some .boolean) 0 0 (PPz ca o I J Q)) (v1 : Int32) (h : wM_isStrip__c52 I J v1 Q) : G Γ 0 0 52 [(1, .int v1)] [] (cM ca o I J) := by
  unfold wM_isStrip__c52 at h
  refine g_iload_n C (i := 1) dX12_isStrip__52 rfl rfl ?_
  refine g_iconst_5 C dX12_isStrip__53 ?_
  refine g_icmp_ne C 61 dX12_isStrip__54 rfl (fun c1 => ?_) (fun c1 => ?_)
  · replace h := h.1 c1
    refine g_iconst_0 C dX12_isStrip__61 ?_
    exact g_ret_z C false rfl dX12_isStrip__62 (Nat.le_refl _) (Nat.le_refl _) ⟨_, rfl, rfl, h⟩
  · replace h := h.2 c1
    refine g_iconst_1 C dX12_isStrip__57 ?_
    refine g_goto C 62 dX12_isStrip__58 rfl ?_
    exact g_ret_z C true rfl dX12_isStrip__62 (Nat.le_refl _) (Nat.le_refl _) ⟨_, rfl, rfl, h⟩
set_option maxRecDepth 100000 in
theorem wM_isStrip__gb2 {Γ : gT} {D : gD} {ca : Nat → ClassId} {o : Nat → Nat} {Q : Bool → Prop} {I : gI} {J : gJ} (C : Cx Γ cX12_isStrip_ RX12 2 D (tyW ca) (rl 0) (some .boolean) 0 0 (PPz ca o I J Q)) {B2 : Int32 → Prop} (hB2 : ∀ (v1 : Int32) , B2 v1 → G Γ 0 0 2 [(0, .ref (o 0)), (1, .int v1)] [] (cM ca o I J)) (v1 : Int32) (h : wM_isStrip__b2 I J B2 v1 Q) : G Γ 0 0 2 [(0, .ref (o 0)), (1, .int v1)] [] (cM ca o I J) := by
  unfold wM_isStrip__b2 at h
  refine g_iload_n C (i := 1) dX12_isStrip__2 rfl rfl ?_
  refine g_iconst_5 C dX12_isStrip__3 ?_
  refine g_icmp_ge C 52 dX12_isStrip__4 rfl (fun c1 => ?_) (fun c1 => ?_)
  · replace h := h.1 c1
    exact g_weak [1] rfl (Nat.le_refl _) (Nat.le_refl _) (wM_isStrip__gc52  C  v1  h)
  · replace h := h.2 c1
    refine g_aload_n C (i := 0) dX12_isStrip__7 rfl rfl ?_
    refine m_get_place C dX12_isStrip__8 ?_
    refine g_iload_n C (i := 1) dX12_isStrip__11 rfl rfl ?_
    refine g_iadd C dX12_isStrip__12 ?_
    refine g_aload_n C (i := 0) dX12_isStrip__13 rfl rfl ?_
    refine m_get_end C dX12_isStrip__14 ?_
    refine g_icmp_ge C 52 dX12_isStrip__17 rfl (fun c2 => ?_) (fun c2 => ?_)
    · replace h := h.1 c2
      exact g_weak [1] rfl (Nat.le_refl _) (Nat.le_refl _) (wM_isStrip__gc52  C  v1  h)
    · replace h := h.2 c2
      refine g_aload_n C (i := 0) dX12_isStrip__20 rfl rfl ?_
      refine m_get_cells C dX12_isStrip__21 ?_
      refine g_aload_n C (i := 0) dX12_isStrip__24 rfl rfl ?_
      refine m_get_base C dX12_isStrip__25 ?_
      refine g_aload_n C (i := 0) dX12_isStrip__28 rfl rfl ?_
      refine m_get_place C dX12_isStrip__29 ?_
      refine g_iadd C dX12_isStrip__32 ?_
      refine g_iload_n C (i := 1) dX12_isStrip__33 rfl rfl ?_
      refine g_iadd C dX12_isStrip__34 ?_
      obtain ⟨h3, h⟩ := h
      refine m_lald C (k := 2) (by decide) h3 dX12_isStrip__35 ?_
      refine g_l2i C dX12_isStrip__36 ?_
      refine g_aload_n C (i := 0) dX12_isStrip__37 rfl rfl ?_
      refine m_get_words C dX12_isStrip__38 ?_
      refine g_iload_n C (i := 1) dX12_isStrip__41 rfl rfl ?_
      obtain ⟨h4, h⟩ := h
      refine m_iald C (k := 9) (by decide) h4 dX12_isStrip__42 ?_
      refine g_icmp_ne C 52 dX12_isStrip__43 rfl (fun c5 => ?_) (fun c5 => ?_)
      · replace h := h.1 c5
        exact g_weak [1] rfl (Nat.le_refl _) (Nat.le_refl _) (wM_isStrip__gc52  C  v1  h)
      · replace h := h.2 c5
        refine g_iinc C 1 [(0, .ref (o 0)), (1, .int (v1 + 1))] dX12_isStrip__46 rfl (by decide) (by decide) rfl ?_
        refine g_goto C 2 dX12_isStrip__49 rfl ?_
        exact g_weak [0, 1] rfl (Nat.le_refl _) (Nat.le_refl _) (hB2 (v1 + 1)  h)
theorem wM_isStrip__gl2 {Γ : gT} {D : gD} {ca : Nat → ClassId} {o : Nat → Nat} {Q : Bool → Prop} {I : gI} {J : gJ} (C : Cx Γ cX12_isStrip_ RX12 2 D (tyW ca) (rl 0) (some .boolean) 0 0 (PPz ca o I J Q)) : ∀ (n : Nat) (v1 : Int32) (_ : wM_isStrip__l2 I J Q n v1 ), G Γ 0 0 2 [(0, .ref (o 0)), (1, .int v1)] [] (cM ca o I J) := by
  intro n
  induction n with
  | zero => intro v1  h; exact h.elim
  | succ n ih => intro v1  h; exact wM_isStrip__gb2 C ih v1 h
set_option maxRecDepth 100000 in
theorem wM_isStrip__g {Γ : gT} {D : gD} {ca : Nat → ClassId} {o : Nat → Nat} {Q : Bool → Prop} (I : gI) (J : gJ) (C : Cx Γ cX12_isStrip_ RX12 2 D (tyW ca) (rl 0) (some .boolean) 0 0 (PPz ca o I J Q)) (h : wM_isStrip_ I J Q) : G Γ 0 0 0 [(0, .ref (o 0))] [] (cM ca o I J) := by
  unfold wM_isStrip_ at h
  refine g_iconst_0 C dX12_isStrip__0 ?_
  refine g_istore_n C (i := 1) [(0, .ref (o 0)), (1, .int 0)] dX12_isStrip__1 rfl (by decide) rfl ?_
  obtain ⟨n, h⟩ := h
  exact g_weak [0, 1] rfl (Nat.le_refl _) (Nat.le_refl _) (wM_isStrip__gl2  C  n 0  h)
theorem wM_k_isStrip_ {D : gD} {ca : Nat → ClassId} {o : Nat → Nat} (I : gI) (J : gJ) (Q : Bool → Prop) (h : wM_isStrip_ I J Q) : Ct yX12_isStrip_ cX12_isStrip_ 2 (some .boolean) (rl 0) D (tyW ca) 0 0 [.ref (o 0)] (cM ca o I J) (PPz ca o I J Q) := ct_of (rm := rl 0) (by decide +kernel) (Nat.le_of_ble_eq_true rfl) (fun Γ C => wM_isStrip__g I J C h)
set_option maxRecDepth 100000 in
theorem wM_all_gb3 {Γ : gT} {D : gD} {ca : Nat → ClassId} {o : Nat → Nat} {Q : gI → gJ → Prop} {k1 : Nat} (hk1 : 1 ≤ k1 ∧ k1 ≤ 29) {k2 : Nat} (hk2 : 1 ≤ k2 ∧ k2 ≤ 9) (C : Cx Γ cX12_all RX12 5 D (tyW ca) (rl 0) none 0 0 (PMv ca o Q)) {B3 : Int32 → Int32 → gI → gJ → Prop} (hB3 : ∀ (v3 : Int32) (v4 : Int32) (I : gI) (J : gJ), B3 v3 v4 I J → G Γ 0 0 3 [(0, .ref (o 0)), (1, .ref (o k1)), (2, .ref (o (k2 + 29))), (3, .int v3), (4, .int v4)] [] (cM ca o I J)) (v3 : Int32) (v4 : Int32) (I : gI) (J : gJ) (h : wM_all_b3 k1 k2 B3 v3 v4 I J Q) : G Γ 0 0 3 [(0, .ref (o 0)), (1, .ref (o k1)), (2, .ref (o (k2 + 29))), (3, .int v3), (4, .int v4)] [] (cM ca o I J) := by
  unfold wM_all_b3 at h
  refine g_iload C (i := 4) dX12_all_3 rfl ?_
  refine g_bipush C (v := 8) dX12_all_5 (by decide) ?_
  refine g_icmp_ge C 123 dX12_all_7 rfl (fun c1 => ?_) (fun c1 => ?_)
  · replace h := h.1 c1
    refine g_iload_n C (i := 3) dX12_all_123 rfl rfl ?_
    refine g_if_eq C 138 dX12_all_124 rfl (fun c2 => ?_) (fun c2 => ?_)
    · replace h := h.1 c2
      refine g_aload_n C (i := 1) dX12_all_138 rfl rfl ?_
      refine g_bipush C (v := 24) dX12_all_139 (by decide) ?_
      refine g_aload_n C (i := 0) dX12_all_141 rfl rfl ?_
      refine m_get_strips C dX12_all_142 ?_
      obtain ⟨h3, h⟩ := h
      refine m_iast C (k := k1) hk1 h3 dX12_all_145 ?_
      refine m_nmI _ (fun I4 e5 => ?_)
      replace h := h I4 e5
      exact g_ret_v C dX12_all_146 (Nat.le_refl _) (Nat.le_refl _) ⟨_, _, rfl, rfl, h⟩
    · replace h := h.2 c2
      refine g_aload_n C (i := 0) dX12_all_127 rfl rfl ?_
      refine g_aload_n C (i := 1) dX12_all_128 rfl rfl ?_
      refine g_bipush C (v := 24) dX12_all_129 (by decide) ?_
      obtain ⟨h6, h⟩ := h
      refine m_iald C (k := k1) hk1 h6 dX12_all_131 ?_
      refine m_put_strips C dX12_all_132 ?_
      refine m_nmI _ (fun I7 e8 => ?_)
      replace h := h I7 e8
      refine g_goto C 146 dX12_all_135 rfl ?_
      exact g_ret_v C dX12_all_146 (Nat.le_refl _) (Nat.le_refl _) ⟨_, _, rfl, rfl, h⟩
  · replace h := h.2 c1
    refine g_iload_n C (i := 3) dX12_all_10 rfl rfl ?_
    refine g_if_eq C 67 dX12_all_11 rfl (fun c9 => ?_) (fun c9 => ?_)
    · replace h := h.1 c9
      refine g_aload_n C (i := 1) dX12_all_67 rfl rfl ?_
      refine g_iload C (i := 4) dX12_all_68 rfl ?_
      refine g_aload_n C (i := 0) dX12_all_70 rfl rfl ?_
      refine m_get_kind C dX12_all_71 ?_
      refine g_iload C (i := 4) dX12_all_74 rfl ?_
      obtain ⟨h10, h⟩ := h
      refine m_iald C (k := 2) (by decide) h10 dX12_all_76 ?_
      obtain ⟨h11, h⟩ := h
      refine m_iast C (k := k1) hk1 h11 dX12_all_77 ?_
      refine m_nmI _ (fun I12 e13 => ?_)
      replace h := h I12 e13
      refine g_aload_n C (i := 1) dX12_all_78 rfl rfl ?_
      refine g_bipush C (v := 8) dX12_all_79 (by decide) ?_
      refine g_iload C (i := 4) dX12_all_81 rfl ?_
      refine g_iadd C dX12_all_83 ?_
      refine g_aload_n C (i := 0) dX12_all_84 rfl rfl ?_
      refine m_get_part C dX12_all_85 ?_
      refine g_iload C (i := 4) dX12_all_88 rfl ?_
      refine m_iald C (k := 3) (by decide) h10 dX12_all_90 ?_
      obtain ⟨h14, h⟩ := h
      refine m_iast C (k := k1) hk1 h14 dX12_all_91 ?_
      refine m_nmI _ (fun I15 e16 => ?_)
      replace h := h I15 e16
      refine g_aload_n C (i := 1) dX12_all_92 rfl rfl ?_
      refine g_bipush C (v := 16) dX12_all_93 (by decide) ?_
      refine g_iload C (i := 4) dX12_all_95 rfl ?_
      refine g_iadd C dX12_all_97 ?_
      refine g_aload_n C (i := 0) dX12_all_98 rfl rfl ?_
      refine m_get_folds C dX12_all_99 ?_
      refine g_iload C (i := 4) dX12_all_102 rfl ?_
      refine m_iald C (k := 4) (by decide) h10 dX12_all_104 ?_
      obtain ⟨h17, h⟩ := h
      refine m_iast C (k := k1) hk1 h17 dX12_all_105 ?_
      refine m_nmI _ (fun I18 e19 => ?_)
      replace h := h I18 e19
      refine g_aload_n C (i := 2) dX12_all_106 rfl rfl ?_
      refine g_iload C (i := 4) dX12_all_107 rfl ?_
      refine g_aload_n C (i := 0) dX12_all_109 rfl rfl ?_
      refine m_get_word C dX12_all_110 ?_
      refine g_iload C (i := 4) dX12_all_113 rfl ?_
      refine m_lald C (k := 1) (by decide) h10 dX12_all_115 ?_
      obtain ⟨h20, h⟩ := h
      refine m_last C (k := k2) hk2 h20 dX12_all_116 ?_
      refine m_nmJ _ (fun J21 e22 => ?_)
      replace h := h J21 e22
      refine g_iinc C 1 [(0, .ref (o 0)), (1, .ref (o k1)), (2, .ref (o (k2 + 29))), (3, .int v3), (4, .int (v4 + 1))] dX12_all_117 rfl (by decide) (by decide) rfl ?_
      refine g_goto C 3 dX12_all_120 rfl ?_
      exact g_weak [0, 1, 2, 3, 4] rfl (Nat.le_refl _) (Nat.le_refl _) (hB3 v3 (v4 + 1) I18 J21 h)
    · replace h := h.2 c9
      refine g_aload_n C (i := 0) dX12_all_14 rfl rfl ?_
      refine m_get_kind C dX12_all_15 ?_
      refine g_iload C (i := 4) dX12_all_18 rfl ?_
      refine g_aload_n C (i := 1) dX12_all_20 rfl rfl ?_
      refine g_iload C (i := 4) dX12_all_21 rfl ?_
      obtain ⟨h23, h⟩ := h
      refine m_iald C (k := k1) hk1 h23 dX12_all_23 ?_
      obtain ⟨h24, h⟩ := h
      refine m_iast C (k := 2) (by decide) h24 dX12_all_24 ?_
      refine m_nmI _ (fun I25 e26 => ?_)
      replace h := h I25 e26
      refine g_aload_n C (i := 0) dX12_all_25 rfl rfl ?_
      refine m_get_part C dX12_all_26 ?_
      refine g_iload C (i := 4) dX12_all_29 rfl ?_
      refine g_aload_n C (i := 1) dX12_all_31 rfl rfl ?_
      refine g_bipush C (v := 8) dX12_all_32 (by decide) ?_
      refine g_iload C (i := 4) dX12_all_34 rfl ?_
      refine g_iadd C dX12_all_36 ?_
      obtain ⟨h27, h⟩ := h
      refine m_iald C (k := k1) hk1 h27 dX12_all_37 ?_
      refine m_iast C (k := 3) (by decide) h24 dX12_all_38 ?_
      refine m_nmI _ (fun I28 e29 => ?_)
      replace h := h I28 e29
      refine g_aload_n C (i := 0) dX12_all_39 rfl rfl ?_
      refine m_get_folds C dX12_all_40 ?_
      refine g_iload C (i := 4) dX12_all_43 rfl ?_
      refine g_aload_n C (i := 1) dX12_all_45 rfl rfl ?_
      refine g_bipush C (v := 16) dX12_all_46 (by decide) ?_
      refine g_iload C (i := 4) dX12_all_48 rfl ?_
      refine g_iadd C dX12_all_50 ?_
      obtain ⟨h30, h⟩ := h
      refine m_iald C (k := k1) hk1 h30 dX12_all_51 ?_
      refine m_iast C (k := 4) (by decide) h24 dX12_all_52 ?_
      refine m_nmI _ (fun I31 e32 => ?_)
      replace h := h I31 e32
      refine g_aload_n C (i := 0) dX12_all_53 rfl rfl ?_
      refine m_get_word C dX12_all_54 ?_
      refine g_iload C (i := 4) dX12_all_57 rfl ?_
      refine g_aload_n C (i := 2) dX12_all_59 rfl rfl ?_
      refine g_iload C (i := 4) dX12_all_60 rfl ?_
      obtain ⟨h33, h⟩ := h
      refine m_lald C (k := k2) hk2 h33 dX12_all_62 ?_
      refine m_last C (k := 1) (by decide) h24 dX12_all_63 ?_
      refine m_nmJ _ (fun J34 e35 => ?_)
      replace h := h J34 e35
      refine g_goto C 117 dX12_all_64 rfl ?_
      refine g_iinc C 1 [(0, .ref (o 0)), (1, .ref (o k1)), (2, .ref (o (k2 + 29))), (3, .int v3), (4, .int (v4 + 1))] dX12_all_117 rfl (by decide) (by decide) rfl ?_
      refine g_goto C 3 dX12_all_120 rfl ?_
      exact g_weak [0, 1, 2, 3, 4] rfl (Nat.le_refl _) (Nat.le_refl _) (hB3 v3 (v4 + 1) I31 J34 h)
theorem wM_all_gl3 {Γ : gT} {D : gD} {ca : Nat → ClassId} {o : Nat → Nat} {Q : gI → gJ → Prop} {k1 : Nat} (hk1 : 1 ≤ k1 ∧ k1 ≤ 29) {k2 : Nat} (hk2 : 1 ≤ k2 ∧ k2 ≤ 9) (C : Cx Γ cX12_all RX12 5 D (tyW ca) (rl 0) none 0 0 (PMv ca o Q)) : ∀ (n : Nat) (v3 : Int32) (v4 : Int32) (I : gI) (J : gJ) (_ : wM_all_l3 k1 k2 Q n v3 v4 I J), G Γ 0 0 3 [(0, .ref (o 0)), (1, .ref (o k1)), (2, .ref (o (k2 + 29))), (3, .int v3), (4, .int v4)] [] (cM ca o I J) := by
  intro n
  induction n with
  | zero => intro v3 v4 I J h; exact h.elim
  | succ n ih => intro v3 v4 I J h; exact wM_all_gb3 hk1 hk2 C ih v3 v4 I J h
set_option maxRecDepth 100000 in
theorem wM_all_g {Γ : gT} {D : gD} {ca : Nat → ClassId} {o : Nat → Nat} {Q : gI → gJ → Prop} {k1 : Nat} (hk1 : 1 ≤ k1 ∧ k1 ≤ 29) {k2 : Nat} (hk2 : 1 ≤ k2 ∧ k2 ≤ 9) (v3 : Int32) (I : gI) (J : gJ) (C : Cx Γ cX12_all RX12 5 D (tyW ca) (rl 0) none 0 0 (PMv ca o Q)) (h : wM_all k1 k2 v3 I J Q) : G Γ 0 0 0 [(0, .ref (o 0)), (1, .ref (o k1)), (2, .ref (o (k2 + 29))), (3, .int v3)] [] (cM ca o I J) := by
  unfold wM_all at h
  refine g_iconst_0 C dX12_all_0 ?_
  refine g_istore C (i := 4) [(0, .ref (o 0)), (1, .ref (o k1)), (2, .ref (o (k2 + 29))), (3, .int v3), (4, .int 0)] dX12_all_1 (by decide) rfl ?_
  obtain ⟨n, h⟩ := h
  exact g_weak [0, 1, 2, 3, 4] rfl (Nat.le_refl _) (Nat.le_refl _) (wM_all_gl3 hk1 hk2 C  n v3 0 I J h)
theorem wM_k_all {D : gD} {ca : Nat → ClassId} {o : Nat → Nat} {k1 : Nat} (hk1 : 1 ≤ k1 ∧ k1 ≤ 29) {k2 : Nat} (hk2 : 1 ≤ k2 ∧ k2 ≤ 9) (v3 : Int32) (I : gI) (J : gJ) (Q : gI → gJ → Prop) (h : wM_all k1 k2 v3 I J Q) : Ct yX12_all cX12_all 5 none (rl 0) D (tyW ca) 0 0 [.ref (o 0), .ref (o k1), .ref (o (k2 + 29)), .int v3] (cM ca o I J) (PMv ca o Q) := ct_of (rm := rl 0) (by decide +kernel) (Nat.le_of_ble_eq_true rfl) (fun Γ C => wM_all_g hk1 hk2 v3 I J C h)
set_option maxRecDepth 100000 in
theorem wM_fault_g {Γ : gT} {D : gD} {ca : Nat → ClassId} {o : Nat → Nat} {Q : Int32 → Prop} (I : gI) (J : gJ) (C : Cx Γ cX12_fault RX12 1 D (tyW ca) (rl 0) (some .int) 0 0 (PPi ca o I J Q)) (h : wM_fault I J Q) : G Γ 0 0 0 [(0, .ref (o 0))] [] (cM ca o I J) := by
  unfold wM_fault at h
  refine g_aload_n C (i := 0) dX12_fault_0 rfl rfl ?_
  refine m_get_fault C dX12_fault_1 ?_
  exact g_ret_i C dX12_fault_4 (Nat.le_refl _) (Nat.le_refl _) ⟨_, rfl, rfl, h⟩
theorem wM_k_fault {D : gD} {ca : Nat → ClassId} {o : Nat → Nat} (I : gI) (J : gJ) (Q : Int32 → Prop) (h : wM_fault I J Q) : Ct yX12_fault cX12_fault 1 (some .int) (rl 0) D (tyW ca) 0 0 [.ref (o 0)] (cM ca o I J) (PPi ca o I J Q) := ct_of (rm := rl 0) (by decide +kernel) (Nat.le_of_ble_eq_true rfl) (fun Γ C => wM_fault_g I J C h)
set_option maxRecDepth 100000 in
theorem wM_power_gb5 {Γ : gT} {D : gD} {ca : Nat → ClassId} {o : Nat → Nat} {Q : Int64 → Prop} {I : gI} {J : gJ} (C : Cx Γ cX12_power RX12 6 D (tyW ca) (rl 0) (some .long) 0 0 (PPl ca o I J Q)) {B5 : Int32 → Int32 → Int64 → Int32 → Prop} (hB5 : ∀ (v1 : Int32) (v2 : Int32) (v3 : Int64) (v5 : Int32) , B5 v1 v2 v3 v5 → G Γ 0 0 5 [(1, .int v1), (2, .int v2), (3, .long v3), (5, .int v5)] [] (cM ca o I J)) (v1 : Int32) (v2 : Int32) (v3 : Int64) (v5 : Int32) (h : wM_power_b5 I J B5 v1 v2 v3 v5 Q) : G Γ 0 0 5 [(1, .int v1), (2, .int v2), (3, .long v3), (5, .int v5)] [] (cM ca o I J) := by
  unfold wM_power_b5 at h
  refine g_iload C (i := 5) dX12_power_5 rfl ?_
  refine g_iload_n C (i := 2) dX12_power_7 rfl rfl ?_
  refine g_icmp_ge C 22 dX12_power_8 rfl (fun c1 => ?_) (fun c1 => ?_)
  · replace h := h.1 c1
    refine g_lload_n C (i := 3) dX12_power_22 rfl rfl ?_
    exact g_ret_l C dX12_power_23 (Nat.le_refl _) (Nat.le_refl _) ⟨_, rfl, rfl, h⟩
  · replace h := h.2 c1
    refine g_lload_n C (i := 3) dX12_power_11 rfl rfl ?_
    refine g_iload_n C (i := 1) dX12_power_12 rfl rfl ?_
    refine g_i2l C dX12_power_13 ?_
    refine g_lmul C dX12_power_14 ?_
    refine g_lstore_n C (i := 3) [(1, .int v1), (2, .int v2), (3, .long (v3 * v1.toInt64)), (5, .int v5)] dX12_power_15 rfl (by decide) rfl ?_
    refine g_iinc C 1 [(1, .int v1), (2, .int v2), (3, .long (v3 * v1.toInt64)), (5, .int (v5 + 1))] dX12_power_16 rfl (by decide) (by decide) rfl ?_
    refine g_goto C 5 dX12_power_19 rfl ?_
    exact g_weak [0, 1, 2, 3] rfl (Nat.le_refl _) (Nat.le_refl _) (hB5 v1 v2 (v3 * v1.toInt64) (v5 + 1)  h)
theorem wM_power_gl5 {Γ : gT} {D : gD} {ca : Nat → ClassId} {o : Nat → Nat} {Q : Int64 → Prop} {I : gI} {J : gJ} (C : Cx Γ cX12_power RX12 6 D (tyW ca) (rl 0) (some .long) 0 0 (PPl ca o I J Q)) : ∀ (n : Nat) (v1 : Int32) (v2 : Int32) (v3 : Int64) (v5 : Int32) (_ : wM_power_l5 I J Q n v1 v2 v3 v5 ), G Γ 0 0 5 [(1, .int v1), (2, .int v2), (3, .long v3), (5, .int v5)] [] (cM ca o I J) := by
  intro n
  induction n with
  | zero => intro v1 v2 v3 v5  h; exact h.elim
  | succ n ih => intro v1 v2 v3 v5  h; exact wM_power_gb5 C ih v1 v2 v3 v5 h
set_option maxRecDepth 100000 in
theorem wM_power_g {Γ : gT} {D : gD} {ca : Nat → ClassId} {o : Nat → Nat} {Q : Int64 → Prop} (v1 : Int32) (v2 : Int32) (I : gI) (J : gJ) (C : Cx Γ cX12_power RX12 6 D (tyW ca) (rl 0) (some .long) 0 0 (PPl ca o I J Q)) (h : wM_power v1 v2 I J Q) : G Γ 0 0 0 [(0, .ref (o 0)), (1, .int v1), (2, .int v2)] [] (cM ca o I J) := by
  unfold wM_power at h
  refine g_lconst_1 C dX12_power_0 ?_
  refine g_lstore_n C (i := 3) [(0, .ref (o 0)), (1, .int v1), (2, .int v2), (3, .long 1)] dX12_power_1 rfl (by decide) rfl ?_
  refine g_iconst_0 C dX12_power_2 ?_
  refine g_istore C (i := 5) [(0, .ref (o 0)), (1, .int v1), (2, .int v2), (3, .long 1), (5, .int 0)] dX12_power_3 (by decide) rfl ?_
  obtain ⟨n, h⟩ := h
  exact g_weak [1, 2, 3, 4] rfl (Nat.le_refl _) (Nat.le_refl _) (wM_power_gl5  C  n v1 v2 1 0  h)
theorem wM_k_power {D : gD} {ca : Nat → ClassId} {o : Nat → Nat} (v1 : Int32) (v2 : Int32) (I : gI) (J : gJ) (Q : Int64 → Prop) (h : wM_power v1 v2 I J Q) : Ct yX12_power cX12_power 6 (some .long) (rl 0) D (tyW ca) 0 0 [.ref (o 0), .int v1, .int v2] (cM ca o I J) (PPl ca o I J Q) := ct_of (rm := rl 0) (by decide +kernel) (Nat.le_of_ble_eq_true rfl) (fun Γ C => wM_power_g v1 v2 I J C h)
set_option maxRecDepth 100000 in
theorem wM_turnX_g {Γ : gT} {D : gD} {ca : Nat → ClassId} {o : Nat → Nat} {Q : Int64 → Prop} (v1 : Int64) (v3 : Int64) (v5 : Int32) (I : gI) (J : gJ) (C : Cx Γ cX12_turnX RX12 7 D (tyW ca) (rl 0) (some .long) 0 0 (PPl ca o I J Q)) (h : wM_turnX v1 v3 v5 I J Q) : G Γ 0 0 0 [(0, .ref (o 0)), (1, .long v1), (3, .long v3), (5, .int v5)] [] (cM ca o I J) := by
  unfold wM_turnX at h
  refine g_iload C (i := 5) dX12_turnX_0 rfl ?_
  refine g_iconst_3 C dX12_turnX_2 ?_
  refine g_iand C dX12_turnX_3 ?_
  refine g_istore C (i := 6) [(0, .ref (o 0)), (1, .long v1), (3, .long v3), (5, .int v5), (6, .int (v5 &&& 3))] dX12_turnX_4 (by decide) rfl ?_
  refine g_iload C (i := 6) dX12_turnX_6 rfl ?_
  refine g_if_ne C 15 dX12_turnX_8 rfl (fun c1 => ?_) (fun c1 => ?_)
  · replace h := h.1 c1
    refine g_iload C (i := 6) dX12_turnX_15 rfl ?_
    refine g_iconst_1 C dX12_turnX_17 ?_
    refine g_icmp_ne C 26 dX12_turnX_18 rfl (fun c2 => ?_) (fun c2 => ?_)
    · replace h := h.1 c2
      refine g_iload C (i := 6) dX12_turnX_26 rfl ?_
      refine g_iconst_2 C dX12_turnX_28 ?_
      refine g_icmp_ne C 37 dX12_turnX_29 rfl (fun c3 => ?_) (fun c3 => ?_)
      · replace h := h.1 c3
        refine g_lload_n C (i := 3) dX12_turnX_37 rfl rfl ?_
        exact g_ret_l C dX12_turnX_38 (Nat.le_refl _) (Nat.le_refl _) ⟨_, rfl, rfl, h⟩
      · replace h := h.2 c3
        refine g_lload_n C (i := 1) dX12_turnX_32 rfl rfl ?_
        refine g_lneg C dX12_turnX_33 ?_
        refine g_goto C 38 dX12_turnX_34 rfl ?_
        exact g_ret_l C dX12_turnX_38 (Nat.le_refl _) (Nat.le_refl _) ⟨_, rfl, rfl, h⟩
    · replace h := h.2 c2
      refine g_lload_n C (i := 3) dX12_turnX_21 rfl rfl ?_
      refine g_lneg C dX12_turnX_22 ?_
      refine g_goto C 38 dX12_turnX_23 rfl ?_
      exact g_ret_l C dX12_turnX_38 (Nat.le_refl _) (Nat.le_refl _) ⟨_, rfl, rfl, h⟩
  · replace h := h.2 c1
    refine g_lload_n C (i := 1) dX12_turnX_11 rfl rfl ?_
    refine g_goto C 38 dX12_turnX_12 rfl ?_
    exact g_ret_l C dX12_turnX_38 (Nat.le_refl _) (Nat.le_refl _) ⟨_, rfl, rfl, h⟩
theorem wM_k_turnX {D : gD} {ca : Nat → ClassId} {o : Nat → Nat} (v1 : Int64) (v3 : Int64) (v5 : Int32) (I : gI) (J : gJ) (Q : Int64 → Prop) (h : wM_turnX v1 v3 v5 I J Q) : Ct yX12_turnX cX12_turnX 7 (some .long) (rl 0) D (tyW ca) 0 0 [.ref (o 0), .long v1, .long v3, .int v5] (cM ca o I J) (PPl ca o I J Q) := ct_of (rm := rl 0) (by decide +kernel) (Nat.le_of_ble_eq_true rfl) (fun Γ C => wM_turnX_g v1 v3 v5 I J C h)
set_option maxRecDepth 100000 in
theorem wM_turnY_g {Γ : gT} {D : gD} {ca : Nat → ClassId} {o : Nat → Nat} {Q : Int64 → Prop} (v1 : Int64) (v3 : Int64) (v5 : Int32) (I : gI) (J : gJ) (C : Cx Γ cX12_turnY RX12 7 D (tyW ca) (rl 0) (some .long) 0 0 (PPl ca o I J Q)) (h : wM_turnY v1 v3 v5 I J Q) : G Γ 0 0 0 [(0, .ref (o 0)), (1, .long v1), (3, .long v3), (5, .int v5)] [] (cM ca o I J) := by
  unfold wM_turnY at h
  refine g_iload C (i := 5) dX12_turnY_0 rfl ?_
  refine g_iconst_3 C dX12_turnY_2 ?_
  refine g_iand C dX12_turnY_3 ?_
  refine g_istore C (i := 6) [(0, .ref (o 0)), (1, .long v1), (3, .long v3), (5, .int v5), (6, .int (v5 &&& 3))] dX12_turnY_4 (by decide) rfl ?_
  refine g_iload C (i := 6) dX12_turnY_6 rfl ?_
  refine g_if_ne C 15 dX12_turnY_8 rfl (fun c1 => ?_) (fun c1 => ?_)
  · replace h := h.1 c1
    refine g_iload C (i := 6) dX12_turnY_15 rfl ?_
    refine g_iconst_1 C dX12_turnY_17 ?_
    refine g_icmp_ne C 25 dX12_turnY_18 rfl (fun c2 => ?_) (fun c2 => ?_)
    · replace h := h.1 c2
      refine g_iload C (i := 6) dX12_turnY_25 rfl ?_
      refine g_iconst_2 C dX12_turnY_27 ?_
      refine g_icmp_ne C 36 dX12_turnY_28 rfl (fun c3 => ?_) (fun c3 => ?_)
      · replace h := h.1 c3
        refine g_lload_n C (i := 1) dX12_turnY_36 rfl rfl ?_
        refine g_lneg C dX12_turnY_37 ?_
        exact g_ret_l C dX12_turnY_38 (Nat.le_refl _) (Nat.le_refl _) ⟨_, rfl, rfl, h⟩
      · replace h := h.2 c3
        refine g_lload_n C (i := 3) dX12_turnY_31 rfl rfl ?_
        refine g_lneg C dX12_turnY_32 ?_
        refine g_goto C 38 dX12_turnY_33 rfl ?_
        exact g_ret_l C dX12_turnY_38 (Nat.le_refl _) (Nat.le_refl _) ⟨_, rfl, rfl, h⟩
    · replace h := h.2 c2
      refine g_lload_n C (i := 1) dX12_turnY_21 rfl rfl ?_
      refine g_goto C 38 dX12_turnY_22 rfl ?_
      exact g_ret_l C dX12_turnY_38 (Nat.le_refl _) (Nat.le_refl _) ⟨_, rfl, rfl, h⟩
  · replace h := h.2 c1
    refine g_lload_n C (i := 3) dX12_turnY_11 rfl rfl ?_
    refine g_goto C 38 dX12_turnY_12 rfl ?_
    exact g_ret_l C dX12_turnY_38 (Nat.le_refl _) (Nat.le_refl _) ⟨_, rfl, rfl, h⟩
theorem wM_k_turnY {D : gD} {ca : Nat → ClassId} {o : Nat → Nat} (v1 : Int64) (v3 : Int64) (v5 : Int32) (I : gI) (J : gJ) (Q : Int64 → Prop) (h : wM_turnY v1 v3 v5 I J Q) : Ct yX12_turnY cX12_turnY 7 (some .long) (rl 0) D (tyW ca) 0 0 [.ref (o 0), .long v1, .long v3, .int v5] (cM ca o I J) (PPl ca o I J Q) := ct_of (rm := rl 0) (by decide +kernel) (Nat.le_of_ble_eq_true rfl) (fun Γ C => wM_turnY_g v1 v3 v5 I J C h)
set_option maxRecDepth 100000 in
theorem wM_clears_gb2 {Γ : gT} {D : gD} {ca : Nat → ClassId} {o : Nat → Nat} {Q : gI → gJ → Prop} (C : Cx Γ cX12_clears RX12 2 D (tyW ca) (rl 0) none 0 0 (PMv ca o Q)) {B2 : Int32 → gI → gJ → Prop} (hB2 : ∀ (v1 : Int32) (I : gI) (J : gJ), B2 v1 I J → G Γ 0 0 2 [(0, .ref (o 0)), (1, .int v1)] [] (cM ca o I J)) (v1 : Int32) (I : gI) (J : gJ) (h : wM_clears_b2 B2 v1 I J Q) : G Γ 0 0 2 [(0, .ref (o 0)), (1, .int v1)] [] (cM ca o I J) := by
  unfold wM_clears_b2 at h
  refine g_iload_n C (i := 1) dX12_clears_2 rfl rfl ?_
  refine g_sipush C (v := 16384) dX12_clears_3 (by decide) ?_
  refine g_icmp_ge C 29 dX12_clears_6 rfl (fun c1 => ?_) (fun c1 => ?_)
  · replace h := h.1 c1
    refine g_aload_n C (i := 0) dX12_clears_29 rfl rfl ?_
    refine g_iconst_0 C dX12_clears_30 ?_
    refine m_put_marks C dX12_clears_31 ?_
    refine m_nmI _ (fun I2 e3 => ?_)
    replace h := h I2 e3
    exact g_ret_v C dX12_clears_34 (Nat.le_refl _) (Nat.le_refl _) ⟨_, _, rfl, rfl, h⟩
  · replace h := h.2 c1
    refine g_aload_n C (i := 0) dX12_clears_9 rfl rfl ?_
    refine m_get_mark C dX12_clears_10 ?_
    refine g_iload_n C (i := 1) dX12_clears_13 rfl rfl ?_
    refine g_iconst_0 C dX12_clears_14 ?_
    obtain ⟨h4, h⟩ := h
    refine m_iast C (k := 18) (by decide) h4 dX12_clears_15 ?_
    refine m_nmI _ (fun I5 e6 => ?_)
    replace h := h I5 e6
    refine g_aload_n C (i := 0) dX12_clears_16 rfl rfl ?_
    refine m_get_often C dX12_clears_17 ?_
    refine g_iload_n C (i := 1) dX12_clears_20 rfl rfl ?_
    refine g_iconst_0 C dX12_clears_21 ?_
    refine m_iast C (k := 19) (by decide) h4 dX12_clears_22 ?_
    refine m_nmI _ (fun I7 e8 => ?_)
    replace h := h I7 e8
    refine g_iinc C 1 [(0, .ref (o 0)), (1, .int (v1 + 1))] dX12_clears_23 rfl (by decide) (by decide) rfl ?_
    refine g_goto C 2 dX12_clears_26 rfl ?_
    exact g_weak [0, 1] rfl (Nat.le_refl _) (Nat.le_refl _) (hB2 (v1 + 1) I7 J h)
theorem wM_clears_gl2 {Γ : gT} {D : gD} {ca : Nat → ClassId} {o : Nat → Nat} {Q : gI → gJ → Prop} (C : Cx Γ cX12_clears RX12 2 D (tyW ca) (rl 0) none 0 0 (PMv ca o Q)) : ∀ (n : Nat) (v1 : Int32) (I : gI) (J : gJ) (_ : wM_clears_l2 Q n v1 I J), G Γ 0 0 2 [(0, .ref (o 0)), (1, .int v1)] [] (cM ca o I J) := by
  intro n
  induction n with
  | zero => intro v1 I J h; exact h.elim
  | succ n ih => intro v1 I J h; exact wM_clears_gb2 C ih v1 I J h
set_option maxRecDepth 100000 in
theorem wM_clears_g {Γ : gT} {D : gD} {ca : Nat → ClassId} {o : Nat → Nat} {Q : gI → gJ → Prop} (I : gI) (J : gJ) (C : Cx Γ cX12_clears RX12 2 D (tyW ca) (rl 0) none 0 0 (PMv ca o Q)) (h : wM_clears I J Q) : G Γ 0 0 0 [(0, .ref (o 0))] [] (cM ca o I J) := by
  unfold wM_clears at h
  refine g_iconst_0 C dX12_clears_0 ?_
  refine g_istore_n C (i := 1) [(0, .ref (o 0)), (1, .int 0)] dX12_clears_1 rfl (by decide) rfl ?_
  obtain ⟨n, h⟩ := h
  exact g_weak [0, 1] rfl (Nat.le_refl _) (Nat.le_refl _) (wM_clears_gl2  C  n 0 I J h)
theorem wM_k_clears {D : gD} {ca : Nat → ClassId} {o : Nat → Nat} (I : gI) (J : gJ) (Q : gI → gJ → Prop) (h : wM_clears I J Q) : Ct yX12_clears cX12_clears 2 none (rl 0) D (tyW ca) 0 0 [.ref (o 0)] (cM ca o I J) (PMv ca o Q) := ct_of (rm := rl 0) (by decide +kernel) (Nat.le_of_ble_eq_true rfl) (fun Γ C => wM_clears_g I J C h)
set_option maxRecDepth 100000 in
theorem wM_meets_gc93 {Γ : gT} {D : gD} {ca : Nat → ClassId} {o : Nat → Nat} {Q : Int32 → gI → gJ → Prop} (C : Cx Γ cX12_meets RX12 6 D (tyW ca) (rl 0) (some .int) 0 0 (PMi ca o Q)) (v4 : Int32) (v5 : Int32) (I : gI) (J : gJ) (h : wM_meets_c93 v4 v5 I J Q) : G Γ 0 0 93 [(0, .ref (o 0)), (4, .int v4), (5, .int v5)] [] (cM ca o I J) := by
  unfold wM_meets_c93 at h
  refine g_aload_n C (i := 0) dX12_meets_93 rfl rfl ?_
  refine m_get_mark C dX12_meets_94 ?_
  refine g_iload C (i := 5) dX12_meets_97 rfl ?_
  refine g_iload C (i := 4) dX12_meets_99 rfl ?_
  obtain ⟨h1, h⟩ := h
  refine m_iast C (k := 18) (by decide) h1 dX12_meets_101 ?_
  refine m_nmI _ (fun I2 e3 => ?_)
  replace h := h I2 e3
  refine g_aload_n C (i := 0) dX12_meets_102 rfl rfl ?_
  refine m_get_often C dX12_meets_103 ?_
  refine g_iload C (i := 5) dX12_meets_106 rfl ?_
  refine g_dup2 C dX12_meets_108 rfl rfl ?_
  refine m_iald C (k := 19) (by decide) h1 dX12_meets_109 ?_
  refine g_iconst_1 C dX12_meets_110 ?_
  refine g_iadd C dX12_meets_111 ?_
  refine m_iast C (k := 19) (by decide) h1 dX12_meets_112 ?_
  refine m_nmI _ (fun I4 e5 => ?_)
  replace h := h I4 e5
  refine g_aload_n C (i := 0) dX12_meets_113 rfl rfl ?_
  refine m_get_often C dX12_meets_114 ?_
  refine g_iload C (i := 5) dX12_meets_117 rfl ?_
  refine m_iald C (k := 19) (by decide) h1 dX12_meets_119 ?_
  exact g_ret_i C dX12_meets_120 (Nat.le_refl _) (Nat.le_refl _) ⟨_, _, _, rfl, rfl, h⟩
set_option maxRecDepth 100000 in
theorem wM_meets_gc73 {Γ : gT} {D : gD} {ca : Nat → ClassId} {o : Nat → Nat} {Q : Int32 → gI → gJ → Prop} (C : Cx Γ cX12_meets RX12 6 D (tyW ca) (rl 0) (some .int) 0 0 (PMi ca o Q)) (v4 : Int32) (v5 : Int32) (I : gI) (J : gJ) (h : wM_meets_c73 v4 v5 I J Q) : G Γ 0 0 73 [(0, .ref (o 0)), (4, .int v4), (5, .int v5)] [] (cM ca o I J) := by
  unfold wM_meets_c73 at h
  refine g_aload_n C (i := 0) dX12_meets_73 rfl rfl ?_
  refine m_get_mark C dX12_meets_74 ?_
  refine g_iload C (i := 5) dX12_meets_77 rfl ?_
  obtain ⟨h1, h⟩ := h
  refine m_iald C (k := 18) (by decide) h1 dX12_meets_79 ?_
  refine g_if_ne C 93 dX12_meets_80 rfl (fun c2 => ?_) (fun c2 => ?_)
  · replace h := h.1 c2
    exact g_weak [0, 1, 2] rfl (Nat.le_refl _) (Nat.le_refl _) (wM_meets_gc93  C  v4 v5 I J h)
  · replace h := h.2 c2
    refine g_aload_n C (i := 0) dX12_meets_83 rfl rfl ?_
    refine g_dup C dX12_meets_84 rfl ?_
    refine m_get_marks C dX12_meets_85 ?_
    refine g_iconst_1 C dX12_meets_88 ?_
    refine g_iadd C dX12_meets_89 ?_
    refine m_put_marks C dX12_meets_90 ?_
    refine m_nmI _ (fun I3 e4 => ?_)
    replace h := h I3 e4
    exact g_weak [0, 1, 2] rfl (Nat.le_refl _) (Nat.le_refl _) (wM_meets_gc93  C  v4 v5 I3 J h)
set_option maxRecDepth 100000 in
theorem wM_meets_gb38 {Γ : gT} {D : gD} {ca : Nat → ClassId} {o : Nat → Nat} {Q : Int32 → gI → gJ → Prop} (C : Cx Γ cX12_meets RX12 6 D (tyW ca) (rl 0) (some .int) 0 0 (PMi ca o Q)) {B38 : Int32 → Int32 → gI → gJ → Prop} (hB38 : ∀ (v4 : Int32) (v5 : Int32) (I : gI) (J : gJ), B38 v4 v5 I J → G Γ 0 0 38 [(0, .ref (o 0)), (4, .int v4), (5, .int v5)] [] (cM ca o I J)) (v4 : Int32) (v5 : Int32) (I : gI) (J : gJ) (h : wM_meets_b38 B38 v4 v5 I J Q) : G Γ 0 0 38 [(0, .ref (o 0)), (4, .int v4), (5, .int v5)] [] (cM ca o I J) := by
  unfold wM_meets_b38 at h
  refine g_aload_n C (i := 0) dX12_meets_38 rfl rfl ?_
  refine m_get_mark C dX12_meets_39 ?_
  refine g_iload C (i := 5) dX12_meets_42 rfl ?_
  obtain ⟨h1, h⟩ := h
  refine m_iald C (k := 18) (by decide) h1 dX12_meets_44 ?_
  refine g_if_eq C 73 dX12_meets_45 rfl (fun c2 => ?_) (fun c2 => ?_)
  · replace h := h.1 c2
    exact g_weak [0, 1, 2] rfl (Nat.le_refl _) (Nat.le_refl _) (wM_meets_gc73  C  v4 v5 I J h)
  · replace h := h.2 c2
    refine g_aload_n C (i := 0) dX12_meets_48 rfl rfl ?_
    refine m_get_mark C dX12_meets_49 ?_
    refine g_iload C (i := 5) dX12_meets_52 rfl ?_
    refine m_iald C (k := 18) (by decide) h1 dX12_meets_54 ?_
    refine g_iload C (i := 4) dX12_meets_55 rfl ?_
    refine g_icmp_eq C 73 dX12_meets_57 rfl (fun c3 => ?_) (fun c3 => ?_)
    · replace h := h.1 c3
      exact g_weak [0, 1, 2] rfl (Nat.le_refl _) (Nat.le_refl _) (wM_meets_gc73  C  v4 v5 I J h)
    · replace h := h.2 c3
      refine g_iload C (i := 5) dX12_meets_60 rfl ?_
      refine g_iconst_1 C dX12_meets_62 ?_
      refine g_iadd C dX12_meets_63 ?_
      refine g_sipush C (v := 16383) dX12_meets_64 (by decide) ?_
      refine g_iand C dX12_meets_67 ?_
      refine g_istore C (i := 5) [(0, .ref (o 0)), (4, .int v4), (5, .int ((v5 + 1) &&& 16383))] dX12_meets_68 (by decide) rfl ?_
      refine g_goto C 38 dX12_meets_70 rfl ?_
      exact g_weak [0, 1, 2] rfl (Nat.le_refl _) (Nat.le_refl _) (hB38 v4 ((v5 + 1) &&& 16383) I J h)
theorem wM_meets_gl38 {Γ : gT} {D : gD} {ca : Nat → ClassId} {o : Nat → Nat} {Q : Int32 → gI → gJ → Prop} (C : Cx Γ cX12_meets RX12 6 D (tyW ca) (rl 0) (some .int) 0 0 (PMi ca o Q)) : ∀ (n : Nat) (v4 : Int32) (v5 : Int32) (I : gI) (J : gJ) (_ : wM_meets_l38 Q n v4 v5 I J), G Γ 0 0 38 [(0, .ref (o 0)), (4, .int v4), (5, .int v5)] [] (cM ca o I J) := by
  intro n
  induction n with
  | zero => intro v4 v5 I J h; exact h.elim
  | succ n ih => intro v4 v5 I J h; exact wM_meets_gb38 C ih v4 v5 I J h
set_option maxRecDepth 100000 in
theorem wM_meets_g {Γ : gT} {D : gD} {ca : Nat → ClassId} {o : Nat → Nat} {Q : Int32 → gI → gJ → Prop} (v1 : Int32) (v2 : Int32) (v3 : Int32) (I : gI) (J : gJ) (C : Cx Γ cX12_meets RX12 6 D (tyW ca) (rl 0) (some .int) 0 0 (PMi ca o Q)) (h : wM_meets v1 v2 v3 I J Q) : G Γ 0 0 0 [(0, .ref (o 0)), (1, .int v1), (2, .int v2), (3, .int v3)] [] (cM ca o I J) := by
  unfold wM_meets at h
  refine g_iload_n C (i := 1) dX12_meets_0 rfl rfl ?_
  refine g_sipush C (v := 4001) dX12_meets_1 (by decide) ?_
  refine g_iadd C dX12_meets_4 ?_
  refine g_sipush C (v := 8192) dX12_meets_5 (by decide) ?_
  refine g_imul C dX12_meets_8 ?_
  refine g_iload_n C (i := 2) dX12_meets_9 rfl rfl ?_
  refine g_iadd C dX12_meets_10 ?_
  refine g_sipush C (v := 4001) dX12_meets_11 (by decide) ?_
  refine g_iadd C dX12_meets_14 ?_
  refine g_iconst_2 C dX12_meets_15 ?_
  refine g_imul C dX12_meets_16 ?_
  refine g_iload_n C (i := 3) dX12_meets_17 rfl rfl ?_
  refine g_iadd C dX12_meets_18 ?_
  refine g_iconst_1 C dX12_meets_19 ?_
  refine g_iadd C dX12_meets_20 ?_
  refine g_istore C (i := 4) [(0, .ref (o 0)), (1, .int v1), (2, .int v2), (3, .int v3), (4, .int (((((((v1 + 4001) * 8192) + v2) + 4001) * 2) + v3) + 1))] dX12_meets_21 (by decide) rfl ?_
  refine g_iload C (i := 4) dX12_meets_23 rfl ?_
  refine g_ldcw C (v := 40503) (tb_in (List.mem_of_getElem? (i := 1688) (by decide +kernel)) (by decide +kernel)) dX12_meets_25 ?_
  refine g_imul C dX12_meets_28 ?_
  refine g_bipush C (v := 7) dX12_meets_29 (by decide) ?_
  refine g_iushr C dX12_meets_31 ?_
  refine g_sipush C (v := 16383) dX12_meets_32 (by decide) ?_
  refine g_iand C dX12_meets_35 ?_
  refine g_topi (fun x1 e2 => ?_)
  replace h := h x1 e2
  refine g_istore C (i := 5) [(0, .ref (o 0)), (1, .int v1), (2, .int v2), (3, .int v3), (4, .int (((((((v1 + 4001) * 8192) + v2) + 4001) * 2) + v3) + 1)), (5, .int x1)] dX12_meets_36 (by decide) rfl ?_
  obtain ⟨n, h⟩ := h
  exact g_weak [0, 4, 5] rfl (Nat.le_refl _) (Nat.le_refl _) (wM_meets_gl38  C  n (((((((v1 + 4001) * 8192) + v2) + 4001) * 2) + v3) + 1) x1 I J h)
theorem wM_k_meets {D : gD} {ca : Nat → ClassId} {o : Nat → Nat} (v1 : Int32) (v2 : Int32) (v3 : Int32) (I : gI) (J : gJ) (Q : Int32 → gI → gJ → Prop) (h : wM_meets v1 v2 v3 I J Q) : Ct yX12_meets cX12_meets 6 (some .int) (rl 0) D (tyW ca) 0 0 [.ref (o 0), .int v1, .int v2, .int v3] (cM ca o I J) (PMi ca o Q) := ct_of (rm := rl 0) (by decide +kernel) (Nat.le_of_ble_eq_true rfl) (fun Γ C => wM_meets_g v1 v2 v3 I J C h)
set_option maxRecDepth 100000 in
theorem wM_isWithin_g {Γ : gT} {D : gD} {ca : Nat → ClassId} {o : Nat → Nat} {Q : Bool → Prop} (v1 : Int32) (v2 : Int32) (I : gI) (J : gJ) (C : Cx Γ cX12_isWithin RX12 3 D (tyW ca) (rl 0) (some .boolean) 0 0 (PPz ca o I J Q)) (h : wM_isWithin v1 v2 I J Q) : G Γ 0 0 0 [(0, .ref (o 0)), (1, .int v1), (2, .int v2)] [] (cM ca o I J) := by
  unfold wM_isWithin at h
  refine g_iload_n C (i := 1) dX12_isWithin_0 rfl rfl ?_
  refine g_bipush C (v := (-30)) dX12_isWithin_1 (by decide) ?_
  refine g_icmp_lt C 28 dX12_isWithin_3 rfl (fun c1 => ?_) (fun c1 => ?_)
  · replace h := h.1 c1
    refine g_iconst_0 C dX12_isWithin_28 ?_
    exact g_ret_z C false rfl dX12_isWithin_29 (Nat.le_refl _) (Nat.le_refl _) ⟨_, rfl, rfl, h⟩
  · replace h := h.2 c1
    refine g_iload_n C (i := 1) dX12_isWithin_6 rfl rfl ?_
    refine g_bipush C (v := 30) dX12_isWithin_7 (by decide) ?_
    refine g_icmp_gt C 28 dX12_isWithin_9 rfl (fun c2 => ?_) (fun c2 => ?_)
    · replace h := h.1 c2
      refine g_iconst_0 C dX12_isWithin_28 ?_
      exact g_ret_z C false rfl dX12_isWithin_29 (Nat.le_refl _) (Nat.le_refl _) ⟨_, rfl, rfl, h⟩
    · replace h := h.2 c2
      refine g_iload_n C (i := 2) dX12_isWithin_12 rfl rfl ?_
      refine g_bipush C (v := (-30)) dX12_isWithin_13 (by decide) ?_
      refine g_icmp_lt C 28 dX12_isWithin_15 rfl (fun c3 => ?_) (fun c3 => ?_)
      · replace h := h.1 c3
        refine g_iconst_0 C dX12_isWithin_28 ?_
        exact g_ret_z C false rfl dX12_isWithin_29 (Nat.le_refl _) (Nat.le_refl _) ⟨_, rfl, rfl, h⟩
      · replace h := h.2 c3
        refine g_iload_n C (i := 2) dX12_isWithin_18 rfl rfl ?_
        refine g_bipush C (v := 30) dX12_isWithin_19 (by decide) ?_
        refine g_icmp_gt C 28 dX12_isWithin_21 rfl (fun c4 => ?_) (fun c4 => ?_)
        · replace h := h.1 c4
          refine g_iconst_0 C dX12_isWithin_28 ?_
          exact g_ret_z C false rfl dX12_isWithin_29 (Nat.le_refl _) (Nat.le_refl _) ⟨_, rfl, rfl, h⟩
        · replace h := h.2 c4
          refine g_iconst_1 C dX12_isWithin_24 ?_
          refine g_goto C 29 dX12_isWithin_25 rfl ?_
          exact g_ret_z C true rfl dX12_isWithin_29 (Nat.le_refl _) (Nat.le_refl _) ⟨_, rfl, rfl, h⟩
theorem wM_k_isWithin {D : gD} {ca : Nat → ClassId} {o : Nat → Nat} (v1 : Int32) (v2 : Int32) (I : gI) (J : gJ) (Q : Bool → Prop) (h : wM_isWithin v1 v2 I J Q) : Ct yX12_isWithin cX12_isWithin 3 (some .boolean) (rl 0) D (tyW ca) 0 0 [.ref (o 0), .int v1, .int v2] (cM ca o I J) (PPz ca o I J Q) := ct_of (rm := rl 0) (by decide +kernel) (Nat.le_of_ble_eq_true rfl) (fun Γ C => wM_isWithin_g v1 v2 I J C h)
set_option maxRecDepth 100000 in
theorem wM_isOnce_gc46 {Γ : gT} {D : gD} {ca : Nat → ClassId} {o : Nat → Nat} {Q : Bool → Prop} {I : gI} {J : gJ} (C : Cx Γ cX12_isOnce RX12 5 D (tyW ca) (rl 0) (some .boolean) 0 0 (PPz ca o I J Q)) {B3 : Int32 → Int32 → Prop} {B11 : Int32 → Int32 → Int32 → Prop} (hB3 : ∀ (v1 : Int32) (v2 : Int32) , B3 v1 v2 → G Γ 0 0 3 [(0, .ref (o 0)), (1, .int v1), (2, .int v2)] [] (cM ca o I J)) (hB11 : ∀ (v1 : Int32) (v2 : Int32) (v3 : Int32) , B11 v1 v2 v3 → G Γ 0 0 11 [(0, .ref (o 0)), (1, .int v1), (2, .int v2), (3, .int v3)] [] (cM ca o I J)) (v1 : Int32) (v2 : Int32) (v3 : Int32) (v4 : Int32) (h : wM_isOnce_c46 I J B3 B11 v1 v2 v3 v4 Q) : G Γ 0 0 46 [(0, .ref (o 0)), (1, .int v1), (2, .int v2), (3, .int v3), (4, .int v4)] [] (cM ca o I J) := by
  unfold wM_isOnce_c46 at h
  refine g_iload_n C (i := 2) dX12_isOnce_46 rfl rfl ?_
  refine g_iload_n C (i := 1) dX12_isOnce_47 rfl rfl ?_
  refine g_icmp_ge C 64 dX12_isOnce_48 rfl (fun c1 => ?_) (fun c1 => ?_)
  · replace h := h.1 c1
    refine g_iinc C 1 [(0, .ref (o 0)), (1, .int v1), (2, .int v2), (3, .int (v3 + 1)), (4, .int v4)] dX12_isOnce_64 rfl (by decide) (by decide) rfl ?_
    refine g_goto C 11 dX12_isOnce_67 rfl ?_
    exact g_weak [0, 1, 2, 3] rfl (Nat.le_refl _) (Nat.le_refl _) (hB11 v1 v2 (v3 + 1)  h)
  · replace h := h.2 c1
    refine g_aload_n C (i := 0) dX12_isOnce_51 rfl rfl ?_
    refine m_get_up C dX12_isOnce_52 ?_
    refine g_iload C (i := 4) dX12_isOnce_55 rfl ?_
    obtain ⟨h2, h⟩ := h
    refine m_iald C (k := 21) (by decide) h2 dX12_isOnce_57 ?_
    refine g_iconst_1 C dX12_isOnce_58 ?_
    refine g_icmp_eq C 64 dX12_isOnce_59 rfl (fun c3 => ?_) (fun c3 => ?_)
    · replace h := h.1 c3
      refine g_iinc C 1 [(0, .ref (o 0)), (1, .int v1), (2, .int v2), (3, .int (v3 + 1)), (4, .int v4)] dX12_isOnce_64 rfl (by decide) (by decide) rfl ?_
      refine g_goto C 11 dX12_isOnce_67 rfl ?_
      exact g_weak [0, 1, 2, 3] rfl (Nat.le_refl _) (Nat.le_refl _) (hB11 v1 v2 (v3 + 1)  h)
    · replace h := h.2 c3
      refine g_iconst_0 C dX12_isOnce_62 ?_
      exact g_ret_z C false rfl dX12_isOnce_63 (Nat.le_refl _) (Nat.le_refl _) ⟨_, rfl, rfl, h⟩
set_option maxRecDepth 100000 in
theorem wM_isOnce_gb11 {Γ : gT} {D : gD} {ca : Nat → ClassId} {o : Nat → Nat} {Q : Bool → Prop} {I : gI} {J : gJ} (C : Cx Γ cX12_isOnce RX12 5 D (tyW ca) (rl 0) (some .boolean) 0 0 (PPz ca o I J Q)) {B3 : Int32 → Int32 → Prop} (hB3 : ∀ (v1 : Int32) (v2 : Int32) , B3 v1 v2 → G Γ 0 0 3 [(0, .ref (o 0)), (1, .int v1), (2, .int v2)] [] (cM ca o I J)) {B11 : Int32 → Int32 → Int32 → Prop} (hB11 : ∀ (v1 : Int32) (v2 : Int32) (v3 : Int32) , B11 v1 v2 v3 → G Γ 0 0 11 [(0, .ref (o 0)), (1, .int v1), (2, .int v2), (3, .int v3)] [] (cM ca o I J)) (v1 : Int32) (v2 : Int32) (v3 : Int32) (h : wM_isOnce_b11 I J B3 B11 v1 v2 v3 Q) : G Γ 0 0 11 [(0, .ref (o 0)), (1, .int v1), (2, .int v2), (3, .int v3)] [] (cM ca o I J) := by
  unfold wM_isOnce_b11 at h
  refine g_iload_n C (i := 3) dX12_isOnce_11 rfl rfl ?_
  refine g_iload_n C (i := 1) dX12_isOnce_12 rfl rfl ?_
  refine g_icmp_gt C 70 dX12_isOnce_13 rfl (fun c1 => ?_) (fun c1 => ?_)
  · replace h := h.1 c1
    refine g_iinc C 1 [(0, .ref (o 0)), (1, .int v1), (2, .int (v2 + 1)), (3, .int v3)] dX12_isOnce_70 rfl (by decide) (by decide) rfl ?_
    refine g_goto C 3 dX12_isOnce_73 rfl ?_
    exact g_weak [0, 1, 2] rfl (Nat.le_refl _) (Nat.le_refl _) (hB3 v1 (v2 + 1)  h)
  · replace h := h.2 c1
    refine g_bipush C (v := 61) dX12_isOnce_16 (by decide) ?_
    refine g_iload_n C (i := 2) dX12_isOnce_18 rfl rfl ?_
    refine g_bipush C (v := 30) dX12_isOnce_19 (by decide) ?_
    refine g_iadd C dX12_isOnce_21 ?_
    refine g_imul C dX12_isOnce_22 ?_
    refine g_iload_n C (i := 3) dX12_isOnce_23 rfl rfl ?_
    refine g_iadd C dX12_isOnce_24 ?_
    refine g_bipush C (v := 30) dX12_isOnce_25 (by decide) ?_
    refine g_iadd C dX12_isOnce_27 ?_
    refine g_istore C (i := 4) [(0, .ref (o 0)), (1, .int v1), (2, .int v2), (3, .int v3), (4, .int (((61 * (v2 + 30)) + v3) + 30))] dX12_isOnce_28 (by decide) rfl ?_
    refine g_iload_n C (i := 3) dX12_isOnce_30 rfl rfl ?_
    refine g_iload_n C (i := 1) dX12_isOnce_31 rfl rfl ?_
    refine g_icmp_ge C 46 dX12_isOnce_32 rfl (fun c2 => ?_) (fun c2 => ?_)
    · replace h := h.1 c2
      exact g_weak [0, 1, 2, 3, 4] rfl (Nat.le_refl _) (Nat.le_refl _) (wM_isOnce_gc46  C hB3 hB11 v1 v2 v3 (((61 * (v2 + 30)) + v3) + 30)  h)
    · replace h := h.2 c2
      refine g_aload_n C (i := 0) dX12_isOnce_35 rfl rfl ?_
      refine m_get_along C dX12_isOnce_36 ?_
      refine g_iload C (i := 4) dX12_isOnce_39 rfl ?_
      obtain ⟨h3, h⟩ := h
      refine m_iald C (k := 20) (by decide) h3 dX12_isOnce_41 ?_
      refine g_iconst_1 C dX12_isOnce_42 ?_
      refine g_icmp_ne C 62 dX12_isOnce_43 rfl (fun c4 => ?_) (fun c4 => ?_)
      · replace h := h.1 c4
        refine g_iconst_0 C dX12_isOnce_62 ?_
        exact g_ret_z C false rfl dX12_isOnce_63 (Nat.le_refl _) (Nat.le_refl _) ⟨_, rfl, rfl, h⟩
      · replace h := h.2 c4
        exact g_weak [0, 1, 2, 3, 4] rfl (Nat.le_refl _) (Nat.le_refl _) (wM_isOnce_gc46  C hB3 hB11 v1 v2 v3 (((61 * (v2 + 30)) + v3) + 30)  h)
theorem wM_isOnce_gl11 {Γ : gT} {D : gD} {ca : Nat → ClassId} {o : Nat → Nat} {Q : Bool → Prop} {I : gI} {J : gJ} (C : Cx Γ cX12_isOnce RX12 5 D (tyW ca) (rl 0) (some .boolean) 0 0 (PPz ca o I J Q)) {B3 : Int32 → Int32 → Prop} (hB3 : ∀ (v1 : Int32) (v2 : Int32) , B3 v1 v2 → G Γ 0 0 3 [(0, .ref (o 0)), (1, .int v1), (2, .int v2)] [] (cM ca o I J)) : ∀ (n : Nat) (v1 : Int32) (v2 : Int32) (v3 : Int32) (_ : wM_isOnce_l11 I J B3 Q n v1 v2 v3 ), G Γ 0 0 11 [(0, .ref (o 0)), (1, .int v1), (2, .int v2), (3, .int v3)] [] (cM ca o I J) := by
  intro n
  induction n with
  | zero => intro v1 v2 v3  h; exact h.elim
  | succ n ih => intro v1 v2 v3  h; exact wM_isOnce_gb11 C hB3 ih v1 v2 v3 h
set_option maxRecDepth 100000 in
theorem wM_isOnce_gb3 {Γ : gT} {D : gD} {ca : Nat → ClassId} {o : Nat → Nat} {Q : Bool → Prop} {I : gI} {J : gJ} (C : Cx Γ cX12_isOnce RX12 5 D (tyW ca) (rl 0) (some .boolean) 0 0 (PPz ca o I J Q)) {B3 : Int32 → Int32 → Prop} (hB3 : ∀ (v1 : Int32) (v2 : Int32) , B3 v1 v2 → G Γ 0 0 3 [(0, .ref (o 0)), (1, .int v1), (2, .int v2)] [] (cM ca o I J)) (v1 : Int32) (v2 : Int32) (h : wM_isOnce_b3 I J B3 v1 v2 Q) : G Γ 0 0 3 [(0, .ref (o 0)), (1, .int v1), (2, .int v2)] [] (cM ca o I J) := by
  unfold wM_isOnce_b3 at h
  refine g_iload_n C (i := 2) dX12_isOnce_3 rfl rfl ?_
  refine g_iload_n C (i := 1) dX12_isOnce_4 rfl rfl ?_
  refine g_icmp_gt C 76 dX12_isOnce_5 rfl (fun c1 => ?_) (fun c1 => ?_)
  · replace h := h.1 c1
    refine g_iconst_1 C dX12_isOnce_76 ?_
    exact g_ret_z C true rfl dX12_isOnce_77 (Nat.le_refl _) (Nat.le_refl _) ⟨_, rfl, rfl, h⟩
  · replace h := h.2 c1
    refine g_iload_n C (i := 1) dX12_isOnce_8 rfl rfl ?_
    refine g_ineg C dX12_isOnce_9 ?_
    refine g_istore_n C (i := 3) [(0, .ref (o 0)), (1, .int v1), (2, .int v2), (3, .int (-v1))] dX12_isOnce_10 rfl (by decide) rfl ?_
    obtain ⟨n, h⟩ := h
    exact g_weak [0, 1, 2, 3] rfl (Nat.le_refl _) (Nat.le_refl _) (wM_isOnce_gl11  C hB3 n v1 v2 (-v1)  h)
theorem wM_isOnce_gl3 {Γ : gT} {D : gD} {ca : Nat → ClassId} {o : Nat → Nat} {Q : Bool → Prop} {I : gI} {J : gJ} (C : Cx Γ cX12_isOnce RX12 5 D (tyW ca) (rl 0) (some .boolean) 0 0 (PPz ca o I J Q)) : ∀ (n : Nat) (v1 : Int32) (v2 : Int32) (_ : wM_isOnce_l3 I J Q n v1 v2 ), G Γ 0 0 3 [(0, .ref (o 0)), (1, .int v1), (2, .int v2)] [] (cM ca o I J) := by
  intro n
  induction n with
  | zero => intro v1 v2  h; exact h.elim
  | succ n ih => intro v1 v2  h; exact wM_isOnce_gb3 C ih v1 v2 h
set_option maxRecDepth 100000 in
theorem wM_isOnce_g {Γ : gT} {D : gD} {ca : Nat → ClassId} {o : Nat → Nat} {Q : Bool → Prop} (v1 : Int32) (I : gI) (J : gJ) (C : Cx Γ cX12_isOnce RX12 5 D (tyW ca) (rl 0) (some .boolean) 0 0 (PPz ca o I J Q)) (h : wM_isOnce v1 I J Q) : G Γ 0 0 0 [(0, .ref (o 0)), (1, .int v1)] [] (cM ca o I J) := by
  unfold wM_isOnce at h
  refine g_iload_n C (i := 1) dX12_isOnce_0 rfl rfl ?_
  refine g_ineg C dX12_isOnce_1 ?_
  refine g_istore_n C (i := 2) [(0, .ref (o 0)), (1, .int v1), (2, .int (-v1))] dX12_isOnce_2 rfl (by decide) rfl ?_
  obtain ⟨n, h⟩ := h
  exact g_weak [0, 1, 2] rfl (Nat.le_refl _) (Nat.le_refl _) (wM_isOnce_gl3  C  n v1 (-v1)  h)
theorem wM_k_isOnce {D : gD} {ca : Nat → ClassId} {o : Nat → Nat} (v1 : Int32) (I : gI) (J : gJ) (Q : Bool → Prop) (h : wM_isOnce v1 I J Q) : Ct yX12_isOnce cX12_isOnce 5 (some .boolean) (rl 0) D (tyW ca) 0 0 [.ref (o 0), .int v1] (cM ca o I J) (PPz ca o I J Q) := ct_of (rm := rl 0) (by decide +kernel) (Nat.le_of_ble_eq_true rfl) (fun Γ C => wM_isOnce_g v1 I J C h)
set_option maxRecDepth 100000 in
theorem wM_isCrossed_gc138 {Γ : gT} {D : gD} {ca : Nat → ClassId} {o : Nat → Nat} {Q : Bool → Prop} {I : gI} {J : gJ} (C : Cx Γ cX12_isCrossed RX12 8 D (tyW ca) (rl 0) (some .boolean) 0 0 (PPz ca o I J Q)) {B2 : Int32 → Int32 → Prop} {B68 : Int32 → Int32 → Int32 → Int32 → Int32 → Prop} (hB2 : ∀ (v1 : Int32) (v2 : Int32) , B2 v1 v2 → G Γ 0 0 2 [(0, .ref (o 0)), (1, .int v1), (2, .int v2)] [] (cM ca o I J)) (hB68 : ∀ (v1 : Int32) (v2 : Int32) (v3 : Int32) (v4 : Int32) (v5 : Int32) , B68 v1 v2 v3 v4 v5 → G Γ 0 0 68 [(0, .ref (o 0)), (1, .int v1), (2, .int v2), (3, .int v3), (4, .int v4), (5, .int v5)] [] (cM ca o I J)) (v1 : Int32) (v2 : Int32) (v3 : Int32) (v4 : Int32) (v5 : Int32) (v6 : Int32) (s0 : Int32) (h : wM_isCrossed_c138 I J B2 B68 v1 v2 v3 v4 v5 v6 s0 Q) : G Γ 0 0 138 [(0, .ref (o 0)), (1, .int v1), (2, .int v2), (3, .int v3), (4, .int v4), (5, .int v5), (6, .int v6)] [.int s0] (cM ca o I J) := by
  unfold wM_isCrossed_c138 at h
  refine g_istore C (i := 7) [(0, .ref (o 0)), (1, .int v1), (2, .int v2), (3, .int v3), (4, .int v4), (5, .int v5), (6, .int v6), (7, .int s0)] dX12_isCrossed_138 (by decide) rfl ?_
  refine g_iload C (i := 6) dX12_isCrossed_140 rfl ?_
  refine g_iload C (i := 7) dX12_isCrossed_142 rfl ?_
  refine g_icmp_eq C 149 dX12_isCrossed_144 rfl (fun c1 => ?_) (fun c1 => ?_)
  · replace h := h.1 c1
    refine g_iinc C 2 [(0, .ref (o 0)), (1, .int v1), (2, .int v2), (3, .int v3), (4, .int v4), (5, .int (v5 + 2)), (6, .int v6), (7, .int s0)] dX12_isCrossed_149 rfl (by decide) (by decide) rfl ?_
    refine g_goto C 68 dX12_isCrossed_152 rfl ?_
    exact g_weak [0, 1, 2, 3, 4, 5] rfl (Nat.le_refl _) (Nat.le_refl _) (hB68 v1 v2 v3 v4 (v5 + 2)  h)
  · replace h := h.2 c1
    refine g_iconst_1 C dX12_isCrossed_147 ?_
    exact g_ret_z C true rfl dX12_isCrossed_148 (Nat.le_refl _) (Nat.le_refl _) ⟨_, rfl, rfl, h⟩
set_option maxRecDepth 100000 in
theorem wM_isCrossed_gc137 {Γ : gT} {D : gD} {ca : Nat → ClassId} {o : Nat → Nat} {Q : Bool → Prop} {I : gI} {J : gJ} (C : Cx Γ cX12_isCrossed RX12 8 D (tyW ca) (rl 0) (some .boolean) 0 0 (PPz ca o I J Q)) {B2 : Int32 → Int32 → Prop} {B68 : Int32 → Int32 → Int32 → Int32 → Int32 → Prop} (hB2 : ∀ (v1 : Int32) (v2 : Int32) , B2 v1 v2 → G Γ 0 0 2 [(0, .ref (o 0)), (1, .int v1), (2, .int v2)] [] (cM ca o I J)) (hB68 : ∀ (v1 : Int32) (v2 : Int32) (v3 : Int32) (v4 : Int32) (v5 : Int32) , B68 v1 v2 v3 v4 v5 → G Γ 0 0 68 [(0, .ref (o 0)), (1, .int v1), (2, .int v2), (3, .int v3), (4, .int v4), (5, .int v5)] [] (cM ca o I J)) (v1 : Int32) (v2 : Int32) (v3 : Int32) (v4 : Int32) (v5 : Int32) (v6 : Int32) (h : wM_isCrossed_c137 I J B2 B68 v1 v2 v3 v4 v5 v6 Q) : G Γ 0 0 137 [(0, .ref (o 0)), (1, .int v1), (2, .int v2), (3, .int v3), (4, .int v4), (5, .int v5), (6, .int v6)] [] (cM ca o I J) := by
  unfold wM_isCrossed_c137 at h
  refine g_iconst_0 C dX12_isCrossed_137 ?_
  exact g_weak [0, 1, 2, 3, 4, 5, 6] rfl (Nat.le_refl _) (Nat.le_refl _) (wM_isCrossed_gc138  C hB2 hB68 v1 v2 v3 v4 v5 v6 0  h)
set_option maxRecDepth 100000 in
theorem wM_isCrossed_gc104 {Γ : gT} {D : gD} {ca : Nat → ClassId} {o : Nat → Nat} {Q : Bool → Prop} {I : gI} {J : gJ} (C : Cx Γ cX12_isCrossed RX12 8 D (tyW ca) (rl 0) (some .boolean) 0 0 (PPz ca o I J Q)) {B2 : Int32 → Int32 → Prop} {B68 : Int32 → Int32 → Int32 → Int32 → Int32 → Prop} (hB2 : ∀ (v1 : Int32) (v2 : Int32) , B2 v1 v2 → G Γ 0 0 2 [(0, .ref (o 0)), (1, .int v1), (2, .int v2)] [] (cM ca o I J)) (hB68 : ∀ (v1 : Int32) (v2 : Int32) (v3 : Int32) (v4 : Int32) (v5 : Int32) , B68 v1 v2 v3 v4 v5 → G Γ 0 0 68 [(0, .ref (o 0)), (1, .int v1), (2, .int v2), (3, .int v3), (4, .int v4), (5, .int v5)] [] (cM ca o I J)) (v1 : Int32) (v2 : Int32) (v3 : Int32) (v4 : Int32) (v5 : Int32) (s0 : Int32) (h : wM_isCrossed_c104 I J B2 B68 v1 v2 v3 v4 v5 s0 Q) : G Γ 0 0 104 [(0, .ref (o 0)), (1, .int v1), (2, .int v2), (3, .int v3), (4, .int v4), (5, .int v5)] [.int s0] (cM ca o I J) := by
  unfold wM_isCrossed_c104 at h
  refine g_istore C (i := 6) [(0, .ref (o 0)), (1, .int v1), (2, .int v2), (3, .int v3), (4, .int v4), (5, .int v5), (6, .int s0)] dX12_isCrossed_104 (by decide) rfl ?_
  refine g_aload_n C (i := 0) dX12_isCrossed_106 rfl rfl ?_
  refine m_get_at C dX12_isCrossed_107 ?_
  refine g_iload C (i := 5) dX12_isCrossed_110 rfl ?_
  refine g_iconst_1 C dX12_isCrossed_112 ?_
  refine g_iadd C dX12_isCrossed_113 ?_
  obtain ⟨h1, h⟩ := h
  refine m_iald C (k := 25) (by decide) h1 dX12_isCrossed_114 ?_
  refine g_iload_n C (i := 3) dX12_isCrossed_115 rfl rfl ?_
  refine g_icmp_le C 137 dX12_isCrossed_116 rfl (fun c2 => ?_) (fun c2 => ?_)
  · replace h := h.1 c2
    exact g_weak [0, 1, 2, 3, 4, 5, 6] rfl (Nat.le_refl _) (Nat.le_refl _) (wM_isCrossed_gc137  C hB2 hB68 v1 v2 v3 v4 v5 s0  h)
  · replace h := h.2 c2
    refine g_aload_n C (i := 0) dX12_isCrossed_119 rfl rfl ?_
    refine m_get_at C dX12_isCrossed_120 ?_
    refine g_iload C (i := 5) dX12_isCrossed_123 rfl ?_
    refine g_iconst_1 C dX12_isCrossed_125 ?_
    refine g_iadd C dX12_isCrossed_126 ?_
    refine m_iald C (k := 25) (by decide) h1 dX12_isCrossed_127 ?_
    refine g_iload C (i := 4) dX12_isCrossed_128 rfl ?_
    refine g_icmp_ge C 137 dX12_isCrossed_130 rfl (fun c3 => ?_) (fun c3 => ?_)
    · replace h := h.1 c3
      exact g_weak [0, 1, 2, 3, 4, 5, 6] rfl (Nat.le_refl _) (Nat.le_refl _) (wM_isCrossed_gc137  C hB2 hB68 v1 v2 v3 v4 v5 s0  h)
    · replace h := h.2 c3
      refine g_iconst_1 C dX12_isCrossed_133 ?_
      refine g_goto C 138 dX12_isCrossed_134 rfl ?_
      exact g_weak [0, 1, 2, 3, 4, 5, 6] rfl (Nat.le_refl _) (Nat.le_refl _) (wM_isCrossed_gc138  C hB2 hB68 v1 v2 v3 v4 v5 s0 1  h)
set_option maxRecDepth 100000 in
theorem wM_isCrossed_gc103 {Γ : gT} {D : gD} {ca : Nat → ClassId} {o : Nat → Nat} {Q : Bool → Prop} {I : gI} {J : gJ} (C : Cx Γ cX12_isCrossed RX12 8 D (tyW ca) (rl 0) (some .boolean) 0 0 (PPz ca o I J Q)) {B2 : Int32 → Int32 → Prop} {B68 : Int32 → Int32 → Int32 → Int32 → Int32 → Prop} (hB2 : ∀ (v1 : Int32) (v2 : Int32) , B2 v1 v2 → G Γ 0 0 2 [(0, .ref (o 0)), (1, .int v1), (2, .int v2)] [] (cM ca o I J)) (hB68 : ∀ (v1 : Int32) (v2 : Int32) (v3 : Int32) (v4 : Int32) (v5 : Int32) , B68 v1 v2 v3 v4 v5 → G Γ 0 0 68 [(0, .ref (o 0)), (1, .int v1), (2, .int v2), (3, .int v3), (4, .int v4), (5, .int v5)] [] (cM ca o I J)) (v1 : Int32) (v2 : Int32) (v3 : Int32) (v4 : Int32) (v5 : Int32) (h : wM_isCrossed_c103 I J B2 B68 v1 v2 v3 v4 v5 Q) : G Γ 0 0 103 [(0, .ref (o 0)), (1, .int v1), (2, .int v2), (3, .int v3), (4, .int v4), (5, .int v5)] [] (cM ca o I J) := by
  unfold wM_isCrossed_c103 at h
  refine g_iconst_0 C dX12_isCrossed_103 ?_
  exact g_weak [0, 1, 2, 3, 4, 5] rfl (Nat.le_refl _) (Nat.le_refl _) (wM_isCrossed_gc104  C hB2 hB68 v1 v2 v3 v4 v5 0  h)
set_option maxRecDepth 100000 in
theorem wM_isCrossed_gb68 {Γ : gT} {D : gD} {ca : Nat → ClassId} {o : Nat → Nat} {Q : Bool → Prop} {I : gI} {J : gJ} (C : Cx Γ cX12_isCrossed RX12 8 D (tyW ca) (rl 0) (some .boolean) 0 0 (PPz ca o I J Q)) {B2 : Int32 → Int32 → Prop} (hB2 : ∀ (v1 : Int32) (v2 : Int32) , B2 v1 v2 → G Γ 0 0 2 [(0, .ref (o 0)), (1, .int v1), (2, .int v2)] [] (cM ca o I J)) {B68 : Int32 → Int32 → Int32 → Int32 → Int32 → Prop} (hB68 : ∀ (v1 : Int32) (v2 : Int32) (v3 : Int32) (v4 : Int32) (v5 : Int32) , B68 v1 v2 v3 v4 v5 → G Γ 0 0 68 [(0, .ref (o 0)), (1, .int v1), (2, .int v2), (3, .int v3), (4, .int v4), (5, .int v5)] [] (cM ca o I J)) (v1 : Int32) (v2 : Int32) (v3 : Int32) (v4 : Int32) (v5 : Int32) (h : wM_isCrossed_b68 I J B2 B68 v1 v2 v3 v4 v5 Q) : G Γ 0 0 68 [(0, .ref (o 0)), (1, .int v1), (2, .int v2), (3, .int v3), (4, .int v4), (5, .int v5)] [] (cM ca o I J) := by
  unfold wM_isCrossed_b68 at h
  refine g_iload C (i := 5) dX12_isCrossed_68 rfl ?_
  refine g_iconst_1 C dX12_isCrossed_70 ?_
  refine g_iadd C dX12_isCrossed_71 ?_
  refine g_iload_n C (i := 1) dX12_isCrossed_72 rfl rfl ?_
  refine g_icmp_ge C 155 dX12_isCrossed_73 rfl (fun c1 => ?_) (fun c1 => ?_)
  · replace h := h.1 c1
    refine g_iinc C 1 [(0, .ref (o 0)), (1, .int v1), (2, .int (v2 + 1)), (3, .int v3), (4, .int v4), (5, .int v5)] dX12_isCrossed_155 rfl (by decide) (by decide) rfl ?_
    refine g_goto C 2 dX12_isCrossed_158 rfl ?_
    exact g_weak [0, 1, 2] rfl (Nat.le_refl _) (Nat.le_refl _) (hB2 v1 (v2 + 1)  h)
  · replace h := h.2 c1
    refine g_aload_n C (i := 0) dX12_isCrossed_76 rfl rfl ?_
    refine m_get_at C dX12_isCrossed_77 ?_
    refine g_iload C (i := 5) dX12_isCrossed_80 rfl ?_
    obtain ⟨h2, h⟩ := h
    refine m_iald C (k := 25) (by decide) h2 dX12_isCrossed_82 ?_
    refine g_iload_n C (i := 3) dX12_isCrossed_83 rfl rfl ?_
    refine g_icmp_le C 103 dX12_isCrossed_84 rfl (fun c3 => ?_) (fun c3 => ?_)
    · replace h := h.1 c3
      exact g_weak [0, 1, 2, 3, 4, 5] rfl (Nat.le_refl _) (Nat.le_refl _) (wM_isCrossed_gc103  C hB2 hB68 v1 v2 v3 v4 v5  h)
    · replace h := h.2 c3
      refine g_aload_n C (i := 0) dX12_isCrossed_87 rfl rfl ?_
      refine m_get_at C dX12_isCrossed_88 ?_
      refine g_iload C (i := 5) dX12_isCrossed_91 rfl ?_
      refine m_iald C (k := 25) (by decide) h2 dX12_isCrossed_93 ?_
      refine g_iload C (i := 4) dX12_isCrossed_94 rfl ?_
      refine g_icmp_ge C 103 dX12_isCrossed_96 rfl (fun c4 => ?_) (fun c4 => ?_)
      · replace h := h.1 c4
        exact g_weak [0, 1, 2, 3, 4, 5] rfl (Nat.le_refl _) (Nat.le_refl _) (wM_isCrossed_gc103  C hB2 hB68 v1 v2 v3 v4 v5  h)
      · replace h := h.2 c4
        refine g_iconst_1 C dX12_isCrossed_99 ?_
        refine g_goto C 104 dX12_isCrossed_100 rfl ?_
        exact g_weak [0, 1, 2, 3, 4, 5] rfl (Nat.le_refl _) (Nat.le_refl _) (wM_isCrossed_gc104  C hB2 hB68 v1 v2 v3 v4 v5 1  h)
theorem wM_isCrossed_gl68 {Γ : gT} {D : gD} {ca : Nat → ClassId} {o : Nat → Nat} {Q : Bool → Prop} {I : gI} {J : gJ} (C : Cx Γ cX12_isCrossed RX12 8 D (tyW ca) (rl 0) (some .boolean) 0 0 (PPz ca o I J Q)) {B2 : Int32 → Int32 → Prop} (hB2 : ∀ (v1 : Int32) (v2 : Int32) , B2 v1 v2 → G Γ 0 0 2 [(0, .ref (o 0)), (1, .int v1), (2, .int v2)] [] (cM ca o I J)) : ∀ (n : Nat) (v1 : Int32) (v2 : Int32) (v3 : Int32) (v4 : Int32) (v5 : Int32) (_ : wM_isCrossed_l68 I J B2 Q n v1 v2 v3 v4 v5 ), G Γ 0 0 68 [(0, .ref (o 0)), (1, .int v1), (2, .int v2), (3, .int v3), (4, .int v4), (5, .int v5)] [] (cM ca o I J) := by
  intro n
  induction n with
  | zero => intro v1 v2 v3 v4 v5  h; exact h.elim
  | succ n ih => intro v1 v2 v3 v4 v5  h; exact wM_isCrossed_gb68 C hB2 ih v1 v2 v3 v4 v5 h
set_option maxRecDepth 100000 in
theorem wM_isCrossed_gc43 {Γ : gT} {D : gD} {ca : Nat → ClassId} {o : Nat → Nat} {Q : Bool → Prop} {I : gI} {J : gJ} (C : Cx Γ cX12_isCrossed RX12 8 D (tyW ca) (rl 0) (some .boolean) 0 0 (PPz ca o I J Q)) {B2 : Int32 → Int32 → Prop} (hB2 : ∀ (v1 : Int32) (v2 : Int32) , B2 v1 v2 → G Γ 0 0 2 [(0, .ref (o 0)), (1, .int v1), (2, .int v2)] [] (cM ca o I J)) (v1 : Int32) (v2 : Int32) (s0 : Int32) (h : wM_isCrossed_c43 I J B2 v1 v2 s0 Q) : G Γ 0 0 43 [(0, .ref (o 0)), (1, .int v1), (2, .int v2)] [.int s0] (cM ca o I J) := by
  unfold wM_isCrossed_c43 at h
  refine g_istore_n C (i := 3) [(0, .ref (o 0)), (1, .int v1), (2, .int v2), (3, .int s0)] dX12_isCrossed_43 rfl (by decide) rfl ?_
  refine g_aload_n C (i := 0) dX12_isCrossed_44 rfl rfl ?_
  refine m_get_at C dX12_isCrossed_45 ?_
  refine g_iload_n C (i := 2) dX12_isCrossed_48 rfl rfl ?_
  obtain ⟨h1, h⟩ := h
  refine m_iald C (k := 25) (by decide) h1 dX12_isCrossed_49 ?_
  refine g_aload_n C (i := 0) dX12_isCrossed_50 rfl rfl ?_
  refine m_get_at C dX12_isCrossed_51 ?_
  refine g_iload_n C (i := 2) dX12_isCrossed_54 rfl rfl ?_
  refine g_iconst_1 C dX12_isCrossed_55 ?_
  refine g_iadd C dX12_isCrossed_56 ?_
  obtain ⟨h2, h⟩ := h
  refine m_iald C (k := 25) (by decide) h2 dX12_isCrossed_57 ?_
  refine g_iadd C dX12_isCrossed_58 ?_
  refine g_iload_n C (i := 3) dX12_isCrossed_59 rfl rfl ?_
  refine g_isub C dX12_isCrossed_60 ?_
  refine g_topi (fun x3 e4 => ?_)
  replace h := h x3 e4
  refine g_istore C (i := 4) [(0, .ref (o 0)), (1, .int v1), (2, .int v2), (3, .int s0), (4, .int x3)] dX12_isCrossed_61 (by decide) rfl ?_
  refine g_iload_n C (i := 2) dX12_isCrossed_63 rfl rfl ?_
  refine g_iconst_2 C dX12_isCrossed_64 ?_
  refine g_iadd C dX12_isCrossed_65 ?_
  refine g_istore C (i := 5) [(0, .ref (o 0)), (1, .int v1), (2, .int v2), (3, .int s0), (4, .int x3), (5, .int (v2 + 2))] dX12_isCrossed_66 (by decide) rfl ?_
  obtain ⟨n, h⟩ := h
  exact g_weak [0, 1, 2, 3, 4, 5] rfl (Nat.le_refl _) (Nat.le_refl _) (wM_isCrossed_gl68  C hB2 n v1 v2 s0 x3 (v2 + 2)  h)
set_option maxRecDepth 100000 in
theorem wM_isCrossed_gb2 {Γ : gT} {D : gD} {ca : Nat → ClassId} {o : Nat → Nat} {Q : Bool → Prop} {I : gI} {J : gJ} (C : Cx Γ cX12_isCrossed RX12 8 D (tyW ca) (rl 0) (some .boolean) 0 0 (PPz ca o I J Q)) {B2 : Int32 → Int32 → Prop} (hB2 : ∀ (v1 : Int32) (v2 : Int32) , B2 v1 v2 → G Γ 0 0 2 [(0, .ref (o 0)), (1, .int v1), (2, .int v2)] [] (cM ca o I J)) (v1 : Int32) (v2 : Int32) (h : wM_isCrossed_b2 I J B2 v1 v2 Q) : G Γ 0 0 2 [(0, .ref (o 0)), (1, .int v1), (2, .int v2)] [] (cM ca o I J) := by
  unfold wM_isCrossed_b2 at h
  refine g_iload_n C (i := 2) dX12_isCrossed_2 rfl rfl ?_
  refine g_iconst_1 C dX12_isCrossed_3 ?_
  refine g_iadd C dX12_isCrossed_4 ?_
  refine g_iload_n C (i := 1) dX12_isCrossed_5 rfl rfl ?_
  refine g_icmp_ge C 161 dX12_isCrossed_6 rfl (fun c1 => ?_) (fun c1 => ?_)
  · replace h := h.1 c1
    refine g_iconst_0 C dX12_isCrossed_161 ?_
    exact g_ret_z C false rfl dX12_isCrossed_162 (Nat.le_refl _) (Nat.le_refl _) ⟨_, rfl, rfl, h⟩
  · replace h := h.2 c1
    refine g_aload_n C (i := 0) dX12_isCrossed_9 rfl rfl ?_
    refine m_get_at C dX12_isCrossed_10 ?_
    refine g_iload_n C (i := 2) dX12_isCrossed_13 rfl rfl ?_
    obtain ⟨h2, h⟩ := h
    refine m_iald C (k := 25) (by decide) h2 dX12_isCrossed_14 ?_
    refine g_aload_n C (i := 0) dX12_isCrossed_15 rfl rfl ?_
    refine m_get_at C dX12_isCrossed_16 ?_
    refine g_iload_n C (i := 2) dX12_isCrossed_19 rfl rfl ?_
    refine g_iconst_1 C dX12_isCrossed_20 ?_
    refine g_iadd C dX12_isCrossed_21 ?_
    obtain ⟨h3, h⟩ := h
    refine m_iald C (k := 25) (by decide) h3 dX12_isCrossed_22 ?_
    refine g_icmp_ge C 35 dX12_isCrossed_23 rfl (fun c4 => ?_) (fun c4 => ?_)
    · replace h := h.1 c4
      refine g_aload_n C (i := 0) dX12_isCrossed_35 rfl rfl ?_
      refine m_get_at C dX12_isCrossed_36 ?_
      refine g_iload_n C (i := 2) dX12_isCrossed_39 rfl rfl ?_
      refine g_iconst_1 C dX12_isCrossed_40 ?_
      refine g_iadd C dX12_isCrossed_41 ?_
      refine m_iald C (k := 25) (by decide) h3 dX12_isCrossed_42 ?_
      exact g_weak [0, 1, 2] rfl (Nat.le_refl _) (Nat.le_refl _) (wM_isCrossed_gc43  C hB2 v1 v2 (I 25 (v2 + 1).toNatClampNeg)  h)
    · replace h := h.2 c4
      refine g_aload_n C (i := 0) dX12_isCrossed_26 rfl rfl ?_
      refine m_get_at C dX12_isCrossed_27 ?_
      refine g_iload_n C (i := 2) dX12_isCrossed_30 rfl rfl ?_
      refine m_iald C (k := 25) (by decide) h2 dX12_isCrossed_31 ?_
      refine g_goto C 43 dX12_isCrossed_32 rfl ?_
      exact g_weak [0, 1, 2] rfl (Nat.le_refl _) (Nat.le_refl _) (wM_isCrossed_gc43  C hB2 v1 v2 (I 25 v2.toNatClampNeg)  h)
theorem wM_isCrossed_gl2 {Γ : gT} {D : gD} {ca : Nat → ClassId} {o : Nat → Nat} {Q : Bool → Prop} {I : gI} {J : gJ} (C : Cx Γ cX12_isCrossed RX12 8 D (tyW ca) (rl 0) (some .boolean) 0 0 (PPz ca o I J Q)) : ∀ (n : Nat) (v1 : Int32) (v2 : Int32) (_ : wM_isCrossed_l2 I J Q n v1 v2 ), G Γ 0 0 2 [(0, .ref (o 0)), (1, .int v1), (2, .int v2)] [] (cM ca o I J) := by
  intro n
  induction n with
  | zero => intro v1 v2  h; exact h.elim
  | succ n ih => intro v1 v2  h; exact wM_isCrossed_gb2 C ih v1 v2 h
set_option maxRecDepth 100000 in
theorem wM_isCrossed_g {Γ : gT} {D : gD} {ca : Nat → ClassId} {o : Nat → Nat} {Q : Bool → Prop} (v1 : Int32) (I : gI) (J : gJ) (C : Cx Γ cX12_isCrossed RX12 8 D (tyW ca) (rl 0) (some .boolean) 0 0 (PPz ca o I J Q)) (h : wM_isCrossed v1 I J Q) : G Γ 0 0 0 [(0, .ref (o 0)), (1, .int v1)] [] (cM ca o I J) := by
  unfold wM_isCrossed at h
  refine g_iconst_0 C dX12_isCrossed_0 ?_
  refine g_istore_n C (i := 2) [(0, .ref (o 0)), (1, .int v1), (2, .int 0)] dX12_isCrossed_1 rfl (by decide) rfl ?_
  obtain ⟨n, h⟩ := h
  exact g_weak [0, 1, 2] rfl (Nat.le_refl _) (Nat.le_refl _) (wM_isCrossed_gl2  C  n v1 0  h)
theorem wM_k_isCrossed {D : gD} {ca : Nat → ClassId} {o : Nat → Nat} (v1 : Int32) (I : gI) (J : gJ) (Q : Bool → Prop) (h : wM_isCrossed v1 I J Q) : Ct yX12_isCrossed cX12_isCrossed 8 (some .boolean) (rl 0) D (tyW ca) 0 0 [.ref (o 0), .int v1] (cM ca o I J) (PPz ca o I J Q) := ct_of (rm := rl 0) (by decide +kernel) (Nat.le_of_ble_eq_true rfl) (fun Γ C => wM_isCrossed_g v1 I J C h)
set_option maxRecDepth 100000 in
theorem wM_body_gc19 {Γ : gT} {D : gD} {ca : Nat → ClassId} {o : Nat → Nat} {Q : gI → gJ → Prop} (C : Cx Γ cX12_body RX12 2 D (tyW ca) (rl 0) none 0 0 (PMv ca o Q)) (I : gI) (J : gJ) (h : wM_body_c19 I J Q) : G Γ 0 0 19 [(0, .ref (o 0))] [] (cM ca o I J) := by
  unfold wM_body_c19 at h
  refine g_aload_n C (i := 0) dX12_body_19 rfl rfl ?_
  refine g_dup C dX12_body_20 rfl ?_
  refine m_get_ran C dX12_body_21 ?_
  refine g_iconst_1 C dX12_body_24 ?_
  refine g_iadd C dX12_body_25 ?_
  refine m_put_ran C dX12_body_26 ?_
  refine m_nmI _ (fun I1 e2 => ?_)
  replace h := h I1 e2
  exact g_ret_v C dX12_body_29 (Nat.le_refl _) (Nat.le_refl _) ⟨_, _, rfl, rfl, h⟩
set_option maxRecDepth 100000 in
theorem wM_body_g {Γ : gT} {D : gD} {ca : Nat → ClassId} {o : Nat → Nat} {Q : gI → gJ → Prop} (v1 : Int32) (I : gI) (J : gJ) (C : Cx Γ cX12_body RX12 2 D (tyW ca) (rl 0) none 0 0 (PMv ca o Q)) (h : wM_body v1 I J Q) : G Γ 0 0 0 [(0, .ref (o 0)), (1, .int v1)] [] (cM ca o I J) := by
  unfold wM_body at h
  refine g_aload_n C (i := 0) dX12_body_0 rfl rfl ?_
  refine m_get_ran C dX12_body_1 ?_
  refine g_bipush C (v := 20) dX12_body_4 (by decide) ?_
  refine g_icmp_ge C 19 dX12_body_6 rfl (fun c1 => ?_) (fun c1 => ?_)
  · replace h := h.1 c1
    exact g_weak [0] rfl (Nat.le_refl _) (Nat.le_refl _) (wM_body_gc19  C   I J h)
  · replace h := h.2 c1
    refine g_aload_n C (i := 0) dX12_body_9 rfl rfl ?_
    refine m_get_trace C dX12_body_10 ?_
    refine g_aload_n C (i := 0) dX12_body_13 rfl rfl ?_
    refine m_get_ran C dX12_body_14 ?_
    refine g_iload_n C (i := 1) dX12_body_17 rfl rfl ?_
    obtain ⟨h2, h⟩ := h
    refine m_iast C (k := 29) (by decide) h2 dX12_body_18 ?_
    refine m_nmI _ (fun I3 e4 => ?_)
    replace h := h I3 e4
    exact g_weak [0] rfl (Nat.le_refl _) (Nat.le_refl _) (wM_body_gc19  C   I3 J h)
theorem wM_k_body {D : gD} {ca : Nat → ClassId} {o : Nat → Nat} (v1 : Int32) (I : gI) (J : gJ) (Q : gI → gJ → Prop) (h : wM_body v1 I J Q) : Ct yX12_body cX12_body 2 none (rl 0) D (tyW ca) 0 0 [.ref (o 0), .int v1] (cM ca o I J) (PMv ca o Q) := ct_of (rm := rl 0) (by decide +kernel) (Nat.le_of_ble_eq_true rfl) (fun Γ C => wM_body_g v1 I J C h)
set_option maxRecDepth 100000 in
theorem wM_trace_g {Γ : gT} {D : gD} {ca : Nat → ClassId} {o : Nat → Nat} {Q : Int32 → Prop} (v1 : Int32) (I : gI) (J : gJ) (C : Cx Γ cX12_trace RX12 2 D (tyW ca) (rl 0) (some .int) 0 0 (PPi ca o I J Q)) (h : wM_trace v1 I J Q) : G Γ 0 0 0 [(0, .ref (o 0)), (1, .int v1)] [] (cM ca o I J) := by
  unfold wM_trace at h
  refine g_iload_n C (i := 1) dX12_trace_0 rfl rfl ?_
  refine g_if_lt C 27 dX12_trace_1 rfl (fun c1 => ?_) (fun c1 => ?_)
  · replace h := h.1 c1
    refine g_iconst_m1 C dX12_trace_27 ?_
    exact g_ret_i C dX12_trace_28 (Nat.le_refl _) (Nat.le_refl _) ⟨_, rfl, rfl, h⟩
  · replace h := h.2 c1
    refine g_iload_n C (i := 1) dX12_trace_4 rfl rfl ?_
    refine g_bipush C (v := 20) dX12_trace_5 (by decide) ?_
    refine g_icmp_ge C 27 dX12_trace_7 rfl (fun c2 => ?_) (fun c2 => ?_)
    · replace h := h.1 c2
      refine g_iconst_m1 C dX12_trace_27 ?_
      exact g_ret_i C dX12_trace_28 (Nat.le_refl _) (Nat.le_refl _) ⟨_, rfl, rfl, h⟩
    · replace h := h.2 c2
      refine g_iload_n C (i := 1) dX12_trace_10 rfl rfl ?_
      refine g_aload_n C (i := 0) dX12_trace_11 rfl rfl ?_
      refine m_get_ran C dX12_trace_12 ?_
      refine g_icmp_ge C 27 dX12_trace_15 rfl (fun c3 => ?_) (fun c3 => ?_)
      · replace h := h.1 c3
        refine g_iconst_m1 C dX12_trace_27 ?_
        exact g_ret_i C dX12_trace_28 (Nat.le_refl _) (Nat.le_refl _) ⟨_, rfl, rfl, h⟩
      · replace h := h.2 c3
        refine g_aload_n C (i := 0) dX12_trace_18 rfl rfl ?_
        refine m_get_trace C dX12_trace_19 ?_
        refine g_iload_n C (i := 1) dX12_trace_22 rfl rfl ?_
        obtain ⟨h4, h⟩ := h
        refine m_iald C (k := 29) (by decide) h4 dX12_trace_23 ?_
        refine g_goto C 28 dX12_trace_24 rfl ?_
        exact g_ret_i C dX12_trace_28 (Nat.le_refl _) (Nat.le_refl _) ⟨_, rfl, rfl, h⟩
theorem wM_k_trace {D : gD} {ca : Nat → ClassId} {o : Nat → Nat} (v1 : Int32) (I : gI) (J : gJ) (Q : Int32 → Prop) (h : wM_trace v1 I J Q) : Ct yX12_trace cX12_trace 2 (some .int) (rl 0) D (tyW ca) 0 0 [.ref (o 0), .int v1] (cM ca o I J) (PPi ca o I J Q) := ct_of (rm := rl 0) (by decide +kernel) (Nat.le_of_ble_eq_true rfl) (fun Γ C => wM_trace_g v1 I J C h)
set_option maxRecDepth 100000 in
theorem wM_row_gb79 {Γ : gT} {D : gD} {ca : Nat → ClassId} {o : Nat → Nat} {Q : Int32 → gI → gJ → Prop} (C : Cx Γ cX12_row RX12 5 D (tyW ca) (rl 1) (some .int) 0 0 (PMi ca o Q)) {B79 : Int32 → Int32 → gI → gJ → Prop} (hB79 : ∀ (v1 : Int32) (v4 : Int32) (I : gI) (J : gJ), B79 v1 v4 I J → G Γ 0 0 79 [(0, .ref (o 0)), (1, .int v1), (4, .int v4)] [] (cM ca o I J)) (v1 : Int32) (v4 : Int32) (I : gI) (J : gJ) (h : wM_row_b79 B79 v1 v4 I J Q) : G Γ 0 0 79 [(0, .ref (o 0)), (1, .int v1), (4, .int v4)] [] (cM ca o I J) := by
  unfold wM_row_b79 at h
  refine g_iload C (i := 4) dX12_row_79 rfl ?_
  refine g_sipush C (v := 160) dX12_row_81 (by decide) ?_
  refine g_icmp_ge C 107 dX12_row_84 rfl (fun c1 => ?_) (fun c1 => ?_)
  · replace h := h.1 c1
    refine g_iconst_1 C dX12_row_107 ?_
    exact g_ret_i C dX12_row_108 (Nat.le_refl _) (Nat.le_refl _) ⟨_, _, _, rfl, rfl, h⟩
  · replace h := h.2 c1
    refine g_aload_n C (i := 0) dX12_row_87 rfl rfl ?_
    refine m_get_cells C dX12_row_88 ?_
    refine g_sipush C (v := 160) dX12_row_91 (by decide) ?_
    refine g_iload_n C (i := 1) dX12_row_94 rfl rfl ?_
    refine g_imul C dX12_row_95 ?_
    refine g_iload C (i := 4) dX12_row_96 rfl ?_
    refine g_iadd C dX12_row_98 ?_
    refine g_lconst_0 C dX12_row_99 ?_
    obtain ⟨h2, h⟩ := h
    refine m_last C (k := 2) (by decide) h2 dX12_row_100 ?_
    refine m_nmJ _ (fun J3 e4 => ?_)
    replace h := h J3 e4
    refine g_iinc C 1 [(0, .ref (o 0)), (1, .int v1), (4, .int (v4 + 1))] dX12_row_101 rfl (by decide) (by decide) rfl ?_
    refine g_goto C 79 dX12_row_104 rfl ?_
    exact g_weak [0, 1, 2] rfl (Nat.le_refl _) (Nat.le_refl _) (hB79 v1 (v4 + 1) I J3 h)
theorem wM_row_gl79 {Γ : gT} {D : gD} {ca : Nat → ClassId} {o : Nat → Nat} {Q : Int32 → gI → gJ → Prop} (C : Cx Γ cX12_row RX12 5 D (tyW ca) (rl 1) (some .int) 0 0 (PMi ca o Q)) : ∀ (n : Nat) (v1 : Int32) (v4 : Int32) (I : gI) (J : gJ) (_ : wM_row_l79 Q n v1 v4 I J), G Γ 0 0 79 [(0, .ref (o 0)), (1, .int v1), (4, .int v4)] [] (cM ca o I J) := by
  intro n
  induction n with
  | zero => intro v1 v4 I J h; exact h.elim
  | succ n ih => intro v1 v4 I J h; exact wM_row_gb79 C ih v1 v4 I J h
set_option maxRecDepth 100000 in
theorem wM_row_gc34 {Γ : gT} {D : gD} {ca : Nat → ClassId} {o : Nat → Nat} {Q : Int32 → gI → gJ → Prop} (C : Cx Γ cX12_row RX12 5 D (tyW ca) (rl 1) (some .int) 0 0 (PMi ca o Q)) (I : gI) (J : gJ) (h : wM_row_c34 I J Q) : G Γ 0 0 34 [(0, .ref (o 0))] [] (cM ca o I J) := by
  unfold wM_row_c34 at h
  refine g_aload_n C (i := 0) dX12_row_34 rfl rfl ?_
  refine g_bipush C (v := (-6)) dX12_row_35 (by decide) ?_
  refine m_calli C rfl (wM_k_no (-6) I J _ h) 1 swM_no (rl_ok (by decide) (by decide)) rfl (Nat.le_of_ble_eq_true rfl) (st := []) _ rfl dX12_row_37 (fun r1 I2 J3 h => ?_)
  exact g_ret_i C dX12_row_40 (Nat.le_refl _) (Nat.le_refl _) ⟨_, _, _, rfl, rfl, h⟩
set_option maxRecDepth 100000 in
theorem wM_row_g {Γ : gT} {D : gD} {ca : Nat → ClassId} {o : Nat → Nat} {Q : Int32 → gI → gJ → Prop} (v1 : Int32) (v2 : Int32) (v3 : Int32) (I : gI) (J : gJ) (C : Cx Γ cX12_row RX12 5 D (tyW ca) (rl 1) (some .int) 0 0 (PMi ca o Q)) (h : wM_row v1 v2 v3 I J Q) : G Γ 0 0 0 [(0, .ref (o 0)), (1, .int v1), (2, .int v2), (3, .int v3)] [] (cM ca o I J) := by
  unfold wM_row at h
  refine g_aload_n C (i := 0) dX12_row_0 rfl rfl ?_
  refine g_iload_n C (i := 1) dX12_row_1 rfl rfl ?_
  refine m_callPz C rfl (wM_k_isShelf v1 I J _ h) 1 swM_isShelf (rl_ok (by decide) (by decide)) rfl (Nat.le_of_ble_eq_true rfl) (st := []) _ rfl dX12_row_2 (fun r1 h => ?_)
  refine g_zne C 14 dX12_row_5 rfl (fun c2 => ?_) (fun c2 => ?_)
  · replace h := h.1 c2
    refine g_iload_n C (i := 3) dX12_row_14 rfl rfl ?_
    refine g_if_ge C 25 dX12_row_15 rfl (fun c3 => ?_) (fun c3 => ?_)
    · replace h := h.1 c3
      refine g_iload_n C (i := 2) dX12_row_25 rfl rfl ?_
      refine g_if_lt C 34 dX12_row_26 rfl (fun c4 => ?_) (fun c4 => ?_)
      · replace h := h.1 c4
        exact g_weak [0] rfl (Nat.le_refl _) (Nat.le_refl _) (wM_row_gc34  C   I J h)
      · replace h := h.2 c4
        refine g_iload_n C (i := 2) dX12_row_29 rfl rfl ?_
        refine g_iconst_3 C dX12_row_30 ?_
        refine g_icmp_le C 41 dX12_row_31 rfl (fun c5 => ?_) (fun c5 => ?_)
        · replace h := h.1 c5
          refine g_iload_n C (i := 3) dX12_row_41 rfl rfl ?_
          refine g_sipush C (v := 160) dX12_row_42 (by decide) ?_
          refine g_icmp_le C 55 dX12_row_45 rfl (fun c6 => ?_) (fun c6 => ?_)
          · replace h := h.1 c6
            refine g_aload_n C (i := 0) dX12_row_55 rfl rfl ?_
            refine m_get_held C dX12_row_56 ?_
            refine g_iload_n C (i := 1) dX12_row_59 rfl rfl ?_
            refine g_iconst_1 C dX12_row_60 ?_
            obtain ⟨h7, h⟩ := h
            refine m_iast C (k := 5) (by decide) h7 dX12_row_61 ?_
            refine m_nmI _ (fun I8 e9 => ?_)
            replace h := h I8 e9
            refine g_aload_n C (i := 0) dX12_row_62 rfl rfl ?_
            refine m_get_sort C dX12_row_63 ?_
            refine g_iload_n C (i := 1) dX12_row_66 rfl rfl ?_
            refine g_iload_n C (i := 2) dX12_row_67 rfl rfl ?_
            refine m_iast C (k := 6) (by decide) h7 dX12_row_68 ?_
            refine m_nmI _ (fun I10 e11 => ?_)
            replace h := h I10 e11
            refine g_aload_n C (i := 0) dX12_row_69 rfl rfl ?_
            refine m_get_size C dX12_row_70 ?_
            refine g_iload_n C (i := 1) dX12_row_73 rfl rfl ?_
            refine g_iload_n C (i := 3) dX12_row_74 rfl rfl ?_
            refine m_iast C (k := 7) (by decide) h7 dX12_row_75 ?_
            refine m_nmI _ (fun I12 e13 => ?_)
            replace h := h I12 e13
            refine g_iconst_0 C dX12_row_76 ?_
            refine g_istore C (i := 4) [(0, .ref (o 0)), (1, .int v1), (2, .int v2), (3, .int v3), (4, .int 0)] dX12_row_77 (by decide) rfl ?_
            obtain ⟨n, h⟩ := h
            exact g_weak [0, 1, 4] rfl (Nat.le_refl _) (Nat.le_refl _) (wM_row_gl79  C  n v1 0 I12 J h)
          · replace h := h.2 c6
            refine g_aload_n C (i := 0) dX12_row_48 rfl rfl ?_
            refine g_bipush C (v := (-7)) dX12_row_49 (by decide) ?_
            refine m_calli C rfl (wM_k_no (-7) I J _ h) 1 swM_no (rl_ok (by decide) (by decide)) rfl (Nat.le_of_ble_eq_true rfl) (st := []) _ rfl dX12_row_51 (fun r14 I15 J16 h => ?_)
            exact g_ret_i C dX12_row_54 (Nat.le_refl _) (Nat.le_refl _) ⟨_, _, _, rfl, rfl, h⟩
        · replace h := h.2 c5
          exact g_weak [0] rfl (Nat.le_refl _) (Nat.le_refl _) (wM_row_gc34  C   I J h)
    · replace h := h.2 c3
      refine g_aload_n C (i := 0) dX12_row_18 rfl rfl ?_
      refine g_bipush C (v := (-4)) dX12_row_19 (by decide) ?_
      refine m_calli C rfl (wM_k_no (-4) I J _ h) 1 swM_no (rl_ok (by decide) (by decide)) rfl (Nat.le_of_ble_eq_true rfl) (st := []) _ rfl dX12_row_21 (fun r17 I18 J19 h => ?_)
      exact g_ret_i C dX12_row_24 (Nat.le_refl _) (Nat.le_refl _) ⟨_, _, _, rfl, rfl, h⟩
  · replace h := h.2 c2
    refine g_aload_n C (i := 0) dX12_row_8 rfl rfl ?_
    refine g_iconst_m1 C dX12_row_9 ?_
    refine m_calli C rfl (wM_k_no (-1) I J _ h) 1 swM_no (rl_ok (by decide) (by decide)) rfl (Nat.le_of_ble_eq_true rfl) (st := []) _ rfl dX12_row_10 (fun r20 I21 J22 h => ?_)
    exact g_ret_i C dX12_row_13 (Nat.le_refl _) (Nat.le_refl _) ⟨_, _, _, rfl, rfl, h⟩
theorem wM_k_row {D : gD} {ca : Nat → ClassId} {o : Nat → Nat} (v1 : Int32) (v2 : Int32) (v3 : Int32) (I : gI) (J : gJ) (Q : Int32 → gI → gJ → Prop) (h : wM_row v1 v2 v3 I J Q) : Ct yX12_row cX12_row 5 (some .int) (rl 1) D (tyW ca) 0 0 [.ref (o 0), .int v1, .int v2, .int v3] (cM ca o I J) (PMi ca o Q) := ct_of (rm := rl 1) (by decide +kernel) (Nat.le_of_ble_eq_true rfl) (fun Γ C => wM_row_g v1 v2 v3 I J C h)
set_option maxRecDepth 100000 in
theorem wM_set_gc61 {Γ : gT} {D : gD} {ca : Nat → ClassId} {o : Nat → Nat} {Q : Int32 → gI → gJ → Prop} (C : Cx Γ cX12_set RX12 5 D (tyW ca) (rl 1) (some .int) 0 0 (PMi ca o Q)) (I : gI) (J : gJ) (h : wM_set_c61 I J Q) : G Γ 0 0 61 [(0, .ref (o 0))] [] (cM ca o I J) := by
  unfold wM_set_c61 at h
  refine g_aload_n C (i := 0) dX12_set_61 rfl rfl ?_
  refine g_bipush C (v := (-5)) dX12_set_62 (by decide) ?_
  refine m_calli C rfl (wM_k_no (-5) I J _ h) 1 swM_no (rl_ok (by decide) (by decide)) rfl (Nat.le_of_ble_eq_true rfl) (st := []) _ rfl dX12_set_64 (fun r1 I2 J3 h => ?_)
  exact g_ret_i C dX12_set_67 (Nat.le_refl _) (Nat.le_refl _) ⟨_, _, _, rfl, rfl, h⟩
set_option maxRecDepth 100000 in
theorem wM_set_g {Γ : gT} {D : gD} {ca : Nat → ClassId} {o : Nat → Nat} {Q : Int32 → gI → gJ → Prop} (v1 : Int32) (v2 : Int32) (v3 : Int64) (I : gI) (J : gJ) (C : Cx Γ cX12_set RX12 5 D (tyW ca) (rl 1) (some .int) 0 0 (PMi ca o Q)) (h : wM_set v1 v2 v3 I J Q) : G Γ 0 0 0 [(0, .ref (o 0)), (1, .int v1), (2, .int v2), (3, .long v3)] [] (cM ca o I J) := by
  unfold wM_set at h
  refine g_aload_n C (i := 0) dX12_set_0 rfl rfl ?_
  refine g_iload_n C (i := 1) dX12_set_1 rfl rfl ?_
  refine m_callPz C rfl (wM_k_isShelf v1 I J _ h) 1 swM_isShelf (rl_ok (by decide) (by decide)) rfl (Nat.le_of_ble_eq_true rfl) (st := []) _ rfl dX12_set_2 (fun r1 h => ?_)
  refine g_zne C 14 dX12_set_5 rfl (fun c2 => ?_) (fun c2 => ?_)
  · replace h := h.1 c2
    refine g_aload_n C (i := 0) dX12_set_14 rfl rfl ?_
    refine m_get_held C dX12_set_15 ?_
    refine g_iload_n C (i := 1) dX12_set_18 rfl rfl ?_
    obtain ⟨h3, h⟩ := h
    refine m_iald C (k := 5) (by decide) h3 dX12_set_19 ?_
    refine g_iconst_2 C dX12_set_20 ?_
    refine g_icmp_ne C 31 dX12_set_21 rfl (fun c4 => ?_) (fun c4 => ?_)
    · replace h := h.1 c4
      refine g_aload_n C (i := 0) dX12_set_31 rfl rfl ?_
      refine m_get_held C dX12_set_32 ?_
      refine g_iload_n C (i := 1) dX12_set_35 rfl rfl ?_
      refine m_iald C (k := 5) (by decide) h3 dX12_set_36 ?_
      refine g_if_ne C 47 dX12_set_37 rfl (fun c5 => ?_) (fun c5 => ?_)
      · replace h := h.1 c5
        refine g_iload_n C (i := 2) dX12_set_47 rfl rfl ?_
        refine g_if_lt C 61 dX12_set_48 rfl (fun c6 => ?_) (fun c6 => ?_)
        · replace h := h.1 c6
          exact g_weak [0] rfl (Nat.le_refl _) (Nat.le_refl _) (wM_set_gc61  C   I J h)
        · replace h := h.2 c6
          refine g_iload_n C (i := 2) dX12_set_51 rfl rfl ?_
          refine g_aload_n C (i := 0) dX12_set_52 rfl rfl ?_
          refine m_get_size C dX12_set_53 ?_
          refine g_iload_n C (i := 1) dX12_set_56 rfl rfl ?_
          refine m_iald C (k := 7) (by decide) h3 dX12_set_57 ?_
          refine g_icmp_lt C 68 dX12_set_58 rfl (fun c7 => ?_) (fun c7 => ?_)
          · replace h := h.1 c7
            refine g_aload_n C (i := 0) dX12_set_68 rfl rfl ?_
            refine m_get_cells C dX12_set_69 ?_
            refine g_sipush C (v := 160) dX12_set_72 (by decide) ?_
            refine g_iload_n C (i := 1) dX12_set_75 rfl rfl ?_
            refine g_imul C dX12_set_76 ?_
            refine g_iload_n C (i := 2) dX12_set_77 rfl rfl ?_
            refine g_iadd C dX12_set_78 ?_
            refine g_aload_n C (i := 0) dX12_set_79 rfl rfl ?_
            refine m_get_sort C dX12_set_80 ?_
            refine g_iload_n C (i := 1) dX12_set_83 rfl rfl ?_
            refine m_iald C (k := 6) (by decide) h3 dX12_set_84 ?_
            refine g_if_ne C 95 dX12_set_85 rfl (fun c8 => ?_) (fun c8 => ?_)
            · replace h := h.1 c8
              refine g_aload_n C (i := 0) dX12_set_95 rfl rfl ?_
              refine m_get_sort C dX12_set_96 ?_
              refine g_iload_n C (i := 1) dX12_set_99 rfl rfl ?_
              refine m_iald C (k := 6) (by decide) h3 dX12_set_100 ?_
              refine g_iconst_1 C dX12_set_101 ?_
              refine g_icmp_ne C 112 dX12_set_102 rfl (fun c9 => ?_) (fun c9 => ?_)
              · replace h := h.1 c9
                refine g_aload_n C (i := 0) dX12_set_112 rfl rfl ?_
                refine m_get_sort C dX12_set_113 ?_
                refine g_iload_n C (i := 1) dX12_set_116 rfl rfl ?_
                refine m_iald C (k := 6) (by decide) h3 dX12_set_117 ?_
                refine g_iconst_2 C dX12_set_118 ?_
                refine g_icmp_ne C 128 dX12_set_119 rfl (fun c10 => ?_) (fun c10 => ?_)
                · replace h := h.1 c10
                  refine g_lload_n C (i := 3) dX12_set_128 rfl rfl ?_
                  obtain ⟨h11, h⟩ := h
                  refine m_last C (k := 2) (by decide) h11 dX12_set_129 ?_
                  refine m_nmJ _ (fun J12 e13 => ?_)
                  replace h := h J12 e13
                  refine g_iconst_1 C dX12_set_130 ?_
                  exact g_ret_i C dX12_set_131 (Nat.le_refl _) (Nat.le_refl _) ⟨_, _, _, rfl, rfl, h⟩
                · replace h := h.2 c10
                  refine g_lload_n C (i := 3) dX12_set_122 rfl rfl ?_
                  refine g_l2i C dX12_set_123 ?_
                  refine g_i2l C dX12_set_124 ?_
                  refine g_goto C 129 dX12_set_125 rfl ?_
                  obtain ⟨h14, h⟩ := h
                  refine m_last C (k := 2) (by decide) h14 dX12_set_129 ?_
                  refine m_nmJ _ (fun J15 e16 => ?_)
                  replace h := h J15 e16
                  refine g_iconst_1 C dX12_set_130 ?_
                  exact g_ret_i C dX12_set_131 (Nat.le_refl _) (Nat.le_refl _) ⟨_, _, _, rfl, rfl, h⟩
              · replace h := h.2 c9
                refine g_lload_n C (i := 3) dX12_set_105 rfl rfl ?_
                refine g_l2i C dX12_set_106 ?_
                refine g_i2s C dX12_set_107 ?_
                refine g_i2l C dX12_set_108 ?_
                refine g_goto C 129 dX12_set_109 rfl ?_
                obtain ⟨h17, h⟩ := h
                refine m_last C (k := 2) (by decide) h17 dX12_set_129 ?_
                refine m_nmJ _ (fun J18 e19 => ?_)
                replace h := h J18 e19
                refine g_iconst_1 C dX12_set_130 ?_
                exact g_ret_i C dX12_set_131 (Nat.le_refl _) (Nat.le_refl _) ⟨_, _, _, rfl, rfl, h⟩
            · replace h := h.2 c8
              refine g_lload_n C (i := 3) dX12_set_88 rfl rfl ?_
              refine g_l2i C dX12_set_89 ?_
              refine g_i2b C dX12_set_90 ?_
              refine g_i2l C dX12_set_91 ?_
              refine g_goto C 129 dX12_set_92 rfl ?_
              obtain ⟨h20, h⟩ := h
              refine m_last C (k := 2) (by decide) h20 dX12_set_129 ?_
              refine m_nmJ _ (fun J21 e22 => ?_)
              replace h := h J21 e22
              refine g_iconst_1 C dX12_set_130 ?_
              exact g_ret_i C dX12_set_131 (Nat.le_refl _) (Nat.le_refl _) ⟨_, _, _, rfl, rfl, h⟩
          · replace h := h.2 c7
            exact g_weak [0] rfl (Nat.le_refl _) (Nat.le_refl _) (wM_set_gc61  C   I J h)
      · replace h := h.2 c5
        refine g_aload_n C (i := 0) dX12_set_40 rfl rfl ?_
        refine g_bipush C (v := (-3)) dX12_set_41 (by decide) ?_
        refine m_calli C rfl (wM_k_no (-3) I J _ h) 1 swM_no (rl_ok (by decide) (by decide)) rfl (Nat.le_of_ble_eq_true rfl) (st := []) _ rfl dX12_set_43 (fun r23 I24 J25 h => ?_)
        exact g_ret_i C dX12_set_46 (Nat.le_refl _) (Nat.le_refl _) ⟨_, _, _, rfl, rfl, h⟩
    · replace h := h.2 c4
      refine g_aload_n C (i := 0) dX12_set_24 rfl rfl ?_
      refine g_bipush C (v := (-2)) dX12_set_25 (by decide) ?_
      refine m_calli C rfl (wM_k_no (-2) I J _ h) 1 swM_no (rl_ok (by decide) (by decide)) rfl (Nat.le_of_ble_eq_true rfl) (st := []) _ rfl dX12_set_27 (fun r26 I27 J28 h => ?_)
      exact g_ret_i C dX12_set_30 (Nat.le_refl _) (Nat.le_refl _) ⟨_, _, _, rfl, rfl, h⟩
  · replace h := h.2 c2
    refine g_aload_n C (i := 0) dX12_set_8 rfl rfl ?_
    refine g_iconst_m1 C dX12_set_9 ?_
    refine m_calli C rfl (wM_k_no (-1) I J _ h) 1 swM_no (rl_ok (by decide) (by decide)) rfl (Nat.le_of_ble_eq_true rfl) (st := []) _ rfl dX12_set_10 (fun r29 I30 J31 h => ?_)
    exact g_ret_i C dX12_set_13 (Nat.le_refl _) (Nat.le_refl _) ⟨_, _, _, rfl, rfl, h⟩
theorem wM_k_set {D : gD} {ca : Nat → ClassId} {o : Nat → Nat} (v1 : Int32) (v2 : Int32) (v3 : Int64) (I : gI) (J : gJ) (Q : Int32 → gI → gJ → Prop) (h : wM_set v1 v2 v3 I J Q) : Ct yX12_set cX12_set 5 (some .int) (rl 1) D (tyW ca) 0 0 [.ref (o 0), .int v1, .int v2, .long v3] (cM ca o I J) (PMi ca o Q) := ct_of (rm := rl 1) (by decide +kernel) (Nat.le_of_ble_eq_true rfl) (fun Γ C => wM_set_g v1 v2 v3 I J C h)
