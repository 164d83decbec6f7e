set_option maxRecDepth 100000 in
theorem wM_drop_gb26 {Γ : gT} {D : gD} {ca : Nat → ClassId} {o : Nat → Nat} {Q : Int32 → gI → gJ → Prop} (C : Cx Γ cX12_drop RX12 2 D (tyW ca) (rl 1) (some .int) 0 0 (PMi ca o Q)) {B26 : Int32 → gI → gJ → Prop} (hB26 : ∀ (v1 : Int32) (I : gI) (J : gJ), B26 v1 I J → G Γ 0 0 26 [(0, .ref (o 0)), (1, .int v1)] [] (cM ca o I J)) (v1 : Int32) (I : gI) (J : gJ) (h : wM_drop_b26 B26 v1 I J Q) : G Γ 0 0 26 [(0, .ref (o 0)), (1, .int v1)] [] (cM ca o I J) := by
  unfold wM_drop_b26 at h
  refine g_iload_n C (i := 1) dX12_drop_26 rfl rfl ?_
  refine g_bipush C (v := 8) dX12_drop_27 (by decide) ?_
  refine g_icmp_ge C 68 dX12_drop_29 rfl (fun c1 => ?_) (fun c1 => ?_)
  · replace h := h.1 c1
    refine g_aload_n C (i := 0) dX12_drop_68 rfl rfl ?_
    refine m_get_strips C dX12_drop_69 ?_
    exact g_ret_i C dX12_drop_72 (Nat.le_refl _) (Nat.le_refl _) ⟨_, _, _, rfl, rfl, h⟩
  · replace h := h.2 c1
    refine g_aload_n C (i := 0) dX12_drop_32 rfl rfl ?_
    refine m_get_held C dX12_drop_33 ?_
    refine g_iload_n C (i := 1) dX12_drop_36 rfl rfl ?_
    obtain ⟨h2, h⟩ := h
    refine m_iald C (k := 5) (by decide) h2 dX12_drop_37 ?_
    refine g_iconst_2 C dX12_drop_38 ?_
    refine g_icmp_ne C 62 dX12_drop_39 rfl (fun c3 => ?_) (fun c3 => ?_)
    · replace h := h.1 c3
      refine g_iinc C 1 [(0, .ref (o 0)), (1, .int (v1 + 1))] dX12_drop_62 rfl (by decide) (by decide) rfl ?_
      refine g_goto C 26 dX12_drop_65 rfl ?_
      exact g_weak [0, 1] rfl (Nat.le_refl _) (Nat.le_refl _) (hB26 (v1 + 1) I J h)
    · replace h := h.2 c3
      refine g_aload_n C (i := 0) dX12_drop_42 rfl rfl ?_
      refine m_get_shown C dX12_drop_43 ?_
      refine g_iload_n C (i := 1) dX12_drop_46 rfl rfl ?_
      refine m_iald C (k := 8) (by decide) h2 dX12_drop_47 ?_
      refine g_aload_n C (i := 0) dX12_drop_48 rfl rfl ?_
      refine m_get_strips C dX12_drop_49 ?_
      refine g_icmp_ne C 62 dX12_drop_52 rfl (fun c4 => ?_) (fun c4 => ?_)
      · replace h := h.1 c4
        refine g_iinc C 1 [(0, .ref (o 0)), (1, .int (v1 + 1))] dX12_drop_62 rfl (by decide) (by decide) rfl ?_
        refine g_goto C 26 dX12_drop_65 rfl ?_
        exact g_weak [0, 1] rfl (Nat.le_refl _) (Nat.le_refl _) (hB26 (v1 + 1) I J h)
      · replace h := h.2 c4
        refine g_aload_n C (i := 0) dX12_drop_55 rfl rfl ?_
        refine m_get_held C dX12_drop_56 ?_
        refine g_iload_n C (i := 1) dX12_drop_59 rfl rfl ?_
        refine g_iconst_0 C dX12_drop_60 ?_
        refine m_iast C (k := 5) (by decide) h2 dX12_drop_61 ?_
        refine m_nmI _ (fun I5 e6 => ?_)
        replace h := h I5 e6
        refine g_iinc C 1 [(0, .ref (o 0)), (1, .int (v1 + 1))] dX12_drop_62 rfl (by decide) (by decide) rfl ?_
        refine g_goto C 26 dX12_drop_65 rfl ?_
        exact g_weak [0, 1] rfl (Nat.le_refl _) (Nat.le_refl _) (hB26 (v1 + 1) I5 J h)
theorem wM_drop_gl26 {Γ : gT} {D : gD} {ca : Nat → ClassId} {o : Nat → Nat} {Q : Int32 → gI → gJ → Prop} (C : Cx Γ cX12_drop RX12 2 D (tyW ca) (rl 1) (some .int) 0 0 (PMi ca o Q)) : ∀ (n : Nat) (v1 : Int32) (I : gI) (J : gJ) (_ : wM_drop_l26 Q n v1 I J), G Γ 0 0 26 [(0, .ref (o 0)), (1, .int v1)] [] (cM ca o I J) := by
  intro n
  induction n with
  | zero => intro v1 I J h; exact h.elim
  | succ n ih => intro v1 I J h; exact wM_drop_gb26 C ih v1 I J h
set_option maxRecDepth 100000 in
theorem wM_drop_g {Γ : gT} {D : gD} {ca : Nat → ClassId} {o : Nat → Nat} {Q : Int32 → gI → gJ → Prop} (I : gI) (J : gJ) (C : Cx Γ cX12_drop RX12 2 D (tyW ca) (rl 1) (some .int) 0 0 (PMi ca o Q)) (h : wM_drop I J Q) : G Γ 0 0 0 [(0, .ref (o 0))] [] (cM ca o I J) := by
  unfold wM_drop at h
  refine g_aload_n C (i := 0) dX12_drop_0 rfl rfl ?_
  refine m_get_strips C dX12_drop_1 ?_
  refine g_if_ne C 14 dX12_drop_4 rfl (fun c1 => ?_) (fun c1 => ?_)
  · replace h := h.1 c1
    refine g_aload_n C (i := 0) dX12_drop_14 rfl rfl ?_
    refine g_dup C dX12_drop_15 rfl ?_
    refine m_get_strips C dX12_drop_16 ?_
    refine g_iconst_1 C dX12_drop_19 ?_
    refine g_isub C dX12_drop_20 ?_
    refine m_put_strips C dX12_drop_21 ?_
    refine m_nmI _ (fun I2 e3 => ?_)
    replace h := h I2 e3
    refine g_iconst_0 C dX12_drop_24 ?_
    refine g_istore_n C (i := 1) [(0, .ref (o 0)), (1, .int 0)] dX12_drop_25 rfl (by decide) rfl ?_
    obtain ⟨n, h⟩ := h
    exact g_weak [0, 1] rfl (Nat.le_refl _) (Nat.le_refl _) (wM_drop_gl26  C  n 0 I2 J h)
  · replace h := h.2 c1
    refine g_aload_n C (i := 0) dX12_drop_7 rfl rfl ?_
    refine g_bipush C (v := (-6)) dX12_drop_8 (by decide) ?_
    refine m_calli C rfl (wM_k_no (-6) I J _ h) 1 swM_no (rl_ok (by decide) (by decide)) rfl (Nat.le_of_ble_eq_true rfl) (st := []) _ rfl dX12_drop_10 (fun r4 I5 J6 h => ?_)
    exact g_ret_i C dX12_drop_13 (Nat.le_refl _) (Nat.le_refl _) ⟨_, _, _, rfl, rfl, h⟩
theorem wM_k_drop {D : gD} {ca : Nat → ClassId} {o : Nat → Nat} (I : gI) (J : gJ) (Q : Int32 → gI → gJ → Prop) (h : wM_drop I J Q) : Ct yX12_drop cX12_drop 2 (some .int) (rl 1) D (tyW ca) 0 0 [.ref (o 0)] (cM ca o I J) (PMi ca o Q) := ct_of (rm := rl 1) (by decide +kernel) (Nat.le_of_ble_eq_true rfl) (fun Γ C => wM_drop_g I J C h)
set_option maxRecDepth 100000 in
theorem wM_folding_gc41 {Γ : gT} {D : gD} {ca : Nat → ClassId} {o : Nat → Nat} {Q : Int32 → gI → gJ → Prop} (C : Cx Γ cX12_folding RX12 5 D (tyW ca) (rl 1) (some .int) 0 0 (PMi ca o Q)) (v1 : Int32) (v2 : Int32) (v3 : Int32) (I : gI) (J : gJ) (h : wM_folding_c41 v1 v2 v3 I J Q) : G Γ 0 0 41 [(0, .ref (o 0)), (1, .int v1), (2, .int v2), (3, .int v3)] [] (cM ca o I J) := by
  unfold wM_folding_c41 at h
  refine g_aload_n C (i := 0) dX12_folding_41 rfl rfl ?_
  refine g_bipush C (v := 10) dX12_folding_42 (by decide) ?_
  refine m_callv C rfl (wM_k_body 10 I J _ h) 1 swM_body (rl_ok (by decide) (by decide)) rfl (Nat.le_of_ble_eq_true rfl) (st := []) _ rfl dX12_folding_44 (fun I2 J3 h => ?_)
  refine g_iload_n C (i := 2) dX12_folding_47 rfl rfl ?_
  refine g_iload_n C (i := 1) dX12_folding_48 rfl rfl ?_
  refine g_iadd C dX12_folding_49 ?_
  refine g_istore C (i := 4) [(0, .ref (o 0)), (1, .int v1), (2, .int v2), (3, .int v3), (4, .int (v2 + v1))] dX12_folding_50 (by decide) rfl ?_
  refine g_iload_n C (i := 3) dX12_folding_52 rfl rfl ?_
  refine g_iconst_1 C dX12_folding_53 ?_
  refine g_icmp_ne C 69 dX12_folding_54 rfl (fun c4 => ?_) (fun c4 => ?_)
  · replace h := h.1 c4
    refine g_iload_n C (i := 3) dX12_folding_69 rfl rfl ?_
    refine g_iconst_4 C dX12_folding_70 ?_
    refine g_icmp_ne C 81 dX12_folding_71 rfl (fun c5 => ?_) (fun c5 => ?_)
    · replace h := h.1 c5
      refine g_iload_n C (i := 3) dX12_folding_81 rfl rfl ?_
      refine g_bipush C (v := 6) dX12_folding_82 (by decide) ?_
      refine g_icmp_ne C 94 dX12_folding_84 rfl (fun c6 => ?_) (fun c6 => ?_)
      · replace h := h.1 c6
        refine g_iload C (i := 4) dX12_folding_94 rfl ?_
        exact g_ret_i C dX12_folding_96 (Nat.le_refl _) (Nat.le_refl _) ⟨_, _, _, rfl, rfl, h⟩
      · replace h := h.2 c6
        refine g_iload C (i := 4) dX12_folding_87 rfl ?_
        refine g_iconst_2 C dX12_folding_89 ?_
        refine g_imul C dX12_folding_90 ?_
        refine g_goto C 96 dX12_folding_91 rfl ?_
        exact g_ret_i C dX12_folding_96 (Nat.le_refl _) (Nat.le_refl _) ⟨_, _, _, rfl, rfl, h⟩
    · replace h := h.2 c5
      refine g_iload C (i := 4) dX12_folding_74 rfl ?_
      refine g_iload_n C (i := 1) dX12_folding_76 rfl rfl ?_
      refine g_isub C dX12_folding_77 ?_
      refine g_goto C 96 dX12_folding_78 rfl ?_
      exact g_ret_i C dX12_folding_96 (Nat.le_refl _) (Nat.le_refl _) ⟨_, _, _, rfl, rfl, h⟩
  · replace h := h.2 c4
    refine g_iload C (i := 4) dX12_folding_57 rfl ?_
    refine g_aload_n C (i := 0) dX12_folding_59 rfl rfl ?_
    refine m_get_part C dX12_folding_60 ?_
    refine g_iload_n C (i := 1) dX12_folding_63 rfl rfl ?_
    obtain ⟨h7, h⟩ := h
    refine m_iald C (k := 3) (by decide) h7 dX12_folding_64 ?_
    refine g_iadd C dX12_folding_65 ?_
    refine g_goto C 96 dX12_folding_66 rfl ?_
    exact g_ret_i C dX12_folding_96 (Nat.le_refl _) (Nat.le_refl _) ⟨_, _, _, rfl, rfl, h⟩
set_option maxRecDepth 100000 in
theorem wM_folding_gc29 {Γ : gT} {D : gD} {ca : Nat → ClassId} {o : Nat → Nat} {Q : Int32 → gI → gJ → Prop} (C : Cx Γ cX12_folding RX12 5 D (tyW ca) (rl 1) (some .int) 0 0 (PMi ca o Q)) (v1 : Int32) (v2 : Int32) (v3 : Int32) (I : gI) (J : gJ) (h : wM_folding_c29 v1 v2 v3 I J Q) : G Γ 0 0 29 [(0, .ref (o 0)), (1, .int v1), (2, .int v2), (3, .int v3)] [] (cM ca o I J) := by
  unfold wM_folding_c29 at h
  refine g_iload_n C (i := 3) dX12_folding_29 rfl rfl ?_
  refine g_bipush C (v := 6) dX12_folding_30 (by decide) ?_
  refine g_icmp_ne C 41 dX12_folding_32 rfl (fun c1 => ?_) (fun c1 => ?_)
  · replace h := h.1 c1
    exact g_weak [0, 1, 2, 3] rfl (Nat.le_refl _) (Nat.le_refl _) (wM_folding_gc41  C  v1 v2 v3 I J h)
  · replace h := h.2 c1
    refine g_aload_n C (i := 0) dX12_folding_35 rfl rfl ?_
    refine g_bipush C (v := 70) dX12_folding_36 (by decide) ?_
    refine m_callv C rfl (wM_k_body 70 I J _ h) 1 swM_body (rl_ok (by decide) (by decide)) rfl (Nat.le_of_ble_eq_true rfl) (st := []) _ rfl dX12_folding_38 (fun I3 J4 h => ?_)
    exact g_weak [0, 1, 2, 3] rfl (Nat.le_refl _) (Nat.le_refl _) (wM_folding_gc41  C  v1 v2 v3 I3 J4 h)
set_option maxRecDepth 100000 in
theorem wM_folding_gc18 {Γ : gT} {D : gD} {ca : Nat → ClassId} {o : Nat → Nat} {Q : Int32 → gI → gJ → Prop} (C : Cx Γ cX12_folding RX12 5 D (tyW ca) (rl 1) (some .int) 0 0 (PMi ca o Q)) (v1 : Int32) (v2 : Int32) (v3 : Int32) (I : gI) (J : gJ) (h : wM_folding_c18 v1 v2 v3 I J Q) : G Γ 0 0 18 [(0, .ref (o 0)), (1, .int v1), (2, .int v2), (3, .int v3)] [] (cM ca o I J) := by
  unfold wM_folding_c18 at h
  refine g_iload_n C (i := 3) dX12_folding_18 rfl rfl ?_
  refine g_iconst_4 C dX12_folding_19 ?_
  refine g_icmp_ne C 29 dX12_folding_20 rfl (fun c1 => ?_) (fun c1 => ?_)
  · replace h := h.1 c1
    exact g_weak [0, 1, 2, 3] rfl (Nat.le_refl _) (Nat.le_refl _) (wM_folding_gc29  C  v1 v2 v3 I J h)
  · replace h := h.2 c1
    refine g_aload_n C (i := 0) dX12_folding_23 rfl rfl ?_
    refine g_bipush C (v := 51) dX12_folding_24 (by decide) ?_
    refine m_callv C rfl (wM_k_body 51 I J _ h) 1 swM_body (rl_ok (by decide) (by decide)) rfl (Nat.le_of_ble_eq_true rfl) (st := []) _ rfl dX12_folding_26 (fun I3 J4 h => ?_)
    exact g_weak [0, 1, 2, 3] rfl (Nat.le_refl _) (Nat.le_refl _) (wM_folding_gc29  C  v1 v2 v3 I3 J4 h)
set_option maxRecDepth 100000 in
theorem wM_folding_g {Γ : gT} {D : gD} {ca : Nat → ClassId} {o : Nat → Nat} {Q : Int32 → gI → gJ → Prop} (v1 : Int32) (v2 : Int32) (I : gI) (J : gJ) (C : Cx Γ cX12_folding RX12 5 D (tyW ca) (rl 1) (some .int) 0 0 (PMi ca o Q)) (h : wM_folding v1 v2 I J Q) : G Γ 0 0 0 [(0, .ref (o 0)), (1, .int v1), (2, .int v2)] [] (cM ca o I J) := by
  unfold wM_folding at h
  refine g_aload_n C (i := 0) dX12_folding_0 rfl rfl ?_
  refine m_get_kind C dX12_folding_1 ?_
  refine g_iload_n C (i := 1) dX12_folding_4 rfl rfl ?_
  obtain ⟨h1, h⟩ := h
  refine m_iald C (k := 2) (by decide) h1 dX12_folding_5 ?_
  refine g_istore_n C (i := 3) [(0, .ref (o 0)), (1, .int v1), (2, .int v2), (3, .int (I 2 v1.toNatClampNeg))] dX12_folding_6 rfl (by decide) rfl ?_
  refine g_iload_n C (i := 3) dX12_folding_7 rfl rfl ?_
  refine g_iconst_1 C dX12_folding_8 ?_
  refine g_icmp_ne C 18 dX12_folding_9 rfl (fun c2 => ?_) (fun c2 => ?_)
  · replace h := h.1 c2
    exact g_weak [0, 1, 2, 3] rfl (Nat.le_refl _) (Nat.le_refl _) (wM_folding_gc18  C  v1 v2 (I 2 v1.toNatClampNeg) I J h)
  · replace h := h.2 c2
    refine g_aload_n C (i := 0) dX12_folding_12 rfl rfl ?_
    refine g_bipush C (v := 20) dX12_folding_13 (by decide) ?_
    refine m_callv C rfl (wM_k_body 20 I J _ h) 1 swM_body (rl_ok (by decide) (by decide)) rfl (Nat.le_of_ble_eq_true rfl) (st := []) _ rfl dX12_folding_15 (fun I4 J5 h => ?_)
    exact g_weak [0, 1, 2, 3] rfl (Nat.le_refl _) (Nat.le_refl _) (wM_folding_gc18  C  v1 v2 (I 2 v1.toNatClampNeg) I4 J5 h)
theorem wM_k_folding {D : gD} {ca : Nat → ClassId} {o : Nat → Nat} (v1 : Int32) (v2 : Int32) (I : gI) (J : gJ) (Q : Int32 → gI → gJ → Prop) (h : wM_folding v1 v2 I J Q) : Ct yX12_folding cX12_folding 5 (some .int) (rl 1) D (tyW ca) 0 0 [.ref (o 0), .int v1, .int v2] (cM ca o I J) (PMi ca o Q) := ct_of (rm := rl 1) (by decide +kernel) (Nat.le_of_ble_eq_true rfl) (fun Γ C => wM_folding_g v1 v2 I J C h)
set_option maxRecDepth 100000 in
theorem wM_image_g {Γ : gT} {D : gD} {ca : Nat → ClassId} {o : Nat → Nat} {Q : Int32 → gI → gJ → Prop} (I : gI) (J : gJ) (C : Cx Γ cX12_image RX12 1 D (tyW ca) (rl 1) (some .int) 0 0 (PMi ca o Q)) (h : wM_image I J Q) : G Γ 0 0 0 [(0, .ref (o 0))] [] (cM ca o I J) := by
  unfold wM_image at h
  refine g_aload_n C (i := 0) dX12_image_0 rfl rfl ?_
  refine g_iconst_1 C dX12_image_1 ?_
  refine m_put_isKept C true rfl dX12_image_2 ?_
  refine m_nmI _ (fun I1 e2 => ?_)
  replace h := h I1 e2
  refine g_aload_n C (i := 0) dX12_image_5 rfl rfl ?_
  refine g_aload_n C (i := 0) dX12_image_6 rfl rfl ?_
  refine m_get_kept C dX12_image_7 ?_
  refine g_aload_n C (i := 0) dX12_image_10 rfl rfl ?_
  refine m_get_keptWord C dX12_image_11 ?_
  refine g_iconst_0 C dX12_image_14 ?_
  refine m_callv C rfl (wM_k_all (by decide) (by decide) 0 I1 J _ h) 3 swM_all (rl_ok (by decide) (by decide)) rfl (Nat.le_of_ble_eq_true rfl) (st := []) _ rfl dX12_image_15 (fun I4 J5 h => ?_)
  refine g_aload_n C (i := 0) dX12_image_18 rfl rfl ?_
  refine m_get_strips C dX12_image_19 ?_
  exact g_ret_i C dX12_image_22 (Nat.le_refl _) (Nat.le_refl _) ⟨_, _, _, rfl, rfl, h⟩
theorem wM_k_image {D : gD} {ca : Nat → ClassId} {o : Nat → Nat} (I : gI) (J : gJ) (Q : Int32 → gI → gJ → Prop) (h : wM_image I J Q) : Ct yX12_image cX12_image 1 (some .int) (rl 1) D (tyW ca) 0 0 [.ref (o 0)] (cM ca o I J) (PMi ca o Q) := ct_of (rm := rl 1) (by decide +kernel) (Nat.le_of_ble_eq_true rfl) (fun Γ C => wM_image_g I J C h)
set_option maxRecDepth 100000 in
theorem wM_restore_gb29 {Γ : gT} {D : gD} {ca : Nat → ClassId} {o : Nat → Nat} {Q : Int32 → gI → gJ → Prop} (C : Cx Γ cX12_restore RX12 2 D (tyW ca) (rl 1) (some .int) 0 0 (PMi ca o Q)) {B29 : Int32 → gI → gJ → Prop} (hB29 : ∀ (v1 : Int32) (I : gI) (J : gJ), B29 v1 I J → G Γ 0 0 29 [(0, .ref (o 0)), (1, .int v1)] [] (cM ca o I J)) (v1 : Int32) (I : gI) (J : gJ) (h : wM_restore_b29 B29 v1 I J Q) : G Γ 0 0 29 [(0, .ref (o 0)), (1, .int v1)] [] (cM ca o I J) := by
  unfold wM_restore_b29 at h
  refine g_iload_n C (i := 1) dX12_restore_29 rfl rfl ?_
  refine g_bipush C (v := 8) dX12_restore_30 (by decide) ?_
  refine g_icmp_ge C 71 dX12_restore_32 rfl (fun c1 => ?_) (fun c1 => ?_)
  · replace h := h.1 c1
    refine g_aload_n C (i := 0) dX12_restore_71 rfl rfl ?_
    refine m_get_strips C dX12_restore_72 ?_
    exact g_ret_i C dX12_restore_75 (Nat.le_refl _) (Nat.le_refl _) ⟨_, _, _, rfl, rfl, h⟩
  · replace h := h.2 c1
    refine g_aload_n C (i := 0) dX12_restore_35 rfl rfl ?_
    refine m_get_held C dX12_restore_36 ?_
    refine g_iload_n C (i := 1) dX12_restore_39 rfl rfl ?_
    obtain ⟨h2, h⟩ := h
    refine m_iald C (k := 5) (by decide) h2 dX12_restore_40 ?_
    refine g_iconst_2 C dX12_restore_41 ?_
    refine g_icmp_ne C 65 dX12_restore_42 rfl (fun c3 => ?_) (fun c3 => ?_)
    · replace h := h.1 c3
      refine g_iinc C 1 [(0, .ref (o 0)), (1, .int (v1 + 1))] dX12_restore_65 rfl (by decide) (by decide) rfl ?_
      refine g_goto C 29 dX12_restore_68 rfl ?_
      exact g_weak [0, 1] rfl (Nat.le_refl _) (Nat.le_refl _) (hB29 (v1 + 1) I J h)
    · replace h := h.2 c3
      refine g_aload_n C (i := 0) dX12_restore_45 rfl rfl ?_
      refine m_get_shown C dX12_restore_46 ?_
      refine g_iload_n C (i := 1) dX12_restore_49 rfl rfl ?_
      refine m_iald C (k := 8) (by decide) h2 dX12_restore_50 ?_
      refine g_aload_n C (i := 0) dX12_restore_51 rfl rfl ?_
      refine m_get_strips C dX12_restore_52 ?_
      refine g_icmp_lt C 65 dX12_restore_55 rfl (fun c4 => ?_) (fun c4 => ?_)
      · replace h := h.1 c4
        refine g_iinc C 1 [(0, .ref (o 0)), (1, .int (v1 + 1))] dX12_restore_65 rfl (by decide) (by decide) rfl ?_
        refine g_goto C 29 dX12_restore_68 rfl ?_
        exact g_weak [0, 1] rfl (Nat.le_refl _) (Nat.le_refl _) (hB29 (v1 + 1) I J h)
      · replace h := h.2 c4
        refine g_aload_n C (i := 0) dX12_restore_58 rfl rfl ?_
        refine m_get_held C dX12_restore_59 ?_
        refine g_iload_n C (i := 1) dX12_restore_62 rfl rfl ?_
        refine g_iconst_0 C dX12_restore_63 ?_
        refine m_iast C (k := 5) (by decide) h2 dX12_restore_64 ?_
        refine m_nmI _ (fun I5 e6 => ?_)
        replace h := h I5 e6
        refine g_iinc C 1 [(0, .ref (o 0)), (1, .int (v1 + 1))] dX12_restore_65 rfl (by decide) (by decide) rfl ?_
        refine g_goto C 29 dX12_restore_68 rfl ?_
        exact g_weak [0, 1] rfl (Nat.le_refl _) (Nat.le_refl _) (hB29 (v1 + 1) I5 J h)
theorem wM_restore_gl29 {Γ : gT} {D : gD} {ca : Nat → ClassId} {o : Nat → Nat} {Q : Int32 → gI → gJ → Prop} (C : Cx Γ cX12_restore RX12 2 D (tyW ca) (rl 1) (some .int) 0 0 (PMi ca o Q)) : ∀ (n : Nat) (v1 : Int32) (I : gI) (J : gJ) (_ : wM_restore_l29 Q n v1 I J), G Γ 0 0 29 [(0, .ref (o 0)), (1, .int v1)] [] (cM ca o I J) := by
  intro n
  induction n with
  | zero => intro v1 I J h; exact h.elim
  | succ n ih => intro v1 I J h; exact wM_restore_gb29 C ih v1 I J h
set_option maxRecDepth 100000 in
theorem wM_restore_g {Γ : gT} {D : gD} {ca : Nat → ClassId} {o : Nat → Nat} {Q : Int32 → gI → gJ → Prop} (I : gI) (J : gJ) (C : Cx Γ cX12_restore RX12 2 D (tyW ca) (rl 1) (some .int) 0 0 (PMi ca o Q)) (h : wM_restore I J Q) : G Γ 0 0 0 [(0, .ref (o 0))] [] (cM ca o I J) := by
  unfold wM_restore at h
  refine g_aload_n C (i := 0) dX12_restore_0 rfl rfl ?_
  refine m_get_isKept C dX12_restore_1 ?_
  refine g_if_ne C 14 dX12_restore_4 rfl (fun c1 => ?_) (fun c1 => ?_)
  · replace h := h.1 c1
    refine g_aload_n C (i := 0) dX12_restore_14 rfl rfl ?_
    refine g_aload_n C (i := 0) dX12_restore_15 rfl rfl ?_
    refine m_get_kept C dX12_restore_16 ?_
    refine g_aload_n C (i := 0) dX12_restore_19 rfl rfl ?_
    refine m_get_keptWord C dX12_restore_20 ?_
    refine g_iconst_1 C dX12_restore_23 ?_
    refine m_callv C rfl (wM_k_all (by decide) (by decide) 1 I J _ h) 3 swM_all (rl_ok (by decide) (by decide)) rfl (Nat.le_of_ble_eq_true rfl) (st := []) _ rfl dX12_restore_24 (fun I3 J4 h => ?_)
    refine g_iconst_0 C dX12_restore_27 ?_
    refine g_istore_n C (i := 1) [(0, .ref (o 0)), (1, .int 0)] dX12_restore_28 rfl (by decide) rfl ?_
    obtain ⟨n, h⟩ := h
    exact g_weak [0, 1] rfl (Nat.le_refl _) (Nat.le_refl _) (wM_restore_gl29  C  n 0 I3 J4 h)
  · replace h := h.2 c1
    refine g_aload_n C (i := 0) dX12_restore_7 rfl rfl ?_
    refine g_bipush C (v := (-6)) dX12_restore_8 (by decide) ?_
    refine m_calli C rfl (wM_k_no (-6) I J _ h) 1 swM_no (rl_ok (by decide) (by decide)) rfl (Nat.le_of_ble_eq_true rfl) (st := []) _ rfl dX12_restore_10 (fun r5 I6 J7 h => ?_)
    exact g_ret_i C dX12_restore_13 (Nat.le_refl _) (Nat.le_refl _) ⟨_, _, _, rfl, rfl, h⟩
theorem wM_k_restore {D : gD} {ca : Nat → ClassId} {o : Nat → Nat} (I : gI) (J : gJ) (Q : Int32 → gI → gJ → Prop) (h : wM_restore I J Q) : Ct yX12_restore cX12_restore 2 (some .int) (rl 1) D (tyW ca) 0 0 [.ref (o 0)] (cM ca o I J) (PMi ca o Q) := ct_of (rm := rl 1) (by decide +kernel) (Nat.le_of_ble_eq_true rfl) (fun Γ C => wM_restore_g I J C h)
set_option maxRecDepth 100000 in
theorem wM_status_gb101 {Γ : gT} {D : gD} {ca : Nat → ClassId} {o : Nat → Nat} {Q : Int32 → Prop} {I : gI} {J : gJ} (C : Cx Γ cX12_status RX12 5 D (tyW ca) (rl 1) (some .int) 0 0 (PPi ca o I J Q)) {B90 : Int32 → Int32 → Prop} (hB90 : ∀ (v2 : Int32) (v3 : Int32) , B90 v2 v3 → G Γ 0 0 90 [(0, .ref (o 0)), (2, .int v2), (3, .int v3)] [] (cM ca o I J)) {B101 : Int32 → Int32 → Int32 → Prop} (hB101 : ∀ (v2 : Int32) (v3 : Int32) (v4 : Int32) , B101 v2 v3 v4 → G Γ 0 0 101 [(0, .ref (o 0)), (2, .int v2), (3, .int v3), (4, .int v4)] [] (cM ca o I J)) (v2 : Int32) (v3 : Int32) (v4 : Int32) (h : wM_status_b101 I J B90 B101 v2 v3 v4 Q) : G Γ 0 0 101 [(0, .ref (o 0)), (2, .int v2), (3, .int v3), (4, .int v4)] [] (cM ca o I J) := by
  unfold wM_status_b101 at h
  refine g_iload C (i := 4) dX12_status_101 rfl ?_
  refine g_aload_n C (i := 0) dX12_status_103 rfl rfl ?_
  refine m_get_folds C dX12_status_104 ?_
  refine g_iload_n C (i := 3) dX12_status_107 rfl rfl ?_
  obtain ⟨h1, h⟩ := h
  refine m_iald C (k := 4) (by decide) h1 dX12_status_108 ?_
  refine g_icmp_ge C 128 dX12_status_109 rfl (fun c2 => ?_) (fun c2 => ?_)
  · replace h := h.1 c2
    refine g_iinc C 1 [(0, .ref (o 0)), (2, .int v2), (3, .int (v3 + 1)), (4, .int v4)] dX12_status_128 rfl (by decide) (by decide) rfl ?_
    refine g_goto C 90 dX12_status_131 rfl ?_
    exact g_weak [0, 1, 2] rfl (Nat.le_refl _) (Nat.le_refl _) (hB90 v2 (v3 + 1)  h)
  · replace h := h.2 c2
    refine g_iload_n C (i := 2) dX12_status_112 rfl rfl ?_
    refine g_aload_n C (i := 0) dX12_status_113 rfl rfl ?_
    refine g_iload_n C (i := 3) dX12_status_114 rfl rfl ?_
    refine g_iload C (i := 4) dX12_status_115 rfl ?_
    refine m_callPi C rfl (wM_k_letter v3 v4 I J _ h) 2 swM_letter (rl_ok (by decide) (by decide)) rfl (Nat.le_of_ble_eq_true rfl) (st := [.int v2]) _ rfl dX12_status_117 (fun r3 h => ?_)
    refine g_iadd C dX12_status_120 ?_
    refine g_istore_n C (i := 2) [(0, .ref (o 0)), (2, .int (v2 + r3)), (3, .int v3), (4, .int v4)] dX12_status_121 rfl (by decide) rfl ?_
    refine g_iinc C 1 [(0, .ref (o 0)), (2, .int (v2 + r3)), (3, .int v3), (4, .int (v4 + 1))] dX12_status_122 rfl (by decide) (by decide) rfl ?_
    refine g_goto C 101 dX12_status_125 rfl ?_
    exact g_weak [0, 1, 2, 3] rfl (Nat.le_refl _) (Nat.le_refl _) (hB101 (v2 + r3) v3 (v4 + 1)  h)
theorem wM_status_gl101 {Γ : gT} {D : gD} {ca : Nat → ClassId} {o : Nat → Nat} {Q : Int32 → Prop} {I : gI} {J : gJ} (C : Cx Γ cX12_status RX12 5 D (tyW ca) (rl 1) (some .int) 0 0 (PPi ca o I J Q)) {B90 : Int32 → Int32 → Prop} (hB90 : ∀ (v2 : Int32) (v3 : Int32) , B90 v2 v3 → G Γ 0 0 90 [(0, .ref (o 0)), (2, .int v2), (3, .int v3)] [] (cM ca o I J)) : ∀ (n : Nat) (v2 : Int32) (v3 : Int32) (v4 : Int32) (_ : wM_status_l101 I J B90 Q n v2 v3 v4 ), G Γ 0 0 101 [(0, .ref (o 0)), (2, .int v2), (3, .int v3), (4, .int v4)] [] (cM ca o I J) := by
  intro n
  induction n with
  | zero => intro v2 v3 v4  h; exact h.elim
  | succ n ih => intro v2 v3 v4  h; exact wM_status_gb101 C hB90 ih v2 v3 v4 h
set_option maxRecDepth 100000 in
theorem wM_status_gb90 {Γ : gT} {D : gD} {ca : Nat → ClassId} {o : Nat → Nat} {Q : Int32 → Prop} {I : gI} {J : gJ} (C : Cx Γ cX12_status RX12 5 D (tyW ca) (rl 1) (some .int) 0 0 (PPi ca o I J Q)) {B90 : Int32 → Int32 → Prop} (hB90 : ∀ (v2 : Int32) (v3 : Int32) , B90 v2 v3 → G Γ 0 0 90 [(0, .ref (o 0)), (2, .int v2), (3, .int v3)] [] (cM ca o I J)) (v2 : Int32) (v3 : Int32) (h : wM_status_b90 I J B90 v2 v3 Q) : G Γ 0 0 90 [(0, .ref (o 0)), (2, .int v2), (3, .int v3)] [] (cM ca o I J) := by
  unfold wM_status_b90 at h
  refine g_iload_n C (i := 3) dX12_status_90 rfl rfl ?_
  refine g_aload_n C (i := 0) dX12_status_91 rfl rfl ?_
  refine m_get_strips C dX12_status_92 ?_
  refine g_icmp_ge C 134 dX12_status_95 rfl (fun c1 => ?_) (fun c1 => ?_)
  · replace h := h.1 c1
    refine g_iload_n C (i := 2) dX12_status_134 rfl rfl ?_
    exact g_ret_i C dX12_status_135 (Nat.le_refl _) (Nat.le_refl _) ⟨_, rfl, rfl, h⟩
  · replace h := h.2 c1
    refine g_iconst_0 C dX12_status_98 ?_
    refine g_istore C (i := 4) [(0, .ref (o 0)), (2, .int v2), (3, .int v3), (4, .int 0)] dX12_status_99 (by decide) rfl ?_
    obtain ⟨n, h⟩ := h
    exact g_weak [0, 1, 2, 3] rfl (Nat.le_refl _) (Nat.le_refl _) (wM_status_gl101  C hB90 n v2 v3 0  h)
theorem wM_status_gl90 {Γ : gT} {D : gD} {ca : Nat → ClassId} {o : Nat → Nat} {Q : Int32 → Prop} {I : gI} {J : gJ} (C : Cx Γ cX12_status RX12 5 D (tyW ca) (rl 1) (some .int) 0 0 (PPi ca o I J Q)) : ∀ (n : Nat) (v2 : Int32) (v3 : Int32) (_ : wM_status_l90 I J Q n v2 v3 ), G Γ 0 0 90 [(0, .ref (o 0)), (2, .int v2), (3, .int v3)] [] (cM ca o I J) := by
  intro n
  induction n with
  | zero => intro v2 v3  h; exact h.elim
  | succ n ih => intro v2 v3  h; exact wM_status_gb90 C ih v2 v3 h
set_option maxRecDepth 100000 in
theorem wM_status_gb63 {Γ : gT} {D : gD} {ca : Nat → ClassId} {o : Nat → Nat} {Q : Int32 → Prop} {I : gI} {J : gJ} (C : Cx Γ cX12_status RX12 5 D (tyW ca) (rl 1) (some .int) 0 0 (PPi ca o I J Q)) {B63 : Int32 → Int32 → Prop} (hB63 : ∀ (v2 : Int32) (v3 : Int32) , B63 v2 v3 → G Γ 0 0 63 [(0, .ref (o 0)), (2, .int v2), (3, .int v3)] [] (cM ca o I J)) (v2 : Int32) (v3 : Int32) (h : wM_status_b63 I J B63 v2 v3 Q) : G Γ 0 0 63 [(0, .ref (o 0)), (2, .int v2), (3, .int v3)] [] (cM ca o I J) := by
  unfold wM_status_b63 at h
  refine g_iload_n C (i := 3) dX12_status_63 rfl rfl ?_
  refine g_aload_n C (i := 0) dX12_status_64 rfl rfl ?_
  refine m_get_strips C dX12_status_65 ?_
  refine g_icmp_ge C 86 dX12_status_68 rfl (fun c1 => ?_) (fun c1 => ?_)
  · replace h := h.1 c1
    refine g_iload_n C (i := 2) dX12_status_86 rfl rfl ?_
    exact g_ret_i C dX12_status_87 (Nat.le_refl _) (Nat.le_refl _) ⟨_, rfl, rfl, h⟩
  · replace h := h.2 c1
    refine g_iload_n C (i := 2) dX12_status_71 rfl rfl ?_
    refine g_aload_n C (i := 0) dX12_status_72 rfl rfl ?_
    refine m_get_folds C dX12_status_73 ?_
    refine g_iload_n C (i := 3) dX12_status_76 rfl rfl ?_
    obtain ⟨h2, h⟩ := h
    refine m_iald C (k := 4) (by decide) h2 dX12_status_77 ?_
    refine g_iadd C dX12_status_78 ?_
    refine g_istore_n C (i := 2) [(0, .ref (o 0)), (2, .int (v2 + (I 4 v3.toNatClampNeg))), (3, .int v3)] dX12_status_79 rfl (by decide) rfl ?_
    refine g_iinc C 1 [(0, .ref (o 0)), (2, .int (v2 + (I 4 v3.toNatClampNeg))), (3, .int (v3 + 1))] dX12_status_80 rfl (by decide) (by decide) rfl ?_
    refine g_goto C 63 dX12_status_83 rfl ?_
    exact g_weak [0, 1, 2] rfl (Nat.le_refl _) (Nat.le_refl _) (hB63 (v2 + (I 4 v3.toNatClampNeg)) (v3 + 1)  h)
theorem wM_status_gl63 {Γ : gT} {D : gD} {ca : Nat → ClassId} {o : Nat → Nat} {Q : Int32 → Prop} {I : gI} {J : gJ} (C : Cx Γ cX12_status RX12 5 D (tyW ca) (rl 1) (some .int) 0 0 (PPi ca o I J Q)) : ∀ (n : Nat) (v2 : Int32) (v3 : Int32) (_ : wM_status_l63 I J Q n v2 v3 ), G Γ 0 0 63 [(0, .ref (o 0)), (2, .int v2), (3, .int v3)] [] (cM ca o I J) := by
  intro n
  induction n with
  | zero => intro v2 v3  h; exact h.elim
  | succ n ih => intro v2 v3  h; exact wM_status_gb63 C ih v2 v3 h
set_option maxRecDepth 100000 in
theorem wM_status_gc22 {Γ : gT} {D : gD} {ca : Nat → ClassId} {o : Nat → Nat} {Q : Int32 → Prop} {I : gI} {J : gJ} (C : Cx Γ cX12_status RX12 5 D (tyW ca) (rl 1) (some .int) 0 0 (PPi ca o I J Q)) (v1 : Int32) (h : wM_status_c22 I J v1 Q) : G Γ 0 0 22 [(0, .ref (o 0)), (1, .int v1)] [] (cM ca o I J) := by
  unfold wM_status_c22 at h
  refine g_iconst_0 C dX12_status_22 ?_
  refine g_istore_n C (i := 2) [(0, .ref (o 0)), (1, .int v1), (2, .int 0)] dX12_status_23 rfl (by decide) rfl ?_
  refine g_iload_n C (i := 1) dX12_status_24 rfl rfl ?_
  by_cases c1 : v1 = 0
  · replace h := h.1 c1
    refine g_tin C 56 0 c1 (by decide) (by decide) rfl rfl dX12_status_25 ?_
    refine g_aload_n C (i := 0) dX12_status_56 rfl rfl ?_
    refine m_get_strips C dX12_status_57 ?_
    exact g_ret_i C dX12_status_60 (Nat.le_refl _) (Nat.le_refl _) ⟨_, rfl, rfl, h⟩
  replace h := h.2 c1
  by_cases c2 : v1 = 1
  · replace h := h.1 c2
    refine g_tin C 61 1 c2 (by decide) (by decide) rfl rfl dX12_status_25 ?_
    refine g_iconst_0 C dX12_status_61 ?_
    refine g_istore_n C (i := 3) [(0, .ref (o 0)), (1, .int v1), (2, .int 0), (3, .int 0)] dX12_status_62 rfl (by decide) rfl ?_
    obtain ⟨n, h⟩ := h
    exact g_weak [0, 2, 3] rfl (Nat.le_refl _) (Nat.le_refl _) (wM_status_gl63  C  n 0 0  h)
  replace h := h.2 c2
  by_cases c3 : v1 = 2
  · replace h := h.1 c3
    refine g_tin C 88 2 c3 (by decide) (by decide) rfl rfl dX12_status_25 ?_
    refine g_iconst_0 C dX12_status_88 ?_
    refine g_istore_n C (i := 3) [(0, .ref (o 0)), (1, .int v1), (2, .int 0), (3, .int 0)] dX12_status_89 rfl (by decide) rfl ?_
    obtain ⟨n, h⟩ := h
    exact g_weak [0, 2, 3] rfl (Nat.le_refl _) (Nat.le_refl _) (wM_status_gl90  C  n 0 0  h)
  replace h := h.2 c3
  by_cases c4 : v1 = 3
  · replace h := h.1 c4
    refine g_tin C 136 3 c4 (by decide) (by decide) rfl rfl dX12_status_25 ?_
    refine g_aload_n C (i := 0) dX12_status_136 rfl rfl ?_
    refine m_get_ran C dX12_status_137 ?_
    exact g_ret_i C dX12_status_140 (Nat.le_refl _) (Nat.le_refl _) ⟨_, rfl, rfl, h⟩
  replace h := h.2 c4
  refine g_tout C 141 (by have := g_ne (v := 0) (n := 0) c1 (by decide); have := g_ne (v := 1) (n := 1) c2 (by decide); have := g_ne (v := 2) (n := 2) c3 (by decide); have := g_ne (v := 3) (n := 3) c4 (by decide); omega) rfl dX12_status_25 ?_
  refine g_iconst_m1 C dX12_status_141 ?_
  exact g_ret_i C dX12_status_142 (Nat.le_refl _) (Nat.le_refl _) ⟨_, rfl, rfl, h⟩
set_option maxRecDepth 100000 in
theorem wM_status_g {Γ : gT} {D : gD} {ca : Nat → ClassId} {o : Nat → Nat} {Q : Int32 → Prop} (v1 : Int32) (I : gI) (J : gJ) (C : Cx Γ cX12_status RX12 5 D (tyW ca) (rl 1) (some .int) 0 0 (PPi ca o I J Q)) (h : wM_status v1 I J Q) : G Γ 0 0 0 [(0, .ref (o 0)), (1, .int v1)] [] (cM ca o I J) := by
  unfold wM_status at h
  refine g_iload_n C (i := 1) dX12_status_0 rfl rfl ?_
  refine g_bipush C (v := 11) dX12_status_1 (by decide) ?_
  refine g_icmp_lt C 22 dX12_status_3 rfl (fun c1 => ?_) (fun c1 => ?_)
  · replace h := h.1 c1
    exact g_weak [0, 1] rfl (Nat.le_refl _) (Nat.le_refl _) (wM_status_gc22  C  v1  h)
  · replace h := h.2 c1
    refine g_iload_n C (i := 1) dX12_status_6 rfl rfl ?_
    refine g_bipush C (v := 17) dX12_status_7 (by decide) ?_
    refine g_icmp_gt C 22 dX12_status_9 rfl (fun c2 => ?_) (fun c2 => ?_)
    · replace h := h.1 c2
      exact g_weak [0, 1] rfl (Nat.le_refl _) (Nat.le_refl _) (wM_status_gc22  C  v1  h)
    · replace h := h.2 c2
      refine g_aload_n C (i := 0) dX12_status_12 rfl rfl ?_
      refine m_get_refused C dX12_status_13 ?_
      refine g_iload_n C (i := 1) dX12_status_16 rfl rfl ?_
      refine g_bipush C (v := 10) dX12_status_17 (by decide) ?_
      refine g_isub C dX12_status_19 ?_
      obtain ⟨h3, h⟩ := h
      refine m_iald C (k := 1) (by decide) h3 dX12_status_20 ?_
      exact g_ret_i C dX12_status_21 (Nat.le_refl _) (Nat.le_refl _) ⟨_, rfl, rfl, h⟩
theorem wM_k_status {D : gD} {ca : Nat → ClassId} {o : Nat → Nat} (v1 : Int32) (I : gI) (J : gJ) (Q : Int32 → Prop) (h : wM_status v1 I J Q) : Ct yX12_status cX12_status 5 (some .int) (rl 1) D (tyW ca) 0 0 [.ref (o 0), .int v1] (cM ca o I J) (PPi ca o I J Q) := ct_of (rm := rl 1) (by decide +kernel) (Nat.le_of_ble_eq_true rfl) (fun Γ C => wM_status_g v1 I J C h)
set_option maxRecDepth 100000 in
theorem wM_bars_g {Γ : gT} {D : gD} {ca : Nat → ClassId} {o : Nat → Nat} {Q : Int32 → Prop} (v1 : Int32) (v2 : Int32) (I : gI) (J : gJ) (C : Cx Γ cX12_bars RX12 4 D (tyW ca) (rl 2) (some .int) 0 0 (PPi ca o I J Q)) (h : wM_bars v1 v2 I J Q) : G Γ 0 0 0 [(0, .ref (o 0)), (1, .int v1), (2, .int v2)] [] (cM ca o I J) := by
  unfold wM_bars at h
  refine g_aload_n C (i := 0) dX12_bars_0 rfl rfl ?_
  refine g_iload_n C (i := 1) dX12_bars_1 rfl rfl ?_
  refine m_callPi C rfl (wM_k_wants v1 I J _ h) 1 swM_wants (rl_ok (by decide) (by decide)) rfl (Nat.le_of_ble_eq_true rfl) (st := []) _ rfl dX12_bars_2 (fun r1 h => ?_)
  refine g_istore_n C (i := 3) [(0, .ref (o 0)), (1, .int v1), (2, .int v2), (3, .int r1)] dX12_bars_5 rfl (by decide) rfl ?_
  refine g_iload_n C (i := 3) dX12_bars_6 rfl rfl ?_
  refine g_if_eq C 12 dX12_bars_7 rfl (fun c2 => ?_) (fun c2 => ?_)
  · replace h := h.1 c2
    refine g_iload_n C (i := 2) dX12_bars_12 rfl rfl ?_
    refine g_if_ge C 21 dX12_bars_13 rfl (fun c3 => ?_) (fun c3 => ?_)
    · replace h := h.1 c3
      refine g_iload_n C (i := 2) dX12_bars_21 rfl rfl ?_
      refine g_aload_n C (i := 0) dX12_bars_22 rfl rfl ?_
      refine m_get_size C dX12_bars_23 ?_
      refine g_iload_n C (i := 1) dX12_bars_26 rfl rfl ?_
      obtain ⟨h4, h⟩ := h
      refine m_iald C (k := 7) (by decide) h4 dX12_bars_27 ?_
      refine g_icmp_le C 36 dX12_bars_28 rfl (fun c5 => ?_) (fun c5 => ?_)
      · replace h := h.1 c5
        refine g_iconst_0 C dX12_bars_36 ?_
        exact g_ret_i C dX12_bars_37 (Nat.le_refl _) (Nat.le_refl _) ⟨_, rfl, rfl, h⟩
      · replace h := h.2 c5
        refine g_bipush C (v := (-5)) dX12_bars_31 (by decide) ?_
        refine g_goto C 37 dX12_bars_33 rfl ?_
        exact g_ret_i C dX12_bars_37 (Nat.le_refl _) (Nat.le_refl _) ⟨_, rfl, rfl, h⟩
    · replace h := h.2 c3
      refine g_bipush C (v := (-4)) dX12_bars_16 (by decide) ?_
      refine g_goto C 37 dX12_bars_18 rfl ?_
      exact g_ret_i C dX12_bars_37 (Nat.le_refl _) (Nat.le_refl _) ⟨_, rfl, rfl, h⟩
  · replace h := h.2 c2
    refine g_iload_n C (i := 3) dX12_bars_10 rfl rfl ?_
    exact g_ret_i C dX12_bars_11 (Nat.le_refl _) (Nat.le_refl _) ⟨_, rfl, rfl, h⟩
theorem wM_k_bars {D : gD} {ca : Nat → ClassId} {o : Nat → Nat} (v1 : Int32) (v2 : Int32) (I : gI) (J : gJ) (Q : Int32 → Prop) (h : wM_bars v1 v2 I J Q) : Ct yX12_bars cX12_bars 4 (some .int) (rl 2) D (tyW ca) 0 0 [.ref (o 0), .int v1, .int v2] (cM ca o I J) (PPi ca o I J Q) := ct_of (rm := rl 2) (by decide +kernel) (Nat.le_of_ble_eq_true rfl) (fun Γ C => wM_bars_g v1 v2 I J C h)
set_option maxRecDepth 100000 in
theorem wM_item_gc121 {Γ : gT} {D : gD} {ca : Nat → ClassId} {o : Nat → Nat} {Q : Bool → gI → gJ → Prop} (C : Cx Γ cX12_item RX12 5 D (tyW ca) (rl 2) (some .boolean) 0 0 (PMz ca o Q)) (v3 : Int32) (v4 : Int32) (s1 : Int32) (I : gI) (J : gJ) (h : wM_item_c121 v3 v4 s1 I J Q) : G Γ 0 0 121 [(0, .ref (o 0)), (3, .int v3), (4, .int v4)] [.int s1, .ref (o 0)] (cM ca o I J) := by
  unfold wM_item_c121 at h
  refine m_callz C rfl (wM_k_letters s1 I J _ h) 1 swM_letters (rl_ok (by decide) (by decide)) rfl (Nat.le_of_ble_eq_true rfl) (st := []) _ rfl dX12_item_121 (fun r1 I2 J3 h => ?_)
  refine g_zne C 129 dX12_item_124 rfl (fun c4 => ?_) (fun c4 => ?_)
  · replace h := h.1 c4
    refine g_aload_n C (i := 0) dX12_item_129 rfl rfl ?_
    refine g_iload_n C (i := 3) dX12_item_130 rfl rfl ?_
    refine g_iload C (i := 4) dX12_item_131 rfl ?_
    refine g_aload_n C (i := 0) dX12_item_133 rfl rfl ?_
    refine m_get_toldMany C dX12_item_134 ?_
    refine g_aload_n C (i := 0) dX12_item_137 rfl rfl ?_
    refine m_get_toldWord C dX12_item_138 ?_
    refine m_calli C rfl (wM_k_adds v3 v4 (I2 0 7) (J3 0 0) I2 J3 _ h) 4 swM_adds (rl_ok (by decide) (by decide)) rfl (Nat.le_of_ble_eq_true rfl) (st := []) _ rfl dX12_item_141 (fun r5 I6 J7 h => ?_)
    refine g_pop C dX12_item_144 rfl ?_
    refine g_iconst_1 C dX12_item_145 ?_
    exact g_ret_z C true rfl dX12_item_146 (Nat.le_refl _) (Nat.le_refl _) ⟨_, _, _, rfl, rfl, h⟩
  · replace h := h.2 c4
    refine g_iconst_0 C dX12_item_127 ?_
    exact g_ret_z C false rfl dX12_item_128 (Nat.le_refl _) (Nat.le_refl _) ⟨_, _, _, rfl, rfl, h⟩
set_option maxRecDepth 100000 in
theorem wM_item_gc25 {Γ : gT} {D : gD} {ca : Nat → ClassId} {o : Nat → Nat} {Q : Bool → gI → gJ → Prop} (C : Cx Γ cX12_item RX12 5 D (tyW ca) (rl 2) (some .boolean) 0 0 (PMz ca o Q)) (I : gI) (J : gJ) (h : wM_item_c25 I J Q) : G Γ 0 0 25 [(0, .ref (o 0))] [] (cM ca o I J) := by
  unfold wM_item_c25 at h
  refine g_aload_n C (i := 0) dX12_item_25 rfl rfl ?_
  refine m_get_place C dX12_item_26 ?_
  refine g_istore_n C (i := 1) [(0, .ref (o 0)), (1, .int (I 0 3))] dX12_item_29 rfl (by decide) rfl ?_
  refine g_aload_n C (i := 0) dX12_item_30 rfl rfl ?_
  refine m_calli C rfl (wM_k_wordOf I J _ h) 0 swM_wordOf (rl_ok (by decide) (by decide)) rfl (Nat.le_of_ble_eq_true rfl) (st := []) _ rfl dX12_item_31 (fun r1 I2 J3 h => ?_)
  refine g_istore_n C (i := 2) [(0, .ref (o 0)), (1, .int (I 0 3)), (2, .int r1)] dX12_item_34 rfl (by decide) rfl ?_
  refine g_iload_n C (i := 2) dX12_item_35 rfl rfl ?_
  refine g_iconst_m1 C dX12_item_36 ?_
  refine g_icmp_ne C 42 dX12_item_37 rfl (fun c4 => ?_) (fun c4 => ?_)
  · replace h := h.1 c4
    refine g_iload_n C (i := 2) dX12_item_42 rfl rfl ?_
    refine g_if_ne C 147 dX12_item_43 rfl (fun c5 => ?_) (fun c5 => ?_)
    · replace h := h.1 c5
      refine g_aload_n C (i := 0) dX12_item_147 rfl rfl ?_
      refine m_get_place C dX12_item_148 ?_
      refine g_istore_n C (i := 3) [(0, .ref (o 0)), (1, .int (I 0 3)), (2, .int r1), (3, .int (I2 0 3))] dX12_item_151 rfl (by decide) rfl ?_
      refine g_aload_n C (i := 0) dX12_item_152 rfl rfl ?_
      refine g_aload_n C (i := 0) dX12_item_153 rfl rfl ?_
      refine m_get_strips C dX12_item_154 ?_
      refine g_iconst_1 C dX12_item_157 ?_
      refine g_isub C dX12_item_158 ?_
      refine m_callz C rfl (wM_k_number ((I2 0 0) - 1) I2 J3 _ h) 1 swM_number (rl_ok (by decide) (by decide)) rfl (Nat.le_of_ble_eq_true rfl) (st := []) _ rfl dX12_item_159 (fun r6 I7 J8 h => ?_)
      refine g_zne C 167 dX12_item_162 rfl (fun c9 => ?_) (fun c9 => ?_)
      · replace h := h.1 c9
        refine g_aload_n C (i := 0) dX12_item_167 rfl rfl ?_
        refine m_get_told C dX12_item_168 ?_
        refine g_istore C (i := 4) [(0, .ref (o 0)), (1, .int (I 0 3)), (2, .int r1), (3, .int (I2 0 3)), (4, .int (I7 0 5))] dX12_item_171 (by decide) rfl ?_
        refine g_iload_n C (i := 2) dX12_item_173 rfl rfl ?_
        refine g_iconst_2 C dX12_item_174 ?_
        refine g_icmp_ne C 229 dX12_item_175 rfl (fun c10 => ?_) (fun c10 => ?_)
        · replace h := h.1 c10
          refine g_aload_n C (i := 0) dX12_item_229 rfl rfl ?_
          refine m_callz C rfl (wM_k_blank I7 J8 _ h) 0 swM_blank (rl_ok (by decide) (by decide)) rfl (Nat.le_of_ble_eq_true rfl) (st := []) _ rfl dX12_item_230 (fun r11 I12 J13 h => ?_)
          refine g_zeq C 252 dX12_item_233 rfl (fun c14 => ?_) (fun c14 => ?_)
          · replace h := h.1 c14
            refine g_iconst_0 C dX12_item_252 ?_
            exact g_ret_z C false rfl dX12_item_253 (Nat.le_refl _) (Nat.le_refl _) ⟨_, _, _, rfl, rfl, h⟩
          · replace h := h.2 c14
            refine g_aload_n C (i := 0) dX12_item_236 rfl rfl ?_
            refine g_aload_n C (i := 0) dX12_item_237 rfl rfl ?_
            refine m_get_folds C dX12_item_238 ?_
            refine g_iload C (i := 4) dX12_item_241 rfl ?_
            obtain ⟨h15, h⟩ := h
            refine m_iald C (k := 4) (by decide) h15 dX12_item_243 ?_
            refine g_iconst_1 C dX12_item_244 ?_
            refine g_isub C dX12_item_245 ?_
            refine m_callz C rfl (wM_k_number ((I12 4 (I7 0 5).toNatClampNeg) - 1) I12 J13 _ h) 1 swM_number (rl_ok (by decide) (by decide)) rfl (Nat.le_of_ble_eq_true rfl) (st := []) _ rfl dX12_item_246 (fun r16 I17 J18 h => ?_)
            refine g_zne C 254 dX12_item_249 rfl (fun c19 => ?_) (fun c19 => ?_)
            · replace h := h.1 c19
              refine g_aload_n C (i := 0) dX12_item_254 rfl rfl ?_
              refine m_get_word C dX12_item_255 ?_
              refine g_iload C (i := 4) dX12_item_258 rfl ?_
              refine g_dup2 C dX12_item_260 rfl rfl ?_
              refine m_lald C (k := 1) (by decide) h15 dX12_item_261 ?_
              refine g_lconst_1 C dX12_item_262 ?_
              refine g_aload_n C (i := 0) dX12_item_263 rfl rfl ?_
              refine m_get_told C dX12_item_264 ?_
              refine g_lshl C dX12_item_267 ?_
              refine g_lxor C dX12_item_268 ?_
              refine m_last C (k := 1) (by decide) h15 dX12_item_269 ?_
              refine m_nmJ _ (fun J20 e21 => ?_)
              replace h := h J20 e21
              refine g_iconst_1 C dX12_item_270 ?_
              exact g_ret_z C true rfl dX12_item_271 (Nat.le_refl _) (Nat.le_refl _) ⟨_, _, _, rfl, rfl, h⟩
            · replace h := h.2 c19
              refine g_iconst_0 C dX12_item_252 ?_
              exact g_ret_z C false rfl dX12_item_253 (Nat.le_refl _) (Nat.le_refl _) ⟨_, _, _, rfl, rfl, h⟩
        · replace h := h.2 c10
          refine g_aload_n C (i := 0) dX12_item_178 rfl rfl ?_
          refine m_get_folds C dX12_item_179 ?_
          refine g_iload C (i := 4) dX12_item_182 rfl ?_
          obtain ⟨h22, h⟩ := h
          refine m_iald C (k := 4) (by decide) h22 dX12_item_184 ?_
          refine g_iconst_2 C dX12_item_185 ?_
          refine g_icmp_ge C 195 dX12_item_186 rfl (fun c23 => ?_) (fun c23 => ?_)
          · replace h := h.1 c23
            refine g_aload_n C (i := 0) dX12_item_195 rfl rfl ?_
            refine m_get_folds C dX12_item_196 ?_
            refine g_iload C (i := 4) dX12_item_199 rfl ?_
            refine g_dup2 C dX12_item_201 rfl rfl ?_
            refine m_iald C (k := 4) (by decide) h22 dX12_item_202 ?_
            refine g_iconst_1 C dX12_item_203 ?_
            refine g_isub C dX12_item_204 ?_
            refine m_iast C (k := 4) (by decide) h22 dX12_item_205 ?_
            refine m_nmI _ (fun I24 e25 => ?_)
            replace h := h I24 e25
            refine g_aload_n C (i := 0) dX12_item_206 rfl rfl ?_
            refine m_get_word C dX12_item_207 ?_
            refine g_iload C (i := 4) dX12_item_210 rfl ?_
            refine g_dup2 C dX12_item_212 rfl rfl ?_
            refine m_lald C (k := 1) (by decide) h22 dX12_item_213 ?_
            refine g_lconst_1 C dX12_item_214 ?_
            refine g_aload_n C (i := 0) dX12_item_215 rfl rfl ?_
            refine m_get_folds C dX12_item_216 ?_
            refine g_iload C (i := 4) dX12_item_219 rfl ?_
            refine m_iald C (k := 4) (by decide) h22 dX12_item_221 ?_
            refine g_lshl C dX12_item_222 ?_
            refine g_lconst_1 C dX12_item_223 ?_
            refine g_lsub C dX12_item_224 ?_
            refine g_land C dX12_item_225 ?_
            refine m_last C (k := 1) (by decide) h22 dX12_item_226 ?_
            refine m_nmJ _ (fun J26 e27 => ?_)
            replace h := h J26 e27
            refine g_iconst_1 C dX12_item_227 ?_
            exact g_ret_z C true rfl dX12_item_228 (Nat.le_refl _) (Nat.le_refl _) ⟨_, _, _, rfl, rfl, h⟩
          · replace h := h.2 c23
            refine g_aload_n C (i := 0) dX12_item_189 rfl rfl ?_
            refine g_iload_n C (i := 3) dX12_item_190 rfl rfl ?_
            refine m_callz C rfl (wM_k_isWrong (I2 0 3) I7 J8 _ h) 1 swM_isWrong (rl_ok (by decide) (by decide)) rfl (Nat.le_of_ble_eq_true rfl) (st := []) _ rfl dX12_item_191 (fun r28 I29 J30 h => ?_)
            exact g_ret_z C r28 rfl dX12_item_194 (Nat.le_refl _) (Nat.le_refl _) ⟨_, _, _, rfl, rfl, h⟩
      · replace h := h.2 c9
        refine g_iconst_0 C dX12_item_165 ?_
        exact g_ret_z C false rfl dX12_item_166 (Nat.le_refl _) (Nat.le_refl _) ⟨_, _, _, rfl, rfl, h⟩
    · replace h := h.2 c5
      refine g_aload_n C (i := 0) dX12_item_46 rfl rfl ?_
      refine m_get_strips C dX12_item_47 ?_
      refine g_bipush C (v := 8) dX12_item_50 (by decide) ?_
      refine g_icmp_ne C 61 dX12_item_52 rfl (fun c31 => ?_) (fun c31 => ?_)
      · replace h := h.1 c31
        refine g_aload_n C (i := 0) dX12_item_61 rfl rfl ?_
        refine g_bipush C (v := 6) dX12_item_62 (by decide) ?_
        refine m_callz C rfl (wM_k_number 6 I2 J3 _ h) 1 swM_number (rl_ok (by decide) (by decide)) rfl (Nat.le_of_ble_eq_true rfl) (st := []) _ rfl dX12_item_64 (fun r32 I33 J34 h => ?_)
        refine g_zne C 72 dX12_item_67 rfl (fun c35 => ?_) (fun c35 => ?_)
        · replace h := h.1 c35
          refine g_aload_n C (i := 0) dX12_item_72 rfl rfl ?_
          refine m_get_told C dX12_item_73 ?_
          refine g_istore_n C (i := 3) [(0, .ref (o 0)), (1, .int (I 0 3)), (2, .int r1), (3, .int (I33 0 5))] dX12_item_76 rfl (by decide) rfl ?_
          refine g_aload_n C (i := 0) dX12_item_77 rfl rfl ?_
          refine m_callz C rfl (wM_k_blank I33 J34 _ h) 0 swM_blank (rl_ok (by decide) (by decide)) rfl (Nat.le_of_ble_eq_true rfl) (st := []) _ rfl dX12_item_78 (fun r36 I37 J38 h => ?_)
          refine g_zeq C 93 dX12_item_81 rfl (fun c39 => ?_) (fun c39 => ?_)
          · replace h := h.1 c39
            refine g_iconst_0 C dX12_item_93 ?_
            exact g_ret_z C false rfl dX12_item_94 (Nat.le_refl _) (Nat.le_refl _) ⟨_, _, _, rfl, rfl, h⟩
          · replace h := h.2 c39
            refine g_aload_n C (i := 0) dX12_item_84 rfl rfl ?_
            refine g_ldc C (v := 999999) (tb_in (List.mem_of_getElem? (i := 1560) (by decide +kernel)) (by decide +kernel)) dX12_item_85 ?_
            refine m_callz C rfl (wM_k_number 999999 I37 J38 _ h) 1 swM_number (rl_ok (by decide) (by decide)) rfl (Nat.le_of_ble_eq_true rfl) (st := []) _ rfl dX12_item_87 (fun r40 I41 J42 h => ?_)
            refine g_zne C 95 dX12_item_90 rfl (fun c43 => ?_) (fun c43 => ?_)
            · replace h := h.1 c43
              refine g_aload_n C (i := 0) dX12_item_95 rfl rfl ?_
              refine m_get_told C dX12_item_96 ?_
              refine g_istore C (i := 4) [(0, .ref (o 0)), (1, .int (I 0 3)), (2, .int r1), (3, .int (I33 0 5)), (4, .int (I41 0 5))] dX12_item_99 (by decide) rfl ?_
              refine g_aload_n C (i := 0) dX12_item_101 rfl rfl ?_
              refine m_callz C rfl (wM_k_blank I41 J42 _ h) 0 swM_blank (rl_ok (by decide) (by decide)) rfl (Nat.le_of_ble_eq_true rfl) (st := []) _ rfl dX12_item_102 (fun r44 I45 J46 h => ?_)
              refine g_zeq C 127 dX12_item_105 rfl (fun c47 => ?_) (fun c47 => ?_)
              · replace h := h.1 c47
                refine g_iconst_0 C dX12_item_127 ?_
                exact g_ret_z C false rfl dX12_item_128 (Nat.le_refl _) (Nat.le_refl _) ⟨_, _, _, rfl, rfl, h⟩
              · replace h := h.2 c47
                refine g_aload_n C (i := 0) dX12_item_108 rfl rfl ?_
                refine g_iload_n C (i := 3) dX12_item_109 rfl rfl ?_
                refine g_iconst_2 C dX12_item_110 ?_
                refine g_icmp_ne C 119 dX12_item_111 rfl (fun c48 => ?_) (fun c48 => ?_)
                · replace h := h.1 c48
                  refine g_bipush C (v := 40) dX12_item_119 (by decide) ?_
                  exact g_weak [0, 3, 4] rfl (Nat.le_refl _) (Nat.le_refl _) (wM_item_gc121  C  (I33 0 5) (I41 0 5) 40 I45 J46 h)
                · replace h := h.2 c48
                  refine g_bipush C (v := 25) dX12_item_114 (by decide) ?_
                  refine g_goto C 121 dX12_item_116 rfl ?_
                  exact g_weak [0, 3, 4] rfl (Nat.le_refl _) (Nat.le_refl _) (wM_item_gc121  C  (I33 0 5) (I41 0 5) 25 I45 J46 h)
            · replace h := h.2 c43
              refine g_iconst_0 C dX12_item_93 ?_
              exact g_ret_z C false rfl dX12_item_94 (Nat.le_refl _) (Nat.le_refl _) ⟨_, _, _, rfl, rfl, h⟩
        · replace h := h.2 c35
          refine g_iconst_0 C dX12_item_70 ?_
          exact g_ret_z C false rfl dX12_item_71 (Nat.le_refl _) (Nat.le_refl _) ⟨_, _, _, rfl, rfl, h⟩
      · replace h := h.2 c31
        refine g_aload_n C (i := 0) dX12_item_55 rfl rfl ?_
        refine g_iload_n C (i := 1) dX12_item_56 rfl rfl ?_
        refine m_callz C rfl (wM_k_isWrong (I 0 3) I2 J3 _ h) 1 swM_isWrong (rl_ok (by decide) (by decide)) rfl (Nat.le_of_ble_eq_true rfl) (st := []) _ rfl dX12_item_57 (fun r49 I50 J51 h => ?_)
        exact g_ret_z C r49 rfl dX12_item_60 (Nat.le_refl _) (Nat.le_refl _) ⟨_, _, _, rfl, rfl, h⟩
  · replace h := h.2 c4
    refine g_iconst_0 C dX12_item_40 ?_
    exact g_ret_z C false rfl dX12_item_41 (Nat.le_refl _) (Nat.le_refl _) ⟨_, _, _, rfl, rfl, h⟩
set_option maxRecDepth 100000 in
theorem wM_item_g {Γ : gT} {D : gD} {ca : Nat → ClassId} {o : Nat → Nat} {Q : Bool → gI → gJ → Prop} (I : gI) (J : gJ) (C : Cx Γ cX12_item RX12 5 D (tyW ca) (rl 2) (some .boolean) 0 0 (PMz ca o Q)) (h : wM_item I J Q) : G Γ 0 0 0 [(0, .ref (o 0))] [] (cM ca o I J) := by
  unfold wM_item at h
  refine g_aload_n C (i := 0) dX12_item_0 rfl rfl ?_
  refine m_get_strips C dX12_item_1 ?_
  refine g_bipush C (v := 8) dX12_item_4 (by decide) ?_
  refine g_icmp_ne C 25 dX12_item_6 rfl (fun c1 => ?_) (fun c1 => ?_)
  · replace h := h.1 c1
    exact g_weak [0] rfl (Nat.le_refl _) (Nat.le_refl _) (wM_item_gc25  C   I J h)
  · replace h := h.2 c1
    refine g_aload_n C (i := 0) dX12_item_9 rfl rfl ?_
    refine m_callPz C rfl (wM_k_isStrip_ I J _ h) 0 swM_isStrip_ (rl_ok (by decide) (by decide)) rfl (Nat.le_of_ble_eq_true rfl) (st := []) _ rfl dX12_item_10 (fun r2 h => ?_)
    refine g_zeq C 25 dX12_item_13 rfl (fun c3 => ?_) (fun c3 => ?_)
    · replace h := h.1 c3
      exact g_weak [0] rfl (Nat.le_refl _) (Nat.le_refl _) (wM_item_gc25  C   I J h)
    · replace h := h.2 c3
      refine g_aload_n C (i := 0) dX12_item_16 rfl rfl ?_
      refine g_aload_n C (i := 0) dX12_item_17 rfl rfl ?_
      refine m_get_place C dX12_item_18 ?_
      refine m_callz C rfl (wM_k_isWrong (I 0 3) I J _ h) 1 swM_isWrong (rl_ok (by decide) (by decide)) rfl (Nat.le_of_ble_eq_true rfl) (st := []) _ rfl dX12_item_21 (fun r4 I5 J6 h => ?_)
      exact g_ret_z C r4 rfl dX12_item_24 (Nat.le_refl _) (Nat.le_refl _) ⟨_, _, _, rfl, rfl, h⟩
theorem wM_k_item {D : gD} {ca : Nat → ClassId} {o : Nat → Nat} (I : gI) (J : gJ) (Q : Bool → gI → gJ → Prop) (h : wM_item I J Q) : Ct yX12_item cX12_item 5 (some .boolean) (rl 2) D (tyW ca) 0 0 [.ref (o 0)] (cM ca o I J) (PMz ca o Q) := ct_of (rm := rl 2) (by decide +kernel) (Nat.le_of_ble_eq_true rfl) (fun Γ C => wM_item_g I J C h)
set_option maxRecDepth 100000 in
theorem wM_cutOf_gc20 {Γ : gT} {D : gD} {ca : Nat → ClassId} {o : Nat → Nat} {Q : Int64 → Prop} {I : gI} {J : gJ} (C : Cx Γ cX12_cutOf RX12 2 D (tyW ca) (rl 2) (some .long) 0 0 (PPl ca o I J Q)) (v1 : Int32) (h : wM_cutOf_c20 I J v1 Q) : G Γ 0 0 20 [(0, .ref (o 0)), (1, .int v1)] [] (cM ca o I J) := by
  unfold wM_cutOf_c20 at h
  refine g_aload_n C (i := 0) dX12_cutOf_20 rfl rfl ?_
  refine m_get_part C dX12_cutOf_21 ?_
  refine g_iload_n C (i := 1) dX12_cutOf_24 rfl rfl ?_
  obtain ⟨h1, h⟩ := h
  refine m_iald C (k := 3) (by decide) h1 dX12_cutOf_25 ?_
  refine g_i2l C dX12_cutOf_26 ?_
  refine g_aload_n C (i := 0) dX12_cutOf_27 rfl rfl ?_
  refine g_iload_n C (i := 1) dX12_cutOf_28 rfl rfl ?_
  refine m_callPl C rfl (wM_k_whole v1 I J _ h) 1 swM_whole (rl_ok (by decide) (by decide)) rfl (Nat.le_of_ble_eq_true rfl) (st := [.long ((I 3 v1.toNatClampNeg).toInt64)]) _ rfl dX12_cutOf_29 (fun r2 h => ?_)
  obtain ⟨h3, h⟩ := h
  refine g_lrem C dX12_cutOf_32 h3 ?_
  refine g_goto C 37 dX12_cutOf_33 rfl ?_
  exact g_ret_l C dX12_cutOf_37 (Nat.le_refl _) (Nat.le_refl _) ⟨_, rfl, rfl, h⟩
set_option maxRecDepth 100000 in
theorem wM_cutOf_g {Γ : gT} {D : gD} {ca : Nat → ClassId} {o : Nat → Nat} {Q : Int64 → Prop} (v1 : Int32) (I : gI) (J : gJ) (C : Cx Γ cX12_cutOf RX12 2 D (tyW ca) (rl 2) (some .long) 0 0 (PPl ca o I J Q)) (h : wM_cutOf v1 I J Q) : G Γ 0 0 0 [(0, .ref (o 0)), (1, .int v1)] [] (cM ca o I J) := by
  unfold wM_cutOf at h
  refine g_aload_n C (i := 0) dX12_cutOf_0 rfl rfl ?_
  refine m_get_kind C dX12_cutOf_1 ?_
  refine g_iload_n C (i := 1) dX12_cutOf_4 rfl rfl ?_
  obtain ⟨h1, h⟩ := h
  refine m_iald C (k := 2) (by decide) h1 dX12_cutOf_5 ?_
  refine g_iconst_3 C dX12_cutOf_6 ?_
  refine g_icmp_eq C 20 dX12_cutOf_7 rfl (fun c2 => ?_) (fun c2 => ?_)
  · replace h := h.1 c2
    exact g_weak [0, 1] rfl (Nat.le_refl _) (Nat.le_refl _) (wM_cutOf_gc20  C  v1  h)
  · replace h := h.2 c2
    refine g_aload_n C (i := 0) dX12_cutOf_10 rfl rfl ?_
    refine m_get_kind C dX12_cutOf_11 ?_
    refine g_iload_n C (i := 1) dX12_cutOf_14 rfl rfl ?_
    refine m_iald C (k := 2) (by decide) h1 dX12_cutOf_15 ?_
    refine g_iconst_4 C dX12_cutOf_16 ?_
    refine g_icmp_ne C 36 dX12_cutOf_17 rfl (fun c3 => ?_) (fun c3 => ?_)
    · replace h := h.1 c3
      refine g_lconst_0 C dX12_cutOf_36 ?_
      exact g_ret_l C dX12_cutOf_37 (Nat.le_refl _) (Nat.le_refl _) ⟨_, rfl, rfl, h⟩
    · replace h := h.2 c3
      exact g_weak [0, 1] rfl (Nat.le_refl _) (Nat.le_refl _) (wM_cutOf_gc20  C  v1  h)
theorem wM_k_cutOf {D : gD} {ca : Nat → ClassId} {o : Nat → Nat} (v1 : Int32) (I : gI) (J : gJ) (Q : Int64 → Prop) (h : wM_cutOf v1 I J Q) : Ct yX12_cutOf cX12_cutOf 2 (some .long) (rl 2) D (tyW ca) 0 0 [.ref (o 0), .int v1] (cM ca o I J) (PPl ca o I J Q) := ct_of (rm := rl 2) (by decide +kernel) (Nat.le_of_ble_eq_true rfl) (fun Γ C => wM_cutOf_g v1 I J C h)
set_option maxRecDepth 100000 in
theorem wM_plain_gb23 {Γ : gT} {D : gD} {ca : Nat → ClassId} {o : Nat → Nat} {Q : Int32 → Prop} {I : gI} {J : gJ} (C : Cx Γ cX12_plain RX12 9 D (tyW ca) (rl 2) (some .int) 0 0 (PPi ca o I J Q)) {B23 : Int32 → Int32 → Int32 → Int64 → Prop} (hB23 : ∀ (v1 : Int32) (v4 : Int32) (v5 : Int32) (v6 : Int64) , B23 v1 v4 v5 v6 → G Γ 0 0 23 [(0, .ref (o 0)), (1, .int v1), (4, .int v4), (5, .int v5), (6, .long v6)] [] (cM ca o I J)) (v1 : Int32) (v4 : Int32) (v5 : Int32) (v6 : Int64) (h : wM_plain_b23 I J B23 v1 v4 v5 v6 Q) : G Γ 0 0 23 [(0, .ref (o 0)), (1, .int v1), (4, .int v4), (5, .int v5), (6, .long v6)] [] (cM ca o I J) := by
  unfold wM_plain_b23 at h
  refine g_lload C (i := 6) dX12_plain_23 rfl ?_
  refine g_iload C (i := 4) dX12_plain_25 rfl ?_
  refine g_i2l C dX12_plain_27 ?_
  obtain ⟨h1, h⟩ := h
  refine g_lrem C dX12_plain_28 h1 ?_
  refine g_lconst_0 C dX12_plain_29 ?_
  refine g_lne C 48 dX12_plain_30 dX12_plain_31 rfl (fun c2 => ?_) (fun c2 => ?_)
  · replace h := h.1 c2
    refine g_aload_n C (i := 0) dX12_plain_48 rfl rfl ?_
    refine g_iload_n C (i := 1) dX12_plain_49 rfl rfl ?_
    refine g_iload C (i := 5) dX12_plain_50 rfl ?_
    refine m_callPi C rfl (wM_k_counts v1 v5 I J _ h) 2 swM_counts (rl_ok (by decide) (by decide)) rfl (Nat.le_of_ble_eq_true rfl) (st := []) _ rfl dX12_plain_52 (fun r3 h => ?_)
    refine g_istore C (i := 8) [(0, .ref (o 0)), (1, .int v1), (4, .int v4), (5, .int v5), (6, .long v6), (8, .int r3)] dX12_plain_55 (by decide) rfl ?_
    refine g_iload C (i := 4) dX12_plain_57 rfl ?_
    refine g_iconst_3 C dX12_plain_59 ?_
    refine g_icmp_ne C 86 dX12_plain_60 rfl (fun c4 => ?_) (fun c4 => ?_)
    · replace h := h.1 c4
      refine g_lload C (i := 6) dX12_plain_86 rfl ?_
      refine g_ldc2 C (v := 4) (tb_in (List.mem_of_getElem? (i := 1547) (by decide +kernel)) (by decide +kernel)) dX12_plain_88 ?_
      refine g_lrem C dX12_plain_91 (by decide) ?_
      refine g_lconst_1 C dX12_plain_92 ?_
      refine g_lne C 102 dX12_plain_93 dX12_plain_94 rfl (fun c5 => ?_) (fun c5 => ?_)
      · replace h := h.1 c5
        refine g_iconst_1 C dX12_plain_102 ?_
        refine g_iload C (i := 8) dX12_plain_103 rfl ?_
        refine g_isub C dX12_plain_105 ?_
        exact g_ret_i C dX12_plain_106 (Nat.le_refl _) (Nat.le_refl _) ⟨_, rfl, rfl, h⟩
      · replace h := h.2 c5
        refine g_iload C (i := 8) dX12_plain_97 rfl ?_
        refine g_goto C 106 dX12_plain_99 rfl ?_
        exact g_ret_i C dX12_plain_106 (Nat.le_refl _) (Nat.le_refl _) ⟨_, rfl, rfl, h⟩
    · replace h := h.2 c4
      refine g_lload C (i := 6) dX12_plain_63 rfl ?_
      refine g_ldc2 C (v := 3) (tb_in (List.mem_of_getElem? (i := 1546) (by decide +kernel)) (by decide +kernel)) dX12_plain_65 ?_
      refine g_lrem C dX12_plain_68 (by decide) ?_
      refine g_lconst_1 C dX12_plain_69 ?_
      refine g_lne C 79 dX12_plain_70 dX12_plain_71 rfl (fun c6 => ?_) (fun c6 => ?_)
      · replace h := h.1 c6
        refine g_iconst_1 C dX12_plain_79 ?_
        refine g_iload C (i := 8) dX12_plain_80 rfl ?_
        refine g_isub C dX12_plain_82 ?_
        refine g_goto C 106 dX12_plain_83 rfl ?_
        exact g_ret_i C dX12_plain_106 (Nat.le_refl _) (Nat.le_refl _) ⟨_, rfl, rfl, h⟩
      · replace h := h.2 c6
        refine g_iload C (i := 8) dX12_plain_74 rfl ?_
        refine g_goto C 106 dX12_plain_76 rfl ?_
        exact g_ret_i C dX12_plain_106 (Nat.le_refl _) (Nat.le_refl _) ⟨_, rfl, rfl, h⟩
  · replace h := h.2 c2
    refine g_lload C (i := 6) dX12_plain_34 rfl ?_
    refine g_iload C (i := 4) dX12_plain_36 rfl ?_
    refine g_i2l C dX12_plain_38 ?_
    obtain ⟨h7, h⟩ := h
    refine g_ldiv C dX12_plain_39 h7 ?_
    refine g_lstore C (i := 6) [(0, .ref (o 0)), (1, .int v1), (4, .int v4), (5, .int v5), (6, .long (v6 / v4.toInt64))] dX12_plain_40 (by decide) rfl ?_
    refine g_iinc C 1 [(0, .ref (o 0)), (1, .int v1), (4, .int v4), (5, .int (v5 + 1)), (6, .long (v6 / v4.toInt64))] dX12_plain_42 rfl (by decide) (by decide) rfl ?_
    refine g_goto C 23 dX12_plain_45 rfl ?_
    exact g_weak [0, 1, 2, 3, 4] rfl (Nat.le_refl _) (Nat.le_refl _) (hB23 v1 v4 (v5 + 1) (v6 / v4.toInt64)  h)
theorem wM_plain_gl23 {Γ : gT} {D : gD} {ca : Nat → ClassId} {o : Nat → Nat} {Q : Int32 → Prop} {I : gI} {J : gJ} (C : Cx Γ cX12_plain RX12 9 D (tyW ca) (rl 2) (some .int) 0 0 (PPi ca o I J Q)) : ∀ (n : Nat) (v1 : Int32) (v4 : Int32) (v5 : Int32) (v6 : Int64) (_ : wM_plain_l23 I J Q n v1 v4 v5 v6 ), G Γ 0 0 23 [(0, .ref (o 0)), (1, .int v1), (4, .int v4), (5, .int v5), (6, .long v6)] [] (cM ca o I J) := by
  intro n
  induction n with
  | zero => intro v1 v4 v5 v6  h; exact h.elim
  | succ n ih => intro v1 v4 v5 v6  h; exact wM_plain_gb23 C ih v1 v4 v5 v6 h
set_option maxRecDepth 100000 in
theorem wM_plain_g {Γ : gT} {D : gD} {ca : Nat → ClassId} {o : Nat → Nat} {Q : Int32 → Prop} (v1 : Int32) (v2 : Int64) (I : gI) (J : gJ) (C : Cx Γ cX12_plain RX12 9 D (tyW ca) (rl 2) (some .int) 0 0 (PPi ca o I J Q)) (h : wM_plain v1 v2 I J Q) : G Γ 0 0 0 [(0, .ref (o 0)), (1, .int v1), (2, .long v2)] [] (cM ca o I J) := by
  unfold wM_plain at h
  refine g_aload_n C (i := 0) dX12_plain_0 rfl rfl ?_
  refine m_get_kind C dX12_plain_1 ?_
  refine g_iload_n C (i := 1) dX12_plain_4 rfl rfl ?_
  obtain ⟨h1, h⟩ := h
  refine m_iald C (k := 2) (by decide) h1 dX12_plain_5 ?_
  refine g_iconst_2 C dX12_plain_6 ?_
  refine g_icmp_ne C 14 dX12_plain_7 rfl (fun c2 => ?_) (fun c2 => ?_)
  · replace h := h.1 c2
    refine g_iconst_2 C dX12_plain_14 ?_
    refine g_istore C (i := 4) [(0, .ref (o 0)), (1, .int v1), (2, .long v2), (4, .int 2)] dX12_plain_15 (by decide) rfl ?_
    refine g_iconst_0 C dX12_plain_17 ?_
    refine g_istore C (i := 5) [(0, .ref (o 0)), (1, .int v1), (2, .long v2), (4, .int 2), (5, .int 0)] dX12_plain_18 (by decide) rfl ?_
    refine g_lload_n C (i := 2) dX12_plain_20 rfl rfl ?_
    refine g_lstore C (i := 6) [(0, .ref (o 0)), (1, .int v1), (2, .long v2), (4, .int 2), (5, .int 0), (6, .long v2)] dX12_plain_21 (by decide) rfl ?_
    obtain ⟨n, h⟩ := h
    exact g_weak [0, 1, 3, 4, 5] rfl (Nat.le_refl _) (Nat.le_refl _) (wM_plain_gl23  C  n v1 2 0 v2  h)
  · replace h := h.2 c2
    refine g_iconst_3 C dX12_plain_10 ?_
    refine g_goto C 15 dX12_plain_11 rfl ?_
    refine g_istore C (i := 4) [(0, .ref (o 0)), (1, .int v1), (2, .long v2), (4, .int 3)] dX12_plain_15 (by decide) rfl ?_
    refine g_iconst_0 C dX12_plain_17 ?_
    refine g_istore C (i := 5) [(0, .ref (o 0)), (1, .int v1), (2, .long v2), (4, .int 3), (5, .int 0)] dX12_plain_18 (by decide) rfl ?_
    refine g_lload_n C (i := 2) dX12_plain_20 rfl rfl ?_
    refine g_lstore C (i := 6) [(0, .ref (o 0)), (1, .int v1), (2, .long v2), (4, .int 3), (5, .int 0), (6, .long v2)] dX12_plain_21 (by decide) rfl ?_
    obtain ⟨n, h⟩ := h
    exact g_weak [0, 1, 3, 4, 5] rfl (Nat.le_refl _) (Nat.le_refl _) (wM_plain_gl23  C  n v1 3 0 v2  h)
theorem wM_k_plain {D : gD} {ca : Nat → ClassId} {o : Nat → Nat} (v1 : Int32) (v2 : Int64) (I : gI) (J : gJ) (Q : Int32 → Prop) (h : wM_plain v1 v2 I J Q) : Ct yX12_plain cX12_plain 9 (some .int) (rl 2) D (tyW ca) 0 0 [.ref (o 0), .int v1, .long v2] (cM ca o I J) (PPi ca o I J Q) := ct_of (rm := rl 2) (by decide +kernel) (Nat.le_of_ble_eq_true rfl) (fun Γ C => wM_plain_g v1 v2 I J C h)
set_option maxRecDepth 100000 in
theorem wM_turned_gc100 {Γ : gT} {D : gD} {ca : Nat → ClassId} {o : Nat → Nat} {Q : Int32 → Prop} {I : gI} {J : gJ} (C : Cx Γ cX12_turned RX12 12 D (tyW ca) (rl 2) (some .int) 0 0 (PPi ca o I J Q)) {B26 : Int32 → Int32 → Int32 → Int32 → Int64 → Int32 → Prop} (hB26 : ∀ (v1 : Int32) (v4 : Int32) (v5 : Int32) (v6 : Int32) (v7 : Int64) (v9 : Int32) , B26 v1 v4 v5 v6 v7 v9 → G Γ 0 0 26 [(0, .ref (o 0)), (1, .int v1), (4, .int v4), (5, .int v5), (6, .int v6), (7, .long v7), (9, .int v9)] [] (cM ca o I J)) (v1 : Int32) (v4 : Int32) (v5 : Int32) (v6 : Int32) (v7 : Int64) (v9 : Int32) (h : wM_turned_c100 I J B26 v1 v4 v5 v6 v7 v9 Q) : G Γ 0 0 100 [(0, .ref (o 0)), (1, .int v1), (4, .int v4), (5, .int v5), (6, .int v6), (7, .long v7), (9, .int v9)] [] (cM ca o I J) := by
  unfold wM_turned_c100 at h
  refine g_lload C (i := 7) dX12_turned_100 rfl ?_
  refine g_iload C (i := 5) dX12_turned_102 rfl ?_
  refine g_i2l C dX12_turned_104 ?_
  obtain ⟨h1, h⟩ := h
  refine g_ldiv C dX12_turned_105 h1 ?_
  refine g_lstore C (i := 7) [(0, .ref (o 0)), (1, .int v1), (4, .int v4), (5, .int v5), (6, .int v6), (7, .long (v7 / v5.toInt64)), (9, .int v9)] dX12_turned_106 (by decide) rfl ?_
  refine g_iinc C 1 [(0, .ref (o 0)), (1, .int v1), (4, .int v4), (5, .int v5), (6, .int v6), (7, .long (v7 / v5.toInt64)), (9, .int (v9 + 1))] dX12_turned_108 rfl (by decide) (by decide) rfl ?_
  refine g_goto C 26 dX12_turned_111 rfl ?_
  exact g_weak [0, 1, 2, 3, 4, 5, 6] rfl (Nat.le_refl _) (Nat.le_refl _) (hB26 v1 v4 v5 v6 (v7 / v5.toInt64) (v9 + 1)  h)
set_option maxRecDepth 100000 in
theorem wM_turned_gc97 {Γ : gT} {D : gD} {ca : Nat → ClassId} {o : Nat → Nat} {Q : Int32 → Prop} {I : gI} {J : gJ} (C : Cx Γ cX12_turned RX12 12 D (tyW ca) (rl 2) (some .int) 0 0 (PPi ca o I J Q)) {B26 : Int32 → Int32 → Int32 → Int32 → Int64 → Int32 → Prop} (hB26 : ∀ (v1 : Int32) (v4 : Int32) (v5 : Int32) (v6 : Int32) (v7 : Int64) (v9 : Int32) , B26 v1 v4 v5 v6 v7 v9 → G Γ 0 0 26 [(0, .ref (o 0)), (1, .int v1), (4, .int v4), (5, .int v5), (6, .int v6), (7, .long v7), (9, .int v9)] [] (cM ca o I J)) (v1 : Int32) (v4 : Int32) (v5 : Int32) (v7 : Int64) (v9 : Int32) (s0 : Int32) (s1 : Int32) (h : wM_turned_c97 I J B26 v1 v4 v5 v7 v9 s0 s1 Q) : G Γ 0 0 97 [(0, .ref (o 0)), (1, .int v1), (4, .int v4), (5, .int v5), (7, .long v7), (9, .int v9)] [.int s1, .int s0] (cM ca o I J) := by
  unfold wM_turned_c97 at h
  refine g_iadd C dX12_turned_97 ?_
  refine g_istore C (i := 6) [(0, .ref (o 0)), (1, .int v1), (4, .int v4), (5, .int v5), (6, .int (s0 + s1)), (7, .long v7), (9, .int v9)] dX12_turned_98 (by decide) rfl ?_
  exact g_weak [0, 1, 2, 3, 4, 5, 6] rfl (Nat.le_refl _) (Nat.le_refl _) (wM_turned_gc100  C hB26 v1 v4 v5 (s0 + s1) v7 v9  h)
set_option maxRecDepth 100000 in
theorem wM_turned_gc59 {Γ : gT} {D : gD} {ca : Nat → ClassId} {o : Nat → Nat} {Q : Int32 → Prop} {I : gI} {J : gJ} (C : Cx Γ cX12_turned RX12 12 D (tyW ca) (rl 2) (some .int) 0 0 (PPi ca o I J Q)) {B26 : Int32 → Int32 → Int32 → Int32 → Int64 → Int32 → Prop} (hB26 : ∀ (v1 : Int32) (v4 : Int32) (v5 : Int32) (v6 : Int32) (v7 : Int64) (v9 : Int32) , B26 v1 v4 v5 v6 v7 v9 → G Γ 0 0 26 [(0, .ref (o 0)), (1, .int v1), (4, .int v4), (5, .int v5), (6, .int v6), (7, .long v7), (9, .int v9)] [] (cM ca o I J)) (v1 : Int32) (v4 : Int32) (v5 : Int32) (v6 : Int32) (v7 : Int64) (v9 : Int32) (s0 : Int64) (h : wM_turned_c59 I J B26 v1 v4 v5 v6 v7 v9 s0 Q) : G Γ 0 0 59 [(0, .ref (o 0)), (1, .int v1), (4, .int v4), (5, .int v5), (6, .int v6), (7, .long v7), (9, .int v9)] [.long s0] (cM ca o I J) := by
  unfold wM_turned_c59 at h
  refine g_lstore C (i := 10) [(0, .ref (o 0)), (1, .int v1), (4, .int v4), (5, .int v5), (6, .int v6), (7, .long v7), (9, .int v9), (10, .long s0)] dX12_turned_59 (by decide) rfl ?_
  refine g_iload C (i := 9) dX12_turned_61 rfl ?_
  refine g_iload C (i := 4) dX12_turned_63 rfl ?_
  refine g_icmp_lt C 100 dX12_turned_65 rfl (fun c1 => ?_) (fun c1 => ?_)
  · replace h := h.1 c1
    exact g_weak [0, 1, 2, 3, 4, 5, 6] rfl (Nat.le_refl _) (Nat.le_refl _) (wM_turned_gc100  C hB26 v1 v4 v5 v6 v7 v9  h)
  · replace h := h.2 c1
    refine g_lload C (i := 10) dX12_turned_68 rfl ?_
    refine g_ldc2 C (v := 2) (tb_in (List.mem_of_getElem? (i := 1637) (by decide +kernel)) (by decide +kernel)) dX12_turned_70 ?_
    refine g_lrem C dX12_turned_73 (by decide) ?_
    refine g_lconst_1 C dX12_turned_74 ?_
    refine g_lne C 100 dX12_turned_75 dX12_turned_76 rfl (fun c2 => ?_) (fun c2 => ?_)
    · replace h := h.1 c2
      exact g_weak [0, 1, 2, 3, 4, 5, 6] rfl (Nat.le_refl _) (Nat.le_refl _) (wM_turned_gc100  C hB26 v1 v4 v5 v6 v7 v9  h)
    · replace h := h.2 c2
      refine g_iload C (i := 6) dX12_turned_79 rfl ?_
      refine g_aload_n C (i := 0) dX12_turned_81 rfl rfl ?_
      refine g_iload_n C (i := 1) dX12_turned_82 rfl rfl ?_
      refine g_iload C (i := 9) dX12_turned_83 rfl ?_
      refine m_callPi C rfl (wM_k_counts v1 v9 I J _ h) 2 swM_counts (rl_ok (by decide) (by decide)) rfl (Nat.le_of_ble_eq_true rfl) (st := [.int v6]) _ rfl dX12_turned_85 (fun r3 h => ?_)
      refine g_iconst_1 C dX12_turned_88 ?_
      refine g_icmp_ne C 96 dX12_turned_89 rfl (fun c4 => ?_) (fun c4 => ?_)
      · replace h := h.1 c4
        refine g_iconst_m1 C dX12_turned_96 ?_
        exact g_weak [0, 1, 2, 3, 5, 6] rfl (Nat.le_refl _) (Nat.le_refl _) (wM_turned_gc97  C hB26 v1 v4 v5 v7 v9 v6 (-1)  h)
      · replace h := h.2 c4
        refine g_iconst_1 C dX12_turned_92 ?_
        refine g_goto C 97 dX12_turned_93 rfl ?_
        exact g_weak [0, 1, 2, 3, 5, 6] rfl (Nat.le_refl _) (Nat.le_refl _) (wM_turned_gc97  C hB26 v1 v4 v5 v7 v9 v6 1  h)
set_option maxRecDepth 100000 in
theorem wM_turned_gb26 {Γ : gT} {D : gD} {ca : Nat → ClassId} {o : Nat → Nat} {Q : Int32 → Prop} {I : gI} {J : gJ} (C : Cx Γ cX12_turned RX12 12 D (tyW ca) (rl 2) (some .int) 0 0 (PPi ca o I J Q)) {B26 : Int32 → Int32 → Int32 → Int32 → Int64 → Int32 → Prop} (hB26 : ∀ (v1 : Int32) (v4 : Int32) (v5 : Int32) (v6 : Int32) (v7 : Int64) (v9 : Int32) , B26 v1 v4 v5 v6 v7 v9 → G Γ 0 0 26 [(0, .ref (o 0)), (1, .int v1), (4, .int v4), (5, .int v5), (6, .int v6), (7, .long v7), (9, .int v9)] [] (cM ca o I J)) (v1 : Int32) (v4 : Int32) (v5 : Int32) (v6 : Int32) (v7 : Int64) (v9 : Int32) (h : wM_turned_b26 I J B26 v1 v4 v5 v6 v7 v9 Q) : G Γ 0 0 26 [(0, .ref (o 0)), (1, .int v1), (4, .int v4), (5, .int v5), (6, .int v6), (7, .long v7), (9, .int v9)] [] (cM ca o I J) := by
  unfold wM_turned_b26 at h
  refine g_lload C (i := 7) dX12_turned_26 rfl ?_
  refine g_lconst_0 C dX12_turned_28 ?_
  refine g_lle C 114 dX12_turned_29 dX12_turned_30 rfl (fun c1 => ?_) (fun c1 => ?_)
  · replace h := h.1 c1
    refine g_iload C (i := 6) dX12_turned_114 rfl ?_
    exact g_ret_i C dX12_turned_116 (Nat.le_refl _) (Nat.le_refl _) ⟨_, rfl, rfl, h⟩
  · replace h := h.2 c1
    refine g_iload C (i := 5) dX12_turned_33 rfl ?_
    refine g_iconst_3 C dX12_turned_35 ?_
    refine g_icmp_ne C 51 dX12_turned_36 rfl (fun c2 => ?_) (fun c2 => ?_)
    · replace h := h.1 c2
      refine g_lload C (i := 7) dX12_turned_51 rfl ?_
      refine g_lconst_1 C dX12_turned_53 ?_
      refine g_ladd C dX12_turned_54 ?_
      refine g_ldc2 C (v := 2) (tb_in (List.mem_of_getElem? (i := 1637) (by decide +kernel)) (by decide +kernel)) dX12_turned_55 ?_
      refine g_ldiv C dX12_turned_58 (by decide) ?_
      exact g_weak [0, 1, 2, 3, 4, 5, 6] rfl (Nat.le_refl _) (Nat.le_refl _) (wM_turned_gc59  C hB26 v1 v4 v5 v6 v7 v9 ((v7 + 1) / 2)  h)
    · replace h := h.2 c2
      refine g_lload C (i := 7) dX12_turned_39 rfl ?_
      refine g_lload C (i := 7) dX12_turned_41 rfl ?_
      refine g_ldc2 C (v := 3) (tb_in (List.mem_of_getElem? (i := 1546) (by decide +kernel)) (by decide +kernel)) dX12_turned_43 ?_
      refine g_ldiv C dX12_turned_46 (by decide) ?_
      refine g_lsub C dX12_turned_47 ?_
      refine g_goto C 59 dX12_turned_48 rfl ?_
      exact g_weak [0, 1, 2, 3, 4, 5, 6] rfl (Nat.le_refl _) (Nat.le_refl _) (wM_turned_gc59  C hB26 v1 v4 v5 v6 v7 v9 (v7 - (v7 / 3))  h)
theorem wM_turned_gl26 {Γ : gT} {D : gD} {ca : Nat → ClassId} {o : Nat → Nat} {Q : Int32 → Prop} {I : gI} {J : gJ} (C : Cx Γ cX12_turned RX12 12 D (tyW ca) (rl 2) (some .int) 0 0 (PPi ca o I J Q)) : ∀ (n : Nat) (v1 : Int32) (v4 : Int32) (v5 : Int32) (v6 : Int32) (v7 : Int64) (v9 : Int32) (_ : wM_turned_l26 I J Q n v1 v4 v5 v6 v7 v9 ), G Γ 0 0 26 [(0, .ref (o 0)), (1, .int v1), (4, .int v4), (5, .int v5), (6, .int v6), (7, .long v7), (9, .int v9)] [] (cM ca o I J) := by
  intro n
  induction n with
  | zero => intro v1 v4 v5 v6 v7 v9  h; exact h.elim
  | succ n ih => intro v1 v4 v5 v6 v7 v9  h; exact wM_turned_gb26 C ih v1 v4 v5 v6 v7 v9 h
set_option maxRecDepth 100000 in
theorem wM_turned_gc15 {Γ : gT} {D : gD} {ca : Nat → ClassId} {o : Nat → Nat} {Q : Int32 → Prop} {I : gI} {J : gJ} (C : Cx Γ cX12_turned RX12 12 D (tyW ca) (rl 2) (some .int) 0 0 (PPi ca o I J Q)) (v1 : Int32) (v2 : Int64) (v4 : Int32) (s0 : Int32) (h : wM_turned_c15 I J v1 v2 v4 s0 Q) : G Γ 0 0 15 [(0, .ref (o 0)), (1, .int v1), (2, .long v2), (4, .int v4)] [.int s0] (cM ca o I J) := by
  unfold wM_turned_c15 at h
  refine g_istore C (i := 5) [(0, .ref (o 0)), (1, .int v1), (2, .long v2), (4, .int v4), (5, .int s0)] dX12_turned_15 (by decide) rfl ?_
  refine g_iconst_0 C dX12_turned_17 ?_
  refine g_istore C (i := 6) [(0, .ref (o 0)), (1, .int v1), (2, .long v2), (4, .int v4), (5, .int s0), (6, .int 0)] dX12_turned_18 (by decide) rfl ?_
  refine g_lload_n C (i := 2) dX12_turned_20 rfl rfl ?_
  refine g_lstore C (i := 7) [(0, .ref (o 0)), (1, .int v1), (2, .long v2), (4, .int v4), (5, .int s0), (6, .int 0), (7, .long v2)] dX12_turned_21 (by decide) rfl ?_
  refine g_iconst_0 C dX12_turned_23 ?_
  refine g_istore C (i := 9) [(0, .ref (o 0)), (1, .int v1), (2, .long v2), (4, .int v4), (5, .int s0), (6, .int 0), (7, .long v2), (9, .int 0)] dX12_turned_24 (by decide) rfl ?_
  obtain ⟨n, h⟩ := h
  exact g_weak [0, 1, 3, 4, 5, 6, 7] rfl (Nat.le_refl _) (Nat.le_refl _) (wM_turned_gl26  C  n v1 v4 s0 0 v2 0  h)
set_option maxRecDepth 100000 in
theorem wM_turned_g {Γ : gT} {D : gD} {ca : Nat → ClassId} {o : Nat → Nat} {Q : Int32 → Prop} (v1 : Int32) (v2 : Int64) (v4 : Int32) (I : gI) (J : gJ) (C : Cx Γ cX12_turned RX12 12 D (tyW ca) (rl 2) (some .int) 0 0 (PPi ca o I J Q)) (h : wM_turned v1 v2 v4 I J Q) : G Γ 0 0 0 [(0, .ref (o 0)), (1, .int v1), (2, .long v2), (4, .int v4)] [] (cM ca o I J) := by
  unfold wM_turned at h
  refine g_aload_n C (i := 0) dX12_turned_0 rfl rfl ?_
  refine m_get_kind C dX12_turned_1 ?_
  refine g_iload_n C (i := 1) dX12_turned_4 rfl rfl ?_
  obtain ⟨h1, h⟩ := h
  refine m_iald C (k := 2) (by decide) h1 dX12_turned_5 ?_
  refine g_iconst_2 C dX12_turned_6 ?_
  refine g_icmp_ne C 14 dX12_turned_7 rfl (fun c2 => ?_) (fun c2 => ?_)
  · replace h := h.1 c2
    refine g_iconst_2 C dX12_turned_14 ?_
    exact g_weak [0, 1, 2, 3] rfl (Nat.le_refl _) (Nat.le_refl _) (wM_turned_gc15  C  v1 v2 v4 2  h)
  · replace h := h.2 c2
    refine g_iconst_3 C dX12_turned_10 ?_
    refine g_goto C 15 dX12_turned_11 rfl ?_
    exact g_weak [0, 1, 2, 3] rfl (Nat.le_refl _) (Nat.le_refl _) (wM_turned_gc15  C  v1 v2 v4 3  h)
theorem wM_k_turned {D : gD} {ca : Nat → ClassId} {o : Nat → Nat} (v1 : Int32) (v2 : Int64) (v4 : Int32) (I : gI) (J : gJ) (Q : Int32 → Prop) (h : wM_turned v1 v2 v4 I J Q) : Ct yX12_turned cX12_turned 12 (some .int) (rl 2) D (tyW ca) 0 0 [.ref (o 0), .int v1, .long v2, .int v4] (cM ca o I J) (PPi ca o I J Q) := ct_of (rm := rl 2) (by decide +kernel) (Nat.le_of_ble_eq_true rfl) (fun Γ C => wM_turned_g v1 v2 v4 I J C h)
set_option maxRecDepth 100000 in
theorem wM_parts_gc71 {Γ : gT} {D : gD} {ca : Nat → ClassId} {o : Nat → Nat} {Q : gI → gJ → Prop} (C : Cx Γ cX12_parts RX12 6 D (tyW ca) (rl 2) none 0 0 (PMv ca o Q)) {B44 : Int32 → Int32 → gI → gJ → Prop} (hB44 : ∀ (v1 : Int32) (v2 : Int32) (I : gI) (J : gJ), B44 v1 v2 I J → G Γ 0 0 44 [(0, .ref (o 0)), (1, .int v1), (2, .int v2)] [] (cM ca o I J)) (v1 : Int32) (v2 : Int32) (s0 : Int32) (I : gI) (J : gJ) (h : wM_parts_c71 B44 v1 v2 s0 I J Q) : G Γ 0 0 71 [(0, .ref (o 0)), (1, .int v1), (2, .int v2)] [.int s0] (cM ca o I J) := by
  unfold wM_parts_c71 at h
  refine g_istore_n C (i := 3) [(0, .ref (o 0)), (1, .int v1), (2, .int v2), (3, .int s0)] dX12_parts_71 rfl (by decide) rfl ?_
  refine g_aload_n C (i := 0) dX12_parts_72 rfl rfl ?_
  refine m_get_kind C dX12_parts_73 ?_
  refine g_iload_n C (i := 1) dX12_parts_76 rfl rfl ?_
  obtain ⟨h1, h⟩ := h
  refine m_iald C (k := 2) (by decide) h1 dX12_parts_77 ?_
  refine g_iconst_2 C dX12_parts_78 ?_
  refine g_icmp_ne C 172 dX12_parts_79 rfl (fun c2 => ?_) (fun c2 => ?_)
  · replace h := h.1 c2
    refine g_aload_n C (i := 0) dX12_parts_172 rfl rfl ?_
    refine m_get_evenRound C dX12_parts_173 ?_
    refine g_iload_n C (i := 2) dX12_parts_176 rfl rfl ?_
    refine g_iconst_1 C dX12_parts_177 ?_
    refine g_isub C dX12_parts_178 ?_
    obtain ⟨h3, h⟩ := h
    refine m_iald C (k := 12) (by decide) h3 dX12_parts_179 ?_
    refine g_iload_n C (i := 3) dX12_parts_180 rfl rfl ?_
    refine g_iadd C dX12_parts_181 ?_
    refine g_istore C (i := 4) [(0, .ref (o 0)), (1, .int v1), (2, .int v2), (3, .int s0), (4, .int ((I 12 (v2 - 1).toNatClampNeg) + s0))] dX12_parts_182 (by decide) rfl ?_
    refine g_aload_n C (i := 0) dX12_parts_184 rfl rfl ?_
    refine m_get_evenRound C dX12_parts_185 ?_
    refine g_iload_n C (i := 2) dX12_parts_188 rfl rfl ?_
    refine g_iconst_1 C dX12_parts_189 ?_
    refine g_isub C dX12_parts_190 ?_
    refine m_iald C (k := 12) (by decide) h3 dX12_parts_191 ?_
    refine g_iload_n C (i := 3) dX12_parts_192 rfl rfl ?_
    refine g_isub C dX12_parts_193 ?_
    refine g_istore C (i := 5) [(0, .ref (o 0)), (1, .int v1), (2, .int v2), (3, .int s0), (4, .int ((I 12 (v2 - 1).toNatClampNeg) + s0)), (5, .int ((I 12 (v2 - 1).toNatClampNeg) - s0))] dX12_parts_194 (by decide) rfl ?_
    refine g_aload_n C (i := 0) dX12_parts_196 rfl rfl ?_
    refine m_get_evenX C dX12_parts_197 ?_
    refine g_iload_n C (i := 2) dX12_parts_200 rfl rfl ?_
    refine g_aload_n C (i := 0) dX12_parts_201 rfl rfl ?_
    refine m_get_evenX C dX12_parts_202 ?_
    refine g_iload_n C (i := 2) dX12_parts_205 rfl rfl ?_
    refine g_iconst_1 C dX12_parts_206 ?_
    refine g_isub C dX12_parts_207 ?_
    refine m_lald C (k := 6) (by decide) h3 dX12_parts_208 ?_
    refine g_aload_n C (i := 0) dX12_parts_209 rfl rfl ?_
    refine g_aload_n C (i := 0) dX12_parts_210 rfl rfl ?_
    refine m_get_oddX C dX12_parts_211 ?_
    refine g_iload_n C (i := 2) dX12_parts_214 rfl rfl ?_
    refine g_iconst_1 C dX12_parts_215 ?_
    refine g_isub C dX12_parts_216 ?_
    refine m_lald C (k := 8) (by decide) h3 dX12_parts_217 ?_
    refine g_aload_n C (i := 0) dX12_parts_218 rfl rfl ?_
    refine m_get_oddY C dX12_parts_219 ?_
    refine g_iload_n C (i := 2) dX12_parts_222 rfl rfl ?_
    refine g_iconst_1 C dX12_parts_223 ?_
    refine g_isub C dX12_parts_224 ?_
    refine m_lald C (k := 9) (by decide) h3 dX12_parts_225 ?_
    refine g_iload C (i := 4) dX12_parts_226 rfl ?_
    refine m_callPl C rfl (wM_k_turnX (J 8 (v2 - 1).toNatClampNeg) (J 9 (v2 - 1).toNatClampNeg) ((I 12 (v2 - 1).toNatClampNeg) + s0) I J _ h) 3 swM_turnX (rl_ok (by decide) (by decide)) rfl (Nat.le_of_ble_eq_true rfl) (st := [.long (J 6 (v2 - 1).toNatClampNeg), .int v2, .ref (o 35)]) _ rfl dX12_parts_228 (fun r4 h => ?_)
    refine g_ladd C dX12_parts_231 ?_
    obtain ⟨h5, h⟩ := h
    refine m_last C (k := 6) (by decide) h5 dX12_parts_232 ?_
    refine m_nmJ _ (fun J6 e7 => ?_)
    replace h := h J6 e7
    refine g_aload_n C (i := 0) dX12_parts_233 rfl rfl ?_
    refine m_get_evenY C dX12_parts_234 ?_
    refine g_iload_n C (i := 2) dX12_parts_237 rfl rfl ?_
    refine g_aload_n C (i := 0) dX12_parts_238 rfl rfl ?_
    refine m_get_evenY C dX12_parts_239 ?_
    refine g_iload_n C (i := 2) dX12_parts_242 rfl rfl ?_
    refine g_iconst_1 C dX12_parts_243 ?_
    refine g_isub C dX12_parts_244 ?_
    refine m_lald C (k := 7) (by decide) h3 dX12_parts_245 ?_
    refine g_aload_n C (i := 0) dX12_parts_246 rfl rfl ?_
    refine g_aload_n C (i := 0) dX12_parts_247 rfl rfl ?_
    refine m_get_oddX C dX12_parts_248 ?_
    refine g_iload_n C (i := 2) dX12_parts_251 rfl rfl ?_
    refine g_iconst_1 C dX12_parts_252 ?_
    refine g_isub C dX12_parts_253 ?_
    refine m_lald C (k := 8) (by decide) h3 dX12_parts_254 ?_
    refine g_aload_n C (i := 0) dX12_parts_255 rfl rfl ?_
    refine m_get_oddY C dX12_parts_256 ?_
    refine g_iload_n C (i := 2) dX12_parts_259 rfl rfl ?_
    refine g_iconst_1 C dX12_parts_260 ?_
    refine g_isub C dX12_parts_261 ?_
    refine m_lald C (k := 9) (by decide) h3 dX12_parts_262 ?_
    refine g_iload C (i := 4) dX12_parts_263 rfl ?_
    refine m_callPl C rfl (wM_k_turnY (J6 8 (v2 - 1).toNatClampNeg) (J6 9 (v2 - 1).toNatClampNeg) ((I 12 (v2 - 1).toNatClampNeg) + s0) I J6 _ h) 3 swM_turnY (rl_ok (by decide) (by decide)) rfl (Nat.le_of_ble_eq_true rfl) (st := [.long (J6 7 (v2 - 1).toNatClampNeg), .int v2, .ref (o 36)]) _ rfl dX12_parts_265 (fun r8 h => ?_)
    refine g_ladd C dX12_parts_268 ?_
    refine m_last C (k := 7) (by decide) h5 dX12_parts_269 ?_
    refine m_nmJ _ (fun J9 e10 => ?_)
    replace h := h J9 e10
    refine g_aload_n C (i := 0) dX12_parts_270 rfl rfl ?_
    refine m_get_oddX C dX12_parts_271 ?_
    refine g_iload_n C (i := 2) dX12_parts_274 rfl rfl ?_
    refine g_aload_n C (i := 0) dX12_parts_275 rfl rfl ?_
    refine m_get_evenX C dX12_parts_276 ?_
    refine g_iload_n C (i := 2) dX12_parts_279 rfl rfl ?_
    refine g_iconst_1 C dX12_parts_280 ?_
    refine g_isub C dX12_parts_281 ?_
    refine m_lald C (k := 6) (by decide) h3 dX12_parts_282 ?_
    refine g_aload_n C (i := 0) dX12_parts_283 rfl rfl ?_
    refine g_aload_n C (i := 0) dX12_parts_284 rfl rfl ?_
    refine m_get_oddX C dX12_parts_285 ?_
    refine g_iload_n C (i := 2) dX12_parts_288 rfl rfl ?_
    refine g_iconst_1 C dX12_parts_289 ?_
    refine g_isub C dX12_parts_290 ?_
    refine m_lald C (k := 8) (by decide) h3 dX12_parts_291 ?_
    refine g_aload_n C (i := 0) dX12_parts_292 rfl rfl ?_
    refine m_get_oddY C dX12_parts_293 ?_
    refine g_iload_n C (i := 2) dX12_parts_296 rfl rfl ?_
    refine g_iconst_1 C dX12_parts_297 ?_
    refine g_isub C dX12_parts_298 ?_
    refine m_lald C (k := 9) (by decide) h3 dX12_parts_299 ?_
    refine g_iload C (i := 5) dX12_parts_300 rfl ?_
    refine m_callPl C rfl (wM_k_turnX (J9 8 (v2 - 1).toNatClampNeg) (J9 9 (v2 - 1).toNatClampNeg) ((I 12 (v2 - 1).toNatClampNeg) - s0) I J9 _ h) 3 swM_turnX (rl_ok (by decide) (by decide)) rfl (Nat.le_of_ble_eq_true rfl) (st := [.long (J9 6 (v2 - 1).toNatClampNeg), .int v2, .ref (o 37)]) _ rfl dX12_parts_302 (fun r11 h => ?_)
    refine g_ladd C dX12_parts_305 ?_
    refine m_last C (k := 8) (by decide) h5 dX12_parts_306 ?_
    refine m_nmJ _ (fun J12 e13 => ?_)
    replace h := h J12 e13
    refine g_aload_n C (i := 0) dX12_parts_307 rfl rfl ?_
    refine m_get_oddY C dX12_parts_308 ?_
    refine g_iload_n C (i := 2) dX12_parts_311 rfl rfl ?_
    refine g_aload_n C (i := 0) dX12_parts_312 rfl rfl ?_
    refine m_get_evenY C dX12_parts_313 ?_
    refine g_iload_n C (i := 2) dX12_parts_316 rfl rfl ?_
    refine g_iconst_1 C dX12_parts_317 ?_
    refine g_isub C dX12_parts_318 ?_
    refine m_lald C (k := 7) (by decide) h3 dX12_parts_319 ?_
    refine g_aload_n C (i := 0) dX12_parts_320 rfl rfl ?_
    refine g_aload_n C (i := 0) dX12_parts_321 rfl rfl ?_
    refine m_get_oddX C dX12_parts_322 ?_
    refine g_iload_n C (i := 2) dX12_parts_325 rfl rfl ?_
    refine g_iconst_1 C dX12_parts_326 ?_
    refine g_isub C dX12_parts_327 ?_
    refine m_lald C (k := 8) (by decide) h3 dX12_parts_328 ?_
    refine g_aload_n C (i := 0) dX12_parts_329 rfl rfl ?_
    refine m_get_oddY C dX12_parts_330 ?_
    refine g_iload_n C (i := 2) dX12_parts_333 rfl rfl ?_
    refine g_iconst_1 C dX12_parts_334 ?_
    refine g_isub C dX12_parts_335 ?_
    refine m_lald C (k := 9) (by decide) h3 dX12_parts_336 ?_
    refine g_iload C (i := 5) dX12_parts_337 rfl ?_
    refine m_callPl C rfl (wM_k_turnY (J12 8 (v2 - 1).toNatClampNeg) (J12 9 (v2 - 1).toNatClampNeg) ((I 12 (v2 - 1).toNatClampNeg) - s0) I J12 _ h) 3 swM_turnY (rl_ok (by decide) (by decide)) rfl (Nat.le_of_ble_eq_true rfl) (st := [.long (J12 7 (v2 - 1).toNatClampNeg), .int v2, .ref (o 38)]) _ rfl dX12_parts_339 (fun r14 h => ?_)
    refine g_ladd C dX12_parts_342 ?_
    refine m_last C (k := 9) (by decide) h5 dX12_parts_343 ?_
    refine m_nmJ _ (fun J15 e16 => ?_)
    replace h := h J15 e16
    refine g_aload_n C (i := 0) dX12_parts_344 rfl rfl ?_
    refine m_get_evenRound C dX12_parts_345 ?_
    refine g_iload_n C (i := 2) dX12_parts_348 rfl rfl ?_
    refine g_iload C (i := 4) dX12_parts_349 rfl ?_
    refine g_aload_n C (i := 0) dX12_parts_351 rfl rfl ?_
    refine m_get_oddRound C dX12_parts_352 ?_
    refine g_iload_n C (i := 2) dX12_parts_355 rfl rfl ?_
    refine g_iconst_1 C dX12_parts_356 ?_
    refine g_isub C dX12_parts_357 ?_
    refine m_iald C (k := 13) (by decide) h3 dX12_parts_358 ?_
    refine g_iadd C dX12_parts_359 ?_
    refine m_iast C (k := 12) (by decide) h5 dX12_parts_360 ?_
    refine m_nmI _ (fun I17 e18 => ?_)
    replace h := h I17 e18
    refine g_aload_n C (i := 0) dX12_parts_361 rfl rfl ?_
    refine m_get_oddRound C dX12_parts_362 ?_
    refine g_iload_n C (i := 2) dX12_parts_365 rfl rfl ?_
    refine g_iload C (i := 5) dX12_parts_366 rfl ?_
    refine g_aload_n C (i := 0) dX12_parts_368 rfl rfl ?_
    refine m_get_oddRound C dX12_parts_369 ?_
    refine g_iload_n C (i := 2) dX12_parts_372 rfl rfl ?_
    refine g_iconst_1 C dX12_parts_373 ?_
    refine g_isub C dX12_parts_374 ?_
    refine m_iald C (k := 13) (by decide) h3 dX12_parts_375 ?_
    refine g_iadd C dX12_parts_376 ?_
    refine m_iast C (k := 13) (by decide) h5 dX12_parts_377 ?_
    refine m_nmI _ (fun I19 e20 => ?_)
    replace h := h I19 e20
    refine g_iinc C 1 [(0, .ref (o 0)), (1, .int v1), (2, .int (v2 + 1)), (3, .int s0), (4, .int ((I 12 (v2 - 1).toNatClampNeg) + s0)), (5, .int ((I 12 (v2 - 1).toNatClampNeg) - s0))] dX12_parts_378 rfl (by decide) (by decide) rfl ?_
    refine g_goto C 44 dX12_parts_381 rfl ?_
    exact g_weak [0, 1, 2] rfl (Nat.le_refl _) (Nat.le_refl _) (hB44 v1 (v2 + 1) I19 J15 h)
  · replace h := h.2 c2
    refine g_aload_n C (i := 0) dX12_parts_82 rfl rfl ?_
    refine m_get_evenX C dX12_parts_83 ?_
    refine g_iload_n C (i := 2) dX12_parts_86 rfl rfl ?_
    refine g_ldc2 C (v := 2) (tb_in (List.mem_of_getElem? (i := 1637) (by decide +kernel)) (by decide +kernel)) dX12_parts_87 ?_
    refine g_aload_n C (i := 0) dX12_parts_90 rfl rfl ?_
    refine m_get_evenX C dX12_parts_91 ?_
    refine g_iload_n C (i := 2) dX12_parts_94 rfl rfl ?_
    refine g_iconst_1 C dX12_parts_95 ?_
    refine g_isub C dX12_parts_96 ?_
    obtain ⟨h21, h⟩ := h
    refine m_lald C (k := 6) (by decide) h21 dX12_parts_97 ?_
    refine g_lmul C dX12_parts_98 ?_
    refine g_aload_n C (i := 0) dX12_parts_99 rfl rfl ?_
    refine g_aload_n C (i := 0) dX12_parts_100 rfl rfl ?_
    refine m_get_evenX C dX12_parts_101 ?_
    refine g_iload_n C (i := 2) dX12_parts_104 rfl rfl ?_
    refine g_iconst_1 C dX12_parts_105 ?_
    refine g_isub C dX12_parts_106 ?_
    refine m_lald C (k := 6) (by decide) h21 dX12_parts_107 ?_
    refine g_aload_n C (i := 0) dX12_parts_108 rfl rfl ?_
    refine m_get_evenY C dX12_parts_109 ?_
    refine g_iload_n C (i := 2) dX12_parts_112 rfl rfl ?_
    refine g_iconst_1 C dX12_parts_113 ?_
    refine g_isub C dX12_parts_114 ?_
    refine m_lald C (k := 7) (by decide) h21 dX12_parts_115 ?_
    refine g_iload_n C (i := 3) dX12_parts_116 rfl rfl ?_
    refine m_callPl C rfl (wM_k_turnX (J 6 (v2 - 1).toNatClampNeg) (J 7 (v2 - 1).toNatClampNeg) s0 I J _ h) 3 swM_turnX (rl_ok (by decide) (by decide)) rfl (Nat.le_of_ble_eq_true rfl) (st := [.long (2 * (J 6 (v2 - 1).toNatClampNeg)), .int v2, .ref (o 35)]) _ rfl dX12_parts_117 (fun r22 h => ?_)
    refine g_ladd C dX12_parts_120 ?_
    obtain ⟨h23, h⟩ := h
    refine m_last C (k := 6) (by decide) h23 dX12_parts_121 ?_
    refine m_nmJ _ (fun J24 e25 => ?_)
    replace h := h J24 e25
    refine g_aload_n C (i := 0) dX12_parts_122 rfl rfl ?_
    refine m_get_evenY C dX12_parts_123 ?_
    refine g_iload_n C (i := 2) dX12_parts_126 rfl rfl ?_
    refine g_ldc2 C (v := 2) (tb_in (List.mem_of_getElem? (i := 1637) (by decide +kernel)) (by decide +kernel)) dX12_parts_127 ?_
    refine g_aload_n C (i := 0) dX12_parts_130 rfl rfl ?_
    refine m_get_evenY C dX12_parts_131 ?_
    refine g_iload_n C (i := 2) dX12_parts_134 rfl rfl ?_
    refine g_iconst_1 C dX12_parts_135 ?_
    refine g_isub C dX12_parts_136 ?_
    refine m_lald C (k := 7) (by decide) h21 dX12_parts_137 ?_
    refine g_lmul C dX12_parts_138 ?_
    refine g_aload_n C (i := 0) dX12_parts_139 rfl rfl ?_
    refine g_aload_n C (i := 0) dX12_parts_140 rfl rfl ?_
    refine m_get_evenX C dX12_parts_141 ?_
    refine g_iload_n C (i := 2) dX12_parts_144 rfl rfl ?_
    refine g_iconst_1 C dX12_parts_145 ?_
    refine g_isub C dX12_parts_146 ?_
    refine m_lald C (k := 6) (by decide) h21 dX12_parts_147 ?_
    refine g_aload_n C (i := 0) dX12_parts_148 rfl rfl ?_
    refine m_get_evenY C dX12_parts_149 ?_
    refine g_iload_n C (i := 2) dX12_parts_152 rfl rfl ?_
    refine g_iconst_1 C dX12_parts_153 ?_
    refine g_isub C dX12_parts_154 ?_
    refine m_lald C (k := 7) (by decide) h21 dX12_parts_155 ?_
    refine g_iload_n C (i := 3) dX12_parts_156 rfl rfl ?_
    refine m_callPl C rfl (wM_k_turnY (J24 6 (v2 - 1).toNatClampNeg) (J24 7 (v2 - 1).toNatClampNeg) s0 I J24 _ h) 3 swM_turnY (rl_ok (by decide) (by decide)) rfl (Nat.le_of_ble_eq_true rfl) (st := [.long (2 * (J24 7 (v2 - 1).toNatClampNeg)), .int v2, .ref (o 36)]) _ rfl dX12_parts_157 (fun r26 h => ?_)
    refine g_ladd C dX12_parts_160 ?_
    refine m_last C (k := 7) (by decide) h23 dX12_parts_161 ?_
    refine m_nmJ _ (fun J27 e28 => ?_)
    replace h := h J27 e28
    refine g_aload_n C (i := 0) dX12_parts_162 rfl rfl ?_
    refine m_get_evenRound C dX12_parts_163 ?_
    refine g_iload_n C (i := 2) dX12_parts_166 rfl rfl ?_
    refine g_iconst_0 C dX12_parts_167 ?_
    refine m_iast C (k := 12) (by decide) h23 dX12_parts_168 ?_
    refine m_nmI _ (fun I29 e30 => ?_)
    replace h := h I29 e30
    refine g_goto C 378 dX12_parts_169 rfl ?_
    refine g_iinc C 1 [(0, .ref (o 0)), (1, .int v1), (2, .int (v2 + 1)), (3, .int s0)] dX12_parts_378 rfl (by decide) (by decide) rfl ?_
    refine g_goto C 44 dX12_parts_381 rfl ?_
    exact g_weak [0, 1, 2] rfl (Nat.le_refl _) (Nat.le_refl _) (hB44 v1 (v2 + 1) I29 J27 h)
set_option maxRecDepth 100000 in
theorem wM_parts_gb44 {Γ : gT} {D : gD} {ca : Nat → ClassId} {o : Nat → Nat} {Q : gI → gJ → Prop} (C : Cx Γ cX12_parts RX12 6 D (tyW ca) (rl 2) none 0 0 (PMv ca o Q)) {B44 : Int32 → Int32 → gI → gJ → Prop} (hB44 : ∀ (v1 : Int32) (v2 : Int32) (I : gI) (J : gJ), B44 v1 v2 I J → G Γ 0 0 44 [(0, .ref (o 0)), (1, .int v1), (2, .int v2)] [] (cM ca o I J)) (v1 : Int32) (v2 : Int32) (I : gI) (J : gJ) (h : wM_parts_b44 B44 v1 v2 I J Q) : G Γ 0 0 44 [(0, .ref (o 0)), (1, .int v1), (2, .int v2)] [] (cM ca o I J) := by
  unfold wM_parts_b44 at h
  refine g_iload_n C (i := 2) dX12_parts_44 rfl rfl ?_
  refine g_aload_n C (i := 0) dX12_parts_45 rfl rfl ?_
  refine m_get_folds C dX12_parts_46 ?_
  refine g_iload_n C (i := 1) dX12_parts_49 rfl rfl ?_
  obtain ⟨h1, h⟩ := h
  refine m_iald C (k := 4) (by decide) h1 dX12_parts_50 ?_
  refine g_icmp_gt C 384 dX12_parts_51 rfl (fun c2 => ?_) (fun c2 => ?_)
  · replace h := h.1 c2
    exact g_ret_v C dX12_parts_384 (Nat.le_refl _) (Nat.le_refl _) ⟨_, _, rfl, rfl, h⟩
  · replace h := h.2 c2
    refine g_aload_n C (i := 0) dX12_parts_54 rfl rfl ?_
    refine g_iload_n C (i := 1) dX12_parts_55 rfl rfl ?_
    refine g_iload_n C (i := 2) dX12_parts_56 rfl rfl ?_
    refine g_iconst_1 C dX12_parts_57 ?_
    refine g_isub C dX12_parts_58 ?_
    refine m_callPi C rfl (wM_k_counts v1 (v2 - 1) I J _ h) 2 swM_counts (rl_ok (by decide) (by decide)) rfl (Nat.le_of_ble_eq_true rfl) (st := []) _ rfl dX12_parts_59 (fun r3 h => ?_)
    refine g_iconst_1 C dX12_parts_62 ?_
    refine g_icmp_ne C 70 dX12_parts_63 rfl (fun c4 => ?_) (fun c4 => ?_)
    · replace h := h.1 c4
      refine g_iconst_m1 C dX12_parts_70 ?_
      exact g_weak [0, 1, 2] rfl (Nat.le_refl _) (Nat.le_refl _) (wM_parts_gc71  C hB44 v1 v2 (-1) I J h)
    · replace h := h.2 c4
      refine g_iconst_1 C dX12_parts_66 ?_
      refine g_goto C 71 dX12_parts_67 rfl ?_
      exact g_weak [0, 1, 2] rfl (Nat.le_refl _) (Nat.le_refl _) (wM_parts_gc71  C hB44 v1 v2 1 I J h)
theorem wM_parts_gl44 {Γ : gT} {D : gD} {ca : Nat → ClassId} {o : Nat → Nat} {Q : gI → gJ → Prop} (C : Cx Γ cX12_parts RX12 6 D (tyW ca) (rl 2) none 0 0 (PMv ca o Q)) : ∀ (n : Nat) (v1 : Int32) (v2 : Int32) (I : gI) (J : gJ) (_ : wM_parts_l44 Q n v1 v2 I J), G Γ 0 0 44 [(0, .ref (o 0)), (1, .int v1), (2, .int v2)] [] (cM ca o I J) := by
  intro n
  induction n with
  | zero => intro v1 v2 I J h; exact h.elim
  | succ n ih => intro v1 v2 I J h; exact wM_parts_gb44 C ih v1 v2 I J h
set_option maxRecDepth 100000 in
theorem wM_parts_g {Γ : gT} {D : gD} {ca : Nat → ClassId} {o : Nat → Nat} {Q : gI → gJ → Prop} (v1 : Int32) (I : gI) (J : gJ) (C : Cx Γ cX12_parts RX12 6 D (tyW ca) (rl 2) none 0 0 (PMv ca o Q)) (h : wM_parts v1 I J Q) : G Γ 0 0 0 [(0, .ref (o 0)), (1, .int v1)] [] (cM ca o I J) := by
  unfold wM_parts at h
  refine g_aload_n C (i := 0) dX12_parts_0 rfl rfl ?_
  refine m_get_evenX C dX12_parts_1 ?_
  refine g_iconst_0 C dX12_parts_4 ?_
  refine g_lconst_1 C dX12_parts_5 ?_
  refine m_last C (k := 6) (by decide) (by unfold vp_in; decide) dX12_parts_6 ?_
  refine m_nmJ _ (fun J1 e2 => ?_)
  replace h := h J1 e2
  refine g_aload_n C (i := 0) dX12_parts_7 rfl rfl ?_
  refine m_get_evenY C dX12_parts_8 ?_
  refine g_iconst_0 C dX12_parts_11 ?_
  refine g_lconst_0 C dX12_parts_12 ?_
  refine m_last C (k := 7) (by decide) (by unfold vp_in; decide) dX12_parts_13 ?_
  refine m_nmJ _ (fun J3 e4 => ?_)
  replace h := h J3 e4
  refine g_aload_n C (i := 0) dX12_parts_14 rfl rfl ?_
  refine m_get_oddX C dX12_parts_15 ?_
  refine g_iconst_0 C dX12_parts_18 ?_
  refine g_lconst_1 C dX12_parts_19 ?_
  refine m_last C (k := 8) (by decide) (by unfold vp_in; decide) dX12_parts_20 ?_
  refine m_nmJ _ (fun J5 e6 => ?_)
  replace h := h J5 e6
  refine g_aload_n C (i := 0) dX12_parts_21 rfl rfl ?_
  refine m_get_oddY C dX12_parts_22 ?_
  refine g_iconst_0 C dX12_parts_25 ?_
  refine g_lconst_0 C dX12_parts_26 ?_
  refine m_last C (k := 9) (by decide) (by unfold vp_in; decide) dX12_parts_27 ?_
  refine m_nmJ _ (fun J7 e8 => ?_)
  replace h := h J7 e8
  refine g_aload_n C (i := 0) dX12_parts_28 rfl rfl ?_
  refine m_get_evenRound C dX12_parts_29 ?_
  refine g_iconst_0 C dX12_parts_32 ?_
  refine g_iconst_0 C dX12_parts_33 ?_
  refine m_iast C (k := 12) (by decide) (by unfold vp_in; decide) dX12_parts_34 ?_
  refine m_nmI _ (fun I9 e10 => ?_)
  replace h := h I9 e10
  refine g_aload_n C (i := 0) dX12_parts_35 rfl rfl ?_
  refine m_get_oddRound C dX12_parts_36 ?_
  refine g_iconst_0 C dX12_parts_39 ?_
  refine g_iconst_0 C dX12_parts_40 ?_
  refine m_iast C (k := 13) (by decide) (by unfold vp_in; decide) dX12_parts_41 ?_
  refine m_nmI _ (fun I11 e12 => ?_)
  replace h := h I11 e12
  refine g_iconst_1 C dX12_parts_42 ?_
  refine g_istore_n C (i := 2) [(0, .ref (o 0)), (1, .int v1), (2, .int 1)] dX12_parts_43 rfl (by decide) rfl ?_
  obtain ⟨n, h⟩ := h
  exact g_weak [0, 1, 2] rfl (Nat.le_refl _) (Nat.le_refl _) (wM_parts_gl44  C  n v1 1 I11 J7 h)
theorem wM_k_parts {D : gD} {ca : Nat → ClassId} {o : Nat → Nat} (v1 : Int32) (I : gI) (J : gJ) (Q : gI → gJ → Prop) (h : wM_parts v1 I J Q) : Ct yX12_parts cX12_parts 6 none (rl 2) D (tyW ca) 0 0 [.ref (o 0), .int v1] (cM ca o I J) (PMv ca o Q) := ct_of (rm := rl 2) (by decide +kernel) (Nat.le_of_ble_eq_true rfl) (fun Γ C => wM_parts_g v1 I J C h)
set_option maxRecDepth 100000 in
theorem wM_ends_gb45 {Γ : gT} {D : gD} {ca : Nat → ClassId} {o : Nat → Nat} {Q : Int32 → gI → gJ → Prop} (C : Cx Γ cX12_ends RX12 8 D (tyW ca) (rl 2) (some .int) 0 0 (PMi ca o Q)) {B45 : Int32 → Int32 → Int32 → Int32 → Int32 → Int32 → Int32 → gI → gJ → Prop} (hB45 : ∀ (v1 : Int32) (v2 : Int32) (v3 : Int32) (v4 : Int32) (v5 : Int32) (v6 : Int32) (v7 : Int32) (I : gI) (J : gJ), B45 v1 v2 v3 v4 v5 v6 v7 I J → G Γ 0 0 45 [(0, .ref (o 0)), (1, .int v1), (2, .int v2), (3, .int v3), (4, .int v4), (5, .int v5), (6, .int v6), (7, .int v7)] [] (cM ca o I J)) (v1 : Int32) (v2 : Int32) (v3 : Int32) (v4 : Int32) (v5 : Int32) (v6 : Int32) (v7 : Int32) (I : gI) (J : gJ) (h : wM_ends_b45 B45 v1 v2 v3 v4 v5 v6 v7 I J Q) : G Γ 0 0 45 [(0, .ref (o 0)), (1, .int v1), (2, .int v2), (3, .int v3), (4, .int v4), (5, .int v5), (6, .int v6), (7, .int v7)] [] (cM ca o I J) := by
  unfold wM_ends_b45 at h
  refine g_iload C (i := 7) dX12_ends_45 rfl ?_
  refine g_iconst_1 C dX12_ends_47 ?_
  refine g_iload_n C (i := 1) dX12_ends_48 rfl rfl ?_
  refine g_ishl C dX12_ends_49 ?_
  refine g_icmp_ge C 107 dX12_ends_50 rfl (fun c1 => ?_) (fun c1 => ?_)
  · replace h := h.1 c1
    refine g_iload C (i := 4) dX12_ends_107 rfl ?_
    refine g_if_ne C 115 dX12_ends_109 rfl (fun c2 => ?_) (fun c2 => ?_)
    · replace h := h.1 c2
      refine g_iload C (i := 6) dX12_ends_115 rfl ?_
      refine g_iconst_m1 C dX12_ends_117 ?_
      refine g_icmp_ne C 130 dX12_ends_118 rfl (fun c3 => ?_) (fun c3 => ?_)
      · replace h := h.1 c3
        refine g_iload C (i := 6) dX12_ends_130 rfl ?_
        exact g_ret_i C dX12_ends_132 (Nat.le_refl _) (Nat.le_refl _) ⟨_, _, _, rfl, rfl, h⟩
      · replace h := h.2 c3
        refine g_aload_n C (i := 0) dX12_ends_121 rfl rfl ?_
        refine g_bipush C (v := (-5)) dX12_ends_122 (by decide) ?_
        refine m_calli C rfl (wM_k_no (-5) I J _ h) 1 swM_no (rl_ok (by decide) (by decide)) rfl (Nat.le_of_ble_eq_true rfl) (st := []) _ rfl dX12_ends_124 (fun r4 I5 J6 h => ?_)
        refine g_goto C 132 dX12_ends_127 rfl ?_
        exact g_ret_i C dX12_ends_132 (Nat.le_refl _) (Nat.le_refl _) ⟨_, _, _, rfl, rfl, h⟩
    · replace h := h.2 c2
      refine g_iload C (i := 5) dX12_ends_112 rfl ?_
      exact g_ret_i C dX12_ends_114 (Nat.le_refl _) (Nat.le_refl _) ⟨_, _, _, rfl, rfl, h⟩
  · replace h := h.2 c1
    refine g_aload_n C (i := 0) dX12_ends_53 rfl rfl ?_
    refine g_iload_n C (i := 1) dX12_ends_54 rfl rfl ?_
    refine g_iload C (i := 7) dX12_ends_55 rfl ?_
    refine m_callv C rfl (wM_k_endOf v1 v7 I J _ h) 2 swM_endOf (rl_ok (by decide) (by decide)) rfl (Nat.le_of_ble_eq_true rfl) (st := []) _ rfl dX12_ends_57 (fun I8 J9 h => ?_)
    refine g_aload_n C (i := 0) dX12_ends_60 rfl rfl ?_
    refine m_get_atX C dX12_ends_61 ?_
    refine g_iload_n C (i := 2) dX12_ends_64 rfl rfl ?_
    refine g_i2l C dX12_ends_65 ?_
    refine g_lne C 101 dX12_ends_66 dX12_ends_67 rfl (fun c10 => ?_) (fun c10 => ?_)
    · replace h := h.1 c10
      refine g_iinc C 1 [(0, .ref (o 0)), (1, .int v1), (2, .int v2), (3, .int v3), (4, .int v4), (5, .int v5), (6, .int v6), (7, .int (v7 + 1))] dX12_ends_101 rfl (by decide) (by decide) rfl ?_
      refine g_goto C 45 dX12_ends_104 rfl ?_
      exact g_weak [0, 1, 2, 3, 4, 5, 6, 7] rfl (Nat.le_refl _) (Nat.le_refl _) (hB45 v1 v2 v3 v4 v5 v6 (v7 + 1) I8 J9 h)
    · replace h := h.2 c10
      refine g_aload_n C (i := 0) dX12_ends_70 rfl rfl ?_
      refine m_get_atY C dX12_ends_71 ?_
      refine g_iload_n C (i := 3) dX12_ends_74 rfl rfl ?_
      refine g_i2l C dX12_ends_75 ?_
      refine g_leq C 83 dX12_ends_76 dX12_ends_77 rfl (fun c11 => ?_) (fun c11 => ?_)
      · replace h := h.1 c11
        refine g_iinc C 1 [(0, .ref (o 0)), (1, .int v1), (2, .int v2), (3, .int v3), (4, .int v4), (5, .int (v5 + 1)), (6, .int v6), (7, .int v7)] dX12_ends_83 rfl (by decide) (by decide) rfl ?_
        refine g_iload C (i := 6) dX12_ends_86 rfl ?_
        refine g_iconst_m1 C dX12_ends_88 ?_
        refine g_icmp_ne C 97 dX12_ends_89 rfl (fun c12 => ?_) (fun c12 => ?_)
        · replace h := h.1 c12
          refine g_iload C (i := 6) dX12_ends_97 rfl ?_
          refine g_istore C (i := 6) [(0, .ref (o 0)), (1, .int v1), (2, .int v2), (3, .int v3), (4, .int v4), (5, .int (v5 + 1)), (6, .int v6), (7, .int v7)] dX12_ends_99 (by decide) rfl ?_
          refine g_iinc C 1 [(0, .ref (o 0)), (1, .int v1), (2, .int v2), (3, .int v3), (4, .int v4), (5, .int (v5 + 1)), (6, .int v6), (7, .int (v7 + 1))] dX12_ends_101 rfl (by decide) (by decide) rfl ?_
          refine g_goto C 45 dX12_ends_104 rfl ?_
          exact g_weak [0, 1, 2, 3, 4, 5, 6, 7] rfl (Nat.le_refl _) (Nat.le_refl _) (hB45 v1 v2 v3 v4 (v5 + 1) v6 (v7 + 1) I8 J9 h)
        · replace h := h.2 c12
          refine g_iload C (i := 7) dX12_ends_92 rfl ?_
          refine g_goto C 99 dX12_ends_94 rfl ?_
          refine g_istore C (i := 6) [(0, .ref (o 0)), (1, .int v1), (2, .int v2), (3, .int v3), (4, .int v4), (5, .int (v5 + 1)), (6, .int v7), (7, .int v7)] dX12_ends_99 (by decide) rfl ?_
          refine g_iinc C 1 [(0, .ref (o 0)), (1, .int v1), (2, .int v2), (3, .int v3), (4, .int v4), (5, .int (v5 + 1)), (6, .int v7), (7, .int (v7 + 1))] dX12_ends_101 rfl (by decide) (by decide) rfl ?_
          refine g_goto C 45 dX12_ends_104 rfl ?_
          exact g_weak [0, 1, 2, 3, 4, 5, 6, 7] rfl (Nat.le_refl _) (Nat.le_refl _) (hB45 v1 v2 v3 v4 (v5 + 1) v7 (v7 + 1) I8 J9 h)
      · replace h := h.2 c11
        refine g_goto C 101 dX12_ends_80 rfl ?_
        refine g_iinc C 1 [(0, .ref (o 0)), (1, .int v1), (2, .int v2), (3, .int v3), (4, .int v4), (5, .int v5), (6, .int v6), (7, .int (v7 + 1))] dX12_ends_101 rfl (by decide) (by decide) rfl ?_
        refine g_goto C 45 dX12_ends_104 rfl ?_
        exact g_weak [0, 1, 2, 3, 4, 5, 6, 7] rfl (Nat.le_refl _) (Nat.le_refl _) (hB45 v1 v2 v3 v4 v5 v6 (v7 + 1) I8 J9 h)
theorem wM_ends_gl45 {Γ : gT} {D : gD} {ca : Nat → ClassId} {o : Nat → Nat} {Q : Int32 → gI → gJ → Prop} (C : Cx Γ cX12_ends RX12 8 D (tyW ca) (rl 2) (some .int) 0 0 (PMi ca o Q)) : ∀ (n : Nat) (v1 : Int32) (v2 : Int32) (v3 : Int32) (v4 : Int32) (v5 : Int32) (v6 : Int32) (v7 : Int32) (I : gI) (J : gJ) (_ : wM_ends_l45 Q n v1 v2 v3 v4 v5 v6 v7 I J), G Γ 0 0 45 [(0, .ref (o 0)), (1, .int v1), (2, .int v2), (3, .int v3), (4, .int v4), (5, .int v5), (6, .int v6), (7, .int v7)] [] (cM ca o I J) := by
  intro n
  induction n with
  | zero => intro v1 v2 v3 v4 v5 v6 v7 I J h; exact h.elim
  | succ n ih => intro v1 v2 v3 v4 v5 v6 v7 I J h; exact wM_ends_gb45 C ih v1 v2 v3 v4 v5 v6 v7 I J h
set_option maxRecDepth 100000 in
theorem wM_ends_gc29 {Γ : gT} {D : gD} {ca : Nat → ClassId} {o : Nat → Nat} {Q : Int32 → gI → gJ → Prop} (C : Cx Γ cX12_ends RX12 8 D (tyW ca) (rl 2) (some .int) 0 0 (PMi ca o Q)) (I : gI) (J : gJ) (h : wM_ends_c29 I J Q) : G Γ 0 0 29 [(0, .ref (o 0))] [] (cM ca o I J) := by
  unfold wM_ends_c29 at h
  refine g_aload_n C (i := 0) dX12_ends_29 rfl rfl ?_
  refine g_bipush C (v := (-6)) dX12_ends_30 (by decide) ?_
  refine m_calli C rfl (wM_k_no (-6) I J _ h) 1 swM_no (rl_ok (by decide) (by decide)) rfl (Nat.le_of_ble_eq_true rfl) (st := []) _ rfl dX12_ends_32 (fun r1 I2 J3 h => ?_)
  exact g_ret_i C dX12_ends_35 (Nat.le_refl _) (Nat.le_refl _) ⟨_, _, _, rfl, rfl, h⟩
set_option maxRecDepth 100000 in
theorem wM_ends_gc11 {Γ : gT} {D : gD} {ca : Nat → ClassId} {o : Nat → Nat} {Q : Int32 → gI → gJ → Prop} (C : Cx Γ cX12_ends RX12 8 D (tyW ca) (rl 2) (some .int) 0 0 (PMi ca o Q)) (I : gI) (J : gJ) (h : wM_ends_c11 I J Q) : G Γ 0 0 11 [(0, .ref (o 0))] [] (cM ca o I J) := by
  unfold wM_ends_c11 at h
  refine g_aload_n C (i := 0) dX12_ends_11 rfl rfl ?_
  refine g_bipush C (v := (-5)) dX12_ends_12 (by decide) ?_
  refine m_calli C rfl (wM_k_no (-5) I J _ h) 1 swM_no (rl_ok (by decide) (by decide)) rfl (Nat.le_of_ble_eq_true rfl) (st := []) _ rfl dX12_ends_14 (fun r1 I2 J3 h => ?_)
  exact g_ret_i C dX12_ends_17 (Nat.le_refl _) (Nat.le_refl _) ⟨_, _, _, rfl, rfl, h⟩
set_option maxRecDepth 100000 in
theorem wM_ends_g {Γ : gT} {D : gD} {ca : Nat → ClassId} {o : Nat → Nat} {Q : Int32 → gI → gJ → Prop} (v1 : Int32) (v2 : Int32) (v3 : Int32) (v4 : Int32) (I : gI) (J : gJ) (C : Cx Γ cX12_ends RX12 8 D (tyW ca) (rl 2) (some .int) 0 0 (PMi ca o Q)) (h : wM_ends v1 v2 v3 v4 I J Q) : G Γ 0 0 0 [(0, .ref (o 0)), (1, .int v1), (2, .int v2), (3, .int v3), (4, .int v4)] [] (cM ca o I J) := by
  unfold wM_ends at h
  refine g_iload C (i := 4) dX12_ends_0 rfl ?_
  refine g_if_lt C 11 dX12_ends_2 rfl (fun c1 => ?_) (fun c1 => ?_)
  · replace h := h.1 c1
    exact g_weak [0] rfl (Nat.le_refl _) (Nat.le_refl _) (wM_ends_gc11  C   I J h)
  · replace h := h.2 c1
    refine g_iload C (i := 4) dX12_ends_5 rfl ?_
    refine g_iconst_1 C dX12_ends_7 ?_
    refine g_icmp_le C 18 dX12_ends_8 rfl (fun c2 => ?_) (fun c2 => ?_)
    · replace h := h.1 c2
      refine g_iload_n C (i := 1) dX12_ends_18 rfl rfl ?_
      refine g_iconst_1 C dX12_ends_19 ?_
      refine g_icmp_lt C 29 dX12_ends_20 rfl (fun c3 => ?_) (fun c3 => ?_)
      · replace h := h.1 c3
        exact g_weak [0] rfl (Nat.le_refl _) (Nat.le_refl _) (wM_ends_gc29  C   I J h)
      · replace h := h.2 c3
        refine g_iload_n C (i := 1) dX12_ends_23 rfl rfl ?_
        refine g_bipush C (v := 10) dX12_ends_24 (by decide) ?_
        refine g_icmp_le C 36 dX12_ends_26 rfl (fun c4 => ?_) (fun c4 => ?_)
        · replace h := h.1 c4
          refine g_iconst_0 C dX12_ends_36 ?_
          refine g_istore C (i := 5) [(0, .ref (o 0)), (1, .int v1), (2, .int v2), (3, .int v3), (4, .int v4), (5, .int 0)] dX12_ends_37 (by decide) rfl ?_
          refine g_iconst_m1 C dX12_ends_39 ?_
          refine g_istore C (i := 6) [(0, .ref (o 0)), (1, .int v1), (2, .int v2), (3, .int v3), (4, .int v4), (5, .int 0), (6, .int (-1))] dX12_ends_40 (by decide) rfl ?_
          refine g_iconst_0 C dX12_ends_42 ?_
          refine g_istore C (i := 7) [(0, .ref (o 0)), (1, .int v1), (2, .int v2), (3, .int v3), (4, .int v4), (5, .int 0), (6, .int (-1)), (7, .int 0)] dX12_ends_43 (by decide) rfl ?_
          obtain ⟨n, h⟩ := h
          exact g_weak [0, 1, 2, 3, 4, 5, 6, 7] rfl (Nat.le_refl _) (Nat.le_refl _) (wM_ends_gl45  C  n v1 v2 v3 v4 0 (-1) 0 I J h)
        · replace h := h.2 c4
          exact g_weak [0] rfl (Nat.le_refl _) (Nat.le_refl _) (wM_ends_gc29  C   I J h)
    · replace h := h.2 c2
      exact g_weak [0] rfl (Nat.le_refl _) (Nat.le_refl _) (wM_ends_gc11  C   I J h)
theorem wM_k_ends {D : gD} {ca : Nat → ClassId} {o : Nat → Nat} (v1 : Int32) (v2 : Int32) (v3 : Int32) (v4 : Int32) (I : gI) (J : gJ) (Q : Int32 → gI → gJ → Prop) (h : wM_ends v1 v2 v3 v4 I J Q) : Ct yX12_ends cX12_ends 8 (some .int) (rl 2) D (tyW ca) 0 0 [.ref (o 0), .int v1, .int v2, .int v3, .int v4] (cM ca o I J) (PMi ca o Q) := ct_of (rm := rl 2) (by decide +kernel) (Nat.le_of_ble_eq_true rfl) (fun Γ C => wM_ends_g v1 v2 v3 v4 I J C h)
set_option maxRecDepth 100000 in
theorem wM_opening_gc64 {Γ : gT} {D : gD} {ca : Nat → ClassId} {o : Nat → Nat} {Q : Int32 → gI → gJ → Prop} (C : Cx Γ cX12_opening RX12 6 D (tyW ca) (rl 2) (some .int) 0 0 (PMi ca o Q)) (v1 : Int32) (v3 : Int32) (v4 : Int32) (I : gI) (J : gJ) (h : wM_opening_c64 v1 v3 v4 I J Q) : G Γ 0 0 64 [(0, .ref (o 0)), (1, .int v1), (3, .int v3), (4, .int v4)] [] (cM ca o I J) := by
  unfold wM_opening_c64 at h
  refine g_aload_n C (i := 0) dX12_opening_64 rfl rfl ?_
  refine g_bipush C (v := 11) dX12_opening_65 (by decide) ?_
  refine m_callv C rfl (wM_k_body 11 I J _ h) 1 swM_body (rl_ok (by decide) (by decide)) rfl (Nat.le_of_ble_eq_true rfl) (st := []) _ rfl dX12_opening_67 (fun I2 J3 h => ?_)
  refine g_aload_n C (i := 0) dX12_opening_70 rfl rfl ?_
  refine g_iload_n C (i := 1) dX12_opening_71 rfl rfl ?_
  refine g_iload C (i := 4) dX12_opening_72 rfl ?_
  refine m_calli C rfl (wM_k_folding v1 v4 I2 J3 _ h) 2 swM_folding (rl_ok (by decide) (by decide)) rfl (Nat.le_of_ble_eq_true rfl) (st := []) _ rfl dX12_opening_74 (fun r4 I5 J6 h => ?_)
  refine g_iconst_2 C dX12_opening_77 ?_
  refine g_imul C dX12_opening_78 ?_
  refine g_istore C (i := 5) [(0, .ref (o 0)), (1, .int v1), (3, .int v3), (4, .int v4), (5, .int (r4 * 2))] dX12_opening_79 (by decide) rfl ?_
  refine g_iload_n C (i := 3) dX12_opening_81 rfl rfl ?_
  refine g_iconst_2 C dX12_opening_82 ?_
  refine g_icmp_ne C 93 dX12_opening_83 rfl (fun c7 => ?_) (fun c7 => ?_)
  · replace h := h.1 c7
    refine g_iload C (i := 5) dX12_opening_93 rfl ?_
    exact g_ret_i C dX12_opening_95 (Nat.le_refl _) (Nat.le_refl _) ⟨_, _, _, rfl, rfl, h⟩
  · replace h := h.2 c7
    refine g_iload C (i := 5) dX12_opening_86 rfl ?_
    refine g_iconst_3 C dX12_opening_88 ?_
    refine g_imul C dX12_opening_89 ?_
    refine g_goto C 95 dX12_opening_90 rfl ?_
    exact g_ret_i C dX12_opening_95 (Nat.le_refl _) (Nat.le_refl _) ⟨_, _, _, rfl, rfl, h⟩
set_option maxRecDepth 100000 in
theorem wM_opening_gc42 {Γ : gT} {D : gD} {ca : Nat → ClassId} {o : Nat → Nat} {Q : Int32 → gI → gJ → Prop} (C : Cx Γ cX12_opening RX12 6 D (tyW ca) (rl 2) (some .int) 0 0 (PMi ca o Q)) (v1 : Int32) (v2 : Int32) (v3 : Int32) (v4 : Int32) (I : gI) (J : gJ) (h : wM_opening_c42 v1 v2 v3 v4 I J Q) : G Γ 0 0 42 [(0, .ref (o 0)), (1, .int v1), (2, .int v2), (3, .int v3), (4, .int v4)] [] (cM ca o I J) := by
  unfold wM_opening_c42 at h
  refine g_iload_n C (i := 3) dX12_opening_42 rfl rfl ?_
  refine g_bipush C (v := 6) dX12_opening_43 (by decide) ?_
  refine g_icmp_ne C 64 dX12_opening_45 rfl (fun c1 => ?_) (fun c1 => ?_)
  · replace h := h.1 c1
    exact g_weak [0, 1, 3, 4] rfl (Nat.le_refl _) (Nat.le_refl _) (wM_opening_gc64  C  v1 v3 v4 I J h)
  · replace h := h.2 c1
    refine g_aload_n C (i := 0) dX12_opening_48 rfl rfl ?_
    refine g_bipush C (v := 71) dX12_opening_49 (by decide) ?_
    refine m_callv C rfl (wM_k_body 71 I J _ h) 1 swM_body (rl_ok (by decide) (by decide)) rfl (Nat.le_of_ble_eq_true rfl) (st := []) _ rfl dX12_opening_51 (fun I3 J4 h => ?_)
    refine g_iload_n C (i := 2) dX12_opening_54 rfl rfl ?_
    refine g_aload_n C (i := 0) dX12_opening_55 rfl rfl ?_
    refine m_get_part C dX12_opening_56 ?_
    refine g_iload_n C (i := 1) dX12_opening_59 rfl rfl ?_
    obtain ⟨h5, h⟩ := h
    refine m_iald C (k := 3) (by decide) h5 dX12_opening_60 ?_
    refine g_isub C dX12_opening_61 ?_
    refine g_istore C (i := 4) [(0, .ref (o 0)), (1, .int v1), (2, .int v2), (3, .int v3), (4, .int (v2 - (I3 3 v1.toNatClampNeg)))] dX12_opening_62 (by decide) rfl ?_
    exact g_weak [0, 1, 3, 4] rfl (Nat.le_refl _) (Nat.le_refl _) (wM_opening_gc64  C  v1 v3 (v2 - (I3 3 v1.toNatClampNeg)) I3 J4 h)
set_option maxRecDepth 100000 in
theorem wM_opening_gc31 {Γ : gT} {D : gD} {ca : Nat → ClassId} {o : Nat → Nat} {Q : Int32 → gI → gJ → Prop} (C : Cx Γ cX12_opening RX12 6 D (tyW ca) (rl 2) (some .int) 0 0 (PMi ca o Q)) (v1 : Int32) (v2 : Int32) (v3 : Int32) (I : gI) (J : gJ) (h : wM_opening_c31 v1 v2 v3 I J Q) : G Γ 0 0 31 [(0, .ref (o 0)), (1, .int v1), (2, .int v2), (3, .int v3)] [] (cM ca o I J) := by
  unfold wM_opening_c31 at h
  refine g_aload_n C (i := 0) dX12_opening_31 rfl rfl ?_
  refine g_bipush C (v := 40) dX12_opening_32 (by decide) ?_
  refine m_callv C rfl (wM_k_body 40 I J _ h) 1 swM_body (rl_ok (by decide) (by decide)) rfl (Nat.le_of_ble_eq_true rfl) (st := []) _ rfl dX12_opening_34 (fun I2 J3 h => ?_)
  refine g_iload_n C (i := 2) dX12_opening_37 rfl rfl ?_
  refine g_iconst_1 C dX12_opening_38 ?_
  refine g_iadd C dX12_opening_39 ?_
  refine g_istore C (i := 4) [(0, .ref (o 0)), (1, .int v1), (2, .int v2), (3, .int v3), (4, .int (v2 + 1))] dX12_opening_40 (by decide) rfl ?_
  exact g_weak [0, 1, 2, 3, 4] rfl (Nat.le_refl _) (Nat.le_refl _) (wM_opening_gc42  C  v1 v2 v3 (v2 + 1) I2 J3 h)
set_option maxRecDepth 100000 in
theorem wM_opening_gc21 {Γ : gT} {D : gD} {ca : Nat → ClassId} {o : Nat → Nat} {Q : Int32 → gI → gJ → Prop} (C : Cx Γ cX12_opening RX12 6 D (tyW ca) (rl 2) (some .int) 0 0 (PMi ca o Q)) (v1 : Int32) (v2 : Int32) (v3 : Int32) (v4 : Int32) (I : gI) (J : gJ) (h : wM_opening_c21 v1 v2 v3 v4 I J Q) : G Γ 0 0 21 [(0, .ref (o 0)), (1, .int v1), (2, .int v2), (3, .int v3), (4, .int v4)] [] (cM ca o I J) := by
  unfold wM_opening_c21 at h
  refine g_iload_n C (i := 3) dX12_opening_21 rfl rfl ?_
  refine g_iconst_3 C dX12_opening_22 ?_
  refine g_icmp_eq C 31 dX12_opening_23 rfl (fun c1 => ?_) (fun c1 => ?_)
  · replace h := h.1 c1
    exact g_weak [0, 1, 2, 3] rfl (Nat.le_refl _) (Nat.le_refl _) (wM_opening_gc31  C  v1 v2 v3 I J h)
  · replace h := h.2 c1
    refine g_iload_n C (i := 3) dX12_opening_26 rfl rfl ?_
    refine g_iconst_4 C dX12_opening_27 ?_
    refine g_icmp_ne C 42 dX12_opening_28 rfl (fun c2 => ?_) (fun c2 => ?_)
    · replace h := h.1 c2
      exact g_weak [0, 1, 2, 3, 4] rfl (Nat.le_refl _) (Nat.le_refl _) (wM_opening_gc42  C  v1 v2 v3 v4 I J h)
    · replace h := h.2 c2
      exact g_weak [0, 1, 2, 3] rfl (Nat.le_refl _) (Nat.le_refl _) (wM_opening_gc31  C  v1 v2 v3 I J h)
set_option maxRecDepth 100000 in
theorem wM_opening_g {Γ : gT} {D : gD} {ca : Nat → ClassId} {o : Nat → Nat} {Q : Int32 → gI → gJ → Prop} (v1 : Int32) (v2 : Int32) (I : gI) (J : gJ) (C : Cx Γ cX12_opening RX12 6 D (tyW ca) (rl 2) (some .int) 0 0 (PMi ca o Q)) (h : wM_opening v1 v2 I J Q) : G Γ 0 0 0 [(0, .ref (o 0)), (1, .int v1), (2, .int v2)] [] (cM ca o I J) := by
  unfold wM_opening at h
  refine g_aload_n C (i := 0) dX12_opening_0 rfl rfl ?_
  refine m_get_kind C dX12_opening_1 ?_
  refine g_iload_n C (i := 1) dX12_opening_4 rfl rfl ?_
  obtain ⟨h1, h⟩ := h
  refine m_iald C (k := 2) (by decide) h1 dX12_opening_5 ?_
  refine g_istore_n C (i := 3) [(0, .ref (o 0)), (1, .int v1), (2, .int v2), (3, .int (I 2 v1.toNatClampNeg))] dX12_opening_6 rfl (by decide) rfl ?_
  refine g_iload_n C (i := 2) dX12_opening_7 rfl rfl ?_
  refine g_istore C (i := 4) [(0, .ref (o 0)), (1, .int v1), (2, .int v2), (3, .int (I 2 v1.toNatClampNeg)), (4, .int v2)] dX12_opening_8 (by decide) rfl ?_
  refine g_iload_n C (i := 3) dX12_opening_10 rfl rfl ?_
  refine g_iconst_2 C dX12_opening_11 ?_
  refine g_icmp_ne C 21 dX12_opening_12 rfl (fun c2 => ?_) (fun c2 => ?_)
  · replace h := h.1 c2
    exact g_weak [0, 1, 2, 3, 4] rfl (Nat.le_refl _) (Nat.le_refl _) (wM_opening_gc21  C  v1 v2 (I 2 v1.toNatClampNeg) v2 I J h)
  · replace h := h.2 c2
    refine g_aload_n C (i := 0) dX12_opening_15 rfl rfl ?_
    refine g_bipush C (v := 30) dX12_opening_16 (by decide) ?_
    refine m_callv C rfl (wM_k_body 30 I J _ h) 1 swM_body (rl_ok (by decide) (by decide)) rfl (Nat.le_of_ble_eq_true rfl) (st := []) _ rfl dX12_opening_18 (fun I4 J5 h => ?_)
    exact g_weak [0, 1, 2, 3, 4] rfl (Nat.le_refl _) (Nat.le_refl _) (wM_opening_gc21  C  v1 v2 (I 2 v1.toNatClampNeg) v2 I4 J5 h)
theorem wM_k_opening {D : gD} {ca : Nat → ClassId} {o : Nat → Nat} (v1 : Int32) (v2 : Int32) (I : gI) (J : gJ) (Q : Int32 → gI → gJ → Prop) (h : wM_opening v1 v2 I J Q) : Ct yX12_opening cX12_opening 6 (some .int) (rl 2) D (tyW ca) 0 0 [.ref (o 0), .int v1, .int v2] (cM ca o I J) (PMi ca o Q) := ct_of (rm := rl 2) (by decide +kernel) (Nat.le_of_ble_eq_true rfl) (fun Γ C => wM_opening_g v1 v2 I J C h)
