set_option maxRecDepth 100000 in
theorem wM_strip_gb107 {Γ : gT} {D : gD} {ca : Nat → ClassId} {o : Nat → Nat} {Q : Int32 → gI → gJ → Prop} (C : Cx Γ cX12_strip RX12 9 D (tyW ca) (rl 3) (some .int) 0 0 (PMi ca o Q)) {B107 : Int32 → Int32 → Int32 → Int32 → Int64 → Int32 → gI → gJ → Prop} (hB107 : ∀ (v1 : Int32) (v2 : Int32) (v3 : Int32) (v4 : Int32) (v6 : Int64) (v8 : Int32) (I : gI) (J : gJ), B107 v1 v2 v3 v4 v6 v8 I J → G Γ 0 0 107 [(0, .ref (o 0)), (1, .int v1), (2, .int v2), (3, .int v3), (4, .int v4), (6, .long v6), (8, .int v8)] [] (cM ca o I J)) (v1 : Int32) (v2 : Int32) (v3 : Int32) (v4 : Int32) (v6 : Int64) (v8 : Int32) (I : gI) (J : gJ) (h : wM_strip_b107 B107 v1 v2 v3 v4 v6 v8 I J Q) : G Γ 0 0 107 [(0, .ref (o 0)), (1, .int v1), (2, .int v2), (3, .int v3), (4, .int v4), (6, .long v6), (8, .int v8)] [] (cM ca o I J) := by
  unfold wM_strip_b107 at h
  refine g_iload C (i := 8) dX12_strip_107 rfl ?_
  refine g_iload C (i := 4) dX12_strip_109 rfl ?_
  refine g_icmp_ge C 143 dX12_strip_111 rfl (fun c1 => ?_) (fun c1 => ?_)
  · replace h := h.1 c1
    refine g_aload_n C (i := 0) dX12_strip_143 rfl rfl ?_
    refine g_iload_n C (i := 1) dX12_strip_144 rfl rfl ?_
    refine g_iload_n C (i := 2) dX12_strip_145 rfl rfl ?_
    refine g_iload C (i := 4) dX12_strip_146 rfl ?_
    refine g_lload C (i := 6) dX12_strip_148 rfl ?_
    refine m_calli C rfl (wM_k_adds v1 v2 v4 v6 I J _ h) 4 swM_adds (rl_ok (by decide) (by decide)) rfl (Nat.le_of_ble_eq_true rfl) (st := []) _ rfl dX12_strip_150 (fun r2 I3 J4 h => ?_)
    exact g_ret_i C dX12_strip_153 (Nat.le_refl _) (Nat.le_refl _) ⟨_, _, _, rfl, rfl, h⟩
  · replace h := h.2 c1
    refine g_lload C (i := 6) dX12_strip_114 rfl ?_
    refine g_aload_n C (i := 0) dX12_strip_116 rfl rfl ?_
    refine m_get_cells C dX12_strip_117 ?_
    refine g_sipush C (v := 160) dX12_strip_120 (by decide) ?_
    refine g_iload_n C (i := 3) dX12_strip_123 rfl rfl ?_
    refine g_imul C dX12_strip_124 ?_
    refine g_iload C (i := 8) dX12_strip_125 rfl ?_
    refine g_iadd C dX12_strip_127 ?_
    obtain ⟨h5, h⟩ := h
    refine m_lald C (k := 2) (by decide) h5 dX12_strip_128 ?_
    refine g_lconst_1 C dX12_strip_129 ?_
    refine g_land C dX12_strip_130 ?_
    refine g_iload C (i := 8) dX12_strip_131 rfl ?_
    refine g_lshl C dX12_strip_133 ?_
    refine g_lor C dX12_strip_134 ?_
    refine g_topl (fun x6 e7 => ?_)
    replace h := h x6 e7
    refine g_lstore C (i := 6) [(0, .ref (o 0)), (1, .int v1), (2, .int v2), (3, .int v3), (4, .int v4), (6, .long x6), (8, .int v8)] dX12_strip_135 (by decide) rfl ?_
    refine g_iinc C 1 [(0, .ref (o 0)), (1, .int v1), (2, .int v2), (3, .int v3), (4, .int v4), (6, .long x6), (8, .int (v8 + 1))] dX12_strip_137 rfl (by decide) (by decide) rfl ?_
    refine g_goto C 107 dX12_strip_140 rfl ?_
    exact g_weak [0, 1, 2, 3, 4, 5, 6] rfl (Nat.le_refl _) (Nat.le_refl _) (hB107 v1 v2 v3 v4 x6 (v8 + 1) I J h)
theorem wM_strip_gl107 {Γ : gT} {D : gD} {ca : Nat → ClassId} {o : Nat → Nat} {Q : Int32 → gI → gJ → Prop} (C : Cx Γ cX12_strip RX12 9 D (tyW ca) (rl 3) (some .int) 0 0 (PMi ca o Q)) : ∀ (n : Nat) (v1 : Int32) (v2 : Int32) (v3 : Int32) (v4 : Int32) (v6 : Int64) (v8 : Int32) (I : gI) (J : gJ) (_ : wM_strip_l107 Q n v1 v2 v3 v4 v6 v8 I J), G Γ 0 0 107 [(0, .ref (o 0)), (1, .int v1), (2, .int v2), (3, .int v3), (4, .int v4), (6, .long v6), (8, .int v8)] [] (cM ca o I J) := by
  intro n
  induction n with
  | zero => intro v1 v2 v3 v4 v6 v8 I J h; exact h.elim
  | succ n ih => intro v1 v2 v3 v4 v6 v8 I J h; exact wM_strip_gb107 C ih v1 v2 v3 v4 v6 v8 I J h
set_option maxRecDepth 100000 in
theorem wM_strip_gc78 {Γ : gT} {D : gD} {ca : Nat → ClassId} {o : Nat → Nat} {Q : Int32 → gI → gJ → Prop} (C : Cx Γ cX12_strip RX12 9 D (tyW ca) (rl 3) (some .int) 0 0 (PMi ca o Q)) (I : gI) (J : gJ) (h : wM_strip_c78 I J Q) : G Γ 0 0 78 [(0, .ref (o 0))] [] (cM ca o I J) := by
  unfold wM_strip_c78 at h
  refine g_aload_n C (i := 0) dX12_strip_78 rfl rfl ?_
  refine g_bipush C (v := (-6)) dX12_strip_79 (by decide) ?_
  refine m_calli C rfl (wM_k_no (-6) I J _ h) 1 swM_no (rl_ok (by decide) (by decide)) rfl (Nat.le_of_ble_eq_true rfl) (st := []) _ rfl dX12_strip_81 (fun r1 I2 J3 h => ?_)
  exact g_ret_i C dX12_strip_84 (Nat.le_refl _) (Nat.le_refl _) ⟨_, _, _, rfl, rfl, h⟩
set_option maxRecDepth 100000 in
theorem wM_strip_gc65 {Γ : gT} {D : gD} {ca : Nat → ClassId} {o : Nat → Nat} {Q : Int32 → gI → gJ → Prop} (C : Cx Γ cX12_strip RX12 9 D (tyW ca) (rl 3) (some .int) 0 0 (PMi ca o Q)) (v1 : Int32) (v2 : Int32) (v3 : Int32) (v4 : Int32) (s0 : Int32) (s1 : Int32) (I : gI) (J : gJ) (h : wM_strip_c65 v1 v2 v3 v4 s0 s1 I J Q) : G Γ 0 0 65 [(0, .ref (o 0)), (1, .int v1), (2, .int v2), (3, .int v3), (4, .int v4)] [.int s1, .int s0] (cM ca o I J) := by
  unfold wM_strip_c65 at h
  refine g_icmp_gt C 78 dX12_strip_65 rfl (fun c1 => ?_) (fun c1 => ?_)
  · replace h := h.1 c1
    exact g_weak [0] rfl (Nat.le_refl _) (Nat.le_refl _) (wM_strip_gc78  C   I J h)
  · replace h := h.2 c1
    refine g_iload_n C (i := 2) dX12_strip_68 rfl rfl ?_
    refine g_if_lt C 78 dX12_strip_69 rfl (fun c2 => ?_) (fun c2 => ?_)
    · replace h := h.1 c2
      exact g_weak [0] rfl (Nat.le_refl _) (Nat.le_refl _) (wM_strip_gc78  C   I J h)
    · replace h := h.2 c2
      refine g_iload_n C (i := 2) dX12_strip_72 rfl rfl ?_
      refine g_ldc C (v := 999999) (tb_in (List.mem_of_getElem? (i := 1560) (by decide +kernel)) (by decide +kernel)) dX12_strip_73 ?_
      refine g_icmp_le C 85 dX12_strip_75 rfl (fun c3 => ?_) (fun c3 => ?_)
      · replace h := h.1 c3
        refine g_aload_n C (i := 0) dX12_strip_85 rfl rfl ?_
        refine m_get_strips C dX12_strip_86 ?_
        refine g_bipush C (v := 8) dX12_strip_89 (by decide) ?_
        refine g_icmp_ne C 101 dX12_strip_91 rfl (fun c4 => ?_) (fun c4 => ?_)
        · replace h := h.1 c4
          refine g_lconst_0 C dX12_strip_101 ?_
          refine g_lstore C (i := 6) [(0, .ref (o 0)), (1, .int v1), (2, .int v2), (3, .int v3), (4, .int v4), (6, .long 0)] dX12_strip_102 (by decide) rfl ?_
          refine g_iconst_0 C dX12_strip_104 ?_
          refine g_istore C (i := 8) [(0, .ref (o 0)), (1, .int v1), (2, .int v2), (3, .int v3), (4, .int v4), (6, .long 0), (8, .int 0)] dX12_strip_105 (by decide) rfl ?_
          obtain ⟨n, h⟩ := h
          exact g_weak [0, 1, 2, 3, 4, 5, 6] rfl (Nat.le_refl _) (Nat.le_refl _) (wM_strip_gl107  C  n v1 v2 v3 v4 0 0 I J h)
        · replace h := h.2 c4
          refine g_aload_n C (i := 0) dX12_strip_94 rfl rfl ?_
          refine g_bipush C (v := (-7)) dX12_strip_95 (by decide) ?_
          refine m_calli C rfl (wM_k_no (-7) I J _ h) 1 swM_no (rl_ok (by decide) (by decide)) rfl (Nat.le_of_ble_eq_true rfl) (st := []) _ rfl dX12_strip_97 (fun r5 I6 J7 h => ?_)
          exact g_ret_i C dX12_strip_100 (Nat.le_refl _) (Nat.le_refl _) ⟨_, _, _, rfl, rfl, h⟩
      · replace h := h.2 c3
        exact g_weak [0] rfl (Nat.le_refl _) (Nat.le_refl _) (wM_strip_gc78  C   I J h)
set_option maxRecDepth 100000 in
theorem wM_strip_gc18 {Γ : gT} {D : gD} {ca : Nat → ClassId} {o : Nat → Nat} {Q : Int32 → gI → gJ → Prop} (C : Cx Γ cX12_strip RX12 9 D (tyW ca) (rl 3) (some .int) 0 0 (PMi ca o Q)) (I : gI) (J : gJ) (h : wM_strip_c18 I J Q) : G Γ 0 0 18 [(0, .ref (o 0))] [] (cM ca o I J) := by
  unfold wM_strip_c18 at h
  refine g_aload_n C (i := 0) dX12_strip_18 rfl rfl ?_
  refine g_iconst_m1 C dX12_strip_19 ?_
  refine m_calli C rfl (wM_k_no (-1) I J _ h) 1 swM_no (rl_ok (by decide) (by decide)) rfl (Nat.le_of_ble_eq_true rfl) (st := []) _ rfl dX12_strip_20 (fun r1 I2 J3 h => ?_)
  exact g_ret_i C dX12_strip_23 (Nat.le_refl _) (Nat.le_refl _) ⟨_, _, _, rfl, rfl, h⟩
set_option maxRecDepth 100000 in
theorem wM_strip_g {Γ : gT} {D : gD} {ca : Nat → ClassId} {o : Nat → Nat} {Q : Int32 → gI → gJ → Prop} (v1 : Int32) (v2 : Int32) (v3 : Int32) (v4 : Int32) (I : gI) (J : gJ) (C : Cx Γ cX12_strip RX12 9 D (tyW ca) (rl 3) (some .int) 0 0 (PMi ca o Q)) (h : wM_strip v1 v2 v3 v4 I J Q) : G Γ 0 0 0 [(0, .ref (o 0)), (1, .int v1), (2, .int v2), (3, .int v3), (4, .int v4)] [] (cM ca o I J) := by
  unfold wM_strip at h
  refine g_aload_n C (i := 0) dX12_strip_0 rfl rfl ?_
  refine g_iload_n C (i := 3) dX12_strip_1 rfl rfl ?_
  refine m_callPz C rfl (wM_k_isShelf v3 I J _ h) 1 swM_isShelf (rl_ok (by decide) (by decide)) rfl (Nat.le_of_ble_eq_true rfl) (st := []) _ rfl dX12_strip_2 (fun r1 h => ?_)
  refine g_zeq C 18 dX12_strip_5 rfl (fun c2 => ?_) (fun c2 => ?_)
  · replace h := h.1 c2
    exact g_weak [0] rfl (Nat.le_refl _) (Nat.le_refl _) (wM_strip_gc18  C   I J h)
  · replace h := h.2 c2
    refine g_iload_n C (i := 1) dX12_strip_8 rfl rfl ?_
    refine g_if_lt C 18 dX12_strip_9 rfl (fun c3 => ?_) (fun c3 => ?_)
    · replace h := h.1 c3
      exact g_weak [0] rfl (Nat.le_refl _) (Nat.le_refl _) (wM_strip_gc18  C   I J h)
    · replace h := h.2 c3
      refine g_iload_n C (i := 1) dX12_strip_12 rfl rfl ?_
      refine g_bipush C (v := 6) dX12_strip_13 (by decide) ?_
      refine g_icmp_le C 24 dX12_strip_15 rfl (fun c4 => ?_) (fun c4 => ?_)
      · replace h := h.1 c4
        refine g_aload_n C (i := 0) dX12_strip_24 rfl rfl ?_
        refine g_iload_n C (i := 3) dX12_strip_25 rfl rfl ?_
        refine g_iload C (i := 4) dX12_strip_26 rfl ?_
        refine m_callPi C rfl (wM_k_bars v3 v4 I J _ h) 2 swM_bars (rl_ok (by decide) (by decide)) rfl (Nat.le_of_ble_eq_true rfl) (st := []) _ rfl dX12_strip_28 (fun r5 h => ?_)
        refine g_istore C (i := 5) [(0, .ref (o 0)), (1, .int v1), (2, .int v2), (3, .int v3), (4, .int v4), (5, .int r5)] dX12_strip_31 (by decide) rfl ?_
        refine g_iload C (i := 5) dX12_strip_33 rfl ?_
        refine g_if_eq C 45 dX12_strip_35 rfl (fun c6 => ?_) (fun c6 => ?_)
        · replace h := h.1 c6
          refine g_iload C (i := 4) dX12_strip_45 rfl ?_
          refine g_iconst_1 C dX12_strip_47 ?_
          refine g_icmp_lt C 78 dX12_strip_48 rfl (fun c7 => ?_) (fun c7 => ?_)
          · replace h := h.1 c7
            exact g_weak [0] rfl (Nat.le_refl _) (Nat.le_refl _) (wM_strip_gc78  C   I J h)
          · replace h := h.2 c7
            refine g_iload C (i := 4) dX12_strip_51 rfl ?_
            refine g_iload_n C (i := 1) dX12_strip_53 rfl rfl ?_
            refine g_iconst_2 C dX12_strip_54 ?_
            refine g_icmp_ne C 63 dX12_strip_55 rfl (fun c8 => ?_) (fun c8 => ?_)
            · replace h := h.1 c8
              refine g_bipush C (v := 40) dX12_strip_63 (by decide) ?_
              exact g_weak [0, 1, 2, 3, 4] rfl (Nat.le_refl _) (Nat.le_refl _) (wM_strip_gc65  C  v1 v2 v3 v4 v4 40 I J h)
            · replace h := h.2 c8
              refine g_bipush C (v := 25) dX12_strip_58 (by decide) ?_
              refine g_goto C 65 dX12_strip_60 rfl ?_
              exact g_weak [0, 1, 2, 3, 4] rfl (Nat.le_refl _) (Nat.le_refl _) (wM_strip_gc65  C  v1 v2 v3 v4 v4 25 I J h)
        · replace h := h.2 c6
          refine g_aload_n C (i := 0) dX12_strip_38 rfl rfl ?_
          refine g_iload C (i := 5) dX12_strip_39 rfl ?_
          refine m_calli C rfl (wM_k_no r5 I J _ h) 1 swM_no (rl_ok (by decide) (by decide)) rfl (Nat.le_of_ble_eq_true rfl) (st := []) _ rfl dX12_strip_41 (fun r9 I10 J11 h => ?_)
          exact g_ret_i C dX12_strip_44 (Nat.le_refl _) (Nat.le_refl _) ⟨_, _, _, rfl, rfl, h⟩
      · replace h := h.2 c4
        exact g_weak [0] rfl (Nat.le_refl _) (Nat.le_refl _) (wM_strip_gc18  C   I J h)
theorem wM_k_strip {D : gD} {ca : Nat → ClassId} {o : Nat → Nat} (v1 : Int32) (v2 : Int32) (v3 : Int32) (v4 : Int32) (I : gI) (J : gJ) (Q : Int32 → gI → gJ → Prop) (h : wM_strip v1 v2 v3 v4 I J Q) : Ct yX12_strip cX12_strip 9 (some .int) (rl 3) D (tyW ca) 0 0 [.ref (o 0), .int v1, .int v2, .int v3, .int v4] (cM ca o I J) (PMi ca o Q) := ct_of (rm := rl 3) (by decide +kernel) (Nat.le_of_ble_eq_true rfl) (fun Γ C => wM_strip_g v1 v2 v3 v4 I J C h)
set_option maxRecDepth 100000 in
theorem wM_read_gc137 {Γ : gT} {D : gD} {ca : Nat → ClassId} {o : Nat → Nat} {Q : Int32 → gI → gJ → Prop} (C : Cx Γ cX12_read RX12 5 D (tyW ca) (rl 3) (some .int) 0 0 (PMi ca o Q)) (v3 : Int32) (v4 : Int32) (I : gI) (J : gJ) (h : wM_read_c137 v3 v4 I J Q) : G Γ 0 0 137 [(0, .ref (o 0)), (3, .int v3), (4, .int v4)] [] (cM ca o I J) := by
  unfold wM_read_c137 at h
  refine g_iload C (i := 4) dX12_read_137 rfl ?_
  refine g_if_eq C 144 dX12_read_139 rfl (fun c1 => ?_) (fun c1 => ?_)
  · replace h := h.1 c1
    refine g_aload_n C (i := 0) dX12_read_144 rfl rfl ?_
    refine g_aload_n C (i := 0) dX12_read_145 rfl rfl ?_
    refine m_get_was C dX12_read_146 ?_
    refine g_aload_n C (i := 0) dX12_read_149 rfl rfl ?_
    refine m_get_wasWord C dX12_read_150 ?_
    refine g_iconst_1 C dX12_read_153 ?_
    refine m_callv C rfl (wM_k_all (by decide) (by decide) 1 I J _ h) 3 swM_all (rl_ok (by decide) (by decide)) rfl (Nat.le_of_ble_eq_true rfl) (st := []) _ rfl dX12_read_154 (fun I3 J4 h => ?_)
    refine g_aload_n C (i := 0) dX12_read_157 rfl rfl ?_
    refine g_aload_n C (i := 0) dX12_read_158 rfl rfl ?_
    refine m_get_wrongAt C dX12_read_159 ?_
    refine m_put_fault C dX12_read_162 ?_
    refine m_nmI _ (fun I5 e6 => ?_)
    replace h := h I5 e6
    refine g_aload_n C (i := 0) dX12_read_165 rfl rfl ?_
    refine g_bipush C (v := (-6)) dX12_read_166 (by decide) ?_
    refine m_calli C rfl (wM_k_no (-6) I5 J4 _ h) 1 swM_no (rl_ok (by decide) (by decide)) rfl (Nat.le_of_ble_eq_true rfl) (st := []) _ rfl dX12_read_168 (fun r7 I8 J9 h => ?_)
    exact g_ret_i C dX12_read_171 (Nat.le_refl _) (Nat.le_refl _) ⟨_, _, _, rfl, rfl, h⟩
  · replace h := h.2 c1
    refine g_iload_n C (i := 3) dX12_read_142 rfl rfl ?_
    exact g_ret_i C dX12_read_143 (Nat.le_refl _) (Nat.le_refl _) ⟨_, _, _, rfl, rfl, h⟩
set_option maxRecDepth 100000 in
theorem wM_read_gb66 {Γ : gT} {D : gD} {ca : Nat → ClassId} {o : Nat → Nat} {Q : Int32 → gI → gJ → Prop} (C : Cx Γ cX12_read RX12 5 D (tyW ca) (rl 3) (some .int) 0 0 (PMi ca o Q)) {B66 : Int32 → Int32 → gI → gJ → Prop} (hB66 : ∀ (v3 : Int32) (v4 : Int32) (I : gI) (J : gJ), B66 v3 v4 I J → G Γ 0 0 66 [(0, .ref (o 0)), (3, .int v3), (4, .int v4)] [] (cM ca o I J)) (v3 : Int32) (v4 : Int32) (I : gI) (J : gJ) (h : wM_read_b66 B66 v3 v4 I J Q) : G Γ 0 0 66 [(0, .ref (o 0)), (3, .int v3), (4, .int v4)] [] (cM ca o I J) := by
  unfold wM_read_b66 at h
  refine g_iload C (i := 4) dX12_read_66 rfl ?_
  refine g_if_eq C 137 dX12_read_68 rfl (fun c1 => ?_) (fun c1 => ?_)
  · replace h := h.1 c1
    exact g_weak [0, 1, 2] rfl (Nat.le_refl _) (Nat.le_refl _) (wM_read_gc137  C  v3 v4 I J h)
  · replace h := h.2 c1
    refine g_aload_n C (i := 0) dX12_read_71 rfl rfl ?_
    refine m_get_place C dX12_read_72 ?_
    refine g_aload_n C (i := 0) dX12_read_75 rfl rfl ?_
    refine m_get_end C dX12_read_76 ?_
    refine g_icmp_ge C 137 dX12_read_79 rfl (fun c2 => ?_) (fun c2 => ?_)
    · replace h := h.1 c2
      exact g_weak [0, 1, 2] rfl (Nat.le_refl _) (Nat.le_refl _) (wM_read_gc137  C  v3 v4 I J h)
    · replace h := h.2 c2
      refine g_aload_n C (i := 0) dX12_read_82 rfl rfl ?_
      refine m_get_cells C dX12_read_83 ?_
      refine g_aload_n C (i := 0) dX12_read_86 rfl rfl ?_
      refine m_get_base C dX12_read_87 ?_
      refine g_aload_n C (i := 0) dX12_read_90 rfl rfl ?_
      refine m_get_place C dX12_read_91 ?_
      refine g_iadd C dX12_read_94 ?_
      obtain ⟨h3, h⟩ := h
      refine m_lald C (k := 2) (by decide) h3 dX12_read_95 ?_
      refine g_l2i C dX12_read_96 ?_
      refine g_bipush C (v := 59) dX12_read_97 (by decide) ?_
      refine g_icmp_eq C 115 dX12_read_99 rfl (fun c4 => ?_) (fun c4 => ?_)
      · replace h := h.1 c4
        refine g_aload_n C (i := 0) dX12_read_115 rfl rfl ?_
        refine g_dup C dX12_read_116 rfl ?_
        refine m_get_place C dX12_read_117 ?_
        refine g_iconst_1 C dX12_read_120 ?_
        refine g_iadd C dX12_read_121 ?_
        refine m_put_place C dX12_read_122 ?_
        refine m_nmI _ (fun I5 e6 => ?_)
        replace h := h I5 e6
        refine g_iinc C 1 [(0, .ref (o 0)), (3, .int (v3 + 1)), (4, .int v4)] dX12_read_125 rfl (by decide) (by decide) rfl ?_
        refine g_aload_n C (i := 0) dX12_read_128 rfl rfl ?_
        refine m_callz C rfl (wM_k_item I5 J _ h) 0 swM_item (rl_ok (by decide) (by decide)) rfl (Nat.le_of_ble_eq_true rfl) (st := []) _ rfl dX12_read_129 (fun r7 I8 J9 h => ?_)
        refine g_istore C (i := 4) [(0, .ref (o 0)), (3, .int (v3 + 1)), (4, .int (bI r7))] dX12_read_132 (by decide) rfl ?_
        refine g_goto C 66 dX12_read_134 rfl ?_
        exact g_weak [0, 1, 2] rfl (Nat.le_refl _) (Nat.le_refl _) (hB66 (v3 + 1) (bI r7) I8 J9 h)
      · replace h := h.2 c4
        refine g_aload_n C (i := 0) dX12_read_102 rfl rfl ?_
        refine g_aload_n C (i := 0) dX12_read_103 rfl rfl ?_
        refine m_get_place C dX12_read_104 ?_
        refine m_callz C rfl (wM_k_isWrong (I 0 3) I J _ h) 1 swM_isWrong (rl_ok (by decide) (by decide)) rfl (Nat.le_of_ble_eq_true rfl) (st := []) _ rfl dX12_read_107 (fun r10 I11 J12 h => ?_)
        refine g_istore C (i := 4) [(0, .ref (o 0)), (3, .int v3), (4, .int (bI r10))] dX12_read_110 (by decide) rfl ?_
        refine g_goto C 66 dX12_read_112 rfl ?_
        exact g_weak [0, 1, 2] rfl (Nat.le_refl _) (Nat.le_refl _) (hB66 v3 (bI r10) I11 J12 h)
theorem wM_read_gl66 {Γ : gT} {D : gD} {ca : Nat → ClassId} {o : Nat → Nat} {Q : Int32 → gI → gJ → Prop} (C : Cx Γ cX12_read RX12 5 D (tyW ca) (rl 3) (some .int) 0 0 (PMi ca o Q)) : ∀ (n : Nat) (v3 : Int32) (v4 : Int32) (I : gI) (J : gJ) (_ : wM_read_l66 Q n v3 v4 I J), G Γ 0 0 66 [(0, .ref (o 0)), (3, .int v3), (4, .int v4)] [] (cM ca o I J) := by
  intro n
  induction n with
  | zero => intro v3 v4 I J h; exact h.elim
  | succ n ih => intro v3 v4 I J h; exact wM_read_gb66 C ih v3 v4 I J h
set_option maxRecDepth 100000 in
theorem wM_read_g {Γ : gT} {D : gD} {ca : Nat → ClassId} {o : Nat → Nat} {Q : Int32 → gI → gJ → Prop} (v1 : Int32) (I : gI) (J : gJ) (C : Cx Γ cX12_read RX12 5 D (tyW ca) (rl 3) (some .int) 0 0 (PMi ca o Q)) (h : wM_read v1 I J Q) : G Γ 0 0 0 [(0, .ref (o 0)), (1, .int v1)] [] (cM ca o I J) := by
  unfold wM_read at h
  refine g_aload_n C (i := 0) dX12_read_0 rfl rfl ?_
  refine g_iload_n C (i := 1) dX12_read_1 rfl rfl ?_
  refine m_callPi C rfl (wM_k_wants v1 I J _ h) 1 swM_wants (rl_ok (by decide) (by decide)) rfl (Nat.le_of_ble_eq_true rfl) (st := []) _ rfl dX12_read_2 (fun r1 h => ?_)
  refine g_istore_n C (i := 2) [(0, .ref (o 0)), (1, .int v1), (2, .int r1)] dX12_read_5 rfl (by decide) rfl ?_
  refine g_iload_n C (i := 2) dX12_read_6 rfl rfl ?_
  refine g_if_eq C 16 dX12_read_7 rfl (fun c2 => ?_) (fun c2 => ?_)
  · replace h := h.1 c2
    refine g_aload_n C (i := 0) dX12_read_16 rfl rfl ?_
    refine g_aload_n C (i := 0) dX12_read_17 rfl rfl ?_
    refine m_get_was C dX12_read_18 ?_
    refine g_aload_n C (i := 0) dX12_read_21 rfl rfl ?_
    refine m_get_wasWord C dX12_read_22 ?_
    refine g_iconst_0 C dX12_read_25 ?_
    refine m_callv C rfl (wM_k_all (by decide) (by decide) 0 I J _ h) 3 swM_all (rl_ok (by decide) (by decide)) rfl (Nat.le_of_ble_eq_true rfl) (st := []) _ rfl dX12_read_26 (fun I4 J5 h => ?_)
    refine g_aload_n C (i := 0) dX12_read_29 rfl rfl ?_
    refine g_sipush C (v := 160) dX12_read_30 (by decide) ?_
    refine g_iload_n C (i := 1) dX12_read_33 rfl rfl ?_
    refine g_imul C dX12_read_34 ?_
    refine m_put_base C dX12_read_35 ?_
    refine m_nmI _ (fun I6 e7 => ?_)
    replace h := h I6 e7
    refine g_aload_n C (i := 0) dX12_read_38 rfl rfl ?_
    refine g_iconst_0 C dX12_read_39 ?_
    refine m_put_place C dX12_read_40 ?_
    refine m_nmI _ (fun I8 e9 => ?_)
    replace h := h I8 e9
    refine g_aload_n C (i := 0) dX12_read_43 rfl rfl ?_
    refine g_aload_n C (i := 0) dX12_read_44 rfl rfl ?_
    refine m_get_size C dX12_read_45 ?_
    refine g_iload_n C (i := 1) dX12_read_48 rfl rfl ?_
    obtain ⟨h10, h⟩ := h
    refine m_iald C (k := 7) (by decide) h10 dX12_read_49 ?_
    refine m_put_end C dX12_read_50 ?_
    refine m_nmI _ (fun I11 e12 => ?_)
    replace h := h I11 e12
    refine g_aload_n C (i := 0) dX12_read_53 rfl rfl ?_
    refine g_iconst_m1 C dX12_read_54 ?_
    refine m_put_fault C dX12_read_55 ?_
    refine m_nmI _ (fun I13 e14 => ?_)
    replace h := h I13 e14
    refine g_iconst_1 C dX12_read_58 ?_
    refine g_istore_n C (i := 3) [(0, .ref (o 0)), (1, .int v1), (2, .int r1), (3, .int 1)] dX12_read_59 rfl (by decide) rfl ?_
    refine g_aload_n C (i := 0) dX12_read_60 rfl rfl ?_
    refine m_callz C rfl (wM_k_item I13 J5 _ h) 0 swM_item (rl_ok (by decide) (by decide)) rfl (Nat.le_of_ble_eq_true rfl) (st := []) _ rfl dX12_read_61 (fun r15 I16 J17 h => ?_)
    refine g_istore C (i := 4) [(0, .ref (o 0)), (1, .int v1), (2, .int r1), (3, .int 1), (4, .int (bI r15))] dX12_read_64 (by decide) rfl ?_
    obtain ⟨n, h⟩ := h
    exact g_weak [0, 3, 4] rfl (Nat.le_refl _) (Nat.le_refl _) (wM_read_gl66  C  n 1 (bI r15) I16 J17 h)
  · replace h := h.2 c2
    refine g_aload_n C (i := 0) dX12_read_10 rfl rfl ?_
    refine g_iload_n C (i := 2) dX12_read_11 rfl rfl ?_
    refine m_calli C rfl (wM_k_no r1 I J _ h) 1 swM_no (rl_ok (by decide) (by decide)) rfl (Nat.le_of_ble_eq_true rfl) (st := []) _ rfl dX12_read_12 (fun r18 I19 J20 h => ?_)
    exact g_ret_i C dX12_read_15 (Nat.le_refl _) (Nat.le_refl _) ⟨_, _, _, rfl, rfl, h⟩
theorem wM_k_read {D : gD} {ca : Nat → ClassId} {o : Nat → Nat} (v1 : Int32) (I : gI) (J : gJ) (Q : Int32 → gI → gJ → Prop) (h : wM_read v1 I J Q) : Ct yX12_read cX12_read 5 (some .int) (rl 3) D (tyW ca) 0 0 [.ref (o 0), .int v1] (cM ca o I J) (PMi ca o Q) := ct_of (rm := rl 3) (by decide +kernel) (Nat.le_of_ble_eq_true rfl) (fun Γ C => wM_read_g v1 I J C h)
set_option maxRecDepth 100000 in
theorem wM_creasesOf_g {Γ : gT} {D : gD} {ca : Nat → ClassId} {o : Nat → Nat} {Q : Int64 → Prop} (v1 : Int32) (I : gI) (J : gJ) (C : Cx Γ cX12_creasesOf RX12 2 D (tyW ca) (rl 3) (some .long) 0 0 (PPl ca o I J Q)) (h : wM_creasesOf v1 I J Q) : G Γ 0 0 0 [(0, .ref (o 0)), (1, .int v1)] [] (cM ca o I J) := by
  unfold wM_creasesOf at h
  refine g_aload_n C (i := 0) dX12_creasesOf_0 rfl rfl ?_
  refine g_iload_n C (i := 1) dX12_creasesOf_1 rfl rfl ?_
  refine m_callPl C rfl (wM_k_whole v1 I J _ h) 1 swM_whole (rl_ok (by decide) (by decide)) rfl (Nat.le_of_ble_eq_true rfl) (st := []) _ rfl dX12_creasesOf_2 (fun r1 h => ?_)
  refine g_aload_n C (i := 0) dX12_creasesOf_5 rfl rfl ?_
  refine g_iload_n C (i := 1) dX12_creasesOf_6 rfl rfl ?_
  refine m_callPl C rfl (wM_k_cutOf v1 I J _ h) 1 swM_cutOf (rl_ok (by decide) (by decide)) rfl (Nat.le_of_ble_eq_true rfl) (st := [.long r1]) _ rfl dX12_creasesOf_7 (fun r2 h => ?_)
  refine g_lsub C dX12_creasesOf_10 ?_
  exact g_ret_l C dX12_creasesOf_11 (Nat.le_refl _) (Nat.le_refl _) ⟨_, rfl, rfl, h⟩
theorem wM_k_creasesOf {D : gD} {ca : Nat → ClassId} {o : Nat → Nat} (v1 : Int32) (I : gI) (J : gJ) (Q : Int64 → Prop) (h : wM_creasesOf v1 I J Q) : Ct yX12_creasesOf cX12_creasesOf 2 (some .long) (rl 3) D (tyW ca) 0 0 [.ref (o 0), .int v1] (cM ca o I J) (PPl ca o I J Q) := ct_of (rm := rl 3) (by decide +kernel) (Nat.le_of_ble_eq_true rfl) (fun Γ C => wM_creasesOf_g v1 I J C h)
set_option maxRecDepth 100000 in
theorem wM_round_gc151 {Γ : gT} {D : gD} {ca : Nat → ClassId} {o : Nat → Nat} {Q : Int32 → Prop} {I : gI} {J : gJ} (C : Cx Γ cX12_round RX12 8 D (tyW ca) (rl 3) (some .int) 0 0 (PPi ca o I J Q)) (v4 : Int64) (h : wM_round_c151 I J v4 Q) : G Γ 0 0 151 [(4, .long v4)] [] (cM ca o I J) := by
  unfold wM_round_c151 at h
  refine g_lload C (i := 4) dX12_round_151 rfl ?_
  refine g_ldc2 C (v := 4) (tb_in (List.mem_of_getElem? (i := 1547) (by decide +kernel)) (by decide +kernel)) dX12_round_153 ?_
  refine g_lrem C dX12_round_156 (by decide) ?_
  refine g_ldc2 C (v := 4) (tb_in (List.mem_of_getElem? (i := 1547) (by decide +kernel)) (by decide +kernel)) dX12_round_157 ?_
  refine g_ladd C dX12_round_160 ?_
  refine g_ldc2 C (v := 4) (tb_in (List.mem_of_getElem? (i := 1547) (by decide +kernel)) (by decide +kernel)) dX12_round_161 ?_
  refine g_lrem C dX12_round_164 (by decide) ?_
  refine g_l2i C dX12_round_165 ?_
  exact g_ret_i C dX12_round_166 (Nat.le_refl _) (Nat.le_refl _) ⟨_, rfl, rfl, h⟩
set_option maxRecDepth 100000 in
theorem wM_round_g {Γ : gT} {D : gD} {ca : Nat → ClassId} {o : Nat → Nat} {Q : Int32 → Prop} (v1 : Int32) (v2 : Int64) (I : gI) (J : gJ) (C : Cx Γ cX12_round RX12 8 D (tyW ca) (rl 3) (some .int) 0 0 (PPi ca o I J Q)) (h : wM_round v1 v2 I J Q) : G Γ 0 0 0 [(0, .ref (o 0)), (1, .int v1), (2, .long v2)] [] (cM ca o I J) := by
  unfold wM_round at h
  refine g_aload_n C (i := 0) dX12_round_0 rfl rfl ?_
  refine m_get_kind C dX12_round_1 ?_
  refine g_iload_n C (i := 1) dX12_round_4 rfl rfl ?_
  obtain ⟨h1, h⟩ := h
  refine m_iald C (k := 2) (by decide) h1 dX12_round_5 ?_
  by_cases c2 : (I 2 v1.toNatClampNeg) = 3
  · replace h := h.1 c2
    refine g_tin C 36 3 c2 (by decide) (by decide) rfl rfl dX12_round_6 ?_
    refine g_aload_n C (i := 0) dX12_round_36 rfl rfl ?_
    refine g_iload_n C (i := 1) dX12_round_37 rfl rfl ?_
    refine g_lload_n C (i := 2) dX12_round_38 rfl rfl ?_
    refine g_aload_n C (i := 0) dX12_round_39 rfl rfl ?_
    refine g_iload_n C (i := 1) dX12_round_40 rfl rfl ?_
    refine m_callPl C rfl (wM_k_cutOf v1 I J _ h) 1 swM_cutOf (rl_ok (by decide) (by decide)) rfl (Nat.le_of_ble_eq_true rfl) (st := [.long v2, .int v1, .ref (o 0)]) _ rfl dX12_round_41 (fun r3 h => ?_)
    refine g_ladd C dX12_round_44 ?_
    refine g_iconst_0 C dX12_round_45 ?_
    refine m_callPi C rfl (wM_k_turned v1 (v2 + r3) 0 I J _ h) 3 swM_turned (rl_ok (by decide) (by decide)) rfl (Nat.le_of_ble_eq_true rfl) (st := []) _ rfl dX12_round_46 (fun r4 h => ?_)
    refine g_aload_n C (i := 0) dX12_round_49 rfl rfl ?_
    refine g_iload_n C (i := 1) dX12_round_50 rfl rfl ?_
    refine g_aload_n C (i := 0) dX12_round_51 rfl rfl ?_
    refine g_iload_n C (i := 1) dX12_round_52 rfl rfl ?_
    refine m_callPl C rfl (wM_k_cutOf v1 I J _ h) 1 swM_cutOf (rl_ok (by decide) (by decide)) rfl (Nat.le_of_ble_eq_true rfl) (st := [.int v1, .ref (o 0), .int r4]) _ rfl dX12_round_53 (fun r5 h => ?_)
    refine g_iconst_0 C dX12_round_56 ?_
    refine m_callPi C rfl (wM_k_turned v1 r5 0 I J _ h) 3 swM_turned (rl_ok (by decide) (by decide)) rfl (Nat.le_of_ble_eq_true rfl) (st := [.int r4]) _ rfl dX12_round_57 (fun r6 h => ?_)
    refine g_isub C dX12_round_60 ?_
    refine g_i2l C dX12_round_61 ?_
    refine g_lstore C (i := 4) [(0, .ref (o 0)), (1, .int v1), (2, .long v2), (4, .long ((r4 - r6).toInt64))] dX12_round_62 (by decide) rfl ?_
    refine g_goto C 151 dX12_round_64 rfl ?_
    exact g_weak [3] rfl (Nat.le_refl _) (Nat.le_refl _) (wM_round_gc151  C  ((r4 - r6).toInt64)  h)
  replace h := h.2 c2
  by_cases c7 : (I 2 v1.toNatClampNeg) = 4
  · replace h := h.1 c7
    refine g_tin C 67 4 c7 (by decide) (by decide) rfl rfl dX12_round_6 ?_
    refine g_aload_n C (i := 0) dX12_round_67 rfl rfl ?_
    refine g_iload_n C (i := 1) dX12_round_68 rfl rfl ?_
    refine m_callPl C rfl (wM_k_whole v1 I J _ h) 1 swM_whole (rl_ok (by decide) (by decide)) rfl (Nat.le_of_ble_eq_true rfl) (st := []) _ rfl dX12_round_69 (fun r8 h => ?_)
    refine g_lstore C (i := 6) [(0, .ref (o 0)), (1, .int v1), (2, .long v2), (6, .long r8)] dX12_round_72 (by decide) rfl ?_
    refine g_aload_n C (i := 0) dX12_round_74 rfl rfl ?_
    refine g_iload_n C (i := 1) dX12_round_75 rfl rfl ?_
    refine g_lload C (i := 6) dX12_round_76 rfl ?_
    refine g_lload_n C (i := 2) dX12_round_78 rfl rfl ?_
    refine g_lsub C dX12_round_79 ?_
    refine g_iconst_0 C dX12_round_80 ?_
    refine m_callPi C rfl (wM_k_turned v1 (r8 - v2) 0 I J _ h) 3 swM_turned (rl_ok (by decide) (by decide)) rfl (Nat.le_of_ble_eq_true rfl) (st := []) _ rfl dX12_round_81 (fun r9 h => ?_)
    refine g_aload_n C (i := 0) dX12_round_84 rfl rfl ?_
    refine g_iload_n C (i := 1) dX12_round_85 rfl rfl ?_
    refine g_lload C (i := 6) dX12_round_86 rfl ?_
    refine g_iconst_0 C dX12_round_88 ?_
    refine m_callPi C rfl (wM_k_turned v1 r8 0 I J _ h) 3 swM_turned (rl_ok (by decide) (by decide)) rfl (Nat.le_of_ble_eq_true rfl) (st := [.int r9]) _ rfl dX12_round_89 (fun r10 h => ?_)
    refine g_isub C dX12_round_92 ?_
    refine g_i2l C dX12_round_93 ?_
    refine g_lstore C (i := 4) [(0, .ref (o 0)), (1, .int v1), (2, .long v2), (4, .long ((r9 - r10).toInt64)), (6, .long r8)] dX12_round_94 (by decide) rfl ?_
    refine g_goto C 151 dX12_round_96 rfl ?_
    exact g_weak [3] rfl (Nat.le_refl _) (Nat.le_refl _) (wM_round_gc151  C  ((r9 - r10).toInt64)  h)
  replace h := h.2 c7
  by_cases c11 : (I 2 v1.toNatClampNeg) = 5
  · replace h := h.1 c11
    refine g_tin C 99 5 c11 (by decide) (by decide) rfl rfl dX12_round_6 ?_
    refine g_aload_n C (i := 0) dX12_round_99 rfl rfl ?_
    refine g_iload_n C (i := 1) dX12_round_100 rfl rfl ?_
    refine g_lload_n C (i := 2) dX12_round_101 rfl rfl ?_
    refine g_iconst_0 C dX12_round_102 ?_
    refine m_callPi C rfl (wM_k_turned v1 v2 0 I J _ h) 3 swM_turned (rl_ok (by decide) (by decide)) rfl (Nat.le_of_ble_eq_true rfl) (st := []) _ rfl dX12_round_103 (fun r12 h => ?_)
    refine g_ineg C dX12_round_106 ?_
    refine g_i2l C dX12_round_107 ?_
    refine g_lstore C (i := 4) [(0, .ref (o 0)), (1, .int v1), (2, .long v2), (4, .long ((-r12).toInt64))] dX12_round_108 (by decide) rfl ?_
    refine g_goto C 151 dX12_round_110 rfl ?_
    exact g_weak [3] rfl (Nat.le_refl _) (Nat.le_refl _) (wM_round_gc151  C  ((-r12).toInt64)  h)
  replace h := h.2 c11
  by_cases c13 : (I 2 v1.toNatClampNeg) = 6
  · replace h := h.1 c13
    refine g_tin C 113 6 c13 (by decide) (by decide) rfl rfl dX12_round_6 ?_
    refine g_lload_n C (i := 2) dX12_round_113 rfl rfl ?_
    refine g_ldc2 C (v := 4) (tb_in (List.mem_of_getElem? (i := 1547) (by decide +kernel)) (by decide +kernel)) dX12_round_114 ?_
    refine g_ldiv C dX12_round_117 (by decide) ?_
    refine g_aload_n C (i := 0) dX12_round_118 rfl rfl ?_
    refine g_iload_n C (i := 1) dX12_round_119 rfl rfl ?_
    refine g_lload_n C (i := 2) dX12_round_120 rfl rfl ?_
    refine g_iconst_0 C dX12_round_121 ?_
    refine m_callPi C rfl (wM_k_turned v1 v2 0 I J _ h) 3 swM_turned (rl_ok (by decide) (by decide)) rfl (Nat.le_of_ble_eq_true rfl) (st := [.long (v2 / 4)]) _ rfl dX12_round_122 (fun r14 h => ?_)
    refine g_i2l C dX12_round_125 ?_
    refine g_lsub C dX12_round_126 ?_
    refine g_aload_n C (i := 0) dX12_round_127 rfl rfl ?_
    refine g_iload_n C (i := 1) dX12_round_128 rfl rfl ?_
    refine g_lload_n C (i := 2) dX12_round_129 rfl rfl ?_
    refine g_iconst_2 C dX12_round_130 ?_
    refine m_callPi C rfl (wM_k_turned v1 v2 2 I J _ h) 3 swM_turned (rl_ok (by decide) (by decide)) rfl (Nat.le_of_ble_eq_true rfl) (st := [.long ((v2 / 4) - r14.toInt64)]) _ rfl dX12_round_131 (fun r15 h => ?_)
    refine g_i2l C dX12_round_134 ?_
    refine g_ladd C dX12_round_135 ?_
    refine g_lstore C (i := 4) [(0, .ref (o 0)), (1, .int v1), (2, .long v2), (4, .long (((v2 / 4) - r14.toInt64) + r15.toInt64))] dX12_round_136 (by decide) rfl ?_
    refine g_goto C 151 dX12_round_138 rfl ?_
    exact g_weak [3] rfl (Nat.le_refl _) (Nat.le_refl _) (wM_round_gc151  C  (((v2 / 4) - r14.toInt64) + r15.toInt64)  h)
  replace h := h.2 c13
  refine g_tout C 141 (by have := g_ne (v := 3) (n := 3) c2 (by decide); have := g_ne (v := 4) (n := 4) c7 (by decide); have := g_ne (v := 5) (n := 5) c11 (by decide); have := g_ne (v := 6) (n := 6) c13 (by decide); omega) rfl dX12_round_6 ?_
  refine g_aload_n C (i := 0) dX12_round_141 rfl rfl ?_
  refine g_iload_n C (i := 1) dX12_round_142 rfl rfl ?_
  refine g_lload_n C (i := 2) dX12_round_143 rfl rfl ?_
  refine g_iconst_0 C dX12_round_144 ?_
  refine m_callPi C rfl (wM_k_turned v1 v2 0 I J _ h) 3 swM_turned (rl_ok (by decide) (by decide)) rfl (Nat.le_of_ble_eq_true rfl) (st := []) _ rfl dX12_round_145 (fun r16 h => ?_)
  refine g_i2l C dX12_round_148 ?_
  refine g_lstore C (i := 4) [(0, .ref (o 0)), (1, .int v1), (2, .long v2), (4, .long r16.toInt64)] dX12_round_149 (by decide) rfl ?_
  exact g_weak [3] rfl (Nat.le_refl _) (Nat.le_refl _) (wM_round_gc151  C  r16.toInt64  h)
theorem wM_k_round {D : gD} {ca : Nat → ClassId} {o : Nat → Nat} (v1 : Int32) (v2 : Int64) (I : gI) (J : gJ) (Q : Int32 → Prop) (h : wM_round v1 v2 I J Q) : Ct yX12_round cX12_round 8 (some .int) (rl 3) D (tyW ca) 0 0 [.ref (o 0), .int v1, .long v2] (cM ca o I J) (PPi ca o I J Q) := ct_of (rm := rl 3) (by decide +kernel) (Nat.le_of_ble_eq_true rfl) (fun Γ C => wM_round_g v1 v2 I J C h)
set_option maxRecDepth 100000 in
theorem wM_plainPlace_gb64 {Γ : gT} {D : gD} {ca : Nat → ClassId} {o : Nat → Nat} {Q : gI → gJ → Prop} (C : Cx Γ cX12_plainPlace RX12 13 D (tyW ca) (rl 3) none 0 0 (PMv ca o Q)) {B49 : Int32 → Int32 → Int32 → Int64 → Int64 → Int32 → gI → gJ → Prop} (hB49 : ∀ (v1 : Int32) (v4 : Int32) (v5 : Int32) (v6 : Int64) (v8 : Int64) (v10 : Int32) (I : gI) (J : gJ), B49 v1 v4 v5 v6 v8 v10 I J → G Γ 0 0 49 [(0, .ref (o 0)), (1, .int v1), (4, .int v4), (5, .int v5), (6, .long v6), (8, .long v8), (10, .int v10)] [] (cM ca o I J)) {B64 : Int32 → Int32 → Int32 → Int64 → Int64 → Int32 → Int64 → gI → gJ → Prop} (hB64 : ∀ (v1 : Int32) (v4 : Int32) (v5 : Int32) (v6 : Int64) (v8 : Int64) (v10 : Int32) (v11 : Int64) (I : gI) (J : gJ), B64 v1 v4 v5 v6 v8 v10 v11 I J → G Γ 0 0 64 [(0, .ref (o 0)), (1, .int v1), (4, .int v4), (5, .int v5), (6, .long v6), (8, .long v8), (10, .int v10), (11, .long v11)] [] (cM ca o I J)) (v1 : Int32) (v4 : Int32) (v5 : Int32) (v6 : Int64) (v8 : Int64) (v10 : Int32) (v11 : Int64) (I : gI) (J : gJ) (h : wM_plainPlace_b64 B49 B64 v1 v4 v5 v6 v8 v10 v11 I J Q) : G Γ 0 0 64 [(0, .ref (o 0)), (1, .int v1), (4, .int v4), (5, .int v5), (6, .long v6), (8, .long v8), (10, .int v10), (11, .long v11)] [] (cM ca o I J) := by
  unfold wM_plainPlace_b64 at h
  refine g_lload C (i := 8) dX12_plainPlace_64 rfl ?_
  refine g_lload C (i := 11) dX12_plainPlace_66 rfl ?_
  refine g_llt C 183 dX12_plainPlace_68 dX12_plainPlace_69 rfl (fun c1 => ?_) (fun c1 => ?_)
  · replace h := h.1 c1
    refine g_iinc C (-1) [(0, .ref (o 0)), (1, .int v1), (4, .int v4), (5, .int v5), (6, .long v6), (8, .long v8), (10, .int (v10 + (-1))), (11, .long v11)] dX12_plainPlace_183 rfl (by decide) (by decide) rfl ?_
    refine g_goto C 49 dX12_plainPlace_186 rfl ?_
    exact g_weak [0, 1, 2, 3, 4, 5, 6] rfl (Nat.le_refl _) (Nat.le_refl _) (hB49 v1 v4 v5 v6 v8 (v10 + (-1)) I J h)
  · replace h := h.2 c1
    refine g_aload_n C (i := 0) dX12_plainPlace_72 rfl rfl ?_
    refine g_dup C dX12_plainPlace_73 rfl ?_
    refine m_get_atX C dX12_plainPlace_74 ?_
    refine g_aload_n C (i := 0) dX12_plainPlace_77 rfl rfl ?_
    refine g_aload_n C (i := 0) dX12_plainPlace_78 rfl rfl ?_
    refine m_get_evenX C dX12_plainPlace_79 ?_
    refine g_iload C (i := 10) dX12_plainPlace_82 rfl ?_
    obtain ⟨h2, h⟩ := h
    refine m_lald C (k := 6) (by decide) h2 dX12_plainPlace_84 ?_
    refine g_aload_n C (i := 0) dX12_plainPlace_85 rfl rfl ?_
    refine m_get_evenY C dX12_plainPlace_86 ?_
    refine g_iload C (i := 10) dX12_plainPlace_89 rfl ?_
    refine m_lald C (k := 7) (by decide) h2 dX12_plainPlace_91 ?_
    refine g_iload C (i := 5) dX12_plainPlace_92 rfl ?_
    refine m_callPl C rfl (wM_k_turnX (J 6 v10.toNatClampNeg) (J 7 v10.toNatClampNeg) v5 I J _ h) 3 swM_turnX (rl_ok (by decide) (by decide)) rfl (Nat.le_of_ble_eq_true rfl) (st := [.long (J 0 1), .ref (o 0)]) _ rfl dX12_plainPlace_94 (fun r3 h => ?_)
    refine g_ladd C dX12_plainPlace_97 ?_
    refine m_put_atX C dX12_plainPlace_98 ?_
    refine m_nmJ _ (fun J4 e5 => ?_)
    replace h := h J4 e5
    refine g_aload_n C (i := 0) dX12_plainPlace_101 rfl rfl ?_
    refine g_dup C dX12_plainPlace_102 rfl ?_
    refine m_get_atY C dX12_plainPlace_103 ?_
    refine g_aload_n C (i := 0) dX12_plainPlace_106 rfl rfl ?_
    refine g_aload_n C (i := 0) dX12_plainPlace_107 rfl rfl ?_
    refine m_get_evenX C dX12_plainPlace_108 ?_
    refine g_iload C (i := 10) dX12_plainPlace_111 rfl ?_
    refine m_lald C (k := 6) (by decide) h2 dX12_plainPlace_113 ?_
    refine g_aload_n C (i := 0) dX12_plainPlace_114 rfl rfl ?_
    refine m_get_evenY C dX12_plainPlace_115 ?_
    refine g_iload C (i := 10) dX12_plainPlace_118 rfl ?_
    refine m_lald C (k := 7) (by decide) h2 dX12_plainPlace_120 ?_
    refine g_iload C (i := 5) dX12_plainPlace_121 rfl ?_
    refine m_callPl C rfl (wM_k_turnY (J4 6 v10.toNatClampNeg) (J4 7 v10.toNatClampNeg) v5 I J4 _ h) 3 swM_turnY (rl_ok (by decide) (by decide)) rfl (Nat.le_of_ble_eq_true rfl) (st := [.long (J4 0 2), .ref (o 0)]) _ rfl dX12_plainPlace_123 (fun r6 h => ?_)
    refine g_ladd C dX12_plainPlace_126 ?_
    refine m_put_atY C dX12_plainPlace_127 ?_
    refine m_nmJ _ (fun J7 e8 => ?_)
    replace h := h J7 e8
    refine g_lload C (i := 6) dX12_plainPlace_130 rfl ?_
    refine g_lload C (i := 11) dX12_plainPlace_132 rfl ?_
    refine g_ladd C dX12_plainPlace_134 ?_
    refine g_lstore C (i := 6) [(0, .ref (o 0)), (1, .int v1), (4, .int v4), (5, .int v5), (6, .long (v6 + v11)), (8, .long v8), (10, .int v10), (11, .long v11)] dX12_plainPlace_135 (by decide) rfl ?_
    refine g_lload C (i := 8) dX12_plainPlace_137 rfl ?_
    refine g_lload C (i := 11) dX12_plainPlace_139 rfl ?_
    refine g_lsub C dX12_plainPlace_141 ?_
    refine g_lstore C (i := 8) [(0, .ref (o 0)), (1, .int v1), (4, .int v4), (5, .int v5), (6, .long (v6 + v11)), (8, .long (v8 - v11)), (10, .int v10), (11, .long v11)] dX12_plainPlace_142 (by decide) rfl ?_
    refine g_lload C (i := 8) dX12_plainPlace_144 rfl ?_
    refine g_lconst_0 C dX12_plainPlace_146 ?_
    refine g_lle C 64 dX12_plainPlace_147 dX12_plainPlace_148 rfl (fun c9 => ?_) (fun c9 => ?_)
    · replace h := h.1 c9
      exact g_weak [0, 1, 2, 3, 4, 5, 6, 7] rfl (Nat.le_refl _) (Nat.le_refl _) (hB64 v1 v4 v5 (v6 + v11) (v8 - v11) v10 v11 I J7 h)
    · replace h := h.2 c9
      refine g_iload C (i := 5) dX12_plainPlace_151 rfl ?_
      refine g_aload_n C (i := 0) dX12_plainPlace_153 rfl rfl ?_
      refine m_get_evenRound C dX12_plainPlace_154 ?_
      refine g_iload C (i := 10) dX12_plainPlace_157 rfl ?_
      refine m_iald C (k := 12) (by decide) h2 dX12_plainPlace_159 ?_
      refine g_aload_n C (i := 0) dX12_plainPlace_160 rfl rfl ?_
      refine g_iload_n C (i := 1) dX12_plainPlace_161 rfl rfl ?_
      refine g_lload C (i := 6) dX12_plainPlace_162 rfl ?_
      refine m_callPi C rfl (wM_k_plain v1 (v6 + v11) I J7 _ h) 2 swM_plain (rl_ok (by decide) (by decide)) rfl (Nat.le_of_ble_eq_true rfl) (st := [.int (I 12 v10.toNatClampNeg), .int v5]) _ rfl dX12_plainPlace_164 (fun r10 h => ?_)
      refine g_iconst_1 C dX12_plainPlace_167 ?_
      refine g_icmp_ne C 175 dX12_plainPlace_168 rfl (fun c11 => ?_) (fun c11 => ?_)
      · replace h := h.1 c11
        refine g_iconst_m1 C dX12_plainPlace_175 ?_
        refine g_iadd C dX12_plainPlace_176 ?_
        refine g_iadd C dX12_plainPlace_177 ?_
        refine g_istore C (i := 5) [(0, .ref (o 0)), (1, .int v1), (4, .int v4), (5, .int (v5 + ((I 12 v10.toNatClampNeg) + (-1)))), (6, .long (v6 + v11)), (8, .long (v8 - v11)), (10, .int v10), (11, .long v11)] dX12_plainPlace_178 (by decide) rfl ?_
        refine g_goto C 64 dX12_plainPlace_180 rfl ?_
        exact g_weak [0, 1, 2, 3, 4, 5, 6, 7] rfl (Nat.le_refl _) (Nat.le_refl _) (hB64 v1 v4 (v5 + ((I 12 v10.toNatClampNeg) + (-1))) (v6 + v11) (v8 - v11) v10 v11 I J7 h)
      · replace h := h.2 c11
        refine g_iconst_1 C dX12_plainPlace_171 ?_
        refine g_goto C 176 dX12_plainPlace_172 rfl ?_
        refine g_iadd C dX12_plainPlace_176 ?_
        refine g_iadd C dX12_plainPlace_177 ?_
        refine g_istore C (i := 5) [(0, .ref (o 0)), (1, .int v1), (4, .int v4), (5, .int (v5 + ((I 12 v10.toNatClampNeg) + 1))), (6, .long (v6 + v11)), (8, .long (v8 - v11)), (10, .int v10), (11, .long v11)] dX12_plainPlace_178 (by decide) rfl ?_
        refine g_goto C 64 dX12_plainPlace_180 rfl ?_
        exact g_weak [0, 1, 2, 3, 4, 5, 6, 7] rfl (Nat.le_refl _) (Nat.le_refl _) (hB64 v1 v4 (v5 + ((I 12 v10.toNatClampNeg) + 1)) (v6 + v11) (v8 - v11) v10 v11 I J7 h)
theorem wM_plainPlace_gl64 {Γ : gT} {D : gD} {ca : Nat → ClassId} {o : Nat → Nat} {Q : gI → gJ → Prop} (C : Cx Γ cX12_plainPlace RX12 13 D (tyW ca) (rl 3) none 0 0 (PMv ca o Q)) {B49 : Int32 → Int32 → Int32 → Int64 → Int64 → Int32 → gI → gJ → Prop} (hB49 : ∀ (v1 : Int32) (v4 : Int32) (v5 : Int32) (v6 : Int64) (v8 : Int64) (v10 : Int32) (I : gI) (J : gJ), B49 v1 v4 v5 v6 v8 v10 I J → G Γ 0 0 49 [(0, .ref (o 0)), (1, .int v1), (4, .int v4), (5, .int v5), (6, .long v6), (8, .long v8), (10, .int v10)] [] (cM ca o I J)) : ∀ (n : Nat) (v1 : Int32) (v4 : Int32) (v5 : Int32) (v6 : Int64) (v8 : Int64) (v10 : Int32) (v11 : Int64) (I : gI) (J : gJ) (_ : wM_plainPlace_l64 B49 Q n v1 v4 v5 v6 v8 v10 v11 I J), G Γ 0 0 64 [(0, .ref (o 0)), (1, .int v1), (4, .int v4), (5, .int v5), (6, .long v6), (8, .long v8), (10, .int v10), (11, .long v11)] [] (cM ca o I J) := by
  intro n
  induction n with
  | zero => intro v1 v4 v5 v6 v8 v10 v11 I J h; exact h.elim
  | succ n ih => intro v1 v4 v5 v6 v8 v10 v11 I J h; exact wM_plainPlace_gb64 C hB49 ih v1 v4 v5 v6 v8 v10 v11 I J h
set_option maxRecDepth 100000 in
theorem wM_plainPlace_gb49 {Γ : gT} {D : gD} {ca : Nat → ClassId} {o : Nat → Nat} {Q : gI → gJ → Prop} (C : Cx Γ cX12_plainPlace RX12 13 D (tyW ca) (rl 3) none 0 0 (PMv ca o Q)) {B49 : Int32 → Int32 → Int32 → Int64 → Int64 → Int32 → gI → gJ → Prop} (hB49 : ∀ (v1 : Int32) (v4 : Int32) (v5 : Int32) (v6 : Int64) (v8 : Int64) (v10 : Int32) (I : gI) (J : gJ), B49 v1 v4 v5 v6 v8 v10 I J → G Γ 0 0 49 [(0, .ref (o 0)), (1, .int v1), (4, .int v4), (5, .int v5), (6, .long v6), (8, .long v8), (10, .int v10)] [] (cM ca o I J)) (v1 : Int32) (v4 : Int32) (v5 : Int32) (v6 : Int64) (v8 : Int64) (v10 : Int32) (I : gI) (J : gJ) (h : wM_plainPlace_b49 B49 v1 v4 v5 v6 v8 v10 I J Q) : G Γ 0 0 49 [(0, .ref (o 0)), (1, .int v1), (4, .int v4), (5, .int v5), (6, .long v6), (8, .long v8), (10, .int v10)] [] (cM ca o I J) := by
  unfold wM_plainPlace_b49 at h
  refine g_iload C (i := 10) dX12_plainPlace_49 rfl ?_
  refine g_if_lt C 189 dX12_plainPlace_51 rfl (fun c1 => ?_) (fun c1 => ?_)
  · replace h := h.1 c1
    exact g_ret_v C dX12_plainPlace_189 (Nat.le_refl _) (Nat.le_refl _) ⟨_, _, rfl, rfl, h⟩
  · replace h := h.2 c1
    refine g_aload_n C (i := 0) dX12_plainPlace_54 rfl rfl ?_
    refine g_iload C (i := 4) dX12_plainPlace_55 rfl ?_
    refine g_iload C (i := 10) dX12_plainPlace_57 rfl ?_
    refine m_callPl C rfl (wM_k_power v4 v10 I J _ h) 2 swM_power (rl_ok (by decide) (by decide)) rfl (Nat.le_of_ble_eq_true rfl) (st := []) _ rfl dX12_plainPlace_59 (fun r2 h => ?_)
    refine g_lstore C (i := 11) [(0, .ref (o 0)), (1, .int v1), (4, .int v4), (5, .int v5), (6, .long v6), (8, .long v8), (10, .int v10), (11, .long r2)] dX12_plainPlace_62 (by decide) rfl ?_
    obtain ⟨n, h⟩ := h
    exact g_weak [0, 1, 2, 3, 4, 5, 6, 7] rfl (Nat.le_refl _) (Nat.le_refl _) (wM_plainPlace_gl64  C hB49 n v1 v4 v5 v6 v8 v10 r2 I J h)
theorem wM_plainPlace_gl49 {Γ : gT} {D : gD} {ca : Nat → ClassId} {o : Nat → Nat} {Q : gI → gJ → Prop} (C : Cx Γ cX12_plainPlace RX12 13 D (tyW ca) (rl 3) none 0 0 (PMv ca o Q)) : ∀ (n : Nat) (v1 : Int32) (v4 : Int32) (v5 : Int32) (v6 : Int64) (v8 : Int64) (v10 : Int32) (I : gI) (J : gJ) (_ : wM_plainPlace_l49 Q n v1 v4 v5 v6 v8 v10 I J), G Γ 0 0 49 [(0, .ref (o 0)), (1, .int v1), (4, .int v4), (5, .int v5), (6, .long v6), (8, .long v8), (10, .int v10)] [] (cM ca o I J) := by
  intro n
  induction n with
  | zero => intro v1 v4 v5 v6 v8 v10 I J h; exact h.elim
  | succ n ih => intro v1 v4 v5 v6 v8 v10 I J h; exact wM_plainPlace_gb49 C ih v1 v4 v5 v6 v8 v10 I J h
set_option maxRecDepth 100000 in
theorem wM_plainPlace_gc30 {Γ : gT} {D : gD} {ca : Nat → ClassId} {o : Nat → Nat} {Q : gI → gJ → Prop} (C : Cx Γ cX12_plainPlace RX12 13 D (tyW ca) (rl 3) none 0 0 (PMv ca o Q)) (v1 : Int32) (v2 : Int64) (s0 : Int32) (I : gI) (J : gJ) (h : wM_plainPlace_c30 v1 v2 s0 I J Q) : G Γ 0 0 30 [(0, .ref (o 0)), (1, .int v1), (2, .long v2)] [.int s0] (cM ca o I J) := by
  unfold wM_plainPlace_c30 at h
  refine g_istore C (i := 4) [(0, .ref (o 0)), (1, .int v1), (2, .long v2), (4, .int s0)] dX12_plainPlace_30 (by decide) rfl ?_
  refine g_iconst_0 C dX12_plainPlace_32 ?_
  refine g_istore C (i := 5) [(0, .ref (o 0)), (1, .int v1), (2, .long v2), (4, .int s0), (5, .int 0)] dX12_plainPlace_33 (by decide) rfl ?_
  refine g_lconst_0 C dX12_plainPlace_35 ?_
  refine g_lstore C (i := 6) [(0, .ref (o 0)), (1, .int v1), (2, .long v2), (4, .int s0), (5, .int 0), (6, .long 0)] dX12_plainPlace_36 (by decide) rfl ?_
  refine g_lload_n C (i := 2) dX12_plainPlace_38 rfl rfl ?_
  refine g_lstore C (i := 8) [(0, .ref (o 0)), (1, .int v1), (2, .long v2), (4, .int s0), (5, .int 0), (6, .long 0), (8, .long v2)] dX12_plainPlace_39 (by decide) rfl ?_
  refine g_aload_n C (i := 0) dX12_plainPlace_41 rfl rfl ?_
  refine m_get_folds C dX12_plainPlace_42 ?_
  refine g_iload_n C (i := 1) dX12_plainPlace_45 rfl rfl ?_
  obtain ⟨h1, h⟩ := h
  refine m_iald C (k := 4) (by decide) h1 dX12_plainPlace_46 ?_
  refine g_istore C (i := 10) [(0, .ref (o 0)), (1, .int v1), (2, .long v2), (4, .int s0), (5, .int 0), (6, .long 0), (8, .long v2), (10, .int (I 4 v1.toNatClampNeg))] dX12_plainPlace_47 (by decide) rfl ?_
  obtain ⟨n, h⟩ := h
  exact g_weak [0, 1, 3, 4, 5, 6, 7] rfl (Nat.le_refl _) (Nat.le_refl _) (wM_plainPlace_gl49  C  n v1 s0 0 0 v2 (I 4 v1.toNatClampNeg) I J h)
set_option maxRecDepth 100000 in
theorem wM_plainPlace_g {Γ : gT} {D : gD} {ca : Nat → ClassId} {o : Nat → Nat} {Q : gI → gJ → Prop} (v1 : Int32) (v2 : Int64) (I : gI) (J : gJ) (C : Cx Γ cX12_plainPlace RX12 13 D (tyW ca) (rl 3) none 0 0 (PMv ca o Q)) (h : wM_plainPlace v1 v2 I J Q) : G Γ 0 0 0 [(0, .ref (o 0)), (1, .int v1), (2, .long v2)] [] (cM ca o I J) := by
  unfold wM_plainPlace at h
  refine g_aload_n C (i := 0) dX12_plainPlace_0 rfl rfl ?_
  refine g_iload_n C (i := 1) dX12_plainPlace_1 rfl rfl ?_
  refine m_callv C rfl (wM_k_parts v1 I J _ h) 1 swM_parts (rl_ok (by decide) (by decide)) rfl (Nat.le_of_ble_eq_true rfl) (st := []) _ rfl dX12_plainPlace_2 (fun I2 J3 h => ?_)
  refine g_aload_n C (i := 0) dX12_plainPlace_5 rfl rfl ?_
  refine g_lconst_0 C dX12_plainPlace_6 ?_
  refine m_put_atX C dX12_plainPlace_7 ?_
  refine m_nmJ _ (fun J4 e5 => ?_)
  replace h := h J4 e5
  refine g_aload_n C (i := 0) dX12_plainPlace_10 rfl rfl ?_
  refine g_lconst_0 C dX12_plainPlace_11 ?_
  refine m_put_atY C dX12_plainPlace_12 ?_
  refine m_nmJ _ (fun J6 e7 => ?_)
  replace h := h J6 e7
  refine g_aload_n C (i := 0) dX12_plainPlace_15 rfl rfl ?_
  refine m_get_kind C dX12_plainPlace_16 ?_
  refine g_iload_n C (i := 1) dX12_plainPlace_19 rfl rfl ?_
  obtain ⟨h8, h⟩ := h
  refine m_iald C (k := 2) (by decide) h8 dX12_plainPlace_20 ?_
  refine g_iconst_2 C dX12_plainPlace_21 ?_
  refine g_icmp_ne C 29 dX12_plainPlace_22 rfl (fun c9 => ?_) (fun c9 => ?_)
  · replace h := h.1 c9
    refine g_iconst_2 C dX12_plainPlace_29 ?_
    exact g_weak [0, 1, 2] rfl (Nat.le_refl _) (Nat.le_refl _) (wM_plainPlace_gc30  C  v1 v2 2 I2 J6 h)
  · replace h := h.2 c9
    refine g_iconst_3 C dX12_plainPlace_25 ?_
    refine g_goto C 30 dX12_plainPlace_26 rfl ?_
    exact g_weak [0, 1, 2] rfl (Nat.le_refl _) (Nat.le_refl _) (wM_plainPlace_gc30  C  v1 v2 3 I2 J6 h)
theorem wM_k_plainPlace {D : gD} {ca : Nat → ClassId} {o : Nat → Nat} (v1 : Int32) (v2 : Int64) (I : gI) (J : gJ) (Q : gI → gJ → Prop) (h : wM_plainPlace v1 v2 I J Q) : Ct yX12_plainPlace cX12_plainPlace 13 none (rl 3) D (tyW ca) 0 0 [.ref (o 0), .int v1, .long v2] (cM ca o I J) (PMv ca o Q) := ct_of (rm := rl 3) (by decide +kernel) (Nat.le_of_ble_eq_true rfl) (fun Γ C => wM_plainPlace_g v1 v2 I J C h)
set_option maxRecDepth 100000 in
theorem wM_words_gb102 {Γ : gT} {D : gD} {ca : Nat → ClassId} {o : Nat → Nat} {Q : Int32 → gI → gJ → Prop} (C : Cx Γ cX12_words RX12 7 D (tyW ca) (rl 3) (some .int) 0 0 (PMi ca o Q)) {B102 : Int32 → Int32 → gI → gJ → Prop} (hB102 : ∀ (v5 : Int32) (v6 : Int32) (I : gI) (J : gJ), B102 v5 v6 I J → G Γ 0 0 102 [(0, .ref (o 0)), (5, .int v5), (6, .int v6)] [] (cM ca o I J)) (v5 : Int32) (v6 : Int32) (I : gI) (J : gJ) (h : wM_words_b102 B102 v5 v6 I J Q) : G Γ 0 0 102 [(0, .ref (o 0)), (5, .int v5), (6, .int v6)] [] (cM ca o I J) := by
  unfold wM_words_b102 at h
  refine g_iload C (i := 6) dX12_words_102 rfl ?_
  refine g_aload_n C (i := 0) dX12_words_104 rfl rfl ?_
  refine m_get_levels C dX12_words_105 ?_
  refine g_icmp_ge C 138 dX12_words_108 rfl (fun c1 => ?_) (fun c1 => ?_)
  · replace h := h.1 c1
    refine g_iload C (i := 5) dX12_words_138 rfl ?_
    exact g_ret_i C dX12_words_140 (Nat.le_refl _) (Nat.le_refl _) ⟨_, _, _, rfl, rfl, h⟩
  · replace h := h.2 c1
    refine g_aload_n C (i := 0) dX12_words_111 rfl rfl ?_
    refine m_get_want0 C dX12_words_112 ?_
    refine g_iload C (i := 6) dX12_words_115 rfl ?_
    obtain ⟨h2, h⟩ := h
    refine m_iald C (k := 22) (by decide) h2 dX12_words_117 ?_
    refine g_aload_n C (i := 0) dX12_words_118 rfl rfl ?_
    refine m_get_want1 C dX12_words_119 ?_
    refine g_iload C (i := 6) dX12_words_122 rfl ?_
    refine m_iald C (k := 23) (by decide) h2 dX12_words_124 ?_
    refine g_iadd C dX12_words_125 ?_
    refine g_if_ne C 132 dX12_words_126 rfl (fun c3 => ?_) (fun c3 => ?_)
    · replace h := h.1 c3
      refine g_iinc C 1 [(0, .ref (o 0)), (5, .int v5), (6, .int (v6 + 1))] dX12_words_132 rfl (by decide) (by decide) rfl ?_
      refine g_goto C 102 dX12_words_135 rfl ?_
      exact g_weak [0, 1, 2] rfl (Nat.le_refl _) (Nat.le_refl _) (hB102 v5 (v6 + 1) I J h)
    · replace h := h.2 c3
      refine g_iinc C 1 [(0, .ref (o 0)), (5, .int (v5 + 1)), (6, .int v6)] dX12_words_129 rfl (by decide) (by decide) rfl ?_
      refine g_iinc C 1 [(0, .ref (o 0)), (5, .int (v5 + 1)), (6, .int (v6 + 1))] dX12_words_132 rfl (by decide) (by decide) rfl ?_
      refine g_goto C 102 dX12_words_135 rfl ?_
      exact g_weak [0, 1, 2] rfl (Nat.le_refl _) (Nat.le_refl _) (hB102 (v5 + 1) (v6 + 1) I J h)
theorem wM_words_gl102 {Γ : gT} {D : gD} {ca : Nat → ClassId} {o : Nat → Nat} {Q : Int32 → gI → gJ → Prop} (C : Cx Γ cX12_words RX12 7 D (tyW ca) (rl 3) (some .int) 0 0 (PMi ca o Q)) : ∀ (n : Nat) (v5 : Int32) (v6 : Int32) (I : gI) (J : gJ) (_ : wM_words_l102 Q n v5 v6 I J), G Γ 0 0 102 [(0, .ref (o 0)), (5, .int v5), (6, .int v6)] [] (cM ca o I J) := by
  intro n
  induction n with
  | zero => intro v5 v6 I J h; exact h.elim
  | succ n ih => intro v5 v6 I J h; exact wM_words_gb102 C ih v5 v6 I J h
set_option maxRecDepth 100000 in
theorem wM_words_gc64 {Γ : gT} {D : gD} {ca : Nat → ClassId} {o : Nat → Nat} {Q : Int32 → gI → gJ → Prop} (C : Cx Γ cX12_words RX12 7 D (tyW ca) (rl 3) (some .int) 0 0 (PMi ca o Q)) (I : gI) (J : gJ) (h : wM_words_c64 I J Q) : G Γ 0 0 64 [(0, .ref (o 0))] [] (cM ca o I J) := by
  unfold wM_words_c64 at h
  refine g_aload_n C (i := 0) dX12_words_64 rfl rfl ?_
  refine g_bipush C (v := (-5)) dX12_words_65 (by decide) ?_
  refine m_calli C rfl (wM_k_noTen (-5) I J _ h) 1 swM_noTen (rl_ok (by decide) (by decide)) rfl (Nat.le_of_ble_eq_true rfl) (st := []) _ rfl dX12_words_67 (fun r1 I2 J3 h => ?_)
  exact g_ret_i C dX12_words_70 (Nat.le_refl _) (Nat.le_refl _) ⟨_, _, _, rfl, rfl, h⟩
set_option maxRecDepth 100000 in
theorem wM_words_g {Γ : gT} {D : gD} {ca : Nat → ClassId} {o : Nat → Nat} {Q : Int32 → gI → gJ → Prop} (v1 : Int32) (v2 : Int32) (v3 : Int32) (I : gI) (J : gJ) (C : Cx Γ cX12_words RX12 7 D (tyW ca) (rl 3) (some .int) 0 0 (PMi ca o Q)) (h : wM_words v1 v2 v3 I J Q) : G Γ 0 0 0 [(0, .ref (o 0)), (1, .int v1), (2, .int v2), (3, .int v3)] [] (cM ca o I J) := by
  unfold wM_words at h
  refine g_aload_n C (i := 0) dX12_words_0 rfl rfl ?_
  refine g_iload_n C (i := 1) dX12_words_1 rfl rfl ?_
  refine g_iload_n C (i := 2) dX12_words_2 rfl rfl ?_
  refine m_callPi C rfl (wM_k_bars v1 v2 I J _ h) 2 swM_bars (rl_ok (by decide) (by decide)) rfl (Nat.le_of_ble_eq_true rfl) (st := []) _ rfl dX12_words_3 (fun r1 h => ?_)
  refine g_istore C (i := 4) [(0, .ref (o 0)), (1, .int v1), (2, .int v2), (3, .int v3), (4, .int r1)] dX12_words_6 (by decide) rfl ?_
  refine g_iload C (i := 4) dX12_words_8 rfl ?_
  refine g_if_eq C 20 dX12_words_10 rfl (fun c2 => ?_) (fun c2 => ?_)
  · replace h := h.1 c2
    refine g_iload_n C (i := 2) dX12_words_20 rfl rfl ?_
    refine g_bipush C (v := 63) dX12_words_21 (by decide) ?_
    refine g_icmp_le C 33 dX12_words_23 rfl (fun c3 => ?_) (fun c3 => ?_)
    · replace h := h.1 c3
      refine g_aload_n C (i := 0) dX12_words_33 rfl rfl ?_
      refine g_iload_n C (i := 1) dX12_words_34 rfl rfl ?_
      refine g_iload_n C (i := 2) dX12_words_35 rfl rfl ?_
      refine m_callv C rfl (wM_k_seen v1 v2 I J _ h) 2 swM_seen (rl_ok (by decide) (by decide)) rfl (Nat.le_of_ble_eq_true rfl) (st := []) _ rfl dX12_words_36 (fun I5 J6 h => ?_)
      refine g_iload_n C (i := 3) dX12_words_39 rfl rfl ?_
      refine g_iconst_m1 C dX12_words_40 ?_
      refine g_icmp_eq C 86 dX12_words_41 rfl (fun c7 => ?_) (fun c7 => ?_)
      · replace h := h.1 c7
        refine g_aload_n C (i := 0) dX12_words_86 rfl rfl ?_
        refine m_get_wrongCrease C dX12_words_87 ?_
        refine g_iconst_m1 C dX12_words_90 ?_
        refine g_icmp_eq C 96 dX12_words_91 rfl (fun c8 => ?_) (fun c8 => ?_)
        · replace h := h.1 c8
          refine g_iconst_0 C dX12_words_96 ?_
          refine g_istore C (i := 5) [(0, .ref (o 0)), (1, .int v1), (2, .int v2), (3, .int v3), (4, .int r1), (5, .int 0)] dX12_words_97 (by decide) rfl ?_
          refine g_iconst_0 C dX12_words_99 ?_
          refine g_istore C (i := 6) [(0, .ref (o 0)), (1, .int v1), (2, .int v2), (3, .int v3), (4, .int r1), (5, .int 0), (6, .int 0)] dX12_words_100 (by decide) rfl ?_
          obtain ⟨n, h⟩ := h
          exact g_weak [0, 5, 6] rfl (Nat.le_refl _) (Nat.le_refl _) (wM_words_gl102  C  n 0 0 I5 J6 h)
        · replace h := h.2 c8
          refine g_iconst_m1 C dX12_words_94 ?_
          exact g_ret_i C dX12_words_95 (Nat.le_refl _) (Nat.le_refl _) ⟨_, _, _, rfl, rfl, h⟩
      · replace h := h.2 c7
        refine g_iload_n C (i := 3) dX12_words_44 rfl rfl ?_
        refine g_if_lt C 64 dX12_words_45 rfl (fun c9 => ?_) (fun c9 => ?_)
        · replace h := h.1 c9
          exact g_weak [0] rfl (Nat.le_refl _) (Nat.le_refl _) (wM_words_gc64  C   I5 J6 h)
        · replace h := h.2 c9
          refine g_iload_n C (i := 3) dX12_words_48 rfl rfl ?_
          refine g_aload_n C (i := 0) dX12_words_49 rfl rfl ?_
          refine m_get_levels C dX12_words_50 ?_
          refine g_icmp_ge C 64 dX12_words_53 rfl (fun c10 => ?_) (fun c10 => ?_)
          · replace h := h.1 c10
            exact g_weak [0] rfl (Nat.le_refl _) (Nat.le_refl _) (wM_words_gc64  C   I5 J6 h)
          · replace h := h.2 c10
            refine g_aload_n C (i := 0) dX12_words_56 rfl rfl ?_
            refine m_get_wrongCrease C dX12_words_57 ?_
            refine g_iconst_m1 C dX12_words_60 ?_
            refine g_icmp_eq C 71 dX12_words_61 rfl (fun c11 => ?_) (fun c11 => ?_)
            · replace h := h.1 c11
              refine g_aload_n C (i := 0) dX12_words_71 rfl rfl ?_
              refine m_get_want1 C dX12_words_72 ?_
              refine g_iload_n C (i := 3) dX12_words_75 rfl rfl ?_
              obtain ⟨h12, h⟩ := h
              refine m_iald C (k := 23) (by decide) h12 dX12_words_76 ?_
              refine g_if_le C 84 dX12_words_77 rfl (fun c13 => ?_) (fun c13 => ?_)
              · replace h := h.1 c13
                refine g_iconst_0 C dX12_words_84 ?_
                exact g_ret_i C dX12_words_85 (Nat.le_refl _) (Nat.le_refl _) ⟨_, _, _, rfl, rfl, h⟩
              · replace h := h.2 c13
                refine g_iconst_1 C dX12_words_80 ?_
                refine g_goto C 85 dX12_words_81 rfl ?_
                exact g_ret_i C dX12_words_85 (Nat.le_refl _) (Nat.le_refl _) ⟨_, _, _, rfl, rfl, h⟩
            · replace h := h.2 c11
              exact g_weak [0] rfl (Nat.le_refl _) (Nat.le_refl _) (wM_words_gc64  C   I5 J6 h)
    · replace h := h.2 c3
      refine g_aload_n C (i := 0) dX12_words_26 rfl rfl ?_
      refine g_bipush C (v := (-6)) dX12_words_27 (by decide) ?_
      refine m_calli C rfl (wM_k_noTen (-6) I J _ h) 1 swM_noTen (rl_ok (by decide) (by decide)) rfl (Nat.le_of_ble_eq_true rfl) (st := []) _ rfl dX12_words_29 (fun r14 I15 J16 h => ?_)
      exact g_ret_i C dX12_words_32 (Nat.le_refl _) (Nat.le_refl _) ⟨_, _, _, rfl, rfl, h⟩
  · replace h := h.2 c2
    refine g_aload_n C (i := 0) dX12_words_13 rfl rfl ?_
    refine g_iload C (i := 4) dX12_words_14 rfl ?_
    refine m_calli C rfl (wM_k_noTen r1 I J _ h) 1 swM_noTen (rl_ok (by decide) (by decide)) rfl (Nat.le_of_ble_eq_true rfl) (st := []) _ rfl dX12_words_16 (fun r17 I18 J19 h => ?_)
    exact g_ret_i C dX12_words_19 (Nat.le_refl _) (Nat.le_refl _) ⟨_, _, _, rfl, rfl, h⟩
theorem wM_k_words {D : gD} {ca : Nat → ClassId} {o : Nat → Nat} (v1 : Int32) (v2 : Int32) (v3 : Int32) (I : gI) (J : gJ) (Q : Int32 → gI → gJ → Prop) (h : wM_words v1 v2 v3 I J Q) : Ct yX12_words cX12_words 7 (some .int) (rl 3) D (tyW ca) 0 0 [.ref (o 0), .int v1, .int v2, .int v3] (cM ca o I J) (PMi ca o Q) := ct_of (rm := rl 3) (by decide +kernel) (Nat.le_of_ble_eq_true rfl) (fun Γ C => wM_words_g v1 v2 v3 I J C h)
set_option maxRecDepth 100000 in
theorem wM_wrong_g {Γ : gT} {D : gD} {ca : Nat → ClassId} {o : Nat → Nat} {Q : Int32 → gI → gJ → Prop} (v1 : Int32) (v2 : Int32) (I : gI) (J : gJ) (C : Cx Γ cX12_wrong RX12 4 D (tyW ca) (rl 3) (some .int) 0 0 (PMi ca o Q)) (h : wM_wrong v1 v2 I J Q) : G Γ 0 0 0 [(0, .ref (o 0)), (1, .int v1), (2, .int v2)] [] (cM ca o I J) := by
  unfold wM_wrong at h
  refine g_aload_n C (i := 0) dX12_wrong_0 rfl rfl ?_
  refine g_iload_n C (i := 1) dX12_wrong_1 rfl rfl ?_
  refine g_iload_n C (i := 2) dX12_wrong_2 rfl rfl ?_
  refine m_callPi C rfl (wM_k_bars v1 v2 I J _ h) 2 swM_bars (rl_ok (by decide) (by decide)) rfl (Nat.le_of_ble_eq_true rfl) (st := []) _ rfl dX12_wrong_3 (fun r1 h => ?_)
  refine g_istore_n C (i := 3) [(0, .ref (o 0)), (1, .int v1), (2, .int v2), (3, .int r1)] dX12_wrong_6 rfl (by decide) rfl ?_
  refine g_iload_n C (i := 3) dX12_wrong_7 rfl rfl ?_
  refine g_if_eq C 17 dX12_wrong_8 rfl (fun c2 => ?_) (fun c2 => ?_)
  · replace h := h.1 c2
    refine g_iload_n C (i := 2) dX12_wrong_17 rfl rfl ?_
    refine g_bipush C (v := 63) dX12_wrong_18 (by decide) ?_
    refine g_icmp_le C 30 dX12_wrong_20 rfl (fun c3 => ?_) (fun c3 => ?_)
    · replace h := h.1 c3
      refine g_aload_n C (i := 0) dX12_wrong_30 rfl rfl ?_
      refine g_iload_n C (i := 1) dX12_wrong_31 rfl rfl ?_
      refine g_iload_n C (i := 2) dX12_wrong_32 rfl rfl ?_
      refine m_callv C rfl (wM_k_seen v1 v2 I J _ h) 2 swM_seen (rl_ok (by decide) (by decide)) rfl (Nat.le_of_ble_eq_true rfl) (st := []) _ rfl dX12_wrong_33 (fun I5 J6 h => ?_)
      refine g_aload_n C (i := 0) dX12_wrong_36 rfl rfl ?_
      refine m_get_wrongCrease C dX12_wrong_37 ?_
      exact g_ret_i C dX12_wrong_40 (Nat.le_refl _) (Nat.le_refl _) ⟨_, _, _, rfl, rfl, h⟩
    · replace h := h.2 c3
      refine g_aload_n C (i := 0) dX12_wrong_23 rfl rfl ?_
      refine g_bipush C (v := (-6)) dX12_wrong_24 (by decide) ?_
      refine m_calli C rfl (wM_k_noTen (-6) I J _ h) 1 swM_noTen (rl_ok (by decide) (by decide)) rfl (Nat.le_of_ble_eq_true rfl) (st := []) _ rfl dX12_wrong_26 (fun r7 I8 J9 h => ?_)
      exact g_ret_i C dX12_wrong_29 (Nat.le_refl _) (Nat.le_refl _) ⟨_, _, _, rfl, rfl, h⟩
  · replace h := h.2 c2
    refine g_aload_n C (i := 0) dX12_wrong_11 rfl rfl ?_
    refine g_iload_n C (i := 3) dX12_wrong_12 rfl rfl ?_
    refine m_calli C rfl (wM_k_noTen r1 I J _ h) 1 swM_noTen (rl_ok (by decide) (by decide)) rfl (Nat.le_of_ble_eq_true rfl) (st := []) _ rfl dX12_wrong_13 (fun r10 I11 J12 h => ?_)
    exact g_ret_i C dX12_wrong_16 (Nat.le_refl _) (Nat.le_refl _) ⟨_, _, _, rfl, rfl, h⟩
theorem wM_k_wrong {D : gD} {ca : Nat → ClassId} {o : Nat → Nat} (v1 : Int32) (v2 : Int32) (I : gI) (J : gJ) (Q : Int32 → gI → gJ → Prop) (h : wM_wrong v1 v2 I J Q) : Ct yX12_wrong cX12_wrong 4 (some .int) (rl 3) D (tyW ca) 0 0 [.ref (o 0), .int v1, .int v2] (cM ca o I J) (PMi ca o Q) := ct_of (rm := rl 3) (by decide +kernel) (Nat.le_of_ble_eq_true rfl) (fun Γ C => wM_wrong_g v1 v2 I J C h)
set_option maxRecDepth 100000 in
theorem wM_mend_gb42 {Γ : gT} {D : gD} {ca : Nat → ClassId} {o : Nat → Nat} {Q : Int32 → gI → gJ → Prop} (C : Cx Γ cX12_mend RX12 6 D (tyW ca) (rl 3) (some .int) 0 0 (PMi ca o Q)) {B42 : Int32 → Int32 → gI → gJ → Prop} (hB42 : ∀ (v4 : Int32) (v5 : Int32) (I : gI) (J : gJ), B42 v4 v5 I J → G Γ 0 0 42 [(0, .ref (o 0)), (4, .int v4), (5, .int v5)] [] (cM ca o I J)) (v4 : Int32) (v5 : Int32) (I : gI) (J : gJ) (h : wM_mend_b42 B42 v4 v5 I J Q) : G Γ 0 0 42 [(0, .ref (o 0)), (4, .int v4), (5, .int v5)] [] (cM ca o I J) := by
  unfold wM_mend_b42 at h
  refine g_iload C (i := 5) dX12_mend_42 rfl ?_
  refine g_aload_n C (i := 0) dX12_mend_44 rfl rfl ?_
  refine m_get_levels C dX12_mend_45 ?_
  refine g_icmp_ge C 96 dX12_mend_48 rfl (fun c1 => ?_) (fun c1 => ?_)
  · replace h := h.1 c1
    refine g_iload C (i := 4) dX12_mend_96 rfl ?_
    exact g_ret_i C dX12_mend_98 (Nat.le_refl _) (Nat.le_refl _) ⟨_, _, _, rfl, rfl, h⟩
  · replace h := h.2 c1
    refine g_iload C (i := 4) dX12_mend_51 rfl ?_
    refine g_aload_n C (i := 0) dX12_mend_53 rfl rfl ?_
    refine m_get_want0 C dX12_mend_54 ?_
    refine g_iload C (i := 5) dX12_mend_57 rfl ?_
    obtain ⟨h2, h⟩ := h
    refine m_iald C (k := 22) (by decide) h2 dX12_mend_59 ?_
    refine g_aload_n C (i := 0) dX12_mend_60 rfl rfl ?_
    refine m_get_want1 C dX12_mend_61 ?_
    refine g_iload C (i := 5) dX12_mend_64 rfl ?_
    refine m_iald C (k := 23) (by decide) h2 dX12_mend_66 ?_
    refine g_icmp_ge C 80 dX12_mend_67 rfl (fun c3 => ?_) (fun c3 => ?_)
    · replace h := h.1 c3
      refine g_aload_n C (i := 0) dX12_mend_80 rfl rfl ?_
      refine m_get_want1 C dX12_mend_81 ?_
      refine g_iload C (i := 5) dX12_mend_84 rfl ?_
      refine m_iald C (k := 23) (by decide) h2 dX12_mend_86 ?_
      refine g_iadd C dX12_mend_87 ?_
      refine g_istore C (i := 4) [(0, .ref (o 0)), (4, .int (v4 + (I 23 v5.toNatClampNeg))), (5, .int v5)] dX12_mend_88 (by decide) rfl ?_
      refine g_iinc C 1 [(0, .ref (o 0)), (4, .int (v4 + (I 23 v5.toNatClampNeg))), (5, .int (v5 + 1))] dX12_mend_90 rfl (by decide) (by decide) rfl ?_
      refine g_goto C 42 dX12_mend_93 rfl ?_
      exact g_weak [0, 1, 2] rfl (Nat.le_refl _) (Nat.le_refl _) (hB42 (v4 + (I 23 v5.toNatClampNeg)) (v5 + 1) I J h)
    · replace h := h.2 c3
      refine g_aload_n C (i := 0) dX12_mend_70 rfl rfl ?_
      refine m_get_want0 C dX12_mend_71 ?_
      refine g_iload C (i := 5) dX12_mend_74 rfl ?_
      refine m_iald C (k := 22) (by decide) h2 dX12_mend_76 ?_
      refine g_goto C 87 dX12_mend_77 rfl ?_
      refine g_iadd C dX12_mend_87 ?_
      refine g_istore C (i := 4) [(0, .ref (o 0)), (4, .int (v4 + (I 22 v5.toNatClampNeg))), (5, .int v5)] dX12_mend_88 (by decide) rfl ?_
      refine g_iinc C 1 [(0, .ref (o 0)), (4, .int (v4 + (I 22 v5.toNatClampNeg))), (5, .int (v5 + 1))] dX12_mend_90 rfl (by decide) (by decide) rfl ?_
      refine g_goto C 42 dX12_mend_93 rfl ?_
      exact g_weak [0, 1, 2] rfl (Nat.le_refl _) (Nat.le_refl _) (hB42 (v4 + (I 22 v5.toNatClampNeg)) (v5 + 1) I J h)
theorem wM_mend_gl42 {Γ : gT} {D : gD} {ca : Nat → ClassId} {o : Nat → Nat} {Q : Int32 → gI → gJ → Prop} (C : Cx Γ cX12_mend RX12 6 D (tyW ca) (rl 3) (some .int) 0 0 (PMi ca o Q)) : ∀ (n : Nat) (v4 : Int32) (v5 : Int32) (I : gI) (J : gJ) (_ : wM_mend_l42 Q n v4 v5 I J), G Γ 0 0 42 [(0, .ref (o 0)), (4, .int v4), (5, .int v5)] [] (cM ca o I J) := by
  intro n
  induction n with
  | zero => intro v4 v5 I J h; exact h.elim
  | succ n ih => intro v4 v5 I J h; exact wM_mend_gb42 C ih v4 v5 I J h
set_option maxRecDepth 100000 in
theorem wM_mend_g {Γ : gT} {D : gD} {ca : Nat → ClassId} {o : Nat → Nat} {Q : Int32 → gI → gJ → Prop} (v1 : Int32) (v2 : Int32) (I : gI) (J : gJ) (C : Cx Γ cX12_mend RX12 6 D (tyW ca) (rl 3) (some .int) 0 0 (PMi ca o Q)) (h : wM_mend v1 v2 I J Q) : G Γ 0 0 0 [(0, .ref (o 0)), (1, .int v1), (2, .int v2)] [] (cM ca o I J) := by
  unfold wM_mend at h
  refine g_aload_n C (i := 0) dX12_mend_0 rfl rfl ?_
  refine g_iload_n C (i := 1) dX12_mend_1 rfl rfl ?_
  refine g_iload_n C (i := 2) dX12_mend_2 rfl rfl ?_
  refine m_callPi C rfl (wM_k_bars v1 v2 I J _ h) 2 swM_bars (rl_ok (by decide) (by decide)) rfl (Nat.le_of_ble_eq_true rfl) (st := []) _ rfl dX12_mend_3 (fun r1 h => ?_)
  refine g_istore_n C (i := 3) [(0, .ref (o 0)), (1, .int v1), (2, .int v2), (3, .int r1)] dX12_mend_6 rfl (by decide) rfl ?_
  refine g_iload_n C (i := 3) dX12_mend_7 rfl rfl ?_
  refine g_if_eq C 17 dX12_mend_8 rfl (fun c2 => ?_) (fun c2 => ?_)
  · replace h := h.1 c2
    refine g_iload_n C (i := 2) dX12_mend_17 rfl rfl ?_
    refine g_bipush C (v := 63) dX12_mend_18 (by decide) ?_
    refine g_icmp_le C 30 dX12_mend_20 rfl (fun c3 => ?_) (fun c3 => ?_)
    · replace h := h.1 c3
      refine g_aload_n C (i := 0) dX12_mend_30 rfl rfl ?_
      refine g_iload_n C (i := 1) dX12_mend_31 rfl rfl ?_
      refine g_iload_n C (i := 2) dX12_mend_32 rfl rfl ?_
      refine m_callv C rfl (wM_k_seen v1 v2 I J _ h) 2 swM_seen (rl_ok (by decide) (by decide)) rfl (Nat.le_of_ble_eq_true rfl) (st := []) _ rfl dX12_mend_33 (fun I5 J6 h => ?_)
      refine g_iconst_0 C dX12_mend_36 ?_
      refine g_istore C (i := 4) [(0, .ref (o 0)), (1, .int v1), (2, .int v2), (3, .int r1), (4, .int 0)] dX12_mend_37 (by decide) rfl ?_
      refine g_iconst_0 C dX12_mend_39 ?_
      refine g_istore C (i := 5) [(0, .ref (o 0)), (1, .int v1), (2, .int v2), (3, .int r1), (4, .int 0), (5, .int 0)] dX12_mend_40 (by decide) rfl ?_
      obtain ⟨n, h⟩ := h
      exact g_weak [0, 4, 5] rfl (Nat.le_refl _) (Nat.le_refl _) (wM_mend_gl42  C  n 0 0 I5 J6 h)
    · replace h := h.2 c3
      refine g_aload_n C (i := 0) dX12_mend_23 rfl rfl ?_
      refine g_bipush C (v := (-6)) dX12_mend_24 (by decide) ?_
      refine m_calli C rfl (wM_k_no (-6) I J _ h) 1 swM_no (rl_ok (by decide) (by decide)) rfl (Nat.le_of_ble_eq_true rfl) (st := []) _ rfl dX12_mend_26 (fun r7 I8 J9 h => ?_)
      exact g_ret_i C dX12_mend_29 (Nat.le_refl _) (Nat.le_refl _) ⟨_, _, _, rfl, rfl, h⟩
  · replace h := h.2 c2
    refine g_aload_n C (i := 0) dX12_mend_11 rfl rfl ?_
    refine g_iload_n C (i := 3) dX12_mend_12 rfl rfl ?_
    refine m_calli C rfl (wM_k_no r1 I J _ h) 1 swM_no (rl_ok (by decide) (by decide)) rfl (Nat.le_of_ble_eq_true rfl) (st := []) _ rfl dX12_mend_13 (fun r10 I11 J12 h => ?_)
    exact g_ret_i C dX12_mend_16 (Nat.le_refl _) (Nat.le_refl _) ⟨_, _, _, rfl, rfl, h⟩
theorem wM_k_mend {D : gD} {ca : Nat → ClassId} {o : Nat → Nat} (v1 : Int32) (v2 : Int32) (I : gI) (J : gJ) (Q : Int32 → gI → gJ → Prop) (h : wM_mend v1 v2 I J Q) : Ct yX12_mend cX12_mend 6 (some .int) (rl 3) D (tyW ca) 0 0 [.ref (o 0), .int v1, .int v2] (cM ca o I J) (PMi ca o Q) := ct_of (rm := rl 3) (by decide +kernel) (Nat.le_of_ble_eq_true rfl) (fun Γ C => wM_mend_g v1 v2 I J C h)
set_option maxRecDepth 100000 in
theorem wM_can_gc78 {Γ : gT} {D : gD} {ca : Nat → ClassId} {o : Nat → Nat} {Q : Int32 → gI → gJ → Prop} (C : Cx Γ cX12_can RX12 7 D (tyW ca) (rl 3) (some .int) 0 0 (PMi ca o Q)) (I : gI) (J : gJ) (h : wM_can_c78 I J Q) : G Γ 0 0 78 [(0, .ref (o 0))] [] (cM ca o I J) := by
  unfold wM_can_c78 at h
  refine g_aload_n C (i := 0) dX12_can_78 rfl rfl ?_
  refine g_bipush C (v := (-6)) dX12_can_79 (by decide) ?_
  refine m_calli C rfl (wM_k_no (-6) I J _ h) 1 swM_no (rl_ok (by decide) (by decide)) rfl (Nat.le_of_ble_eq_true rfl) (st := []) _ rfl dX12_can_81 (fun r1 I2 J3 h => ?_)
  exact g_ret_i C dX12_can_84 (Nat.le_refl _) (Nat.le_refl _) ⟨_, _, _, rfl, rfl, h⟩
set_option maxRecDepth 100000 in
theorem wM_can_gb41 {Γ : gT} {D : gD} {ca : Nat → ClassId} {o : Nat → Nat} {Q : Int32 → gI → gJ → Prop} (C : Cx Γ cX12_can RX12 7 D (tyW ca) (rl 3) (some .int) 0 0 (PMi ca o Q)) {B41 : Int32 → Int32 → Int32 → Int32 → gI → gJ → Prop} (hB41 : ∀ (v1 : Int32) (v2 : Int32) (v4 : Int32) (v5 : Int32) (I : gI) (J : gJ), B41 v1 v2 v4 v5 I J → G Γ 0 0 41 [(0, .ref (o 0)), (1, .int v1), (2, .int v2), (4, .int v4), (5, .int v5)] [] (cM ca o I J)) (v1 : Int32) (v2 : Int32) (v4 : Int32) (v5 : Int32) (I : gI) (J : gJ) (h : wM_can_b41 B41 v1 v2 v4 v5 I J Q) : G Γ 0 0 41 [(0, .ref (o 0)), (1, .int v1), (2, .int v2), (4, .int v4), (5, .int v5)] [] (cM ca o I J) := by
  unfold wM_can_b41 at h
  refine g_iload C (i := 5) dX12_can_41 rfl ?_
  refine g_iload_n C (i := 2) dX12_can_43 rfl rfl ?_
  refine g_icmp_ge C 109 dX12_can_44 rfl (fun c1 => ?_) (fun c1 => ?_)
  · replace h := h.1 c1
    refine g_aload_n C (i := 0) dX12_can_109 rfl rfl ?_
    refine g_iload_n C (i := 2) dX12_can_110 rfl rfl ?_
    refine m_callPz C rfl (wM_k_isCrossed v2 I J _ h) 1 swM_isCrossed (rl_ok (by decide) (by decide)) rfl (Nat.le_of_ble_eq_true rfl) (st := []) _ rfl dX12_can_111 (fun r2 h => ?_)
    refine g_zeq C 121 dX12_can_114 rfl (fun c3 => ?_) (fun c3 => ?_)
    · replace h := h.1 c3
      refine g_iconst_1 C dX12_can_121 ?_
      exact g_ret_i C dX12_can_122 (Nat.le_refl _) (Nat.le_refl _) ⟨_, _, _, rfl, rfl, h⟩
    · replace h := h.2 c3
      refine g_iconst_0 C dX12_can_117 ?_
      refine g_goto C 122 dX12_can_118 rfl ?_
      exact g_ret_i C dX12_can_122 (Nat.le_refl _) (Nat.le_refl _) ⟨_, _, _, rfl, rfl, h⟩
  · replace h := h.2 c1
    refine g_aload_n C (i := 0) dX12_can_47 rfl rfl ?_
    refine g_iload_n C (i := 1) dX12_can_48 rfl rfl ?_
    refine g_iload C (i := 5) dX12_can_49 rfl ?_
    refine m_callPi C rfl (wM_k_intAt v1 v5 I J _ h) 2 swM_intAt (rl_ok (by decide) (by decide)) rfl (Nat.le_of_ble_eq_true rfl) (st := []) _ rfl dX12_can_51 (fun r4 h => ?_)
    refine g_istore C (i := 6) [(0, .ref (o 0)), (1, .int v1), (2, .int v2), (4, .int v4), (5, .int v5), (6, .int r4)] dX12_can_54 (by decide) rfl ?_
    refine g_iload C (i := 6) dX12_can_56 rfl ?_
    refine g_if_lt C 78 dX12_can_58 rfl (fun c5 => ?_) (fun c5 => ?_)
    · replace h := h.1 c5
      exact g_weak [0] rfl (Nat.le_refl _) (Nat.le_refl _) (wM_can_gc78  C   I J h)
    · replace h := h.2 c5
      refine g_iload C (i := 6) dX12_can_61 rfl ?_
      refine g_iload_n C (i := 2) dX12_can_63 rfl rfl ?_
      refine g_icmp_ge C 78 dX12_can_64 rfl (fun c6 => ?_) (fun c6 => ?_)
      · replace h := h.1 c6
        exact g_weak [0] rfl (Nat.le_refl _) (Nat.le_refl _) (wM_can_gc78  C   I J h)
      · replace h := h.2 c6
        refine g_iload C (i := 4) dX12_can_67 rfl ?_
        refine g_iload C (i := 6) dX12_can_69 rfl ?_
        refine g_ishr C dX12_can_71 ?_
        refine g_iconst_1 C dX12_can_72 ?_
        refine g_iand C dX12_can_73 ?_
        refine g_iconst_1 C dX12_can_74 ?_
        refine g_icmp_ne C 85 dX12_can_75 rfl (fun c7 => ?_) (fun c7 => ?_)
        · replace h := h.1 c7
          refine g_iload C (i := 4) dX12_can_85 rfl ?_
          refine g_iconst_1 C dX12_can_87 ?_
          refine g_iload C (i := 6) dX12_can_88 rfl ?_
          refine g_ishl C dX12_can_90 ?_
          refine g_ior C dX12_can_91 ?_
          refine g_istore C (i := 4) [(0, .ref (o 0)), (1, .int v1), (2, .int v2), (4, .int (v4 ||| (1 <<< (r4 &&& 31)))), (5, .int v5), (6, .int r4)] dX12_can_92 (by decide) rfl ?_
          refine g_aload_n C (i := 0) dX12_can_94 rfl rfl ?_
          refine m_get_at C dX12_can_95 ?_
          refine g_iload C (i := 6) dX12_can_98 rfl ?_
          refine g_iload C (i := 5) dX12_can_100 rfl ?_
          obtain ⟨h8, h⟩ := h
          refine m_iast C (k := 25) (by decide) h8 dX12_can_102 ?_
          refine m_nmI _ (fun I9 e10 => ?_)
          replace h := h I9 e10
          refine g_iinc C 1 [(0, .ref (o 0)), (1, .int v1), (2, .int v2), (4, .int (v4 ||| (1 <<< (r4 &&& 31)))), (5, .int (v5 + 1)), (6, .int r4)] dX12_can_103 rfl (by decide) (by decide) rfl ?_
          refine g_goto C 41 dX12_can_106 rfl ?_
          exact g_weak [0, 1, 2, 3, 4] rfl (Nat.le_refl _) (Nat.le_refl _) (hB41 v1 v2 (v4 ||| (1 <<< (r4 &&& 31))) (v5 + 1) I9 J h)
        · replace h := h.2 c7
          exact g_weak [0] rfl (Nat.le_refl _) (Nat.le_refl _) (wM_can_gc78  C   I J h)
theorem wM_can_gl41 {Γ : gT} {D : gD} {ca : Nat → ClassId} {o : Nat → Nat} {Q : Int32 → gI → gJ → Prop} (C : Cx Γ cX12_can RX12 7 D (tyW ca) (rl 3) (some .int) 0 0 (PMi ca o Q)) : ∀ (n : Nat) (v1 : Int32) (v2 : Int32) (v4 : Int32) (v5 : Int32) (I : gI) (J : gJ) (_ : wM_can_l41 Q n v1 v2 v4 v5 I J), G Γ 0 0 41 [(0, .ref (o 0)), (1, .int v1), (2, .int v2), (4, .int v4), (5, .int v5)] [] (cM ca o I J) := by
  intro n
  induction n with
  | zero => intro v1 v2 v4 v5 I J h; exact h.elim
  | succ n ih => intro v1 v2 v4 v5 I J h; exact wM_can_gb41 C ih v1 v2 v4 v5 I J h
set_option maxRecDepth 100000 in
theorem wM_can_gc28 {Γ : gT} {D : gD} {ca : Nat → ClassId} {o : Nat → Nat} {Q : Int32 → gI → gJ → Prop} (C : Cx Γ cX12_can RX12 7 D (tyW ca) (rl 3) (some .int) 0 0 (PMi ca o Q)) (I : gI) (J : gJ) (h : wM_can_c28 I J Q) : G Γ 0 0 28 [(0, .ref (o 0))] [] (cM ca o I J) := by
  unfold wM_can_c28 at h
  refine g_aload_n C (i := 0) dX12_can_28 rfl rfl ?_
  refine g_bipush C (v := (-6)) dX12_can_29 (by decide) ?_
  refine m_calli C rfl (wM_k_no (-6) I J _ h) 1 swM_no (rl_ok (by decide) (by decide)) rfl (Nat.le_of_ble_eq_true rfl) (st := []) _ rfl dX12_can_31 (fun r1 I2 J3 h => ?_)
  exact g_ret_i C dX12_can_34 (Nat.le_refl _) (Nat.le_refl _) ⟨_, _, _, rfl, rfl, h⟩
set_option maxRecDepth 100000 in
theorem wM_can_g {Γ : gT} {D : gD} {ca : Nat → ClassId} {o : Nat → Nat} {Q : Int32 → gI → gJ → Prop} (v1 : Int32) (v2 : Int32) (I : gI) (J : gJ) (C : Cx Γ cX12_can RX12 7 D (tyW ca) (rl 3) (some .int) 0 0 (PMi ca o Q)) (h : wM_can v1 v2 I J Q) : G Γ 0 0 0 [(0, .ref (o 0)), (1, .int v1), (2, .int v2)] [] (cM ca o I J) := by
  unfold wM_can at h
  refine g_aload_n C (i := 0) dX12_can_0 rfl rfl ?_
  refine g_iload_n C (i := 1) dX12_can_1 rfl rfl ?_
  refine g_iload_n C (i := 2) dX12_can_2 rfl rfl ?_
  refine m_callPi C rfl (wM_k_bars v1 v2 I J _ h) 2 swM_bars (rl_ok (by decide) (by decide)) rfl (Nat.le_of_ble_eq_true rfl) (st := []) _ rfl dX12_can_3 (fun r1 h => ?_)
  refine g_istore_n C (i := 3) [(0, .ref (o 0)), (1, .int v1), (2, .int v2), (3, .int r1)] dX12_can_6 rfl (by decide) rfl ?_
  refine g_iload_n C (i := 3) dX12_can_7 rfl rfl ?_
  refine g_if_eq C 17 dX12_can_8 rfl (fun c2 => ?_) (fun c2 => ?_)
  · replace h := h.1 c2
    refine g_iload_n C (i := 2) dX12_can_17 rfl rfl ?_
    refine g_iconst_1 C dX12_can_18 ?_
    refine g_icmp_lt C 28 dX12_can_19 rfl (fun c3 => ?_) (fun c3 => ?_)
    · replace h := h.1 c3
      exact g_weak [0] rfl (Nat.le_refl _) (Nat.le_refl _) (wM_can_gc28  C   I J h)
    · replace h := h.2 c3
      refine g_iload_n C (i := 2) dX12_can_22 rfl rfl ?_
      refine g_bipush C (v := 8) dX12_can_23 (by decide) ?_
      refine g_icmp_le C 35 dX12_can_25 rfl (fun c4 => ?_) (fun c4 => ?_)
      · replace h := h.1 c4
        refine g_iconst_0 C dX12_can_35 ?_
        refine g_istore C (i := 4) [(0, .ref (o 0)), (1, .int v1), (2, .int v2), (3, .int r1), (4, .int 0)] dX12_can_36 (by decide) rfl ?_
        refine g_iconst_0 C dX12_can_38 ?_
        refine g_istore C (i := 5) [(0, .ref (o 0)), (1, .int v1), (2, .int v2), (3, .int r1), (4, .int 0), (5, .int 0)] dX12_can_39 (by decide) rfl ?_
        obtain ⟨n, h⟩ := h
        exact g_weak [0, 1, 2, 4, 5] rfl (Nat.le_refl _) (Nat.le_refl _) (wM_can_gl41  C  n v1 v2 0 0 I J h)
      · replace h := h.2 c4
        exact g_weak [0] rfl (Nat.le_refl _) (Nat.le_refl _) (wM_can_gc28  C   I J h)
  · replace h := h.2 c2
    refine g_aload_n C (i := 0) dX12_can_11 rfl rfl ?_
    refine g_iload_n C (i := 3) dX12_can_12 rfl rfl ?_
    refine m_calli C rfl (wM_k_no r1 I J _ h) 1 swM_no (rl_ok (by decide) (by decide)) rfl (Nat.le_of_ble_eq_true rfl) (st := []) _ rfl dX12_can_13 (fun r5 I6 J7 h => ?_)
    exact g_ret_i C dX12_can_16 (Nat.le_refl _) (Nat.le_refl _) ⟨_, _, _, rfl, rfl, h⟩
theorem wM_k_can {D : gD} {ca : Nat → ClassId} {o : Nat → Nat} (v1 : Int32) (v2 : Int32) (I : gI) (J : gJ) (Q : Int32 → gI → gJ → Prop) (h : wM_can v1 v2 I J Q) : Ct yX12_can cX12_can 7 (some .int) (rl 3) D (tyW ca) 0 0 [.ref (o 0), .int v1, .int v2] (cM ca o I J) (PMi ca o Q) := ct_of (rm := rl 3) (by decide +kernel) (Nat.le_of_ble_eq_true rfl) (fun Γ C => wM_can_g v1 v2 I J C h)
set_option maxRecDepth 100000 in
theorem wM_lying_gc35 {Γ : gT} {D : gD} {ca : Nat → ClassId} {o : Nat → Nat} {Q : Int32 → gI → gJ → Prop} (C : Cx Γ cX12_lying RX12 5 D (tyW ca) (rl 3) (some .int) 0 0 (PMi ca o Q)) (v1 : Int32) (v2 : Int32) (v3 : Int32) (I : gI) (J : gJ) (h : wM_lying_c35 v1 v2 v3 I J Q) : G Γ 0 0 35 [(0, .ref (o 0)), (1, .int v1), (2, .int v2), (3, .int v3)] [] (cM ca o I J) := by
  unfold wM_lying_c35 at h
  refine g_aload_n C (i := 0) dX12_lying_35 rfl rfl ?_
  refine g_bipush C (v := 12) dX12_lying_36 (by decide) ?_
  refine m_callv C rfl (wM_k_body 12 I J _ h) 1 swM_body (rl_ok (by decide) (by decide)) rfl (Nat.le_of_ble_eq_true rfl) (st := []) _ rfl dX12_lying_38 (fun I2 J3 h => ?_)
  refine g_aload_n C (i := 0) dX12_lying_41 rfl rfl ?_
  refine g_iload_n C (i := 1) dX12_lying_42 rfl rfl ?_
  refine g_iload_n C (i := 2) dX12_lying_43 rfl rfl ?_
  refine m_calli C rfl (wM_k_opening v1 v2 I2 J3 _ h) 2 swM_opening (rl_ok (by decide) (by decide)) rfl (Nat.le_of_ble_eq_true rfl) (st := []) _ rfl dX12_lying_44 (fun r4 I5 J6 h => ?_)
  refine g_istore C (i := 4) [(0, .ref (o 0)), (1, .int v1), (2, .int v2), (3, .int v3), (4, .int r4)] dX12_lying_47 (by decide) rfl ?_
  refine g_iload C (i := 4) dX12_lying_49 rfl ?_
  refine g_aload_n C (i := 0) dX12_lying_51 rfl rfl ?_
  refine g_iload_n C (i := 1) dX12_lying_52 rfl rfl ?_
  refine g_iload_n C (i := 2) dX12_lying_53 rfl rfl ?_
  refine g_aload_n C (i := 0) dX12_lying_54 rfl rfl ?_
  refine m_get_part C dX12_lying_55 ?_
  refine g_iload_n C (i := 1) dX12_lying_58 rfl rfl ?_
  obtain ⟨h7, h⟩ := h
  refine m_iald C (k := 3) (by decide) h7 dX12_lying_59 ?_
  refine g_isub C dX12_lying_60 ?_
  refine m_calli C rfl (wM_k_folding v1 (v2 - (I5 3 v1.toNatClampNeg)) I5 J6 _ h) 2 swM_folding (rl_ok (by decide) (by decide)) rfl (Nat.le_of_ble_eq_true rfl) (st := [.int r4]) _ rfl dX12_lying_61 (fun r8 I9 J10 h => ?_)
  refine g_ixor C dX12_lying_64 ?_
  refine g_istore C (i := 4) [(0, .ref (o 0)), (1, .int v1), (2, .int v2), (3, .int v3), (4, .int (r4 ^^^ r8))] dX12_lying_65 (by decide) rfl ?_
  refine g_iload_n C (i := 3) dX12_lying_67 rfl rfl ?_
  refine g_iconst_4 C dX12_lying_68 ?_
  refine g_icmp_ne C 78 dX12_lying_69 rfl (fun c11 => ?_) (fun c11 => ?_)
  · replace h := h.1 c11
    refine g_iload_n C (i := 3) dX12_lying_78 rfl rfl ?_
    refine g_iconst_5 C dX12_lying_79 ?_
    refine g_icmp_eq C 89 dX12_lying_80 rfl (fun c12 => ?_) (fun c12 => ?_)
    · replace h := h.1 c12
      refine g_iload C (i := 4) dX12_lying_89 rfl ?_
      refine g_iconst_5 C dX12_lying_91 ?_
      refine g_ixor C dX12_lying_92 ?_
      refine g_goto C 98 dX12_lying_93 rfl ?_
      exact g_ret_i C dX12_lying_98 (Nat.le_refl _) (Nat.le_refl _) ⟨_, _, _, rfl, rfl, h⟩
    · replace h := h.2 c12
      refine g_iload_n C (i := 3) dX12_lying_83 rfl rfl ?_
      refine g_bipush C (v := 6) dX12_lying_84 (by decide) ?_
      refine g_icmp_ne C 96 dX12_lying_86 rfl (fun c13 => ?_) (fun c13 => ?_)
      · replace h := h.1 c13
        refine g_iload C (i := 4) dX12_lying_96 rfl ?_
        exact g_ret_i C dX12_lying_98 (Nat.le_refl _) (Nat.le_refl _) ⟨_, _, _, rfl, rfl, h⟩
      · replace h := h.2 c13
        refine g_iload C (i := 4) dX12_lying_89 rfl ?_
        refine g_iconst_5 C dX12_lying_91 ?_
        refine g_ixor C dX12_lying_92 ?_
        refine g_goto C 98 dX12_lying_93 rfl ?_
        exact g_ret_i C dX12_lying_98 (Nat.le_refl _) (Nat.le_refl _) ⟨_, _, _, rfl, rfl, h⟩
  · replace h := h.2 c11
    refine g_iload C (i := 4) dX12_lying_72 rfl ?_
    refine g_ineg C dX12_lying_74 ?_
    refine g_goto C 98 dX12_lying_75 rfl ?_
    exact g_ret_i C dX12_lying_98 (Nat.le_refl _) (Nat.le_refl _) ⟨_, _, _, rfl, rfl, h⟩
set_option maxRecDepth 100000 in
theorem wM_lying_gc29 {Γ : gT} {D : gD} {ca : Nat → ClassId} {o : Nat → Nat} {Q : Int32 → gI → gJ → Prop} (C : Cx Γ cX12_lying RX12 5 D (tyW ca) (rl 3) (some .int) 0 0 (PMi ca o Q)) (v1 : Int32) (v2 : Int32) (v3 : Int32) (I : gI) (J : gJ) (h : wM_lying_c29 v1 v2 v3 I J Q) : G Γ 0 0 29 [(0, .ref (o 0)), (1, .int v1), (2, .int v2), (3, .int v3)] [] (cM ca o I J) := by
  unfold wM_lying_c29 at h
  refine g_aload_n C (i := 0) dX12_lying_29 rfl rfl ?_
  refine g_bipush C (v := 60) dX12_lying_30 (by decide) ?_
  refine m_callv C rfl (wM_k_body 60 I J _ h) 1 swM_body (rl_ok (by decide) (by decide)) rfl (Nat.le_of_ble_eq_true rfl) (st := []) _ rfl dX12_lying_32 (fun I2 J3 h => ?_)
  exact g_weak [0, 1, 2, 3] rfl (Nat.le_refl _) (Nat.le_refl _) (wM_lying_gc35  C  v1 v2 v3 I2 J3 h)
set_option maxRecDepth 100000 in
theorem wM_lying_gc18 {Γ : gT} {D : gD} {ca : Nat → ClassId} {o : Nat → Nat} {Q : Int32 → gI → gJ → Prop} (C : Cx Γ cX12_lying RX12 5 D (tyW ca) (rl 3) (some .int) 0 0 (PMi ca o Q)) (v1 : Int32) (v2 : Int32) (v3 : Int32) (I : gI) (J : gJ) (h : wM_lying_c18 v1 v2 v3 I J Q) : G Γ 0 0 18 [(0, .ref (o 0)), (1, .int v1), (2, .int v2), (3, .int v3)] [] (cM ca o I J) := by
  unfold wM_lying_c18 at h
  refine g_iload_n C (i := 3) dX12_lying_18 rfl rfl ?_
  refine g_iconst_5 C dX12_lying_19 ?_
  refine g_icmp_eq C 29 dX12_lying_20 rfl (fun c1 => ?_) (fun c1 => ?_)
  · replace h := h.1 c1
    exact g_weak [0, 1, 2, 3] rfl (Nat.le_refl _) (Nat.le_refl _) (wM_lying_gc29  C  v1 v2 v3 I J h)
  · replace h := h.2 c1
    refine g_iload_n C (i := 3) dX12_lying_23 rfl rfl ?_
    refine g_bipush C (v := 6) dX12_lying_24 (by decide) ?_
    refine g_icmp_ne C 35 dX12_lying_26 rfl (fun c2 => ?_) (fun c2 => ?_)
    · replace h := h.1 c2
      exact g_weak [0, 1, 2, 3] rfl (Nat.le_refl _) (Nat.le_refl _) (wM_lying_gc35  C  v1 v2 v3 I J h)
    · replace h := h.2 c2
      exact g_weak [0, 1, 2, 3] rfl (Nat.le_refl _) (Nat.le_refl _) (wM_lying_gc29  C  v1 v2 v3 I J h)
set_option maxRecDepth 100000 in
theorem wM_lying_g {Γ : gT} {D : gD} {ca : Nat → ClassId} {o : Nat → Nat} {Q : Int32 → gI → gJ → Prop} (v1 : Int32) (v2 : Int32) (I : gI) (J : gJ) (C : Cx Γ cX12_lying RX12 5 D (tyW ca) (rl 3) (some .int) 0 0 (PMi ca o Q)) (h : wM_lying v1 v2 I J Q) : G Γ 0 0 0 [(0, .ref (o 0)), (1, .int v1), (2, .int v2)] [] (cM ca o I J) := by
  unfold wM_lying at h
  refine g_aload_n C (i := 0) dX12_lying_0 rfl rfl ?_
  refine m_get_kind C dX12_lying_1 ?_
  refine g_iload_n C (i := 1) dX12_lying_4 rfl rfl ?_
  obtain ⟨h1, h⟩ := h
  refine m_iald C (k := 2) (by decide) h1 dX12_lying_5 ?_
  refine g_istore_n C (i := 3) [(0, .ref (o 0)), (1, .int v1), (2, .int v2), (3, .int (I 2 v1.toNatClampNeg))] dX12_lying_6 rfl (by decide) rfl ?_
  refine g_iload_n C (i := 3) dX12_lying_7 rfl rfl ?_
  refine g_iconst_4 C dX12_lying_8 ?_
  refine g_icmp_ne C 18 dX12_lying_9 rfl (fun c2 => ?_) (fun c2 => ?_)
  · replace h := h.1 c2
    exact g_weak [0, 1, 2, 3] rfl (Nat.le_refl _) (Nat.le_refl _) (wM_lying_gc18  C  v1 v2 (I 2 v1.toNatClampNeg) I J h)
  · replace h := h.2 c2
    refine g_aload_n C (i := 0) dX12_lying_12 rfl rfl ?_
    refine g_bipush C (v := 50) dX12_lying_13 (by decide) ?_
    refine m_callv C rfl (wM_k_body 50 I J _ h) 1 swM_body (rl_ok (by decide) (by decide)) rfl (Nat.le_of_ble_eq_true rfl) (st := []) _ rfl dX12_lying_15 (fun I4 J5 h => ?_)
    exact g_weak [0, 1, 2, 3] rfl (Nat.le_refl _) (Nat.le_refl _) (wM_lying_gc18  C  v1 v2 (I 2 v1.toNatClampNeg) I4 J5 h)
theorem wM_k_lying {D : gD} {ca : Nat → ClassId} {o : Nat → Nat} (v1 : Int32) (v2 : Int32) (I : gI) (J : gJ) (Q : Int32 → gI → gJ → Prop) (h : wM_lying v1 v2 I J Q) : Ct yX12_lying cX12_lying 5 (some .int) (rl 3) D (tyW ca) 0 0 [.ref (o 0), .int v1, .int v2] (cM ca o I J) (PMi ca o Q) := ct_of (rm := rl 3) (by decide +kernel) (Nat.le_of_ble_eq_true rfl) (fun Γ C => wM_lying_g v1 v2 I J C h)
set_option maxRecDepth 100000 in
theorem wM_creaseOf_g {Γ : gT} {D : gD} {ca : Nat → ClassId} {o : Nat → Nat} {Q : Int32 → Prop} (v1 : Int32) (v2 : Int64) (I : gI) (J : gJ) (C : Cx Γ cX12_creaseOf RX12 4 D (tyW ca) (rl 4) (some .int) 0 0 (PPi ca o I J Q)) (h : wM_creaseOf v1 v2 I J Q) : G Γ 0 0 0 [(0, .ref (o 0)), (1, .int v1), (2, .long v2)] [] (cM ca o I J) := by
  unfold wM_creaseOf at h
  refine g_aload_n C (i := 0) dX12_creaseOf_0 rfl rfl ?_
  refine m_get_kind C dX12_creaseOf_1 ?_
  refine g_iload_n C (i := 1) dX12_creaseOf_4 rfl rfl ?_
  obtain ⟨h1, h⟩ := h
  refine m_iald C (k := 2) (by decide) h1 dX12_creaseOf_5 ?_
  by_cases c2 : (I 2 v1.toNatClampNeg) = 3
  · replace h := h.1 c2
    refine g_tin C 36 3 c2 (by decide) (by decide) rfl rfl dX12_creaseOf_6 ?_
    refine g_aload_n C (i := 0) dX12_creaseOf_36 rfl rfl ?_
    refine g_iload_n C (i := 1) dX12_creaseOf_37 rfl rfl ?_
    refine g_lload_n C (i := 2) dX12_creaseOf_38 rfl rfl ?_
    refine g_aload_n C (i := 0) dX12_creaseOf_39 rfl rfl ?_
    refine g_iload_n C (i := 1) dX12_creaseOf_40 rfl rfl ?_
    refine m_callPl C rfl (wM_k_cutOf v1 I J _ h) 1 swM_cutOf (rl_ok (by decide) (by decide)) rfl (Nat.le_of_ble_eq_true rfl) (st := [.long v2, .int v1, .ref (o 0)]) _ rfl dX12_creaseOf_41 (fun r3 h => ?_)
    refine g_ladd C dX12_creaseOf_44 ?_
    refine m_callPi C rfl (wM_k_plain v1 (v2 + r3) I J _ h) 2 swM_plain (rl_ok (by decide) (by decide)) rfl (Nat.le_of_ble_eq_true rfl) (st := []) _ rfl dX12_creaseOf_45 (fun r4 h => ?_)
    exact g_ret_i C dX12_creaseOf_48 (Nat.le_refl _) (Nat.le_refl _) ⟨_, rfl, rfl, h⟩
  replace h := h.2 c2
  by_cases c5 : (I 2 v1.toNatClampNeg) = 4
  · replace h := h.1 c5
    refine g_tin C 49 4 c5 (by decide) (by decide) rfl rfl dX12_creaseOf_6 ?_
    refine g_iconst_1 C dX12_creaseOf_49 ?_
    refine g_aload_n C (i := 0) dX12_creaseOf_50 rfl rfl ?_
    refine g_iload_n C (i := 1) dX12_creaseOf_51 rfl rfl ?_
    refine g_aload_n C (i := 0) dX12_creaseOf_52 rfl rfl ?_
    refine g_iload_n C (i := 1) dX12_creaseOf_53 rfl rfl ?_
    refine m_callPl C rfl (wM_k_creasesOf v1 I J _ h) 1 swM_creasesOf (rl_ok (by decide) (by decide)) rfl (Nat.le_of_ble_eq_true rfl) (st := [.int v1, .ref (o 0), .int 1]) _ rfl dX12_creaseOf_54 (fun r6 h => ?_)
    refine g_lconst_1 C dX12_creaseOf_57 ?_
    refine g_ladd C dX12_creaseOf_58 ?_
    refine g_lload_n C (i := 2) dX12_creaseOf_59 rfl rfl ?_
    refine g_lsub C dX12_creaseOf_60 ?_
    refine g_aload_n C (i := 0) dX12_creaseOf_61 rfl rfl ?_
    refine g_iload_n C (i := 1) dX12_creaseOf_62 rfl rfl ?_
    refine m_callPl C rfl (wM_k_cutOf v1 I J _ h) 1 swM_cutOf (rl_ok (by decide) (by decide)) rfl (Nat.le_of_ble_eq_true rfl) (st := [.long ((r6 + 1) - v2), .int v1, .ref (o 0), .int 1]) _ rfl dX12_creaseOf_63 (fun r7 h => ?_)
    refine g_ladd C dX12_creaseOf_66 ?_
    refine m_callPi C rfl (wM_k_plain v1 (((r6 + 1) - v2) + r7) I J _ h) 2 swM_plain (rl_ok (by decide) (by decide)) rfl (Nat.le_of_ble_eq_true rfl) (st := [.int 1]) _ rfl dX12_creaseOf_67 (fun r8 h => ?_)
    refine g_isub C dX12_creaseOf_70 ?_
    exact g_ret_i C dX12_creaseOf_71 (Nat.le_refl _) (Nat.le_refl _) ⟨_, rfl, rfl, h⟩
  replace h := h.2 c5
  by_cases c9 : (I 2 v1.toNatClampNeg) = 5
  · replace h := h.1 c9
    refine g_tin C 72 5 c9 (by decide) (by decide) rfl rfl dX12_creaseOf_6 ?_
    refine g_iconst_1 C dX12_creaseOf_72 ?_
    refine g_aload_n C (i := 0) dX12_creaseOf_73 rfl rfl ?_
    refine g_iload_n C (i := 1) dX12_creaseOf_74 rfl rfl ?_
    refine g_lload_n C (i := 2) dX12_creaseOf_75 rfl rfl ?_
    refine m_callPi C rfl (wM_k_plain v1 v2 I J _ h) 2 swM_plain (rl_ok (by decide) (by decide)) rfl (Nat.le_of_ble_eq_true rfl) (st := [.int 1]) _ rfl dX12_creaseOf_76 (fun r10 h => ?_)
    refine g_isub C dX12_creaseOf_79 ?_
    exact g_ret_i C dX12_creaseOf_80 (Nat.le_refl _) (Nat.le_refl _) ⟨_, rfl, rfl, h⟩
  replace h := h.2 c9
  by_cases c11 : (I 2 v1.toNatClampNeg) = 6
  · replace h := h.1 c11
    refine g_tin C 81 6 c11 (by decide) (by decide) rfl rfl dX12_creaseOf_6 ?_
    refine g_lload_n C (i := 2) dX12_creaseOf_81 rfl rfl ?_
    refine g_ldc2 C (v := 4) (tb_in (List.mem_of_getElem? (i := 1547) (by decide +kernel)) (by decide +kernel)) dX12_creaseOf_82 ?_
    refine g_lrem C dX12_creaseOf_85 (by decide) ?_
    refine g_lconst_0 C dX12_creaseOf_86 ?_
    refine g_lne C 95 dX12_creaseOf_87 dX12_creaseOf_88 rfl (fun c12 => ?_) (fun c12 => ?_)
    · replace h := h.1 c12
      refine g_iconst_1 C dX12_creaseOf_95 ?_
      refine g_aload_n C (i := 0) dX12_creaseOf_96 rfl rfl ?_
      refine g_iload_n C (i := 1) dX12_creaseOf_97 rfl rfl ?_
      refine g_lload_n C (i := 2) dX12_creaseOf_98 rfl rfl ?_
      refine m_callPi C rfl (wM_k_plain v1 v2 I J _ h) 2 swM_plain (rl_ok (by decide) (by decide)) rfl (Nat.le_of_ble_eq_true rfl) (st := [.int 1]) _ rfl dX12_creaseOf_99 (fun r13 h => ?_)
      refine g_isub C dX12_creaseOf_102 ?_
      exact g_ret_i C dX12_creaseOf_103 (Nat.le_refl _) (Nat.le_refl _) ⟨_, rfl, rfl, h⟩
    · replace h := h.2 c12
      refine g_iconst_1 C dX12_creaseOf_91 ?_
      refine g_goto C 103 dX12_creaseOf_92 rfl ?_
      exact g_ret_i C dX12_creaseOf_103 (Nat.le_refl _) (Nat.le_refl _) ⟨_, rfl, rfl, h⟩
  replace h := h.2 c11
  refine g_tout C 104 (by have := g_ne (v := 3) (n := 3) c2 (by decide); have := g_ne (v := 4) (n := 4) c5 (by decide); have := g_ne (v := 5) (n := 5) c9 (by decide); have := g_ne (v := 6) (n := 6) c11 (by decide); omega) rfl dX12_creaseOf_6 ?_
  refine g_aload_n C (i := 0) dX12_creaseOf_104 rfl rfl ?_
  refine g_iload_n C (i := 1) dX12_creaseOf_105 rfl rfl ?_
  refine g_lload_n C (i := 2) dX12_creaseOf_106 rfl rfl ?_
  refine m_callPi C rfl (wM_k_plain v1 v2 I J _ h) 2 swM_plain (rl_ok (by decide) (by decide)) rfl (Nat.le_of_ble_eq_true rfl) (st := []) _ rfl dX12_creaseOf_107 (fun r14 h => ?_)
  exact g_ret_i C dX12_creaseOf_110 (Nat.le_refl _) (Nat.le_refl _) ⟨_, rfl, rfl, h⟩
theorem wM_k_creaseOf {D : gD} {ca : Nat → ClassId} {o : Nat → Nat} (v1 : Int32) (v2 : Int64) (I : gI) (J : gJ) (Q : Int32 → Prop) (h : wM_creaseOf v1 v2 I J Q) : Ct yX12_creaseOf cX12_creaseOf 4 (some .int) (rl 4) D (tyW ca) 0 0 [.ref (o 0), .int v1, .long v2] (cM ca o I J) (PPi ca o I J Q) := ct_of (rm := rl 4) (by decide +kernel) (Nat.le_of_ble_eq_true rfl) (fun Γ C => wM_creaseOf_g v1 v2 I J C h)
set_option maxRecDepth 100000 in
theorem wM_creases_g {Γ : gT} {D : gD} {ca : Nat → ClassId} {o : Nat → Nat} {Q : Int64 → gI → gJ → Prop} (v1 : Int32) (I : gI) (J : gJ) (C : Cx Γ cX12_creases RX12 2 D (tyW ca) (rl 4) (some .long) 0 0 (PMl ca o Q)) (h : wM_creases v1 I J Q) : G Γ 0 0 0 [(0, .ref (o 0)), (1, .int v1)] [] (cM ca o I J) := by
  unfold wM_creases at h
  refine g_aload_n C (i := 0) dX12_creases_0 rfl rfl ?_
  refine g_iload_n C (i := 1) dX12_creases_1 rfl rfl ?_
  refine m_callPz C rfl (wM_k_isStrip v1 I J _ h) 1 swM_isStrip (rl_ok (by decide) (by decide)) rfl (Nat.le_of_ble_eq_true rfl) (st := []) _ rfl dX12_creases_2 (fun r1 h => ?_)
  refine g_zeq C 16 dX12_creases_5 rfl (fun c2 => ?_) (fun c2 => ?_)
  · replace h := h.1 c2
    refine g_aload_n C (i := 0) dX12_creases_16 rfl rfl ?_
    refine g_iconst_m1 C dX12_creases_17 ?_
    refine m_calli C rfl (wM_k_no (-1) I J _ h) 1 swM_no (rl_ok (by decide) (by decide)) rfl (Nat.le_of_ble_eq_true rfl) (st := []) _ rfl dX12_creases_18 (fun r3 I4 J5 h => ?_)
    refine g_i2l C dX12_creases_21 ?_
    exact g_ret_l C dX12_creases_22 (Nat.le_refl _) (Nat.le_refl _) ⟨_, _, _, rfl, rfl, h⟩
  · replace h := h.2 c2
    refine g_aload_n C (i := 0) dX12_creases_8 rfl rfl ?_
    refine g_iload_n C (i := 1) dX12_creases_9 rfl rfl ?_
    refine m_callPl C rfl (wM_k_creasesOf v1 I J _ h) 1 swM_creasesOf (rl_ok (by decide) (by decide)) rfl (Nat.le_of_ble_eq_true rfl) (st := []) _ rfl dX12_creases_10 (fun r6 h => ?_)
    refine g_goto C 22 dX12_creases_13 rfl ?_
    exact g_ret_l C dX12_creases_22 (Nat.le_refl _) (Nat.le_refl _) ⟨_, _, _, rfl, rfl, h⟩
theorem wM_k_creases {D : gD} {ca : Nat → ClassId} {o : Nat → Nat} (v1 : Int32) (I : gI) (J : gJ) (Q : Int64 → gI → gJ → Prop) (h : wM_creases v1 I J Q) : Ct yX12_creases cX12_creases 2 (some .long) (rl 4) D (tyW ca) 0 0 [.ref (o 0), .int v1] (cM ca o I J) (PMl ca o Q) := ct_of (rm := rl 4) (by decide +kernel) (Nat.le_of_ble_eq_true rfl) (fun Γ C => wM_creases_g v1 I J C h)
set_option maxRecDepth 100000 in
theorem wM_way_gc43 {Γ : gT} {D : gD} {ca : Nat → ClassId} {o : Nat → Nat} {Q : Int32 → gI → gJ → Prop} (C : Cx Γ cX12_way RX12 4 D (tyW ca) (rl 4) (some .int) 0 0 (PMi ca o Q)) (I : gI) (J : gJ) (h : wM_way_c43 I J Q) : G Γ 0 0 43 [(0, .ref (o 0))] [] (cM ca o I J) := by
  unfold wM_way_c43 at h
  refine g_aload_n C (i := 0) dX12_way_43 rfl rfl ?_
  refine g_bipush C (v := (-5)) dX12_way_44 (by decide) ?_
  refine m_calli C rfl (wM_k_no (-5) I J _ h) 1 swM_no (rl_ok (by decide) (by decide)) rfl (Nat.le_of_ble_eq_true rfl) (st := []) _ rfl dX12_way_46 (fun r1 I2 J3 h => ?_)
  exact g_ret_i C dX12_way_49 (Nat.le_refl _) (Nat.le_refl _) ⟨_, _, _, rfl, rfl, h⟩
set_option maxRecDepth 100000 in
theorem wM_way_g {Γ : gT} {D : gD} {ca : Nat → ClassId} {o : Nat → Nat} {Q : Int32 → gI → gJ → Prop} (v1 : Int32) (v2 : Int64) (I : gI) (J : gJ) (C : Cx Γ cX12_way RX12 4 D (tyW ca) (rl 4) (some .int) 0 0 (PMi ca o Q)) (h : wM_way v1 v2 I J Q) : G Γ 0 0 0 [(0, .ref (o 0)), (1, .int v1), (2, .long v2)] [] (cM ca o I J) := by
  unfold wM_way at h
  refine g_aload_n C (i := 0) dX12_way_0 rfl rfl ?_
  refine g_iload_n C (i := 1) dX12_way_1 rfl rfl ?_
  refine m_callPz C rfl (wM_k_isStrip v1 I J _ h) 1 swM_isStrip (rl_ok (by decide) (by decide)) rfl (Nat.le_of_ble_eq_true rfl) (st := []) _ rfl dX12_way_2 (fun r1 h => ?_)
  refine g_zne C 14 dX12_way_5 rfl (fun c2 => ?_) (fun c2 => ?_)
  · replace h := h.1 c2
    refine g_lload_n C (i := 2) dX12_way_14 rfl rfl ?_
    refine g_lconst_1 C dX12_way_15 ?_
    refine g_llt C 43 dX12_way_16 dX12_way_17 rfl (fun c3 => ?_) (fun c3 => ?_)
    · replace h := h.1 c3
      exact g_weak [0] rfl (Nat.le_refl _) (Nat.le_refl _) (wM_way_gc43  C   I J h)
    · replace h := h.2 c3
      refine g_lload_n C (i := 2) dX12_way_20 rfl rfl ?_
      refine g_aload_n C (i := 0) dX12_way_21 rfl rfl ?_
      refine g_iload_n C (i := 1) dX12_way_22 rfl rfl ?_
      refine m_callPl C rfl (wM_k_creasesOf v1 I J _ h) 1 swM_creasesOf (rl_ok (by decide) (by decide)) rfl (Nat.le_of_ble_eq_true rfl) (st := [.long v2]) _ rfl dX12_way_23 (fun r4 h => ?_)
      refine g_lconst_1 C dX12_way_26 ?_
      refine g_ladd C dX12_way_27 ?_
      refine g_lgt C 43 dX12_way_28 dX12_way_29 rfl (fun c5 => ?_) (fun c5 => ?_)
      · replace h := h.1 c5
        exact g_weak [0] rfl (Nat.le_refl _) (Nat.le_refl _) (wM_way_gc43  C   I J h)
      · replace h := h.2 c5
        refine g_aload_n C (i := 0) dX12_way_32 rfl rfl ?_
        refine g_iload_n C (i := 1) dX12_way_33 rfl rfl ?_
        refine g_lload_n C (i := 2) dX12_way_34 rfl rfl ?_
        refine g_lconst_1 C dX12_way_35 ?_
        refine g_lsub C dX12_way_36 ?_
        refine m_callPi C rfl (wM_k_round v1 (v2 - 1) I J _ h) 2 swM_round (rl_ok (by decide) (by decide)) rfl (Nat.le_of_ble_eq_true rfl) (st := []) _ rfl dX12_way_37 (fun r6 h => ?_)
        refine g_goto C 49 dX12_way_40 rfl ?_
        exact g_ret_i C dX12_way_49 (Nat.le_refl _) (Nat.le_refl _) ⟨_, _, _, rfl, rfl, h⟩
  · replace h := h.2 c2
    refine g_aload_n C (i := 0) dX12_way_8 rfl rfl ?_
    refine g_iconst_m1 C dX12_way_9 ?_
    refine m_calli C rfl (wM_k_no (-1) I J _ h) 1 swM_no (rl_ok (by decide) (by decide)) rfl (Nat.le_of_ble_eq_true rfl) (st := []) _ rfl dX12_way_10 (fun r7 I8 J9 h => ?_)
    exact g_ret_i C dX12_way_13 (Nat.le_refl _) (Nat.le_refl _) ⟨_, _, _, rfl, rfl, h⟩
theorem wM_k_way {D : gD} {ca : Nat → ClassId} {o : Nat → Nat} (v1 : Int32) (v2 : Int64) (I : gI) (J : gJ) (Q : Int32 → gI → gJ → Prop) (h : wM_way v1 v2 I J Q) : Ct yX12_way cX12_way 4 (some .int) (rl 4) D (tyW ca) 0 0 [.ref (o 0), .int v1, .long v2] (cM ca o I J) (PMi ca o Q) := ct_of (rm := rl 4) (by decide +kernel) (Nat.le_of_ble_eq_true rfl) (fun Γ C => wM_way_g v1 v2 I J C h)
set_option maxRecDepth 100000 in
theorem wM_walks_g {Γ : gT} {D : gD} {ca : Nat → ClassId} {o : Nat → Nat} {Q : Int32 → Prop} (v1 : Int32) (v2 : Int32) (I : gI) (J : gJ) (C : Cx Γ cX12_walks RX12 3 D (tyW ca) (rl 4) (some .int) 0 0 (PPi ca o I J Q)) (h : wM_walks v1 v2 I J Q) : G Γ 0 0 0 [(0, .ref (o 0)), (1, .int v1), (2, .int v2)] [] (cM ca o I J) := by
  unfold wM_walks at h
  refine g_aload_n C (i := 0) dX12_walks_0 rfl rfl ?_
  refine g_iload_n C (i := 1) dX12_walks_1 rfl rfl ?_
  refine m_callPz C rfl (wM_k_isStrip v1 I J _ h) 1 swM_isStrip (rl_ok (by decide) (by decide)) rfl (Nat.le_of_ble_eq_true rfl) (st := []) _ rfl dX12_walks_2 (fun r1 h => ?_)
  refine g_zne C 10 dX12_walks_5 rfl (fun c2 => ?_) (fun c2 => ?_)
  · replace h := h.1 c2
    refine g_iload_n C (i := 2) dX12_walks_10 rfl rfl ?_
    refine g_i2l C dX12_walks_11 ?_
    refine g_aload_n C (i := 0) dX12_walks_12 rfl rfl ?_
    refine g_iload_n C (i := 1) dX12_walks_13 rfl rfl ?_
    refine m_callPl C rfl (wM_k_creasesOf v1 I J _ h) 1 swM_creasesOf (rl_ok (by decide) (by decide)) rfl (Nat.le_of_ble_eq_true rfl) (st := [.long v2.toInt64]) _ rfl dX12_walks_14 (fun r3 h => ?_)
    refine g_lconst_1 C dX12_walks_17 ?_
    refine g_ladd C dX12_walks_18 ?_
    refine g_lle C 26 dX12_walks_19 dX12_walks_20 rfl (fun c4 => ?_) (fun c4 => ?_)
    · replace h := h.1 c4
      refine g_iload_n C (i := 2) dX12_walks_26 rfl rfl ?_
      refine g_if_lt C 37 dX12_walks_27 rfl (fun c5 => ?_) (fun c5 => ?_)
      · replace h := h.1 c5
        refine g_bipush C (v := (-6)) dX12_walks_37 (by decide) ?_
        refine g_goto C 43 dX12_walks_39 rfl ?_
        exact g_ret_i C dX12_walks_43 (Nat.le_refl _) (Nat.le_refl _) ⟨_, rfl, rfl, h⟩
      · replace h := h.2 c5
        refine g_iload_n C (i := 2) dX12_walks_30 rfl rfl ?_
        refine g_sipush C (v := 4000) dX12_walks_31 (by decide) ?_
        refine g_icmp_le C 42 dX12_walks_34 rfl (fun c6 => ?_) (fun c6 => ?_)
        · replace h := h.1 c6
          refine g_iconst_0 C dX12_walks_42 ?_
          exact g_ret_i C dX12_walks_43 (Nat.le_refl _) (Nat.le_refl _) ⟨_, rfl, rfl, h⟩
        · replace h := h.2 c6
          refine g_bipush C (v := (-6)) dX12_walks_37 (by decide) ?_
          refine g_goto C 43 dX12_walks_39 rfl ?_
          exact g_ret_i C dX12_walks_43 (Nat.le_refl _) (Nat.le_refl _) ⟨_, rfl, rfl, h⟩
    · replace h := h.2 c4
      refine g_bipush C (v := (-5)) dX12_walks_23 (by decide) ?_
      exact g_ret_i C dX12_walks_25 (Nat.le_refl _) (Nat.le_refl _) ⟨_, rfl, rfl, h⟩
  · replace h := h.2 c2
    refine g_iconst_m1 C dX12_walks_8 ?_
    exact g_ret_i C dX12_walks_9 (Nat.le_refl _) (Nat.le_refl _) ⟨_, rfl, rfl, h⟩
theorem wM_k_walks {D : gD} {ca : Nat → ClassId} {o : Nat → Nat} (v1 : Int32) (v2 : Int32) (I : gI) (J : gJ) (Q : Int32 → Prop) (h : wM_walks v1 v2 I J Q) : Ct yX12_walks cX12_walks 3 (some .int) (rl 4) D (tyW ca) 0 0 [.ref (o 0), .int v1, .int v2] (cM ca o I J) (PPi ca o I J Q) := ct_of (rm := rl 4) (by decide +kernel) (Nat.le_of_ble_eq_true rfl) (fun Γ C => wM_walks_g v1 v2 I J C h)
set_option maxRecDepth 100000 in
theorem wM_farthest_g {Γ : gT} {D : gD} {ca : Nat → ClassId} {o : Nat → Nat} {Q : Int32 → Prop} (v1 : Int32) (I : gI) (J : gJ) (C : Cx Γ cX12_farthest RX12 4 D (tyW ca) (rl 4) (some .int) 0 0 (PPi ca o I J Q)) (h : wM_farthest v1 I J Q) : G Γ 0 0 0 [(0, .ref (o 0)), (1, .int v1)] [] (cM ca o I J) := by
  unfold wM_farthest at h
  refine g_aload_n C (i := 0) dX12_farthest_0 rfl rfl ?_
  refine g_iload_n C (i := 1) dX12_farthest_1 rfl rfl ?_
  refine m_callPl C rfl (wM_k_creasesOf v1 I J _ h) 1 swM_creasesOf (rl_ok (by decide) (by decide)) rfl (Nat.le_of_ble_eq_true rfl) (st := []) _ rfl dX12_farthest_2 (fun r1 h => ?_)
  refine g_lconst_1 C dX12_farthest_5 ?_
  refine g_ladd C dX12_farthest_6 ?_
  refine g_lstore_n C (i := 2) [(0, .ref (o 0)), (1, .int v1), (2, .long (r1 + 1))] dX12_farthest_7 rfl (by decide) rfl ?_
  refine g_lload_n C (i := 2) dX12_farthest_8 rfl rfl ?_
  refine g_ldc2 C (v := 4000) (tb_in (List.mem_of_getElem? (i := 1709) (by decide +kernel)) (by decide +kernel)) dX12_farthest_9 ?_
  refine g_lge C 21 dX12_farthest_12 dX12_farthest_13 rfl (fun c2 => ?_) (fun c2 => ?_)
  · replace h := h.1 c2
    refine g_sipush C (v := 4000) dX12_farthest_21 (by decide) ?_
    exact g_ret_i C dX12_farthest_24 (Nat.le_refl _) (Nat.le_refl _) ⟨_, rfl, rfl, h⟩
  · replace h := h.2 c2
    refine g_lload_n C (i := 2) dX12_farthest_16 rfl rfl ?_
    refine g_l2i C dX12_farthest_17 ?_
    refine g_goto C 24 dX12_farthest_18 rfl ?_
    exact g_ret_i C dX12_farthest_24 (Nat.le_refl _) (Nat.le_refl _) ⟨_, rfl, rfl, h⟩
theorem wM_k_farthest {D : gD} {ca : Nat → ClassId} {o : Nat → Nat} (v1 : Int32) (I : gI) (J : gJ) (Q : Int32 → Prop) (h : wM_farthest v1 I J Q) : Ct yX12_farthest cX12_farthest 4 (some .int) (rl 4) D (tyW ca) 0 0 [.ref (o 0), .int v1] (cM ca o I J) (PPi ca o I J Q) := ct_of (rm := rl 4) (by decide +kernel) (Nat.le_of_ble_eq_true rfl) (fun Γ C => wM_farthest_g v1 I J C h)
set_option maxRecDepth 100000 in
theorem wM_act_g {Γ : gT} {D : gD} {ca : Nat → ClassId} {o : Nat → Nat} {Q : Int32 → gI → gJ → Prop} (v1 : Int32) (v2 : Int32) (v3 : Int32) (I : gI) (J : gJ) (C : Cx Γ cX12_act RX12 4 D (tyW ca) (rl 4) (some .int) 0 0 (PMi ca o Q)) (h : wM_act v1 v2 v3 I J Q) : G Γ 0 0 0 [(0, .ref (o 0)), (1, .int v1), (2, .int v2), (3, .int v3)] [] (cM ca o I J) := by
  unfold wM_act at h
  refine g_aload_n C (i := 0) dX12_act_0 rfl rfl ?_
  refine g_iconst_0 C dX12_act_1 ?_
  refine m_put_ran C dX12_act_2 ?_
  refine m_nmI _ (fun I1 e2 => ?_)
  replace h := h I1 e2
  refine g_aload_n C (i := 0) dX12_act_5 rfl rfl ?_
  refine g_iload_n C (i := 1) dX12_act_6 rfl rfl ?_
  refine m_callPz C rfl (wM_k_isStrip v1 I1 J _ h) 1 swM_isStrip (rl_ok (by decide) (by decide)) rfl (Nat.le_of_ble_eq_true rfl) (st := []) _ rfl dX12_act_7 (fun r3 h => ?_)
  refine g_zeq C 22 dX12_act_10 rfl (fun c4 => ?_) (fun c4 => ?_)
  · replace h := h.1 c4
    refine g_iconst_0 C dX12_act_22 ?_
    exact g_ret_i C dX12_act_23 (Nat.le_refl _) (Nat.le_refl _) ⟨_, _, _, rfl, rfl, h⟩
  · replace h := h.2 c4
    refine g_iload_n C (i := 2) dX12_act_13 rfl rfl ?_
    refine g_if_lt C 22 dX12_act_14 rfl (fun c5 => ?_) (fun c5 => ?_)
    · replace h := h.1 c5
      refine g_iconst_0 C dX12_act_22 ?_
      exact g_ret_i C dX12_act_23 (Nat.le_refl _) (Nat.le_refl _) ⟨_, _, _, rfl, rfl, h⟩
    · replace h := h.2 c5
      refine g_iload_n C (i := 2) dX12_act_17 rfl rfl ?_
      refine g_iconst_2 C dX12_act_18 ?_
      refine g_icmp_le C 24 dX12_act_19 rfl (fun c6 => ?_) (fun c6 => ?_)
      · replace h := h.1 c6
        refine g_iload_n C (i := 2) dX12_act_24 rfl rfl ?_
        refine g_if_ne C 37 dX12_act_25 rfl (fun c7 => ?_) (fun c7 => ?_)
        · replace h := h.1 c7
          refine g_iload_n C (i := 2) dX12_act_37 rfl rfl ?_
          refine g_iconst_1 C dX12_act_38 ?_
          refine g_icmp_ne C 51 dX12_act_39 rfl (fun c8 => ?_) (fun c8 => ?_)
          · replace h := h.1 c8
            refine g_aload_n C (i := 0) dX12_act_51 rfl rfl ?_
            refine g_iload_n C (i := 1) dX12_act_52 rfl rfl ?_
            refine g_iload_n C (i := 3) dX12_act_53 rfl rfl ?_
            refine m_calli C rfl (wM_k_lying v1 v3 I1 J _ h) 2 swM_lying (rl_ok (by decide) (by decide)) rfl (Nat.le_of_ble_eq_true rfl) (st := []) _ rfl dX12_act_54 (fun r9 I10 J11 h => ?_)
            exact g_ret_i C dX12_act_57 (Nat.le_refl _) (Nat.le_refl _) ⟨_, _, _, rfl, rfl, h⟩
          · replace h := h.2 c8
            refine g_aload_n C (i := 0) dX12_act_42 rfl rfl ?_
            refine g_iload_n C (i := 1) dX12_act_43 rfl rfl ?_
            refine g_iload_n C (i := 3) dX12_act_44 rfl rfl ?_
            refine m_calli C rfl (wM_k_opening v1 v3 I1 J _ h) 2 swM_opening (rl_ok (by decide) (by decide)) rfl (Nat.le_of_ble_eq_true rfl) (st := []) _ rfl dX12_act_45 (fun r12 I13 J14 h => ?_)
            refine g_goto C 57 dX12_act_48 rfl ?_
            exact g_ret_i C dX12_act_57 (Nat.le_refl _) (Nat.le_refl _) ⟨_, _, _, rfl, rfl, h⟩
        · replace h := h.2 c7
          refine g_aload_n C (i := 0) dX12_act_28 rfl rfl ?_
          refine g_iload_n C (i := 1) dX12_act_29 rfl rfl ?_
          refine g_iload_n C (i := 3) dX12_act_30 rfl rfl ?_
          refine m_calli C rfl (wM_k_folding v1 v3 I1 J _ h) 2 swM_folding (rl_ok (by decide) (by decide)) rfl (Nat.le_of_ble_eq_true rfl) (st := []) _ rfl dX12_act_31 (fun r15 I16 J17 h => ?_)
          refine g_goto C 57 dX12_act_34 rfl ?_
          exact g_ret_i C dX12_act_57 (Nat.le_refl _) (Nat.le_refl _) ⟨_, _, _, rfl, rfl, h⟩
      · replace h := h.2 c6
        refine g_iconst_0 C dX12_act_22 ?_
        exact g_ret_i C dX12_act_23 (Nat.le_refl _) (Nat.le_refl _) ⟨_, _, _, rfl, rfl, h⟩
theorem wM_k_act {D : gD} {ca : Nat → ClassId} {o : Nat → Nat} (v1 : Int32) (v2 : Int32) (v3 : Int32) (I : gI) (J : gJ) (Q : Int32 → gI → gJ → Prop) (h : wM_act v1 v2 v3 I J Q) : Ct yX12_act cX12_act 4 (some .int) (rl 4) D (tyW ca) 0 0 [.ref (o 0), .int v1, .int v2, .int v3] (cM ca o I J) (PMi ca o Q) := ct_of (rm := rl 4) (by decide +kernel) (Nat.le_of_ble_eq_true rfl) (fun Γ C => wM_act_g v1 v2 v3 I J C h)
set_option maxRecDepth 100000 in
theorem wM_says_gc175 {Γ : gT} {D : gD} {ca : Nat → ClassId} {o : Nat → Nat} {Q : Int32 → gI → gJ → Prop} (C : Cx Γ cX12_says RX12 5 D (tyW ca) (rl 5) (some .int) 0 0 (PMi ca o Q)) (v3 : Int32) (I : gI) (J : gJ) (h : wM_says_c175 v3 I J Q) : G Γ 0 0 175 [(0, .ref (o 0)), (3, .int v3)] [] (cM ca o I J) := by
  unfold wM_says_c175 at h
  refine g_aload_n C (i := 0) dX12_says_175 rfl rfl ?_
  refine g_iload_n C (i := 3) dX12_says_176 rfl rfl ?_
  refine m_callPl C rfl (wM_k_cutOf v3 I J _ h) 1 swM_cutOf (rl_ok (by decide) (by decide)) rfl (Nat.le_of_ble_eq_true rfl) (st := []) _ rfl dX12_says_177 (fun r1 h => ?_)
  refine g_ldc2 C (v := 1000) (tb_in (List.mem_of_getElem? (i := 1529) (by decide +kernel)) (by decide +kernel)) dX12_says_180 ?_
  refine g_lrem C dX12_says_183 (by decide) ?_
  refine g_l2i C dX12_says_184 ?_
  exact g_ret_i C dX12_says_185 (Nat.le_refl _) (Nat.le_refl _) ⟨_, _, _, rfl, rfl, h⟩
set_option maxRecDepth 100000 in
theorem wM_says_gc112 {Γ : gT} {D : gD} {ca : Nat → ClassId} {o : Nat → Nat} {Q : Int32 → gI → gJ → Prop} (C : Cx Γ cX12_says RX12 5 D (tyW ca) (rl 5) (some .int) 0 0 (PMi ca o Q)) (v2 : Int32) (v3 : Int32) (I : gI) (J : gJ) (h : wM_says_c112 v2 v3 I J Q) : G Γ 0 0 112 [(0, .ref (o 0)), (2, .int v2), (3, .int v3)] [] (cM ca o I J) := by
  unfold wM_says_c112 at h
  refine g_iload_n C (i := 2) dX12_says_112 rfl rfl ?_
  by_cases c1 : v2 = 0
  · replace h := h.1 c1
    refine g_tin C 148 0 c1 (by decide) (by decide) rfl rfl dX12_says_113 ?_
    refine g_aload_n C (i := 0) dX12_says_148 rfl rfl ?_
    refine m_get_folds C dX12_says_149 ?_
    refine g_iload_n C (i := 3) dX12_says_152 rfl rfl ?_
    obtain ⟨h2, h⟩ := h
    refine m_iald C (k := 4) (by decide) h2 dX12_says_153 ?_
    exact g_ret_i C dX12_says_154 (Nat.le_refl _) (Nat.le_refl _) ⟨_, _, _, rfl, rfl, h⟩
  replace h := h.2 c1
  by_cases c3 : v2 = 1
  · replace h := h.1 c3
    refine g_tin C 155 1 c3 (by decide) (by decide) rfl rfl dX12_says_113 ?_
    refine g_aload_n C (i := 0) dX12_says_155 rfl rfl ?_
    refine m_get_part C dX12_says_156 ?_
    refine g_iload_n C (i := 3) dX12_says_159 rfl rfl ?_
    obtain ⟨h4, h⟩ := h
    refine m_iald C (k := 3) (by decide) h4 dX12_says_160 ?_
    refine g_iconst_2 C dX12_says_161 ?_
    refine g_irem C dX12_says_162 (by decide) ?_
    exact g_ret_i C dX12_says_163 (Nat.le_refl _) (Nat.le_refl _) ⟨_, _, _, rfl, rfl, h⟩
  replace h := h.2 c3
  by_cases c5 : v2 = 2
  · replace h := h.1 c5
    refine g_tin C 164 2 c5 (by decide) (by decide) rfl rfl dX12_says_113 ?_
    refine g_aload_n C (i := 0) dX12_says_164 rfl rfl ?_
    refine g_iload_n C (i := 3) dX12_says_165 rfl rfl ?_
    refine m_callPl C rfl (wM_k_creasesOf v3 I J _ h) 1 swM_creasesOf (rl_ok (by decide) (by decide)) rfl (Nat.le_of_ble_eq_true rfl) (st := []) _ rfl dX12_says_166 (fun r6 h => ?_)
    refine g_ldc2 C (v := 1000) (tb_in (List.mem_of_getElem? (i := 1529) (by decide +kernel)) (by decide +kernel)) dX12_says_169 ?_
    refine g_lrem C dX12_says_172 (by decide) ?_
    refine g_l2i C dX12_says_173 ?_
    exact g_ret_i C dX12_says_174 (Nat.le_refl _) (Nat.le_refl _) ⟨_, _, _, rfl, rfl, h⟩
  replace h := h.2 c5
  by_cases c7 : v2 = 3
  · replace h := h.1 c7
    refine g_tin C 175 3 c7 (by decide) (by decide) rfl rfl dX12_says_113 ?_
    exact g_weak [0, 2] rfl (Nat.le_refl _) (Nat.le_refl _) (wM_says_gc175  C  v3 I J h)
  replace h := h.2 c7
  by_cases c8 : v2 = 4
  · replace h := h.1 c8
    refine g_tin C 175 4 c8 (by decide) (by decide) rfl rfl dX12_says_113 ?_
    exact g_weak [0, 2] rfl (Nat.le_refl _) (Nat.le_refl _) (wM_says_gc175  C  v3 I J h)
  replace h := h.2 c8
  refine g_tout C 186 (by have := g_ne (v := 0) (n := 0) c1 (by decide); have := g_ne (v := 1) (n := 1) c3 (by decide); have := g_ne (v := 2) (n := 2) c5 (by decide); have := g_ne (v := 3) (n := 3) c7 (by decide); have := g_ne (v := 4) (n := 4) c8 (by decide); omega) rfl dX12_says_113 ?_
  refine g_aload_n C (i := 0) dX12_says_186 rfl rfl ?_
  refine g_iload_n C (i := 3) dX12_says_187 rfl rfl ?_
  refine g_lconst_1 C dX12_says_188 ?_
  refine m_callPi C rfl (wM_k_creaseOf v3 1 I J _ h) 2 swM_creaseOf (rl_ok (by decide) (by decide)) rfl (Nat.le_of_ble_eq_true rfl) (st := []) _ rfl dX12_says_189 (fun r9 h => ?_)
  exact g_ret_i C dX12_says_192 (Nat.le_refl _) (Nat.le_refl _) ⟨_, _, _, rfl, rfl, h⟩
set_option maxRecDepth 100000 in
theorem wM_says_gc105 {Γ : gT} {D : gD} {ca : Nat → ClassId} {o : Nat → Nat} {Q : Int32 → gI → gJ → Prop} (C : Cx Γ cX12_says RX12 5 D (tyW ca) (rl 5) (some .int) 0 0 (PMi ca o Q)) (I : gI) (J : gJ) (h : wM_says_c105 I J Q) : G Γ 0 0 105 [(0, .ref (o 0))] [] (cM ca o I J) := by
  unfold wM_says_c105 at h
  refine g_aload_n C (i := 0) dX12_says_105 rfl rfl ?_
  refine g_bipush C (v := (-2)) dX12_says_106 (by decide) ?_
  refine m_calli C rfl (wM_k_no (-2) I J _ h) 1 swM_no (rl_ok (by decide) (by decide)) rfl (Nat.le_of_ble_eq_true rfl) (st := []) _ rfl dX12_says_108 (fun r1 I2 J3 h => ?_)
  exact g_ret_i C dX12_says_111 (Nat.le_refl _) (Nat.le_refl _) ⟨_, _, _, rfl, rfl, h⟩
set_option maxRecDepth 100000 in
theorem wM_says_gc93 {Γ : gT} {D : gD} {ca : Nat → ClassId} {o : Nat → Nat} {Q : Int32 → gI → gJ → Prop} (C : Cx Γ cX12_says RX12 5 D (tyW ca) (rl 5) (some .int) 0 0 (PMi ca o Q)) (v2 : Int32) (v3 : Int32) (v4 : Int32) (I : gI) (J : gJ) (h : wM_says_c93 v2 v3 v4 I J Q) : G Γ 0 0 93 [(0, .ref (o 0)), (2, .int v2), (3, .int v3), (4, .int v4)] [] (cM ca o I J) := by
  unfold wM_says_c93 at h
  refine g_iload_n C (i := 2) dX12_says_93 rfl rfl ?_
  refine g_iconst_5 C dX12_says_94 ?_
  refine g_icmp_ne C 105 dX12_says_95 rfl (fun c1 => ?_) (fun c1 => ?_)
  · replace h := h.1 c1
    exact g_weak [0] rfl (Nat.le_refl _) (Nat.le_refl _) (wM_says_gc105  C   I J h)
  · replace h := h.2 c1
    refine g_iload C (i := 4) dX12_says_98 rfl ?_
    refine g_bipush C (v := 6) dX12_says_100 (by decide) ?_
    refine g_icmp_eq C 112 dX12_says_102 rfl (fun c2 => ?_) (fun c2 => ?_)
    · replace h := h.1 c2
      exact g_weak [0, 1, 2] rfl (Nat.le_refl _) (Nat.le_refl _) (wM_says_gc112  C  v2 v3 I J h)
    · replace h := h.2 c2
      exact g_weak [0] rfl (Nat.le_refl _) (Nat.le_refl _) (wM_says_gc105  C   I J h)
set_option maxRecDepth 100000 in
theorem wM_says_gc18 {Γ : gT} {D : gD} {ca : Nat → ClassId} {o : Nat → Nat} {Q : Int32 → gI → gJ → Prop} (C : Cx Γ cX12_says RX12 5 D (tyW ca) (rl 5) (some .int) 0 0 (PMi ca o Q)) (I : gI) (J : gJ) (h : wM_says_c18 I J Q) : G Γ 0 0 18 [(0, .ref (o 0))] [] (cM ca o I J) := by
  unfold wM_says_c18 at h
  refine g_aload_n C (i := 0) dX12_says_18 rfl rfl ?_
  refine g_iconst_m1 C dX12_says_19 ?_
  refine m_calli C rfl (wM_k_no (-1) I J _ h) 1 swM_no (rl_ok (by decide) (by decide)) rfl (Nat.le_of_ble_eq_true rfl) (st := []) _ rfl dX12_says_20 (fun r1 I2 J3 h => ?_)
  exact g_ret_i C dX12_says_23 (Nat.le_refl _) (Nat.le_refl _) ⟨_, _, _, rfl, rfl, h⟩
set_option maxRecDepth 100000 in
theorem wM_says_g {Γ : gT} {D : gD} {ca : Nat → ClassId} {o : Nat → Nat} {Q : Int32 → gI → gJ → Prop} (v1 : Int32) (v2 : Int32) (I : gI) (J : gJ) (C : Cx Γ cX12_says RX12 5 D (tyW ca) (rl 5) (some .int) 0 0 (PMi ca o Q)) (h : wM_says v1 v2 I J Q) : G Γ 0 0 0 [(0, .ref (o 0)), (1, .int v1), (2, .int v2)] [] (cM ca o I J) := by
  unfold wM_says at h
  refine g_aload_n C (i := 0) dX12_says_0 rfl rfl ?_
  refine g_iload_n C (i := 1) dX12_says_1 rfl rfl ?_
  refine m_callPz C rfl (wM_k_isShelf v1 I J _ h) 1 swM_isShelf (rl_ok (by decide) (by decide)) rfl (Nat.le_of_ble_eq_true rfl) (st := []) _ rfl dX12_says_2 (fun r1 h => ?_)
  refine g_zeq C 18 dX12_says_5 rfl (fun c2 => ?_) (fun c2 => ?_)
  · replace h := h.1 c2
    exact g_weak [0] rfl (Nat.le_refl _) (Nat.le_refl _) (wM_says_gc18  C   I J h)
  · replace h := h.2 c2
    refine g_iload_n C (i := 2) dX12_says_8 rfl rfl ?_
    refine g_if_lt C 18 dX12_says_9 rfl (fun c3 => ?_) (fun c3 => ?_)
    · replace h := h.1 c3
      exact g_weak [0] rfl (Nat.le_refl _) (Nat.le_refl _) (wM_says_gc18  C   I J h)
    · replace h := h.2 c3
      refine g_iload_n C (i := 2) dX12_says_12 rfl rfl ?_
      refine g_bipush C (v := 6) dX12_says_13 (by decide) ?_
      refine g_icmp_le C 24 dX12_says_15 rfl (fun c4 => ?_) (fun c4 => ?_)
      · replace h := h.1 c4
        refine g_aload_n C (i := 0) dX12_says_24 rfl rfl ?_
        refine m_get_held C dX12_says_25 ?_
        refine g_iload_n C (i := 1) dX12_says_28 rfl rfl ?_
        obtain ⟨h5, h⟩ := h
        refine m_iald C (k := 5) (by decide) h5 dX12_says_29 ?_
        refine g_iconst_1 C dX12_says_30 ?_
        refine g_icmp_ne C 41 dX12_says_31 rfl (fun c6 => ?_) (fun c6 => ?_)
        · replace h := h.1 c6
          refine g_aload_n C (i := 0) dX12_says_41 rfl rfl ?_
          refine m_get_held C dX12_says_42 ?_
          refine g_iload_n C (i := 1) dX12_says_45 rfl rfl ?_
          refine m_iald C (k := 5) (by decide) h5 dX12_says_46 ?_
          refine g_if_ne C 57 dX12_says_47 rfl (fun c7 => ?_) (fun c7 => ?_)
          · replace h := h.1 c7
            refine g_aload_n C (i := 0) dX12_says_57 rfl rfl ?_
            refine m_get_shown C dX12_says_58 ?_
            refine g_iload_n C (i := 1) dX12_says_61 rfl rfl ?_
            refine m_iald C (k := 8) (by decide) h5 dX12_says_62 ?_
            refine g_istore_n C (i := 3) [(0, .ref (o 0)), (1, .int v1), (2, .int v2), (3, .int (I 8 v1.toNatClampNeg))] dX12_says_63 rfl (by decide) rfl ?_
            refine g_aload_n C (i := 0) dX12_says_64 rfl rfl ?_
            refine m_get_kind C dX12_says_65 ?_
            refine g_iload_n C (i := 3) dX12_says_68 rfl rfl ?_
            obtain ⟨h8, h⟩ := h
            refine m_iald C (k := 2) (by decide) h8 dX12_says_69 ?_
            refine g_istore C (i := 4) [(0, .ref (o 0)), (1, .int v1), (2, .int v2), (3, .int (I 8 v1.toNatClampNeg)), (4, .int (I 2 (I 8 v1.toNatClampNeg).toNatClampNeg))] dX12_says_70 (by decide) rfl ?_
            refine g_iload_n C (i := 2) dX12_says_72 rfl rfl ?_
            refine g_if_eq C 112 dX12_says_73 rfl (fun c9 => ?_) (fun c9 => ?_)
            · replace h := h.1 c9
              exact g_weak [0, 2, 3] rfl (Nat.le_refl _) (Nat.le_refl _) (wM_says_gc112  C  v2 (I 8 v1.toNatClampNeg) I J h)
            · replace h := h.2 c9
              refine g_iload_n C (i := 2) dX12_says_76 rfl rfl ?_
              refine g_iload C (i := 4) dX12_says_77 rfl ?_
              refine g_icmp_eq C 112 dX12_says_79 rfl (fun c10 => ?_) (fun c10 => ?_)
              · replace h := h.1 c10
                exact g_weak [0, 2, 3] rfl (Nat.le_refl _) (Nat.le_refl _) (wM_says_gc112  C  v2 (I 8 v1.toNatClampNeg) I J h)
              · replace h := h.2 c10
                refine g_iload_n C (i := 2) dX12_says_82 rfl rfl ?_
                refine g_iconst_3 C dX12_says_83 ?_
                refine g_icmp_ne C 93 dX12_says_84 rfl (fun c11 => ?_) (fun c11 => ?_)
                · replace h := h.1 c11
                  exact g_weak [0, 2, 3, 4] rfl (Nat.le_refl _) (Nat.le_refl _) (wM_says_gc93  C  v2 (I 8 v1.toNatClampNeg) (I 2 (I 8 v1.toNatClampNeg).toNatClampNeg) I J h)
                · replace h := h.2 c11
                  refine g_iload C (i := 4) dX12_says_87 rfl ?_
                  refine g_iconst_4 C dX12_says_89 ?_
                  refine g_icmp_eq C 112 dX12_says_90 rfl (fun c12 => ?_) (fun c12 => ?_)
                  · replace h := h.1 c12
                    exact g_weak [0, 2, 3] rfl (Nat.le_refl _) (Nat.le_refl _) (wM_says_gc112  C  v2 (I 8 v1.toNatClampNeg) I J h)
                  · replace h := h.2 c12
                    exact g_weak [0, 2, 3, 4] rfl (Nat.le_refl _) (Nat.le_refl _) (wM_says_gc93  C  v2 (I 8 v1.toNatClampNeg) (I 2 (I 8 v1.toNatClampNeg).toNatClampNeg) I J h)
          · replace h := h.2 c7
            refine g_aload_n C (i := 0) dX12_says_50 rfl rfl ?_
            refine g_bipush C (v := (-3)) dX12_says_51 (by decide) ?_
            refine m_calli C rfl (wM_k_no (-3) I J _ h) 1 swM_no (rl_ok (by decide) (by decide)) rfl (Nat.le_of_ble_eq_true rfl) (st := []) _ rfl dX12_says_53 (fun r13 I14 J15 h => ?_)
            exact g_ret_i C dX12_says_56 (Nat.le_refl _) (Nat.le_refl _) ⟨_, _, _, rfl, rfl, h⟩
        · replace h := h.2 c6
          refine g_aload_n C (i := 0) dX12_says_34 rfl rfl ?_
          refine g_bipush C (v := (-2)) dX12_says_35 (by decide) ?_
          refine m_calli C rfl (wM_k_no (-2) I J _ h) 1 swM_no (rl_ok (by decide) (by decide)) rfl (Nat.le_of_ble_eq_true rfl) (st := []) _ rfl dX12_says_37 (fun r16 I17 J18 h => ?_)
          exact g_ret_i C dX12_says_40 (Nat.le_refl _) (Nat.le_refl _) ⟨_, _, _, rfl, rfl, h⟩
      · replace h := h.2 c4
        exact g_weak [0] rfl (Nat.le_refl _) (Nat.le_refl _) (wM_says_gc18  C   I J h)
theorem wM_k_says {D : gD} {ca : Nat → ClassId} {o : Nat → Nat} (v1 : Int32) (v2 : Int32) (I : gI) (J : gJ) (Q : Int32 → gI → gJ → Prop) (h : wM_says v1 v2 I J Q) : Ct yX12_says cX12_says 5 (some .int) (rl 5) D (tyW ca) 0 0 [.ref (o 0), .int v1, .int v2] (cM ca o I J) (PMi ca o Q) := ct_of (rm := rl 5) (by decide +kernel) (Nat.le_of_ble_eq_true rfl) (fun Γ C => wM_says_g v1 v2 I J C h)
