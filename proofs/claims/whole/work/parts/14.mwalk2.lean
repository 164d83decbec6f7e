set_option maxRecDepth 100000 in
theorem wM_copy_gb205 {Γ : gT} {D : gD} {ca : Nat → ClassId} {o : Nat → Nat} {Q : Int32 → gI → gJ → Prop} (C : Cx Γ cX12_copy RX12 7 D (tyW ca) (rl 1) (some .int) 0 0 (PMi ca o Q)) {B205 : Int32 → Int32 → Int32 → Int32 → gI → gJ → Prop} (hB205 : ∀ (v2 : Int32) (v4 : Int32) (v5 : Int32) (v6 : Int32) (I : gI) (J : gJ), B205 v2 v4 v5 v6 I J → G Γ 0 0 205 [(0, .ref (o 0)), (2, .int v2), (4, .int v4), (5, .int v5), (6, .int v6)] [] (cM ca o I J)) (v2 : Int32) (v4 : Int32) (v5 : Int32) (v6 : Int32) (I : gI) (J : gJ) (h : wM_copy_b205 B205 v2 v4 v5 v6 I J Q) : G Γ 0 0 205 [(0, .ref (o 0)), (2, .int v2), (4, .int v4), (5, .int v5), (6, .int v6)] [] (cM ca o I J) := by
  unfold wM_copy_b205 at h
  refine g_iload C (i := 6) dX12_copy_205 rfl ?_
  refine g_iload C (i := 5) dX12_copy_207 rfl ?_
  refine g_icmp_ge C 241 dX12_copy_209 rfl (fun c1 => ?_) (fun c1 => ?_)
  · replace h := h.1 c1
    refine g_iconst_1 C dX12_copy_241 ?_
    exact g_ret_i C dX12_copy_242 (Nat.le_refl _) (Nat.le_refl _) ⟨_, _, _, rfl, rfl, h⟩
  · replace h := h.2 c1
    refine g_aload_n C (i := 0) dX12_copy_212 rfl rfl ?_
    refine m_get_cells C dX12_copy_213 ?_
    refine g_sipush C (v := 160) dX12_copy_216 (by decide) ?_
    refine g_iload_n C (i := 2) dX12_copy_219 rfl rfl ?_
    refine g_imul C dX12_copy_220 ?_
    refine g_iload C (i := 4) dX12_copy_221 rfl ?_
    refine g_iadd C dX12_copy_223 ?_
    refine g_iload C (i := 6) dX12_copy_224 rfl ?_
    refine g_iadd C dX12_copy_226 ?_
    refine g_aload_n C (i := 0) dX12_copy_227 rfl rfl ?_
    refine m_get_carried C dX12_copy_228 ?_
    refine g_iload C (i := 6) dX12_copy_231 rfl ?_
    obtain ⟨h2, h⟩ := h
    refine m_lald C (k := 3) (by decide) h2 dX12_copy_233 ?_
    obtain ⟨h3, h⟩ := h
    refine m_last C (k := 2) (by decide) h3 dX12_copy_234 ?_
    refine m_nmJ _ (fun J4 e5 => ?_)
    replace h := h J4 e5
    refine g_iinc C 1 [(0, .ref (o 0)), (2, .int v2), (4, .int v4), (5, .int v5), (6, .int (v6 + 1))] dX12_copy_235 rfl (by decide) (by decide) rfl ?_
    refine g_goto C 205 dX12_copy_238 rfl ?_
    exact g_weak [0, 1, 2, 3, 4] rfl (Nat.le_refl _) (Nat.le_refl _) (hB205 v2 v4 v5 (v6 + 1) I J4 h)
theorem wM_copy_gl205 {Γ : gT} {D : gD} {ca : Nat → ClassId} {o : Nat → Nat} {Q : Int32 → gI → gJ → Prop} (C : Cx Γ cX12_copy RX12 7 D (tyW ca) (rl 1) (some .int) 0 0 (PMi ca o Q)) : ∀ (n : Nat) (v2 : Int32) (v4 : Int32) (v5 : Int32) (v6 : Int32) (I : gI) (J : gJ) (_ : wM_copy_l205 Q n v2 v4 v5 v6 I J), G Γ 0 0 205 [(0, .ref (o 0)), (2, .int v2), (4, .int v4), (5, .int v5), (6, .int v6)] [] (cM ca o I J) := by
  intro n
  induction n with
  | zero => intro v2 v4 v5 v6 I J h; exact h.elim
  | succ n ih => intro v2 v4 v5 v6 I J h; exact wM_copy_gb205 C ih v2 v4 v5 v6 I J h
set_option maxRecDepth 100000 in
theorem wM_copy_gb167 {Γ : gT} {D : gD} {ca : Nat → ClassId} {o : Nat → Nat} {Q : Int32 → gI → gJ → Prop} (C : Cx Γ cX12_copy RX12 7 D (tyW ca) (rl 1) (some .int) 0 0 (PMi ca o Q)) {B167 : Int32 → Int32 → Int32 → Int32 → Int32 → Int32 → gI → gJ → Prop} (hB167 : ∀ (v1 : Int32) (v2 : Int32) (v3 : Int32) (v4 : Int32) (v5 : Int32) (v6 : Int32) (I : gI) (J : gJ), B167 v1 v2 v3 v4 v5 v6 I J → G Γ 0 0 167 [(0, .ref (o 0)), (1, .int v1), (2, .int v2), (3, .int v3), (4, .int v4), (5, .int v5), (6, .int v6)] [] (cM ca o I J)) (v1 : Int32) (v2 : Int32) (v3 : Int32) (v4 : Int32) (v5 : Int32) (v6 : Int32) (I : gI) (J : gJ) (h : wM_copy_b167 B167 v1 v2 v3 v4 v5 v6 I J Q) : G Γ 0 0 167 [(0, .ref (o 0)), (1, .int v1), (2, .int v2), (3, .int v3), (4, .int v4), (5, .int v5), (6, .int v6)] [] (cM ca o I J) := by
  unfold wM_copy_b167 at h
  refine g_iload C (i := 6) dX12_copy_167 rfl ?_
  refine g_iload C (i := 5) dX12_copy_169 rfl ?_
  refine g_icmp_ge C 202 dX12_copy_171 rfl (fun c1 => ?_) (fun c1 => ?_)
  · replace h := h.1 c1
    refine g_iconst_0 C dX12_copy_202 ?_
    refine g_istore C (i := 6) [(0, .ref (o 0)), (1, .int v1), (2, .int v2), (3, .int v3), (4, .int v4), (5, .int v5), (6, .int 0)] dX12_copy_203 (by decide) rfl ?_
    obtain ⟨n, h⟩ := h
    exact g_weak [0, 2, 4, 5, 6] rfl (Nat.le_refl _) (Nat.le_refl _) (wM_copy_gl205  C  n v2 v4 v5 0 I J h)
  · replace h := h.2 c1
    refine g_aload_n C (i := 0) dX12_copy_174 rfl rfl ?_
    refine m_get_carried C dX12_copy_175 ?_
    refine g_iload C (i := 6) dX12_copy_178 rfl ?_
    refine g_aload_n C (i := 0) dX12_copy_180 rfl rfl ?_
    refine m_get_cells C dX12_copy_181 ?_
    refine g_sipush C (v := 160) dX12_copy_184 (by decide) ?_
    refine g_iload_n C (i := 1) dX12_copy_187 rfl rfl ?_
    refine g_imul C dX12_copy_188 ?_
    refine g_iload_n C (i := 3) dX12_copy_189 rfl rfl ?_
    refine g_iadd C dX12_copy_190 ?_
    refine g_iload C (i := 6) dX12_copy_191 rfl ?_
    refine g_iadd C dX12_copy_193 ?_
    obtain ⟨h2, h⟩ := h
    refine m_lald C (k := 2) (by decide) h2 dX12_copy_194 ?_
    obtain ⟨h3, h⟩ := h
    refine m_last C (k := 3) (by decide) h3 dX12_copy_195 ?_
    refine m_nmJ _ (fun J4 e5 => ?_)
    replace h := h J4 e5
    refine g_iinc C 1 [(0, .ref (o 0)), (1, .int v1), (2, .int v2), (3, .int v3), (4, .int v4), (5, .int v5), (6, .int (v6 + 1))] dX12_copy_196 rfl (by decide) (by decide) rfl ?_
    refine g_goto C 167 dX12_copy_199 rfl ?_
    exact g_weak [0, 1, 2, 3, 4, 5, 6] rfl (Nat.le_refl _) (Nat.le_refl _) (hB167 v1 v2 v3 v4 v5 (v6 + 1) I J4 h)
theorem wM_copy_gl167 {Γ : gT} {D : gD} {ca : Nat → ClassId} {o : Nat → Nat} {Q : Int32 → gI → gJ → Prop} (C : Cx Γ cX12_copy RX12 7 D (tyW ca) (rl 1) (some .int) 0 0 (PMi ca o Q)) : ∀ (n : Nat) (v1 : Int32) (v2 : Int32) (v3 : Int32) (v4 : Int32) (v5 : Int32) (v6 : Int32) (I : gI) (J : gJ) (_ : wM_copy_l167 Q n v1 v2 v3 v4 v5 v6 I J), G Γ 0 0 167 [(0, .ref (o 0)), (1, .int v1), (2, .int v2), (3, .int v3), (4, .int v4), (5, .int v5), (6, .int v6)] [] (cM ca o I J) := by
  intro n
  induction n with
  | zero => intro v1 v2 v3 v4 v5 v6 I J h; exact h.elim
  | succ n ih => intro v1 v2 v3 v4 v5 v6 I J h; exact wM_copy_gb167 C ih v1 v2 v3 v4 v5 v6 I J h
set_option maxRecDepth 100000 in
theorem wM_copy_gc157 {Γ : gT} {D : gD} {ca : Nat → ClassId} {o : Nat → Nat} {Q : Int32 → gI → gJ → Prop} (C : Cx Γ cX12_copy RX12 7 D (tyW ca) (rl 1) (some .int) 0 0 (PMi ca o Q)) (I : gI) (J : gJ) (h : wM_copy_c157 I J Q) : G Γ 0 0 157 [(0, .ref (o 0))] [] (cM ca o I J) := by
  unfold wM_copy_c157 at h
  refine g_aload_n C (i := 0) dX12_copy_157 rfl rfl ?_
  refine g_bipush C (v := (-5)) dX12_copy_158 (by decide) ?_
  refine m_calli C rfl (wM_k_no (-5) I J _ h) 1 swM_no (rl_ok (by decide) (by decide)) rfl (Nat.le_of_ble_eq_true rfl) (st := []) _ rfl dX12_copy_160 (fun r1 I2 J3 h => ?_)
  exact g_ret_i C dX12_copy_163 (Nat.le_refl _) (Nat.le_refl _) ⟨_, _, _, rfl, rfl, h⟩
set_option maxRecDepth 100000 in
theorem wM_copy_gc102 {Γ : gT} {D : gD} {ca : Nat → ClassId} {o : Nat → Nat} {Q : Int32 → gI → gJ → Prop} (C : Cx Γ cX12_copy RX12 7 D (tyW ca) (rl 1) (some .int) 0 0 (PMi ca o Q)) (I : gI) (J : gJ) (h : wM_copy_c102 I J Q) : G Γ 0 0 102 [(0, .ref (o 0))] [] (cM ca o I J) := by
  unfold wM_copy_c102 at h
  refine g_aload_n C (i := 0) dX12_copy_102 rfl rfl ?_
  refine g_bipush C (v := (-3)) dX12_copy_103 (by decide) ?_
  refine m_calli C rfl (wM_k_no (-3) I J _ h) 1 swM_no (rl_ok (by decide) (by decide)) rfl (Nat.le_of_ble_eq_true rfl) (st := []) _ rfl dX12_copy_105 (fun r1 I2 J3 h => ?_)
  exact g_ret_i C dX12_copy_108 (Nat.le_refl _) (Nat.le_refl _) ⟨_, _, _, rfl, rfl, h⟩
set_option maxRecDepth 100000 in
theorem wM_copy_gc84 {Γ : gT} {D : gD} {ca : Nat → ClassId} {o : Nat → Nat} {Q : Int32 → gI → gJ → Prop} (C : Cx Γ cX12_copy RX12 7 D (tyW ca) (rl 1) (some .int) 0 0 (PMi ca o Q)) (v1 : Int32) (v2 : Int32) (v3 : Int32) (v4 : Int32) (v5 : Int32) (I : gI) (J : gJ) (h : wM_copy_c84 v1 v2 v3 v4 v5 I J Q) : G Γ 0 0 84 [(0, .ref (o 0)), (1, .int v1), (2, .int v2), (3, .int v3), (4, .int v4), (5, .int v5)] [] (cM ca o I J) := by
  unfold wM_copy_c84 at h
  refine g_aload_n C (i := 0) dX12_copy_84 rfl rfl ?_
  refine m_get_held C dX12_copy_85 ?_
  refine g_iload_n C (i := 1) dX12_copy_88 rfl rfl ?_
  obtain ⟨h1, h⟩ := h
  refine m_iald C (k := 5) (by decide) h1 dX12_copy_89 ?_
  refine g_if_eq C 102 dX12_copy_90 rfl (fun c2 => ?_) (fun c2 => ?_)
  · replace h := h.1 c2
    exact g_weak [0] rfl (Nat.le_refl _) (Nat.le_refl _) (wM_copy_gc102  C   I J h)
  · replace h := h.2 c2
    refine g_aload_n C (i := 0) dX12_copy_93 rfl rfl ?_
    refine m_get_held C dX12_copy_94 ?_
    refine g_iload_n C (i := 2) dX12_copy_97 rfl rfl ?_
    obtain ⟨h3, h⟩ := h
    refine m_iald C (k := 5) (by decide) h3 dX12_copy_98 ?_
    refine g_if_ne C 109 dX12_copy_99 rfl (fun c4 => ?_) (fun c4 => ?_)
    · replace h := h.1 c4
      refine g_iload C (i := 5) dX12_copy_109 rfl ?_
      refine g_if_ge C 121 dX12_copy_111 rfl (fun c5 => ?_) (fun c5 => ?_)
      · replace h := h.1 c5
        refine g_iload_n C (i := 3) dX12_copy_121 rfl rfl ?_
        refine g_if_lt C 157 dX12_copy_122 rfl (fun c6 => ?_) (fun c6 => ?_)
        · replace h := h.1 c6
          exact g_weak [0] rfl (Nat.le_refl _) (Nat.le_refl _) (wM_copy_gc157  C   I J h)
        · replace h := h.2 c6
          refine g_iload C (i := 4) dX12_copy_125 rfl ?_
          refine g_if_lt C 157 dX12_copy_127 rfl (fun c7 => ?_) (fun c7 => ?_)
          · replace h := h.1 c7
            exact g_weak [0] rfl (Nat.le_refl _) (Nat.le_refl _) (wM_copy_gc157  C   I J h)
          · replace h := h.2 c7
            refine g_iload_n C (i := 3) dX12_copy_130 rfl rfl ?_
            refine g_aload_n C (i := 0) dX12_copy_131 rfl rfl ?_
            refine m_get_size C dX12_copy_132 ?_
            refine g_iload_n C (i := 1) dX12_copy_135 rfl rfl ?_
            refine m_iald C (k := 7) (by decide) h1 dX12_copy_136 ?_
            refine g_iload C (i := 5) dX12_copy_137 rfl ?_
            refine g_isub C dX12_copy_139 ?_
            refine g_icmp_gt C 157 dX12_copy_140 rfl (fun c8 => ?_) (fun c8 => ?_)
            · replace h := h.1 c8
              exact g_weak [0] rfl (Nat.le_refl _) (Nat.le_refl _) (wM_copy_gc157  C   I J h)
            · replace h := h.2 c8
              refine g_iload C (i := 4) dX12_copy_143 rfl ?_
              refine g_aload_n C (i := 0) dX12_copy_145 rfl rfl ?_
              refine m_get_size C dX12_copy_146 ?_
              refine g_iload_n C (i := 2) dX12_copy_149 rfl rfl ?_
              refine m_iald C (k := 7) (by decide) h3 dX12_copy_150 ?_
              refine g_iload C (i := 5) dX12_copy_151 rfl ?_
              refine g_isub C dX12_copy_153 ?_
              refine g_icmp_le C 164 dX12_copy_154 rfl (fun c9 => ?_) (fun c9 => ?_)
              · replace h := h.1 c9
                refine g_iconst_0 C dX12_copy_164 ?_
                refine g_istore C (i := 6) [(0, .ref (o 0)), (1, .int v1), (2, .int v2), (3, .int v3), (4, .int v4), (5, .int v5), (6, .int 0)] dX12_copy_165 (by decide) rfl ?_
                obtain ⟨n, h⟩ := h
                exact g_weak [0, 1, 2, 3, 4, 5, 6] rfl (Nat.le_refl _) (Nat.le_refl _) (wM_copy_gl167  C  n v1 v2 v3 v4 v5 0 I J h)
              · replace h := h.2 c9
                exact g_weak [0] rfl (Nat.le_refl _) (Nat.le_refl _) (wM_copy_gc157  C   I J h)
      · replace h := h.2 c5
        refine g_aload_n C (i := 0) dX12_copy_114 rfl rfl ?_
        refine g_bipush C (v := (-4)) dX12_copy_115 (by decide) ?_
        refine m_calli C rfl (wM_k_no (-4) I J _ h) 1 swM_no (rl_ok (by decide) (by decide)) rfl (Nat.le_of_ble_eq_true rfl) (st := []) _ rfl dX12_copy_117 (fun r10 I11 J12 h => ?_)
        exact g_ret_i C dX12_copy_120 (Nat.le_refl _) (Nat.le_refl _) ⟨_, _, _, rfl, rfl, h⟩
    · replace h := h.2 c4
      exact g_weak [0] rfl (Nat.le_refl _) (Nat.le_refl _) (wM_copy_gc102  C   I J h)
set_option maxRecDepth 100000 in
theorem wM_copy_gc77 {Γ : gT} {D : gD} {ca : Nat → ClassId} {o : Nat → Nat} {Q : Int32 → gI → gJ → Prop} (C : Cx Γ cX12_copy RX12 7 D (tyW ca) (rl 1) (some .int) 0 0 (PMi ca o Q)) (I : gI) (J : gJ) (h : wM_copy_c77 I J Q) : G Γ 0 0 77 [(0, .ref (o 0))] [] (cM ca o I J) := by
  unfold wM_copy_c77 at h
  refine g_aload_n C (i := 0) dX12_copy_77 rfl rfl ?_
  refine g_bipush C (v := (-2)) dX12_copy_78 (by decide) ?_
  refine m_calli C rfl (wM_k_no (-2) I J _ h) 1 swM_no (rl_ok (by decide) (by decide)) rfl (Nat.le_of_ble_eq_true rfl) (st := []) _ rfl dX12_copy_80 (fun r1 I2 J3 h => ?_)
  exact g_ret_i C dX12_copy_83 (Nat.le_refl _) (Nat.le_refl _) ⟨_, _, _, rfl, rfl, h⟩
set_option maxRecDepth 100000 in
theorem wM_copy_gc16 {Γ : gT} {D : gD} {ca : Nat → ClassId} {o : Nat → Nat} {Q : Int32 → gI → gJ → Prop} (C : Cx Γ cX12_copy RX12 7 D (tyW ca) (rl 1) (some .int) 0 0 (PMi ca o Q)) (I : gI) (J : gJ) (h : wM_copy_c16 I J Q) : G Γ 0 0 16 [(0, .ref (o 0))] [] (cM ca o I J) := by
  unfold wM_copy_c16 at h
  refine g_aload_n C (i := 0) dX12_copy_16 rfl rfl ?_
  refine g_iconst_m1 C dX12_copy_17 ?_
  refine m_calli C rfl (wM_k_no (-1) I J _ h) 1 swM_no (rl_ok (by decide) (by decide)) rfl (Nat.le_of_ble_eq_true rfl) (st := []) _ rfl dX12_copy_18 (fun r1 I2 J3 h => ?_)
  exact g_ret_i C dX12_copy_21 (Nat.le_refl _) (Nat.le_refl _) ⟨_, _, _, rfl, rfl, h⟩
set_option maxRecDepth 100000 in
theorem wM_copy_g {Γ : gT} {D : gD} {ca : Nat → ClassId} {o : Nat → Nat} {Q : Int32 → gI → gJ → Prop} (v1 : Int32) (v2 : Int32) (v3 : Int32) (v4 : Int32) (v5 : Int32) (I : gI) (J : gJ) (C : Cx Γ cX12_copy RX12 7 D (tyW ca) (rl 1) (some .int) 0 0 (PMi ca o Q)) (h : wM_copy v1 v2 v3 v4 v5 I J Q) : G Γ 0 0 0 [(0, .ref (o 0)), (1, .int v1), (2, .int v2), (3, .int v3), (4, .int v4), (5, .int v5)] [] (cM ca o I J) := by
  unfold wM_copy at h
  refine g_aload_n C (i := 0) dX12_copy_0 rfl rfl ?_
  refine g_iload_n C (i := 1) dX12_copy_1 rfl rfl ?_
  refine m_callPz C rfl (wM_k_isShelf v1 I J _ h) 1 swM_isShelf (rl_ok (by decide) (by decide)) rfl (Nat.le_of_ble_eq_true rfl) (st := []) _ rfl dX12_copy_2 (fun r1 h => ?_)
  refine g_zeq C 16 dX12_copy_5 rfl (fun c2 => ?_) (fun c2 => ?_)
  · replace h := h.1 c2
    exact g_weak [0] rfl (Nat.le_refl _) (Nat.le_refl _) (wM_copy_gc16  C   I J h)
  · replace h := h.2 c2
    refine g_aload_n C (i := 0) dX12_copy_8 rfl rfl ?_
    refine g_iload_n C (i := 2) dX12_copy_9 rfl rfl ?_
    refine m_callPz C rfl (wM_k_isShelf v2 I J _ h) 1 swM_isShelf (rl_ok (by decide) (by decide)) rfl (Nat.le_of_ble_eq_true rfl) (st := []) _ rfl dX12_copy_10 (fun r3 h => ?_)
    refine g_zne C 22 dX12_copy_13 rfl (fun c4 => ?_) (fun c4 => ?_)
    · replace h := h.1 c4
      refine g_aload_n C (i := 0) dX12_copy_22 rfl rfl ?_
      refine m_get_held C dX12_copy_23 ?_
      refine g_iload_n C (i := 1) dX12_copy_26 rfl rfl ?_
      obtain ⟨h5, h⟩ := h
      refine m_iald C (k := 5) (by decide) h5 dX12_copy_27 ?_
      refine g_iconst_2 C dX12_copy_28 ?_
      refine g_icmp_eq C 77 dX12_copy_29 rfl (fun c6 => ?_) (fun c6 => ?_)
      · replace h := h.1 c6
        exact g_weak [0] rfl (Nat.le_refl _) (Nat.le_refl _) (wM_copy_gc77  C   I J h)
      · replace h := h.2 c6
        refine g_aload_n C (i := 0) dX12_copy_32 rfl rfl ?_
        refine m_get_held C dX12_copy_33 ?_
        refine g_iload_n C (i := 2) dX12_copy_36 rfl rfl ?_
        obtain ⟨h7, h⟩ := h
        refine m_iald C (k := 5) (by decide) h7 dX12_copy_37 ?_
        refine g_iconst_2 C dX12_copy_38 ?_
        refine g_icmp_eq C 77 dX12_copy_39 rfl (fun c8 => ?_) (fun c8 => ?_)
        · replace h := h.1 c8
          exact g_weak [0] rfl (Nat.le_refl _) (Nat.le_refl _) (wM_copy_gc77  C   I J h)
        · replace h := h.2 c8
          refine g_aload_n C (i := 0) dX12_copy_42 rfl rfl ?_
          refine m_get_held C dX12_copy_43 ?_
          refine g_iload_n C (i := 1) dX12_copy_46 rfl rfl ?_
          refine m_iald C (k := 5) (by decide) h5 dX12_copy_47 ?_
          refine g_iconst_1 C dX12_copy_48 ?_
          refine g_icmp_ne C 84 dX12_copy_49 rfl (fun c9 => ?_) (fun c9 => ?_)
          · replace h := h.1 c9
            exact g_weak [0, 1, 2, 3, 4, 5] rfl (Nat.le_refl _) (Nat.le_refl _) (wM_copy_gc84  C  v1 v2 v3 v4 v5 I J h)
          · replace h := h.2 c9
            refine g_aload_n C (i := 0) dX12_copy_52 rfl rfl ?_
            refine m_get_held C dX12_copy_53 ?_
            refine g_iload_n C (i := 2) dX12_copy_56 rfl rfl ?_
            refine m_iald C (k := 5) (by decide) h7 dX12_copy_57 ?_
            refine g_iconst_1 C dX12_copy_58 ?_
            refine g_icmp_ne C 84 dX12_copy_59 rfl (fun c10 => ?_) (fun c10 => ?_)
            · replace h := h.1 c10
              exact g_weak [0, 1, 2, 3, 4, 5] rfl (Nat.le_refl _) (Nat.le_refl _) (wM_copy_gc84  C  v1 v2 v3 v4 v5 I J h)
            · replace h := h.2 c10
              refine g_aload_n C (i := 0) dX12_copy_62 rfl rfl ?_
              refine m_get_sort C dX12_copy_63 ?_
              refine g_iload_n C (i := 1) dX12_copy_66 rfl rfl ?_
              refine m_iald C (k := 6) (by decide) h5 dX12_copy_67 ?_
              refine g_aload_n C (i := 0) dX12_copy_68 rfl rfl ?_
              refine m_get_sort C dX12_copy_69 ?_
              refine g_iload_n C (i := 2) dX12_copy_72 rfl rfl ?_
              refine m_iald C (k := 6) (by decide) h7 dX12_copy_73 ?_
              refine g_icmp_eq C 84 dX12_copy_74 rfl (fun c11 => ?_) (fun c11 => ?_)
              · replace h := h.1 c11
                exact g_weak [0, 1, 2, 3, 4, 5] rfl (Nat.le_refl _) (Nat.le_refl _) (wM_copy_gc84  C  v1 v2 v3 v4 v5 I J h)
              · replace h := h.2 c11
                exact g_weak [0] rfl (Nat.le_refl _) (Nat.le_refl _) (wM_copy_gc77  C   I J h)
    · replace h := h.2 c4
      exact g_weak [0] rfl (Nat.le_refl _) (Nat.le_refl _) (wM_copy_gc16  C   I J h)
theorem wM_k_copy {D : gD} {ca : Nat → ClassId} {o : Nat → Nat} (v1 : Int32) (v2 : Int32) (v3 : Int32) (v4 : Int32) (v5 : Int32) (I : gI) (J : gJ) (Q : Int32 → gI → gJ → Prop) (h : wM_copy v1 v2 v3 v4 v5 I J Q) : Ct yX12_copy cX12_copy 7 (some .int) (rl 1) D (tyW ca) 0 0 [.ref (o 0), .int v1, .int v2, .int v3, .int v4, .int v5] (cM ca o I J) (PMi ca o Q) := ct_of (rm := rl 1) (by decide +kernel) (Nat.le_of_ble_eq_true rfl) (fun Γ C => wM_copy_g v1 v2 v3 v4 v5 I J C h)
set_option maxRecDepth 100000 in
theorem wM_element_g {Γ : gT} {D : gD} {ca : Nat → ClassId} {o : Nat → Nat} {Q : Int64 → Prop} (v1 : Int32) (v2 : Int32) (I : gI) (J : gJ) (C : Cx Γ cX12_element RX12 3 D (tyW ca) (rl 1) (some .long) 0 0 (PPl ca o I J Q)) (h : wM_element v1 v2 I J Q) : G Γ 0 0 0 [(0, .ref (o 0)), (1, .int v1), (2, .int v2)] [] (cM ca o I J) := by
  unfold wM_element at h
  refine g_aload_n C (i := 0) dX12_element_0 rfl rfl ?_
  refine g_iload_n C (i := 1) dX12_element_1 rfl rfl ?_
  refine m_callPz C rfl (wM_k_isShelf v1 I J _ h) 1 swM_isShelf (rl_ok (by decide) (by decide)) rfl (Nat.le_of_ble_eq_true rfl) (st := []) _ rfl dX12_element_2 (fun r1 h => ?_)
  refine g_zeq C 47 dX12_element_5 rfl (fun c2 => ?_) (fun c2 => ?_)
  · replace h := h.1 c2
    refine g_lconst_0 C dX12_element_47 ?_
    exact g_ret_l C dX12_element_48 (Nat.le_refl _) (Nat.le_refl _) ⟨_, rfl, rfl, h⟩
  · replace h := h.2 c2
    refine g_aload_n C (i := 0) dX12_element_8 rfl rfl ?_
    refine m_get_held C dX12_element_9 ?_
    refine g_iload_n C (i := 1) dX12_element_12 rfl rfl ?_
    obtain ⟨h3, h⟩ := h
    refine m_iald C (k := 5) (by decide) h3 dX12_element_13 ?_
    refine g_iconst_1 C dX12_element_14 ?_
    refine g_icmp_ne C 47 dX12_element_15 rfl (fun c4 => ?_) (fun c4 => ?_)
    · replace h := h.1 c4
      refine g_lconst_0 C dX12_element_47 ?_
      exact g_ret_l C dX12_element_48 (Nat.le_refl _) (Nat.le_refl _) ⟨_, rfl, rfl, h⟩
    · replace h := h.2 c4
      refine g_iload_n C (i := 2) dX12_element_18 rfl rfl ?_
      refine g_if_lt C 47 dX12_element_19 rfl (fun c5 => ?_) (fun c5 => ?_)
      · replace h := h.1 c5
        refine g_lconst_0 C dX12_element_47 ?_
        exact g_ret_l C dX12_element_48 (Nat.le_refl _) (Nat.le_refl _) ⟨_, rfl, rfl, h⟩
      · replace h := h.2 c5
        refine g_iload_n C (i := 2) dX12_element_22 rfl rfl ?_
        refine g_aload_n C (i := 0) dX12_element_23 rfl rfl ?_
        refine m_get_size C dX12_element_24 ?_
        refine g_iload_n C (i := 1) dX12_element_27 rfl rfl ?_
        refine m_iald C (k := 7) (by decide) h3 dX12_element_28 ?_
        refine g_icmp_ge C 47 dX12_element_29 rfl (fun c6 => ?_) (fun c6 => ?_)
        · replace h := h.1 c6
          refine g_lconst_0 C dX12_element_47 ?_
          exact g_ret_l C dX12_element_48 (Nat.le_refl _) (Nat.le_refl _) ⟨_, rfl, rfl, h⟩
        · replace h := h.2 c6
          refine g_aload_n C (i := 0) dX12_element_32 rfl rfl ?_
          refine m_get_cells C dX12_element_33 ?_
          refine g_sipush C (v := 160) dX12_element_36 (by decide) ?_
          refine g_iload_n C (i := 1) dX12_element_39 rfl rfl ?_
          refine g_imul C dX12_element_40 ?_
          refine g_iload_n C (i := 2) dX12_element_41 rfl rfl ?_
          refine g_iadd C dX12_element_42 ?_
          obtain ⟨h7, h⟩ := h
          refine m_lald C (k := 2) (by decide) h7 dX12_element_43 ?_
          refine g_goto C 48 dX12_element_44 rfl ?_
          exact g_ret_l C dX12_element_48 (Nat.le_refl _) (Nat.le_refl _) ⟨_, rfl, rfl, h⟩
theorem wM_k_element {D : gD} {ca : Nat → ClassId} {o : Nat → Nat} (v1 : Int32) (v2 : Int32) (I : gI) (J : gJ) (Q : Int64 → Prop) (h : wM_element v1 v2 I J Q) : Ct yX12_element cX12_element 3 (some .long) (rl 1) D (tyW ca) 0 0 [.ref (o 0), .int v1, .int v2] (cM ca o I J) (PPl ca o I J Q) := ct_of (rm := rl 1) (by decide +kernel) (Nat.le_of_ble_eq_true rfl) (fun Γ C => wM_element_g v1 v2 I J C h)
set_option maxRecDepth 100000 in
theorem wM_show_gc42 {Γ : gT} {D : gD} {ca : Nat → ClassId} {o : Nat → Nat} {Q : Int32 → gI → gJ → Prop} (C : Cx Γ cX12_show RX12 3 D (tyW ca) (rl 1) (some .int) 0 0 (PMi ca o Q)) (v1 : Int32) (v2 : Int32) (s1 : Int32) (s2 : Int32) (I : gI) (J : gJ) (h : wM_show_c42 v1 v2 s1 s2 I J Q) : G Γ 0 0 42 [(0, .ref (o 0)), (1, .int v1), (2, .int v2)] [.int s2, .int s1, .ref (o 5)] (cM ca o I J) := by
  unfold wM_show_c42 at h
  obtain ⟨h1, h⟩ := h
  refine m_iast C (k := 5) (by decide) h1 dX12_show_42 ?_
  refine m_nmI _ (fun I2 e3 => ?_)
  replace h := h I2 e3
  refine g_aload_n C (i := 0) dX12_show_43 rfl rfl ?_
  refine m_get_shown C dX12_show_44 ?_
  refine g_iload_n C (i := 1) dX12_show_47 rfl rfl ?_
  refine g_iload_n C (i := 2) dX12_show_48 rfl rfl ?_
  obtain ⟨h4, h⟩ := h
  refine m_iast C (k := 8) (by decide) h4 dX12_show_49 ?_
  refine m_nmI _ (fun I5 e6 => ?_)
  replace h := h I5 e6
  refine g_iload_n C (i := 2) dX12_show_50 rfl rfl ?_
  refine g_iconst_m1 C dX12_show_51 ?_
  refine g_icmp_ne C 59 dX12_show_52 rfl (fun c7 => ?_) (fun c7 => ?_)
  · replace h := h.1 c7
    refine g_iconst_1 C dX12_show_59 ?_
    exact g_ret_i C dX12_show_60 (Nat.le_refl _) (Nat.le_refl _) ⟨_, _, _, rfl, rfl, h⟩
  · replace h := h.2 c7
    refine g_iconst_0 C dX12_show_55 ?_
    refine g_goto C 60 dX12_show_56 rfl ?_
    exact g_ret_i C dX12_show_60 (Nat.le_refl _) (Nat.le_refl _) ⟨_, _, _, rfl, rfl, h⟩
set_option maxRecDepth 100000 in
theorem wM_show_gc27 {Γ : gT} {D : gD} {ca : Nat → ClassId} {o : Nat → Nat} {Q : Int32 → gI → gJ → Prop} (C : Cx Γ cX12_show RX12 3 D (tyW ca) (rl 1) (some .int) 0 0 (PMi ca o Q)) (v1 : Int32) (v2 : Int32) (I : gI) (J : gJ) (h : wM_show_c27 v1 v2 I J Q) : G Γ 0 0 27 [(0, .ref (o 0)), (1, .int v1), (2, .int v2)] [] (cM ca o I J) := by
  unfold wM_show_c27 at h
  refine g_aload_n C (i := 0) dX12_show_27 rfl rfl ?_
  refine m_get_held C dX12_show_28 ?_
  refine g_iload_n C (i := 1) dX12_show_31 rfl rfl ?_
  refine g_iload_n C (i := 2) dX12_show_32 rfl rfl ?_
  refine g_iconst_m1 C dX12_show_33 ?_
  refine g_icmp_ne C 41 dX12_show_34 rfl (fun c1 => ?_) (fun c1 => ?_)
  · replace h := h.1 c1
    refine g_iconst_2 C dX12_show_41 ?_
    exact g_weak [0, 1, 2] rfl (Nat.le_refl _) (Nat.le_refl _) (wM_show_gc42  C  v1 v2 v1 2 I J h)
  · replace h := h.2 c1
    refine g_iconst_0 C dX12_show_37 ?_
    refine g_goto C 42 dX12_show_38 rfl ?_
    exact g_weak [0, 1, 2] rfl (Nat.le_refl _) (Nat.le_refl _) (wM_show_gc42  C  v1 v2 v1 0 I J h)
set_option maxRecDepth 100000 in
theorem wM_show_gc21 {Γ : gT} {D : gD} {ca : Nat → ClassId} {o : Nat → Nat} {Q : Int32 → gI → gJ → Prop} (C : Cx Γ cX12_show RX12 3 D (tyW ca) (rl 1) (some .int) 0 0 (PMi ca o Q)) (I : gI) (J : gJ) (h : wM_show_c21 I J Q) : G Γ 0 0 21 [(0, .ref (o 0))] [] (cM ca o I J) := by
  unfold wM_show_c21 at h
  refine g_aload_n C (i := 0) dX12_show_21 rfl rfl ?_
  refine g_iconst_m1 C dX12_show_22 ?_
  refine m_calli C rfl (wM_k_no (-1) I J _ h) 1 swM_no (rl_ok (by decide) (by decide)) rfl (Nat.le_of_ble_eq_true rfl) (st := []) _ rfl dX12_show_23 (fun r1 I2 J3 h => ?_)
  exact g_ret_i C dX12_show_26 (Nat.le_refl _) (Nat.le_refl _) ⟨_, _, _, rfl, rfl, h⟩
set_option maxRecDepth 100000 in
theorem wM_show_g {Γ : gT} {D : gD} {ca : Nat → ClassId} {o : Nat → Nat} {Q : Int32 → gI → gJ → Prop} (v1 : Int32) (v2 : Int32) (I : gI) (J : gJ) (C : Cx Γ cX12_show RX12 3 D (tyW ca) (rl 1) (some .int) 0 0 (PMi ca o Q)) (h : wM_show v1 v2 I J Q) : G Γ 0 0 0 [(0, .ref (o 0)), (1, .int v1), (2, .int v2)] [] (cM ca o I J) := by
  unfold wM_show at h
  refine g_aload_n C (i := 0) dX12_show_0 rfl rfl ?_
  refine g_iload_n C (i := 1) dX12_show_1 rfl rfl ?_
  refine m_callPz C rfl (wM_k_isShelf v1 I J _ h) 1 swM_isShelf (rl_ok (by decide) (by decide)) rfl (Nat.le_of_ble_eq_true rfl) (st := []) _ rfl dX12_show_2 (fun r1 h => ?_)
  refine g_zeq C 21 dX12_show_5 rfl (fun c2 => ?_) (fun c2 => ?_)
  · replace h := h.1 c2
    exact g_weak [0] rfl (Nat.le_refl _) (Nat.le_refl _) (wM_show_gc21  C   I J h)
  · replace h := h.2 c2
    refine g_iload_n C (i := 2) dX12_show_8 rfl rfl ?_
    refine g_iconst_m1 C dX12_show_9 ?_
    refine g_icmp_eq C 27 dX12_show_10 rfl (fun c3 => ?_) (fun c3 => ?_)
    · replace h := h.1 c3
      exact g_weak [0, 1, 2] rfl (Nat.le_refl _) (Nat.le_refl _) (wM_show_gc27  C  v1 v2 I J h)
    · replace h := h.2 c3
      refine g_aload_n C (i := 0) dX12_show_13 rfl rfl ?_
      refine g_iload_n C (i := 2) dX12_show_14 rfl rfl ?_
      refine m_callPz C rfl (wM_k_isStrip v2 I J _ h) 1 swM_isStrip (rl_ok (by decide) (by decide)) rfl (Nat.le_of_ble_eq_true rfl) (st := []) _ rfl dX12_show_15 (fun r4 h => ?_)
      refine g_zne C 27 dX12_show_18 rfl (fun c5 => ?_) (fun c5 => ?_)
      · replace h := h.1 c5
        exact g_weak [0, 1, 2] rfl (Nat.le_refl _) (Nat.le_refl _) (wM_show_gc27  C  v1 v2 I J h)
      · replace h := h.2 c5
        exact g_weak [0] rfl (Nat.le_refl _) (Nat.le_refl _) (wM_show_gc21  C   I J h)
theorem wM_k_show {D : gD} {ca : Nat → ClassId} {o : Nat → Nat} (v1 : Int32) (v2 : Int32) (I : gI) (J : gJ) (Q : Int32 → gI → gJ → Prop) (h : wM_show v1 v2 I J Q) : Ct yX12_show cX12_show 3 (some .int) (rl 1) D (tyW ca) 0 0 [.ref (o 0), .int v1, .int v2] (cM ca o I J) (PMi ca o Q) := ct_of (rm := rl 1) (by decide +kernel) (Nat.le_of_ble_eq_true rfl) (fun Γ C => wM_show_g v1 v2 I J C h)
set_option maxRecDepth 100000 in
theorem wM_holds_g {Γ : gT} {D : gD} {ca : Nat → ClassId} {o : Nat → Nat} {Q : Int32 → Prop} (v1 : Int32) (I : gI) (J : gJ) (C : Cx Γ cX12_holds RX12 2 D (tyW ca) (rl 1) (some .int) 0 0 (PPi ca o I J Q)) (h : wM_holds v1 I J Q) : G Γ 0 0 0 [(0, .ref (o 0)), (1, .int v1)] [] (cM ca o I J) := by
  unfold wM_holds at h
  refine g_aload_n C (i := 0) dX12_holds_0 rfl rfl ?_
  refine g_iload_n C (i := 1) dX12_holds_1 rfl rfl ?_
  refine m_callPz C rfl (wM_k_isShelf v1 I J _ h) 1 swM_isShelf (rl_ok (by decide) (by decide)) rfl (Nat.le_of_ble_eq_true rfl) (st := []) _ rfl dX12_holds_2 (fun r1 h => ?_)
  refine g_zeq C 17 dX12_holds_5 rfl (fun c2 => ?_) (fun c2 => ?_)
  · replace h := h.1 c2
    refine g_iconst_m1 C dX12_holds_17 ?_
    exact g_ret_i C dX12_holds_18 (Nat.le_refl _) (Nat.le_refl _) ⟨_, rfl, rfl, h⟩
  · replace h := h.2 c2
    refine g_aload_n C (i := 0) dX12_holds_8 rfl rfl ?_
    refine m_get_held C dX12_holds_9 ?_
    refine g_iload_n C (i := 1) dX12_holds_12 rfl rfl ?_
    obtain ⟨h3, h⟩ := h
    refine m_iald C (k := 5) (by decide) h3 dX12_holds_13 ?_
    refine g_if_ne C 19 dX12_holds_14 rfl (fun c4 => ?_) (fun c4 => ?_)
    · replace h := h.1 c4
      refine g_aload_n C (i := 0) dX12_holds_19 rfl rfl ?_
      refine m_get_held C dX12_holds_20 ?_
      refine g_iload_n C (i := 1) dX12_holds_23 rfl rfl ?_
      refine m_iald C (k := 5) (by decide) h3 dX12_holds_24 ?_
      refine g_iconst_1 C dX12_holds_25 ?_
      refine g_icmp_ne C 41 dX12_holds_26 rfl (fun c5 => ?_) (fun c5 => ?_)
      · replace h := h.1 c5
        refine g_aload_n C (i := 0) dX12_holds_41 rfl rfl ?_
        refine m_get_shown C dX12_holds_42 ?_
        refine g_iload_n C (i := 1) dX12_holds_45 rfl rfl ?_
        refine m_iald C (k := 8) (by decide) h3 dX12_holds_46 ?_
        exact g_ret_i C dX12_holds_47 (Nat.le_refl _) (Nat.le_refl _) ⟨_, rfl, rfl, h⟩
      · replace h := h.2 c5
        refine g_bipush C (v := 100) dX12_holds_29 (by decide) ?_
        refine g_aload_n C (i := 0) dX12_holds_31 rfl rfl ?_
        refine m_get_sort C dX12_holds_32 ?_
        refine g_iload_n C (i := 1) dX12_holds_35 rfl rfl ?_
        refine m_iald C (k := 6) (by decide) h3 dX12_holds_36 ?_
        refine g_iadd C dX12_holds_37 ?_
        refine g_goto C 47 dX12_holds_38 rfl ?_
        exact g_ret_i C dX12_holds_47 (Nat.le_refl _) (Nat.le_refl _) ⟨_, rfl, rfl, h⟩
    · replace h := h.2 c4
      refine g_iconst_m1 C dX12_holds_17 ?_
      exact g_ret_i C dX12_holds_18 (Nat.le_refl _) (Nat.le_refl _) ⟨_, rfl, rfl, h⟩
theorem wM_k_holds {D : gD} {ca : Nat → ClassId} {o : Nat → Nat} (v1 : Int32) (I : gI) (J : gJ) (Q : Int32 → Prop) (h : wM_holds v1 I J Q) : Ct yX12_holds cX12_holds 2 (some .int) (rl 1) D (tyW ca) 0 0 [.ref (o 0), .int v1] (cM ca o I J) (PPi ca o I J Q) := ct_of (rm := rl 1) (by decide +kernel) (Nat.le_of_ble_eq_true rfl) (fun Γ C => wM_holds_g v1 I J C h)
set_option maxRecDepth 100000 in
theorem wM_wants_g {Γ : gT} {D : gD} {ca : Nat → ClassId} {o : Nat → Nat} {Q : Int32 → Prop} (v1 : Int32) (I : gI) (J : gJ) (C : Cx Γ cX12_wants RX12 2 D (tyW ca) (rl 1) (some .int) 0 0 (PPi ca o I J Q)) (h : wM_wants v1 I J Q) : G Γ 0 0 0 [(0, .ref (o 0)), (1, .int v1)] [] (cM ca o I J) := by
  unfold wM_wants at h
  refine g_aload_n C (i := 0) dX12_wants_0 rfl rfl ?_
  refine g_iload_n C (i := 1) dX12_wants_1 rfl rfl ?_
  refine m_callPz C rfl (wM_k_isShelf v1 I J _ h) 1 swM_isShelf (rl_ok (by decide) (by decide)) rfl (Nat.le_of_ble_eq_true rfl) (st := []) _ rfl dX12_wants_2 (fun r1 h => ?_)
  refine g_zne C 12 dX12_wants_5 rfl (fun c2 => ?_) (fun c2 => ?_)
  · replace h := h.1 c2
    refine g_aload_n C (i := 0) dX12_wants_12 rfl rfl ?_
    refine m_get_held C dX12_wants_13 ?_
    refine g_iload_n C (i := 1) dX12_wants_16 rfl rfl ?_
    obtain ⟨h3, h⟩ := h
    refine m_iald C (k := 5) (by decide) h3 dX12_wants_17 ?_
    refine g_iconst_2 C dX12_wants_18 ?_
    refine g_icmp_ne C 27 dX12_wants_19 rfl (fun c4 => ?_) (fun c4 => ?_)
    · replace h := h.1 c4
      refine g_aload_n C (i := 0) dX12_wants_27 rfl rfl ?_
      refine m_get_held C dX12_wants_28 ?_
      refine g_iload_n C (i := 1) dX12_wants_31 rfl rfl ?_
      refine m_iald C (k := 5) (by decide) h3 dX12_wants_32 ?_
      refine g_if_ne C 41 dX12_wants_33 rfl (fun c5 => ?_) (fun c5 => ?_)
      · replace h := h.1 c5
        refine g_iconst_0 C dX12_wants_41 ?_
        exact g_ret_i C dX12_wants_42 (Nat.le_refl _) (Nat.le_refl _) ⟨_, rfl, rfl, h⟩
      · replace h := h.2 c5
        refine g_bipush C (v := (-3)) dX12_wants_36 (by decide) ?_
        refine g_goto C 42 dX12_wants_38 rfl ?_
        exact g_ret_i C dX12_wants_42 (Nat.le_refl _) (Nat.le_refl _) ⟨_, rfl, rfl, h⟩
    · replace h := h.2 c4
      refine g_bipush C (v := (-2)) dX12_wants_22 (by decide) ?_
      refine g_goto C 42 dX12_wants_24 rfl ?_
      exact g_ret_i C dX12_wants_42 (Nat.le_refl _) (Nat.le_refl _) ⟨_, rfl, rfl, h⟩
  · replace h := h.2 c2
    refine g_iconst_m1 C dX12_wants_8 ?_
    refine g_goto C 42 dX12_wants_9 rfl ?_
    exact g_ret_i C dX12_wants_42 (Nat.le_refl _) (Nat.le_refl _) ⟨_, rfl, rfl, h⟩
theorem wM_k_wants {D : gD} {ca : Nat → ClassId} {o : Nat → Nat} (v1 : Int32) (I : gI) (J : gJ) (Q : Int32 → Prop) (h : wM_wants v1 I J Q) : Ct yX12_wants cX12_wants 2 (some .int) (rl 1) D (tyW ca) 0 0 [.ref (o 0), .int v1] (cM ca o I J) (PPi ca o I J Q) := ct_of (rm := rl 1) (by decide +kernel) (Nat.le_of_ble_eq_true rfl) (fun Γ C => wM_wants_g v1 I J C h)
set_option maxRecDepth 100000 in
theorem wM_stripOf_gc81 {Γ : gT} {D : gD} {ca : Nat → ClassId} {o : Nat → Nat} {Q : Int32 → gI → gJ → Prop} (C : Cx Γ cX12_stripOf RX12 3 D (tyW ca) (rl 1) (some .int) 0 0 (PMi ca o Q)) (I : gI) (J : gJ) (h : wM_stripOf_c81 I J Q) : G Γ 0 0 81 [(0, .ref (o 0))] [] (cM ca o I J) := by
  unfold wM_stripOf_c81 at h
  refine g_aload_n C (i := 0) dX12_stripOf_81 rfl rfl ?_
  refine g_bipush C (v := (-5)) dX12_stripOf_82 (by decide) ?_
  refine m_calli C rfl (wM_k_no (-5) I J _ h) 1 swM_no (rl_ok (by decide) (by decide)) rfl (Nat.le_of_ble_eq_true rfl) (st := []) _ rfl dX12_stripOf_84 (fun r1 I2 J3 h => ?_)
  exact g_ret_i C dX12_stripOf_87 (Nat.le_refl _) (Nat.le_refl _) ⟨_, _, _, rfl, rfl, h⟩
set_option maxRecDepth 100000 in
theorem wM_stripOf_g {Γ : gT} {D : gD} {ca : Nat → ClassId} {o : Nat → Nat} {Q : Int32 → gI → gJ → Prop} (v1 : Int32) (v2 : Int32) (I : gI) (J : gJ) (C : Cx Γ cX12_stripOf RX12 3 D (tyW ca) (rl 1) (some .int) 0 0 (PMi ca o Q)) (h : wM_stripOf v1 v2 I J Q) : G Γ 0 0 0 [(0, .ref (o 0)), (1, .int v1), (2, .int v2)] [] (cM ca o I J) := by
  unfold wM_stripOf at h
  refine g_aload_n C (i := 0) dX12_stripOf_0 rfl rfl ?_
  refine g_iload_n C (i := 1) dX12_stripOf_1 rfl rfl ?_
  refine m_callPz C rfl (wM_k_isStrip v1 I J _ h) 1 swM_isStrip (rl_ok (by decide) (by decide)) rfl (Nat.le_of_ble_eq_true rfl) (st := []) _ rfl dX12_stripOf_2 (fun r1 h => ?_)
  refine g_zne C 15 dX12_stripOf_5 rfl (fun c2 => ?_) (fun c2 => ?_)
  · replace h := h.1 c2
    refine g_iload_n C (i := 2) dX12_stripOf_15 rfl rfl ?_
    refine g_if_ne C 26 dX12_stripOf_16 rfl (fun c3 => ?_) (fun c3 => ?_)
    · replace h := h.1 c3
      refine g_iload_n C (i := 2) dX12_stripOf_26 rfl rfl ?_
      refine g_iconst_1 C dX12_stripOf_27 ?_
      refine g_icmp_ne C 38 dX12_stripOf_28 rfl (fun c4 => ?_) (fun c4 => ?_)
      · replace h := h.1 c4
        refine g_iload_n C (i := 2) dX12_stripOf_38 rfl rfl ?_
        refine g_iconst_2 C dX12_stripOf_39 ?_
        refine g_icmp_ne C 50 dX12_stripOf_40 rfl (fun c5 => ?_) (fun c5 => ?_)
        · replace h := h.1 c5
          refine g_iload_n C (i := 2) dX12_stripOf_50 rfl rfl ?_
          refine g_bipush C (v := 10) dX12_stripOf_51 (by decide) ?_
          refine g_icmp_lt C 81 dX12_stripOf_53 rfl (fun c6 => ?_) (fun c6 => ?_)
          · replace h := h.1 c6
            exact g_weak [0] rfl (Nat.le_refl _) (Nat.le_refl _) (wM_stripOf_gc81  C   I J h)
          · replace h := h.2 c6
            refine g_iload_n C (i := 2) dX12_stripOf_56 rfl rfl ?_
            refine g_bipush C (v := 10) dX12_stripOf_57 (by decide) ?_
            refine g_aload_n C (i := 0) dX12_stripOf_59 rfl rfl ?_
            refine m_get_folds C dX12_stripOf_60 ?_
            refine g_iload_n C (i := 1) dX12_stripOf_63 rfl rfl ?_
            obtain ⟨h7, h⟩ := h
            refine m_iald C (k := 4) (by decide) h7 dX12_stripOf_64 ?_
            refine g_iadd C dX12_stripOf_65 ?_
            refine g_icmp_ge C 81 dX12_stripOf_66 rfl (fun c8 => ?_) (fun c8 => ?_)
            · replace h := h.1 c8
              exact g_weak [0] rfl (Nat.le_refl _) (Nat.le_refl _) (wM_stripOf_gc81  C   I J h)
            · replace h := h.2 c8
              refine g_aload_n C (i := 0) dX12_stripOf_69 rfl rfl ?_
              refine g_iload_n C (i := 1) dX12_stripOf_70 rfl rfl ?_
              refine g_iload_n C (i := 2) dX12_stripOf_71 rfl rfl ?_
              refine g_bipush C (v := 10) dX12_stripOf_72 (by decide) ?_
              refine g_isub C dX12_stripOf_74 ?_
              refine m_callPi C rfl (wM_k_letter v1 (v2 - 10) I J _ h) 2 swM_letter (rl_ok (by decide) (by decide)) rfl (Nat.le_of_ble_eq_true rfl) (st := []) _ rfl dX12_stripOf_75 (fun r9 h => ?_)
              refine g_goto C 87 dX12_stripOf_78 rfl ?_
              exact g_ret_i C dX12_stripOf_87 (Nat.le_refl _) (Nat.le_refl _) ⟨_, _, _, rfl, rfl, h⟩
        · replace h := h.2 c5
          refine g_aload_n C (i := 0) dX12_stripOf_43 rfl rfl ?_
          refine m_get_folds C dX12_stripOf_44 ?_
          refine g_iload_n C (i := 1) dX12_stripOf_47 rfl rfl ?_
          obtain ⟨h10, h⟩ := h
          refine m_iald C (k := 4) (by decide) h10 dX12_stripOf_48 ?_
          exact g_ret_i C dX12_stripOf_49 (Nat.le_refl _) (Nat.le_refl _) ⟨_, _, _, rfl, rfl, h⟩
      · replace h := h.2 c4
        refine g_aload_n C (i := 0) dX12_stripOf_31 rfl rfl ?_
        refine m_get_part C dX12_stripOf_32 ?_
        refine g_iload_n C (i := 1) dX12_stripOf_35 rfl rfl ?_
        obtain ⟨h11, h⟩ := h
        refine m_iald C (k := 3) (by decide) h11 dX12_stripOf_36 ?_
        exact g_ret_i C dX12_stripOf_37 (Nat.le_refl _) (Nat.le_refl _) ⟨_, _, _, rfl, rfl, h⟩
    · replace h := h.2 c3
      refine g_aload_n C (i := 0) dX12_stripOf_19 rfl rfl ?_
      refine m_get_kind C dX12_stripOf_20 ?_
      refine g_iload_n C (i := 1) dX12_stripOf_23 rfl rfl ?_
      obtain ⟨h12, h⟩ := h
      refine m_iald C (k := 2) (by decide) h12 dX12_stripOf_24 ?_
      exact g_ret_i C dX12_stripOf_25 (Nat.le_refl _) (Nat.le_refl _) ⟨_, _, _, rfl, rfl, h⟩
  · replace h := h.2 c2
    refine g_aload_n C (i := 0) dX12_stripOf_8 rfl rfl ?_
    refine g_bipush C (v := (-5)) dX12_stripOf_9 (by decide) ?_
    refine m_calli C rfl (wM_k_no (-5) I J _ h) 1 swM_no (rl_ok (by decide) (by decide)) rfl (Nat.le_of_ble_eq_true rfl) (st := []) _ rfl dX12_stripOf_11 (fun r13 I14 J15 h => ?_)
    exact g_ret_i C dX12_stripOf_14 (Nat.le_refl _) (Nat.le_refl _) ⟨_, _, _, rfl, rfl, h⟩
theorem wM_k_stripOf {D : gD} {ca : Nat → ClassId} {o : Nat → Nat} (v1 : Int32) (v2 : Int32) (I : gI) (J : gJ) (Q : Int32 → gI → gJ → Prop) (h : wM_stripOf v1 v2 I J Q) : Ct yX12_stripOf cX12_stripOf 3 (some .int) (rl 1) D (tyW ca) 0 0 [.ref (o 0), .int v1, .int v2] (cM ca o I J) (PMi ca o Q) := ct_of (rm := rl 1) (by decide +kernel) (Nat.le_of_ble_eq_true rfl) (fun Γ C => wM_stripOf_g v1 v2 I J C h)
set_option maxRecDepth 100000 in
theorem wM_turn_gc28 {Γ : gT} {D : gD} {ca : Nat → ClassId} {o : Nat → Nat} {Q : Int32 → gI → gJ → Prop} (C : Cx Γ cX12_turn RX12 4 D (tyW ca) (rl 1) (some .int) 0 0 (PMi ca o Q)) (I : gI) (J : gJ) (h : wM_turn_c28 I J Q) : G Γ 0 0 28 [(0, .ref (o 0))] [] (cM ca o I J) := by
  unfold wM_turn_c28 at h
  refine g_aload_n C (i := 0) dX12_turn_28 rfl rfl ?_
  refine g_bipush C (v := (-5)) dX12_turn_29 (by decide) ?_
  refine m_calli C rfl (wM_k_no (-5) I J _ h) 1 swM_no (rl_ok (by decide) (by decide)) rfl (Nat.le_of_ble_eq_true rfl) (st := []) _ rfl dX12_turn_31 (fun r1 I2 J3 h => ?_)
  exact g_ret_i C dX12_turn_34 (Nat.le_refl _) (Nat.le_refl _) ⟨_, _, _, rfl, rfl, h⟩
set_option maxRecDepth 100000 in
theorem wM_turn_g {Γ : gT} {D : gD} {ca : Nat → ClassId} {o : Nat → Nat} {Q : Int32 → gI → gJ → Prop} (v1 : Int32) (v2 : Int32) (I : gI) (J : gJ) (C : Cx Γ cX12_turn RX12 4 D (tyW ca) (rl 1) (some .int) 0 0 (PMi ca o Q)) (h : wM_turn v1 v2 I J Q) : G Γ 0 0 0 [(0, .ref (o 0)), (1, .int v1), (2, .int v2)] [] (cM ca o I J) := by
  unfold wM_turn at h
  refine g_aload_n C (i := 0) dX12_turn_0 rfl rfl ?_
  refine g_iload_n C (i := 1) dX12_turn_1 rfl rfl ?_
  refine m_callPz C rfl (wM_k_isStrip v1 I J _ h) 1 swM_isStrip (rl_ok (by decide) (by decide)) rfl (Nat.le_of_ble_eq_true rfl) (st := []) _ rfl dX12_turn_2 (fun r1 h => ?_)
  refine g_zne C 14 dX12_turn_5 rfl (fun c2 => ?_) (fun c2 => ?_)
  · replace h := h.1 c2
    refine g_iload_n C (i := 2) dX12_turn_14 rfl rfl ?_
    refine g_if_lt C 28 dX12_turn_15 rfl (fun c3 => ?_) (fun c3 => ?_)
    · replace h := h.1 c3
      exact g_weak [0] rfl (Nat.le_refl _) (Nat.le_refl _) (wM_turn_gc28  C   I J h)
    · replace h := h.2 c3
      refine g_iload_n C (i := 2) dX12_turn_18 rfl rfl ?_
      refine g_aload_n C (i := 0) dX12_turn_19 rfl rfl ?_
      refine m_get_folds C dX12_turn_20 ?_
      refine g_iload_n C (i := 1) dX12_turn_23 rfl rfl ?_
      obtain ⟨h4, h⟩ := h
      refine m_iald C (k := 4) (by decide) h4 dX12_turn_24 ?_
      refine g_icmp_lt C 35 dX12_turn_25 rfl (fun c5 => ?_) (fun c5 => ?_)
      · replace h := h.1 c5
        refine g_aload_n C (i := 0) dX12_turn_35 rfl rfl ?_
        refine g_iload_n C (i := 1) dX12_turn_36 rfl rfl ?_
        refine g_iload_n C (i := 2) dX12_turn_37 rfl rfl ?_
        refine m_callPi C rfl (wM_k_letter v1 v2 I J _ h) 2 swM_letter (rl_ok (by decide) (by decide)) rfl (Nat.le_of_ble_eq_true rfl) (st := []) _ rfl dX12_turn_38 (fun r6 h => ?_)
        refine g_istore_n C (i := 3) [(0, .ref (o 0)), (1, .int v1), (2, .int v2), (3, .int r6)] dX12_turn_41 rfl (by decide) rfl ?_
        refine g_aload_n C (i := 0) dX12_turn_42 rfl rfl ?_
        refine m_get_word C dX12_turn_43 ?_
        refine g_iload_n C (i := 1) dX12_turn_46 rfl rfl ?_
        refine g_dup2 C dX12_turn_47 rfl rfl ?_
        refine m_lald C (k := 1) (by decide) h4 dX12_turn_48 ?_
        refine g_lconst_1 C dX12_turn_49 ?_
        refine g_iload_n C (i := 2) dX12_turn_50 rfl rfl ?_
        refine g_lshl C dX12_turn_51 ?_
        refine g_lxor C dX12_turn_52 ?_
        refine m_last C (k := 1) (by decide) h4 dX12_turn_53 ?_
        refine m_nmJ _ (fun J7 e8 => ?_)
        replace h := h J7 e8
        refine g_iload_n C (i := 3) dX12_turn_54 rfl rfl ?_
        exact g_ret_i C dX12_turn_55 (Nat.le_refl _) (Nat.le_refl _) ⟨_, _, _, rfl, rfl, h⟩
      · replace h := h.2 c5
        exact g_weak [0] rfl (Nat.le_refl _) (Nat.le_refl _) (wM_turn_gc28  C   I J h)
  · replace h := h.2 c2
    refine g_aload_n C (i := 0) dX12_turn_8 rfl rfl ?_
    refine g_iconst_m1 C dX12_turn_9 ?_
    refine m_calli C rfl (wM_k_no (-1) I J _ h) 1 swM_no (rl_ok (by decide) (by decide)) rfl (Nat.le_of_ble_eq_true rfl) (st := []) _ rfl dX12_turn_10 (fun r9 I10 J11 h => ?_)
    exact g_ret_i C dX12_turn_13 (Nat.le_refl _) (Nat.le_refl _) ⟨_, _, _, rfl, rfl, h⟩
theorem wM_k_turn {D : gD} {ca : Nat → ClassId} {o : Nat → Nat} (v1 : Int32) (v2 : Int32) (I : gI) (J : gJ) (Q : Int32 → gI → gJ → Prop) (h : wM_turn v1 v2 I J Q) : Ct yX12_turn cX12_turn 4 (some .int) (rl 1) D (tyW ca) 0 0 [.ref (o 0), .int v1, .int v2] (cM ca o I J) (PMi ca o Q) := ct_of (rm := rl 1) (by decide +kernel) (Nat.le_of_ble_eq_true rfl) (fun Γ C => wM_turn_g v1 v2 I J C h)
set_option maxRecDepth 100000 in
theorem wM_number_gc87 {Γ : gT} {D : gD} {ca : Nat → ClassId} {o : Nat → Nat} {Q : Bool → gI → gJ → Prop} (C : Cx Γ cX12_number RX12 4 D (tyW ca) (rl 1) (some .boolean) 0 0 (PMz ca o Q)) (v1 : Int32) (v2 : Int32) (I : gI) (J : gJ) (h : wM_number_c87 v1 v2 I J Q) : G Γ 0 0 87 [(0, .ref (o 0)), (1, .int v1), (2, .int v2)] [] (cM ca o I J) := by
  unfold wM_number_c87 at h
  refine g_aload_n C (i := 0) dX12_number_87 rfl rfl ?_
  refine m_get_told C dX12_number_88 ?_
  refine g_iload_n C (i := 1) dX12_number_91 rfl rfl ?_
  refine g_icmp_le C 103 dX12_number_92 rfl (fun c1 => ?_) (fun c1 => ?_)
  · replace h := h.1 c1
    refine g_iconst_1 C dX12_number_103 ?_
    refine g_goto C 108 dX12_number_104 rfl ?_
    exact g_ret_z C true rfl dX12_number_108 (Nat.le_refl _) (Nat.le_refl _) ⟨_, _, _, rfl, rfl, h⟩
  · replace h := h.2 c1
    refine g_aload_n C (i := 0) dX12_number_95 rfl rfl ?_
    refine g_iload_n C (i := 2) dX12_number_96 rfl rfl ?_
    refine m_callz C rfl (wM_k_isWrong v2 I J _ h) 1 swM_isWrong (rl_ok (by decide) (by decide)) rfl (Nat.le_of_ble_eq_true rfl) (st := []) _ rfl dX12_number_97 (fun r2 I3 J4 h => ?_)
    refine g_zeq C 107 dX12_number_100 rfl (fun c5 => ?_) (fun c5 => ?_)
    · replace h := h.1 c5
      refine g_iconst_0 C dX12_number_107 ?_
      exact g_ret_z C false rfl dX12_number_108 (Nat.le_refl _) (Nat.le_refl _) ⟨_, _, _, rfl, rfl, h⟩
    · replace h := h.2 c5
      refine g_iconst_1 C dX12_number_103 ?_
      refine g_goto C 108 dX12_number_104 rfl ?_
      exact g_ret_z C true rfl dX12_number_108 (Nat.le_refl _) (Nat.le_refl _) ⟨_, _, _, rfl, rfl, h⟩
set_option maxRecDepth 100000 in
theorem wM_number_gb28 {Γ : gT} {D : gD} {ca : Nat → ClassId} {o : Nat → Nat} {Q : Bool → gI → gJ → Prop} (C : Cx Γ cX12_number RX12 4 D (tyW ca) (rl 1) (some .boolean) 0 0 (PMz ca o Q)) {B28 : Int32 → Int32 → Int32 → gI → gJ → Prop} (hB28 : ∀ (v1 : Int32) (v2 : Int32) (v3 : Int32) (I : gI) (J : gJ), B28 v1 v2 v3 I J → G Γ 0 0 28 [(0, .ref (o 0)), (1, .int v1), (2, .int v2), (3, .int v3)] [] (cM ca o I J)) (v1 : Int32) (v2 : Int32) (v3 : Int32) (I : gI) (J : gJ) (h : wM_number_b28 B28 v1 v2 v3 I J Q) : G Γ 0 0 28 [(0, .ref (o 0)), (1, .int v1), (2, .int v2), (3, .int v3)] [] (cM ca o I J) := by
  unfold wM_number_b28 at h
  refine g_iload_n C (i := 3) dX12_number_28 rfl rfl ?_
  refine g_bipush C (v := 6) dX12_number_29 (by decide) ?_
  refine g_icmp_ge C 87 dX12_number_31 rfl (fun c1 => ?_) (fun c1 => ?_)
  · replace h := h.1 c1
    exact g_weak [0, 1, 2] rfl (Nat.le_refl _) (Nat.le_refl _) (wM_number_gc87  C  v1 v2 I J h)
  · replace h := h.2 c1
    refine g_aload_n C (i := 0) dX12_number_34 rfl rfl ?_
    refine m_callPz C rfl (wM_k_isDigit I J _ h) 0 swM_isDigit (rl_ok (by decide) (by decide)) rfl (Nat.le_of_ble_eq_true rfl) (st := []) _ rfl dX12_number_35 (fun r2 h => ?_)
    refine g_zeq C 87 dX12_number_38 rfl (fun c3 => ?_) (fun c3 => ?_)
    · replace h := h.1 c3
      exact g_weak [0, 1, 2] rfl (Nat.le_refl _) (Nat.le_refl _) (wM_number_gc87  C  v1 v2 I J h)
    · replace h := h.2 c3
      refine g_aload_n C (i := 0) dX12_number_41 rfl rfl ?_
      refine g_bipush C (v := 10) dX12_number_42 (by decide) ?_
      refine g_aload_n C (i := 0) dX12_number_44 rfl rfl ?_
      refine m_get_told C dX12_number_45 ?_
      refine g_imul C dX12_number_48 ?_
      refine g_aload_n C (i := 0) dX12_number_49 rfl rfl ?_
      refine m_get_cells C dX12_number_50 ?_
      refine g_aload_n C (i := 0) dX12_number_53 rfl rfl ?_
      refine m_get_base C dX12_number_54 ?_
      refine g_aload_n C (i := 0) dX12_number_57 rfl rfl ?_
      refine m_get_place C dX12_number_58 ?_
      refine g_iadd C dX12_number_61 ?_
      obtain ⟨h4, h⟩ := h
      refine m_lald C (k := 2) (by decide) h4 dX12_number_62 ?_
      refine g_l2i C dX12_number_63 ?_
      refine g_iadd C dX12_number_64 ?_
      refine g_bipush C (v := 48) dX12_number_65 (by decide) ?_
      refine g_isub C dX12_number_67 ?_
      refine m_put_told C dX12_number_68 ?_
      refine m_nmI _ (fun I5 e6 => ?_)
      replace h := h I5 e6
      refine g_aload_n C (i := 0) dX12_number_71 rfl rfl ?_
      refine g_dup C dX12_number_72 rfl ?_
      refine m_get_place C dX12_number_73 ?_
      refine g_iconst_1 C dX12_number_76 ?_
      refine g_iadd C dX12_number_77 ?_
      refine m_put_place C dX12_number_78 ?_
      refine m_nmI _ (fun I7 e8 => ?_)
      replace h := h I7 e8
      refine g_iinc C 1 [(0, .ref (o 0)), (1, .int v1), (2, .int v2), (3, .int (v3 + 1))] dX12_number_81 rfl (by decide) (by decide) rfl ?_
      refine g_goto C 28 dX12_number_84 rfl ?_
      exact g_weak [0, 1, 2, 3] rfl (Nat.le_refl _) (Nat.le_refl _) (hB28 v1 v2 (v3 + 1) I7 J h)
theorem wM_number_gl28 {Γ : gT} {D : gD} {ca : Nat → ClassId} {o : Nat → Nat} {Q : Bool → gI → gJ → Prop} (C : Cx Γ cX12_number RX12 4 D (tyW ca) (rl 1) (some .boolean) 0 0 (PMz ca o Q)) : ∀ (n : Nat) (v1 : Int32) (v2 : Int32) (v3 : Int32) (I : gI) (J : gJ) (_ : wM_number_l28 Q n v1 v2 v3 I J), G Γ 0 0 28 [(0, .ref (o 0)), (1, .int v1), (2, .int v2), (3, .int v3)] [] (cM ca o I J) := by
  intro n
  induction n with
  | zero => intro v1 v2 v3 I J h; exact h.elim
  | succ n ih => intro v1 v2 v3 I J h; exact wM_number_gb28 C ih v1 v2 v3 I J h
set_option maxRecDepth 100000 in
theorem wM_number_g {Γ : gT} {D : gD} {ca : Nat → ClassId} {o : Nat → Nat} {Q : Bool → gI → gJ → Prop} (v1 : Int32) (I : gI) (J : gJ) (C : Cx Γ cX12_number RX12 4 D (tyW ca) (rl 1) (some .boolean) 0 0 (PMz ca o Q)) (h : wM_number v1 I J Q) : G Γ 0 0 0 [(0, .ref (o 0)), (1, .int v1)] [] (cM ca o I J) := by
  unfold wM_number at h
  refine g_aload_n C (i := 0) dX12_number_0 rfl rfl ?_
  refine m_get_place C dX12_number_1 ?_
  refine g_istore_n C (i := 2) [(0, .ref (o 0)), (1, .int v1), (2, .int (I 0 3))] dX12_number_4 rfl (by decide) rfl ?_
  refine g_aload_n C (i := 0) dX12_number_5 rfl rfl ?_
  refine g_iconst_0 C dX12_number_6 ?_
  refine m_put_told C dX12_number_7 ?_
  refine m_nmI _ (fun I1 e2 => ?_)
  replace h := h I1 e2
  refine g_aload_n C (i := 0) dX12_number_10 rfl rfl ?_
  refine m_callPz C rfl (wM_k_isDigit I1 J _ h) 0 swM_isDigit (rl_ok (by decide) (by decide)) rfl (Nat.le_of_ble_eq_true rfl) (st := []) _ rfl dX12_number_11 (fun r3 h => ?_)
  refine g_zne C 26 dX12_number_14 rfl (fun c4 => ?_) (fun c4 => ?_)
  · replace h := h.1 c4
    refine g_iconst_0 C dX12_number_26 ?_
    refine g_istore_n C (i := 3) [(0, .ref (o 0)), (1, .int v1), (2, .int (I 0 3)), (3, .int 0)] dX12_number_27 rfl (by decide) rfl ?_
    obtain ⟨n, h⟩ := h
    exact g_weak [0, 1, 2, 3] rfl (Nat.le_refl _) (Nat.le_refl _) (wM_number_gl28  C  n v1 (I 0 3) 0 I1 J h)
  · replace h := h.2 c4
    refine g_aload_n C (i := 0) dX12_number_17 rfl rfl ?_
    refine g_aload_n C (i := 0) dX12_number_18 rfl rfl ?_
    refine m_get_place C dX12_number_19 ?_
    refine m_callz C rfl (wM_k_isWrong (I1 0 3) I1 J _ h) 1 swM_isWrong (rl_ok (by decide) (by decide)) rfl (Nat.le_of_ble_eq_true rfl) (st := []) _ rfl dX12_number_22 (fun r5 I6 J7 h => ?_)
    exact g_ret_z C r5 rfl dX12_number_25 (Nat.le_refl _) (Nat.le_refl _) ⟨_, _, _, rfl, rfl, h⟩
theorem wM_k_number {D : gD} {ca : Nat → ClassId} {o : Nat → Nat} (v1 : Int32) (I : gI) (J : gJ) (Q : Bool → gI → gJ → Prop) (h : wM_number v1 I J Q) : Ct yX12_number cX12_number 4 (some .boolean) (rl 1) D (tyW ca) 0 0 [.ref (o 0), .int v1] (cM ca o I J) (PMz ca o Q) := ct_of (rm := rl 1) (by decide +kernel) (Nat.le_of_ble_eq_true rfl) (fun Γ C => wM_number_g v1 I J C h)
set_option maxRecDepth 100000 in
theorem wM_blank_gc31 {Γ : gT} {D : gD} {ca : Nat → ClassId} {o : Nat → Nat} {Q : Bool → gI → gJ → Prop} (C : Cx Γ cX12_blank RX12 1 D (tyW ca) (rl 1) (some .boolean) 0 0 (PMz ca o Q)) (I : gI) (J : gJ) (h : wM_blank_c31 I J Q) : G Γ 0 0 31 [(0, .ref (o 0))] [] (cM ca o I J) := by
  unfold wM_blank_c31 at h
  refine g_aload_n C (i := 0) dX12_blank_31 rfl rfl ?_
  refine g_aload_n C (i := 0) dX12_blank_32 rfl rfl ?_
  refine m_get_place C dX12_blank_33 ?_
  refine m_callz C rfl (wM_k_isWrong (I 0 3) I J _ h) 1 swM_isWrong (rl_ok (by decide) (by decide)) rfl (Nat.le_of_ble_eq_true rfl) (st := []) _ rfl dX12_blank_36 (fun r1 I2 J3 h => ?_)
  exact g_ret_z C r1 rfl dX12_blank_39 (Nat.le_refl _) (Nat.le_refl _) ⟨_, _, _, rfl, rfl, h⟩
set_option maxRecDepth 100000 in
theorem wM_blank_g {Γ : gT} {D : gD} {ca : Nat → ClassId} {o : Nat → Nat} {Q : Bool → gI → gJ → Prop} (I : gI) (J : gJ) (C : Cx Γ cX12_blank RX12 1 D (tyW ca) (rl 1) (some .boolean) 0 0 (PMz ca o Q)) (h : wM_blank I J Q) : G Γ 0 0 0 [(0, .ref (o 0))] [] (cM ca o I J) := by
  unfold wM_blank at h
  refine g_aload_n C (i := 0) dX12_blank_0 rfl rfl ?_
  refine m_get_place C dX12_blank_1 ?_
  refine g_aload_n C (i := 0) dX12_blank_4 rfl rfl ?_
  refine m_get_end C dX12_blank_5 ?_
  refine g_icmp_ge C 31 dX12_blank_8 rfl (fun c1 => ?_) (fun c1 => ?_)
  · replace h := h.1 c1
    exact g_weak [0] rfl (Nat.le_refl _) (Nat.le_refl _) (wM_blank_gc31  C   I J h)
  · replace h := h.2 c1
    refine g_aload_n C (i := 0) dX12_blank_11 rfl rfl ?_
    refine m_get_cells C dX12_blank_12 ?_
    refine g_aload_n C (i := 0) dX12_blank_15 rfl rfl ?_
    refine m_get_base C dX12_blank_16 ?_
    refine g_aload_n C (i := 0) dX12_blank_19 rfl rfl ?_
    refine m_get_place C dX12_blank_20 ?_
    refine g_iadd C dX12_blank_23 ?_
    obtain ⟨h2, h⟩ := h
    refine m_lald C (k := 2) (by decide) h2 dX12_blank_24 ?_
    refine g_l2i C dX12_blank_25 ?_
    refine g_bipush C (v := 32) dX12_blank_26 (by decide) ?_
    refine g_icmp_eq C 40 dX12_blank_28 rfl (fun c3 => ?_) (fun c3 => ?_)
    · replace h := h.1 c3
      refine g_aload_n C (i := 0) dX12_blank_40 rfl rfl ?_
      refine g_dup C dX12_blank_41 rfl ?_
      refine m_get_place C dX12_blank_42 ?_
      refine g_iconst_1 C dX12_blank_45 ?_
      refine g_iadd C dX12_blank_46 ?_
      refine m_put_place C dX12_blank_47 ?_
      refine m_nmI _ (fun I4 e5 => ?_)
      replace h := h I4 e5
      refine g_iconst_1 C dX12_blank_50 ?_
      exact g_ret_z C true rfl dX12_blank_51 (Nat.le_refl _) (Nat.le_refl _) ⟨_, _, _, rfl, rfl, h⟩
    · replace h := h.2 c3
      exact g_weak [0] rfl (Nat.le_refl _) (Nat.le_refl _) (wM_blank_gc31  C   I J h)
theorem wM_k_blank {D : gD} {ca : Nat → ClassId} {o : Nat → Nat} (I : gI) (J : gJ) (Q : Bool → gI → gJ → Prop) (h : wM_blank I J Q) : Ct yX12_blank cX12_blank 1 (some .boolean) (rl 1) D (tyW ca) 0 0 [.ref (o 0)] (cM ca o I J) (PMz ca o Q) := ct_of (rm := rl 1) (by decide +kernel) (Nat.le_of_ble_eq_true rfl) (fun Γ C => wM_blank_g I J C h)
set_option maxRecDepth 100000 in
theorem wM_letters_gc136 {Γ : gT} {D : gD} {ca : Nat → ClassId} {o : Nat → Nat} {Q : Bool → gI → gJ → Prop} (C : Cx Γ cX12_letters RX12 2 D (tyW ca) (rl 1) (some .boolean) 0 0 (PMz ca o Q)) (I : gI) (J : gJ) (h : wM_letters_c136 I J Q) : G Γ 0 0 136 [(0, .ref (o 0))] [] (cM ca o I J) := by
  unfold wM_letters_c136 at h
  refine g_aload_n C (i := 0) dX12_letters_136 rfl rfl ?_
  refine m_get_toldMany C dX12_letters_137 ?_
  refine g_if_gt C 154 dX12_letters_140 rfl (fun c1 => ?_) (fun c1 => ?_)
  · replace h := h.1 c1
    refine g_iconst_1 C dX12_letters_154 ?_
    refine g_goto C 159 dX12_letters_155 rfl ?_
    exact g_ret_z C true rfl dX12_letters_159 (Nat.le_refl _) (Nat.le_refl _) ⟨_, _, _, rfl, rfl, h⟩
  · replace h := h.2 c1
    refine g_aload_n C (i := 0) dX12_letters_143 rfl rfl ?_
    refine g_aload_n C (i := 0) dX12_letters_144 rfl rfl ?_
    refine m_get_place C dX12_letters_145 ?_
    refine m_callz C rfl (wM_k_isWrong (I 0 3) I J _ h) 1 swM_isWrong (rl_ok (by decide) (by decide)) rfl (Nat.le_of_ble_eq_true rfl) (st := []) _ rfl dX12_letters_148 (fun r2 I3 J4 h => ?_)
    refine g_zeq C 158 dX12_letters_151 rfl (fun c5 => ?_) (fun c5 => ?_)
    · replace h := h.1 c5
      refine g_iconst_0 C dX12_letters_158 ?_
      exact g_ret_z C false rfl dX12_letters_159 (Nat.le_refl _) (Nat.le_refl _) ⟨_, _, _, rfl, rfl, h⟩
    · replace h := h.2 c5
      refine g_iconst_1 C dX12_letters_154 ?_
      refine g_goto C 159 dX12_letters_155 rfl ?_
      exact g_ret_z C true rfl dX12_letters_159 (Nat.le_refl _) (Nat.le_refl _) ⟨_, _, _, rfl, rfl, h⟩
set_option maxRecDepth 100000 in
theorem wM_letters_gc113 {Γ : gT} {D : gD} {ca : Nat → ClassId} {o : Nat → Nat} {Q : Bool → gI → gJ → Prop} (C : Cx Γ cX12_letters RX12 2 D (tyW ca) (rl 1) (some .boolean) 0 0 (PMz ca o Q)) {B10 : Int32 → gI → gJ → Prop} (hB10 : ∀ (v1 : Int32) (I : gI) (J : gJ), B10 v1 I J → G Γ 0 0 10 [(0, .ref (o 0)), (1, .int v1)] [] (cM ca o I J)) (v1 : Int32) (I : gI) (J : gJ) (h : wM_letters_c113 B10 v1 I J Q) : G Γ 0 0 113 [(0, .ref (o 0)), (1, .int v1)] [] (cM ca o I J) := by
  unfold wM_letters_c113 at h
  refine g_aload_n C (i := 0) dX12_letters_113 rfl rfl ?_
  refine g_dup C dX12_letters_114 rfl ?_
  refine m_get_toldMany C dX12_letters_115 ?_
  refine g_iconst_1 C dX12_letters_118 ?_
  refine g_iadd C dX12_letters_119 ?_
  refine m_put_toldMany C dX12_letters_120 ?_
  refine m_nmI _ (fun I1 e2 => ?_)
  replace h := h I1 e2
  refine g_aload_n C (i := 0) dX12_letters_123 rfl rfl ?_
  refine g_dup C dX12_letters_124 rfl ?_
  refine m_get_place C dX12_letters_125 ?_
  refine g_iconst_1 C dX12_letters_128 ?_
  refine g_iadd C dX12_letters_129 ?_
  refine m_put_place C dX12_letters_130 ?_
  refine m_nmI _ (fun I3 e4 => ?_)
  replace h := h I3 e4
  refine g_goto C 10 dX12_letters_133 rfl ?_
  exact g_weak [0, 1] rfl (Nat.le_refl _) (Nat.le_refl _) (hB10 v1 I3 J h)
set_option maxRecDepth 100000 in
theorem wM_letters_gc61 {Γ : gT} {D : gD} {ca : Nat → ClassId} {o : Nat → Nat} {Q : Bool → gI → gJ → Prop} (C : Cx Γ cX12_letters RX12 2 D (tyW ca) (rl 1) (some .boolean) 0 0 (PMz ca o Q)) {B10 : Int32 → gI → gJ → Prop} (hB10 : ∀ (v1 : Int32) (I : gI) (J : gJ), B10 v1 I J → G Γ 0 0 10 [(0, .ref (o 0)), (1, .int v1)] [] (cM ca o I J)) (v1 : Int32) (I : gI) (J : gJ) (h : wM_letters_c61 B10 v1 I J Q) : G Γ 0 0 61 [(0, .ref (o 0)), (1, .int v1)] [] (cM ca o I J) := by
  unfold wM_letters_c61 at h
  refine g_aload_n C (i := 0) dX12_letters_61 rfl rfl ?_
  refine m_get_toldMany C dX12_letters_62 ?_
  refine g_iload_n C (i := 1) dX12_letters_65 rfl rfl ?_
  refine g_icmp_ne C 78 dX12_letters_66 rfl (fun c1 => ?_) (fun c1 => ?_)
  · replace h := h.1 c1
    refine g_aload_n C (i := 0) dX12_letters_78 rfl rfl ?_
    refine m_get_cells C dX12_letters_79 ?_
    refine g_aload_n C (i := 0) dX12_letters_82 rfl rfl ?_
    refine m_get_base C dX12_letters_83 ?_
    refine g_aload_n C (i := 0) dX12_letters_86 rfl rfl ?_
    refine m_get_place C dX12_letters_87 ?_
    refine g_iadd C dX12_letters_90 ?_
    obtain ⟨h2, h⟩ := h
    refine m_lald C (k := 2) (by decide) h2 dX12_letters_91 ?_
    refine g_l2i C dX12_letters_92 ?_
    refine g_bipush C (v := 108) dX12_letters_93 (by decide) ?_
    refine g_icmp_ne C 113 dX12_letters_95 rfl (fun c3 => ?_) (fun c3 => ?_)
    · replace h := h.1 c3
      exact g_weak [0, 1] rfl (Nat.le_refl _) (Nat.le_refl _) (wM_letters_gc113  C hB10 v1 I J h)
    · replace h := h.2 c3
      refine g_aload_n C (i := 0) dX12_letters_98 rfl rfl ?_
      refine g_dup C dX12_letters_99 rfl ?_
      refine m_get_toldWord C dX12_letters_100 ?_
      refine g_lconst_1 C dX12_letters_103 ?_
      refine g_aload_n C (i := 0) dX12_letters_104 rfl rfl ?_
      refine m_get_toldMany C dX12_letters_105 ?_
      refine g_lshl C dX12_letters_108 ?_
      refine g_lor C dX12_letters_109 ?_
      refine m_put_toldWord C dX12_letters_110 ?_
      refine m_nmJ _ (fun J4 e5 => ?_)
      replace h := h J4 e5
      exact g_weak [0, 1] rfl (Nat.le_refl _) (Nat.le_refl _) (wM_letters_gc113  C hB10 v1 I J4 h)
  · replace h := h.2 c1
    refine g_aload_n C (i := 0) dX12_letters_69 rfl rfl ?_
    refine g_aload_n C (i := 0) dX12_letters_70 rfl rfl ?_
    refine m_get_place C dX12_letters_71 ?_
    refine m_callz C rfl (wM_k_isWrong (I 0 3) I J _ h) 1 swM_isWrong (rl_ok (by decide) (by decide)) rfl (Nat.le_of_ble_eq_true rfl) (st := []) _ rfl dX12_letters_74 (fun r6 I7 J8 h => ?_)
    exact g_ret_z C r6 rfl dX12_letters_77 (Nat.le_refl _) (Nat.le_refl _) ⟨_, _, _, rfl, rfl, h⟩
set_option maxRecDepth 100000 in
theorem wM_letters_gb10 {Γ : gT} {D : gD} {ca : Nat → ClassId} {o : Nat → Nat} {Q : Bool → gI → gJ → Prop} (C : Cx Γ cX12_letters RX12 2 D (tyW ca) (rl 1) (some .boolean) 0 0 (PMz ca o Q)) {B10 : Int32 → gI → gJ → Prop} (hB10 : ∀ (v1 : Int32) (I : gI) (J : gJ), B10 v1 I J → G Γ 0 0 10 [(0, .ref (o 0)), (1, .int v1)] [] (cM ca o I J)) (v1 : Int32) (I : gI) (J : gJ) (h : wM_letters_b10 B10 v1 I J Q) : G Γ 0 0 10 [(0, .ref (o 0)), (1, .int v1)] [] (cM ca o I J) := by
  unfold wM_letters_b10 at h
  refine g_aload_n C (i := 0) dX12_letters_10 rfl rfl ?_
  refine m_get_place C dX12_letters_11 ?_
  refine g_aload_n C (i := 0) dX12_letters_14 rfl rfl ?_
  refine m_get_end C dX12_letters_15 ?_
  refine g_icmp_ge C 136 dX12_letters_18 rfl (fun c1 => ?_) (fun c1 => ?_)
  · replace h := h.1 c1
    exact g_weak [0] rfl (Nat.le_refl _) (Nat.le_refl _) (wM_letters_gc136  C   I J h)
  · replace h := h.2 c1
    refine g_aload_n C (i := 0) dX12_letters_21 rfl rfl ?_
    refine m_get_cells C dX12_letters_22 ?_
    refine g_aload_n C (i := 0) dX12_letters_25 rfl rfl ?_
    refine m_get_base C dX12_letters_26 ?_
    refine g_aload_n C (i := 0) dX12_letters_29 rfl rfl ?_
    refine m_get_place C dX12_letters_30 ?_
    refine g_iadd C dX12_letters_33 ?_
    obtain ⟨h2, h⟩ := h
    refine m_lald C (k := 2) (by decide) h2 dX12_letters_34 ?_
    refine g_l2i C dX12_letters_35 ?_
    refine g_bipush C (v := 108) dX12_letters_36 (by decide) ?_
    refine g_icmp_eq C 61 dX12_letters_38 rfl (fun c3 => ?_) (fun c3 => ?_)
    · replace h := h.1 c3
      exact g_weak [0, 1] rfl (Nat.le_refl _) (Nat.le_refl _) (wM_letters_gc61  C hB10 v1 I J h)
    · replace h := h.2 c3
      refine g_aload_n C (i := 0) dX12_letters_41 rfl rfl ?_
      refine m_get_cells C dX12_letters_42 ?_
      refine g_aload_n C (i := 0) dX12_letters_45 rfl rfl ?_
      refine m_get_base C dX12_letters_46 ?_
      refine g_aload_n C (i := 0) dX12_letters_49 rfl rfl ?_
      refine m_get_place C dX12_letters_50 ?_
      refine g_iadd C dX12_letters_53 ?_
      refine m_lald C (k := 2) (by decide) h2 dX12_letters_54 ?_
      refine g_l2i C dX12_letters_55 ?_
      refine g_bipush C (v := 114) dX12_letters_56 (by decide) ?_
      refine g_icmp_ne C 136 dX12_letters_58 rfl (fun c4 => ?_) (fun c4 => ?_)
      · replace h := h.1 c4
        exact g_weak [0] rfl (Nat.le_refl _) (Nat.le_refl _) (wM_letters_gc136  C   I J h)
      · replace h := h.2 c4
        exact g_weak [0, 1] rfl (Nat.le_refl _) (Nat.le_refl _) (wM_letters_gc61  C hB10 v1 I J h)
theorem wM_letters_gl10 {Γ : gT} {D : gD} {ca : Nat → ClassId} {o : Nat → Nat} {Q : Bool → gI → gJ → Prop} (C : Cx Γ cX12_letters RX12 2 D (tyW ca) (rl 1) (some .boolean) 0 0 (PMz ca o Q)) : ∀ (n : Nat) (v1 : Int32) (I : gI) (J : gJ) (_ : wM_letters_l10 Q n v1 I J), G Γ 0 0 10 [(0, .ref (o 0)), (1, .int v1)] [] (cM ca o I J) := by
  intro n
  induction n with
  | zero => intro v1 I J h; exact h.elim
  | succ n ih => intro v1 I J h; exact wM_letters_gb10 C ih v1 I J h
set_option maxRecDepth 100000 in
theorem wM_letters_g {Γ : gT} {D : gD} {ca : Nat → ClassId} {o : Nat → Nat} {Q : Bool → gI → gJ → Prop} (v1 : Int32) (I : gI) (J : gJ) (C : Cx Γ cX12_letters RX12 2 D (tyW ca) (rl 1) (some .boolean) 0 0 (PMz ca o Q)) (h : wM_letters v1 I J Q) : G Γ 0 0 0 [(0, .ref (o 0)), (1, .int v1)] [] (cM ca o I J) := by
  unfold wM_letters at h
  refine g_aload_n C (i := 0) dX12_letters_0 rfl rfl ?_
  refine g_iconst_0 C dX12_letters_1 ?_
  refine m_put_toldMany C dX12_letters_2 ?_
  refine m_nmI _ (fun I1 e2 => ?_)
  replace h := h I1 e2
  refine g_aload_n C (i := 0) dX12_letters_5 rfl rfl ?_
  refine g_lconst_0 C dX12_letters_6 ?_
  refine m_put_toldWord C dX12_letters_7 ?_
  refine m_nmJ _ (fun J3 e4 => ?_)
  replace h := h J3 e4
  obtain ⟨n, h⟩ := h
  exact g_weak [0, 1] rfl (Nat.le_refl _) (Nat.le_refl _) (wM_letters_gl10  C  n v1 I1 J3 h)
theorem wM_k_letters {D : gD} {ca : Nat → ClassId} {o : Nat → Nat} (v1 : Int32) (I : gI) (J : gJ) (Q : Bool → gI → gJ → Prop) (h : wM_letters v1 I J Q) : Ct yX12_letters cX12_letters 2 (some .boolean) (rl 1) D (tyW ca) 0 0 [.ref (o 0), .int v1] (cM ca o I J) (PMz ca o Q) := ct_of (rm := rl 1) (by decide +kernel) (Nat.le_of_ble_eq_true rfl) (fun Γ C => wM_letters_g v1 I J C h)
set_option maxRecDepth 100000 in
theorem wM_whole_gc16 {Γ : gT} {D : gD} {ca : Nat → ClassId} {o : Nat → Nat} {Q : Int64 → Prop} {I : gI} {J : gJ} (C : Cx Γ cX12_whole RX12 2 D (tyW ca) (rl 1) (some .long) 0 0 (PPl ca o I J Q)) (v1 : Int32) (s1 : Int32) (h : wM_whole_c16 I J v1 s1 Q) : G Γ 0 0 16 [(0, .ref (o 0)), (1, .int v1)] [.int s1, .ref (o 0)] (cM ca o I J) := by
  unfold wM_whole_c16 at h
  refine g_aload_n C (i := 0) dX12_whole_16 rfl rfl ?_
  refine m_get_folds C dX12_whole_17 ?_
  refine g_iload_n C (i := 1) dX12_whole_20 rfl rfl ?_
  obtain ⟨h1, h⟩ := h
  refine m_iald C (k := 4) (by decide) h1 dX12_whole_21 ?_
  refine m_callPl C rfl (wM_k_power s1 (I 4 v1.toNatClampNeg) I J _ h) 2 swM_power (rl_ok (by decide) (by decide)) rfl (Nat.le_of_ble_eq_true rfl) (st := []) _ rfl dX12_whole_22 (fun r2 h => ?_)
  refine g_lconst_1 C dX12_whole_25 ?_
  refine g_lsub C dX12_whole_26 ?_
  exact g_ret_l C dX12_whole_27 (Nat.le_refl _) (Nat.le_refl _) ⟨_, rfl, rfl, h⟩
set_option maxRecDepth 100000 in
theorem wM_whole_g {Γ : gT} {D : gD} {ca : Nat → ClassId} {o : Nat → Nat} {Q : Int64 → Prop} (v1 : Int32) (I : gI) (J : gJ) (C : Cx Γ cX12_whole RX12 2 D (tyW ca) (rl 1) (some .long) 0 0 (PPl ca o I J Q)) (h : wM_whole v1 I J Q) : G Γ 0 0 0 [(0, .ref (o 0)), (1, .int v1)] [] (cM ca o I J) := by
  unfold wM_whole at h
  refine g_aload_n C (i := 0) dX12_whole_0 rfl rfl ?_
  refine g_aload_n C (i := 0) dX12_whole_1 rfl rfl ?_
  refine m_get_kind C dX12_whole_2 ?_
  refine g_iload_n C (i := 1) dX12_whole_5 rfl rfl ?_
  obtain ⟨h1, h⟩ := h
  refine m_iald C (k := 2) (by decide) h1 dX12_whole_6 ?_
  refine g_iconst_2 C dX12_whole_7 ?_
  refine g_icmp_ne C 15 dX12_whole_8 rfl (fun c2 => ?_) (fun c2 => ?_)
  · replace h := h.1 c2
    refine g_iconst_2 C dX12_whole_15 ?_
    exact g_weak [0, 1] rfl (Nat.le_refl _) (Nat.le_refl _) (wM_whole_gc16  C  v1 2  h)
  · replace h := h.2 c2
    refine g_iconst_3 C dX12_whole_11 ?_
    refine g_goto C 16 dX12_whole_12 rfl ?_
    exact g_weak [0, 1] rfl (Nat.le_refl _) (Nat.le_refl _) (wM_whole_gc16  C  v1 3  h)
theorem wM_k_whole {D : gD} {ca : Nat → ClassId} {o : Nat → Nat} (v1 : Int32) (I : gI) (J : gJ) (Q : Int64 → Prop) (h : wM_whole v1 I J Q) : Ct yX12_whole cX12_whole 2 (some .long) (rl 1) D (tyW ca) 0 0 [.ref (o 0), .int v1] (cM ca o I J) (PPl ca o I J Q) := ct_of (rm := rl 1) (by decide +kernel) (Nat.le_of_ble_eq_true rfl) (fun Γ C => wM_whole_g v1 I J C h)
set_option maxRecDepth 100000 in
theorem wM_counts_g {Γ : gT} {D : gD} {ca : Nat → ClassId} {o : Nat → Nat} {Q : Int32 → Prop} (v1 : Int32) (v2 : Int32) (I : gI) (J : gJ) (C : Cx Γ cX12_counts RX12 3 D (tyW ca) (rl 1) (some .int) 0 0 (PPi ca o I J Q)) (h : wM_counts v1 v2 I J Q) : G Γ 0 0 0 [(0, .ref (o 0)), (1, .int v1), (2, .int v2)] [] (cM ca o I J) := by
  unfold wM_counts at h
  refine g_aload_n C (i := 0) dX12_counts_0 rfl rfl ?_
  refine m_get_kind C dX12_counts_1 ?_
  refine g_iload_n C (i := 1) dX12_counts_4 rfl rfl ?_
  obtain ⟨h1, h⟩ := h
  refine m_iald C (k := 2) (by decide) h1 dX12_counts_5 ?_
  refine g_iconst_1 C dX12_counts_6 ?_
  refine g_icmp_ne C 21 dX12_counts_7 rfl (fun c2 => ?_) (fun c2 => ?_)
  · replace h := h.1 c2
    refine g_aload_n C (i := 0) dX12_counts_21 rfl rfl ?_
    refine g_iload_n C (i := 1) dX12_counts_22 rfl rfl ?_
    refine g_iload_n C (i := 2) dX12_counts_23 rfl rfl ?_
    refine m_callPi C rfl (wM_k_letter v1 v2 I J _ h) 2 swM_letter (rl_ok (by decide) (by decide)) rfl (Nat.le_of_ble_eq_true rfl) (st := []) _ rfl dX12_counts_24 (fun r3 h => ?_)
    exact g_ret_i C dX12_counts_27 (Nat.le_refl _) (Nat.le_refl _) ⟨_, rfl, rfl, h⟩
  · replace h := h.2 c2
    refine g_aload_n C (i := 0) dX12_counts_10 rfl rfl ?_
    refine m_get_part C dX12_counts_11 ?_
    refine g_iload_n C (i := 1) dX12_counts_14 rfl rfl ?_
    refine m_iald C (k := 3) (by decide) h1 dX12_counts_15 ?_
    refine g_iconst_2 C dX12_counts_16 ?_
    refine g_irem C dX12_counts_17 (by decide) ?_
    refine g_goto C 27 dX12_counts_18 rfl ?_
    exact g_ret_i C dX12_counts_27 (Nat.le_refl _) (Nat.le_refl _) ⟨_, rfl, rfl, h⟩
theorem wM_k_counts {D : gD} {ca : Nat → ClassId} {o : Nat → Nat} (v1 : Int32) (v2 : Int32) (I : gI) (J : gJ) (Q : Int32 → Prop) (h : wM_counts v1 v2 I J Q) : Ct yX12_counts cX12_counts 3 (some .int) (rl 1) D (tyW ca) 0 0 [.ref (o 0), .int v1, .int v2] (cM ca o I J) (PPi ca o I J Q) := ct_of (rm := rl 1) (by decide +kernel) (Nat.le_of_ble_eq_true rfl) (fun Γ C => wM_counts_g v1 v2 I J C h)
set_option maxRecDepth 100000 in
theorem wM_seen_gc165 {Γ : gT} {D : gD} {ca : Nat → ClassId} {o : Nat → Nat} {Q : gI → gJ → Prop} (C : Cx Γ cX12_seen RX12 8 D (tyW ca) (rl 1) none 0 0 (PMv ca o Q)) {B62 : Int32 → Int32 → Int32 → gI → gJ → Prop} (hB62 : ∀ (v1 : Int32) (v2 : Int32) (v3 : Int32) (I : gI) (J : gJ), B62 v1 v2 v3 I J → G Γ 0 0 62 [(0, .ref (o 0)), (1, .int v1), (2, .int v2), (3, .int v3)] [] (cM ca o I J)) (v1 : Int32) (v2 : Int32) (v3 : Int32) (v5 : Int32) (I : gI) (J : gJ) (h : wM_seen_c165 B62 v1 v2 v3 v5 I J Q) : G Γ 0 0 165 [(0, .ref (o 0)), (1, .int v1), (2, .int v2), (3, .int v3), (5, .int v5)] [] (cM ca o I J) := by
  unfold wM_seen_c165 at h
  refine g_aload_n C (i := 0) dX12_seen_165 rfl rfl ?_
  refine m_get_wrongCrease C dX12_seen_166 ?_
  refine g_iconst_m1 C dX12_seen_169 ?_
  refine g_icmp_ne C 198 dX12_seen_170 rfl (fun c1 => ?_) (fun c1 => ?_)
  · replace h := h.1 c1
    refine g_iinc C 1 [(0, .ref (o 0)), (1, .int v1), (2, .int v2), (3, .int (v3 + 1)), (5, .int v5)] dX12_seen_198 rfl (by decide) (by decide) rfl ?_
    refine g_goto C 62 dX12_seen_201 rfl ?_
    exact g_weak [0, 1, 2, 3] rfl (Nat.le_refl _) (Nat.le_refl _) (hB62 v1 v2 (v3 + 1) I J h)
  · replace h := h.2 c1
    refine g_aload_n C (i := 0) dX12_seen_173 rfl rfl ?_
    refine m_get_want0 C dX12_seen_174 ?_
    refine g_iload C (i := 5) dX12_seen_177 rfl ?_
    obtain ⟨h2, h⟩ := h
    refine m_iald C (k := 22) (by decide) h2 dX12_seen_179 ?_
    refine g_if_le C 198 dX12_seen_180 rfl (fun c3 => ?_) (fun c3 => ?_)
    · replace h := h.1 c3
      refine g_iinc C 1 [(0, .ref (o 0)), (1, .int v1), (2, .int v2), (3, .int (v3 + 1)), (5, .int v5)] dX12_seen_198 rfl (by decide) (by decide) rfl ?_
      refine g_goto C 62 dX12_seen_201 rfl ?_
      exact g_weak [0, 1, 2, 3] rfl (Nat.le_refl _) (Nat.le_refl _) (hB62 v1 v2 (v3 + 1) I J h)
    · replace h := h.2 c3
      refine g_aload_n C (i := 0) dX12_seen_183 rfl rfl ?_
      refine m_get_want1 C dX12_seen_184 ?_
      refine g_iload C (i := 5) dX12_seen_187 rfl ?_
      refine m_iald C (k := 23) (by decide) h2 dX12_seen_189 ?_
      refine g_if_le C 198 dX12_seen_190 rfl (fun c4 => ?_) (fun c4 => ?_)
      · replace h := h.1 c4
        refine g_iinc C 1 [(0, .ref (o 0)), (1, .int v1), (2, .int v2), (3, .int (v3 + 1)), (5, .int v5)] dX12_seen_198 rfl (by decide) (by decide) rfl ?_
        refine g_goto C 62 dX12_seen_201 rfl ?_
        exact g_weak [0, 1, 2, 3] rfl (Nat.le_refl _) (Nat.le_refl _) (hB62 v1 v2 (v3 + 1) I J h)
      · replace h := h.2 c4
        refine g_aload_n C (i := 0) dX12_seen_193 rfl rfl ?_
        refine g_iload_n C (i := 3) dX12_seen_194 rfl rfl ?_
        refine m_put_wrongCrease C dX12_seen_195 ?_
        refine m_nmI _ (fun I5 e6 => ?_)
        replace h := h I5 e6
        refine g_iinc C 1 [(0, .ref (o 0)), (1, .int v1), (2, .int v2), (3, .int (v3 + 1)), (5, .int v5)] dX12_seen_198 rfl (by decide) (by decide) rfl ?_
        refine g_goto C 62 dX12_seen_201 rfl ?_
        exact g_weak [0, 1, 2, 3] rfl (Nat.le_refl _) (Nat.le_refl _) (hB62 v1 v2 (v3 + 1) I5 J h)
set_option maxRecDepth 100000 in
theorem wM_seen_gc133 {Γ : gT} {D : gD} {ca : Nat → ClassId} {o : Nat → Nat} {Q : gI → gJ → Prop} (C : Cx Γ cX12_seen RX12 8 D (tyW ca) (rl 1) none 0 0 (PMv ca o Q)) {B62 : Int32 → Int32 → Int32 → gI → gJ → Prop} (hB62 : ∀ (v1 : Int32) (v2 : Int32) (v3 : Int32) (I : gI) (J : gJ), B62 v1 v2 v3 I J → G Γ 0 0 62 [(0, .ref (o 0)), (1, .int v1), (2, .int v2), (3, .int v3)] [] (cM ca o I J)) (v1 : Int32) (v2 : Int32) (v3 : Int32) (v5 : Int32) (s0 : Int32) (I : gI) (J : gJ) (h : wM_seen_c133 B62 v1 v2 v3 v5 s0 I J Q) : G Γ 0 0 133 [(0, .ref (o 0)), (1, .int v1), (2, .int v2), (3, .int v3), (5, .int v5)] [.int s0] (cM ca o I J) := by
  unfold wM_seen_c133 at h
  refine g_istore C (i := 7) [(0, .ref (o 0)), (1, .int v1), (2, .int v2), (3, .int v3), (5, .int v5), (7, .int s0)] dX12_seen_133 (by decide) rfl ?_
  refine g_iload C (i := 7) dX12_seen_135 rfl ?_
  refine g_if_ne C 154 dX12_seen_137 rfl (fun c1 => ?_) (fun c1 => ?_)
  · replace h := h.1 c1
    refine g_aload_n C (i := 0) dX12_seen_154 rfl rfl ?_
    refine m_get_want1 C dX12_seen_155 ?_
    refine g_iload C (i := 5) dX12_seen_158 rfl ?_
    refine g_dup2 C dX12_seen_160 rfl rfl ?_
    obtain ⟨h2, h⟩ := h
    refine m_iald C (k := 23) (by decide) h2 dX12_seen_161 ?_
    refine g_iconst_1 C dX12_seen_162 ?_
    refine g_iadd C dX12_seen_163 ?_
    refine m_iast C (k := 23) (by decide) h2 dX12_seen_164 ?_
    refine m_nmI _ (fun I3 e4 => ?_)
    replace h := h I3 e4
    exact g_weak [0, 1, 2, 3, 4] rfl (Nat.le_refl _) (Nat.le_refl _) (wM_seen_gc165  C hB62 v1 v2 v3 v5 I3 J h)
  · replace h := h.2 c1
    refine g_aload_n C (i := 0) dX12_seen_140 rfl rfl ?_
    refine m_get_want0 C dX12_seen_141 ?_
    refine g_iload C (i := 5) dX12_seen_144 rfl ?_
    refine g_dup2 C dX12_seen_146 rfl rfl ?_
    obtain ⟨h5, h⟩ := h
    refine m_iald C (k := 22) (by decide) h5 dX12_seen_147 ?_
    refine g_iconst_1 C dX12_seen_148 ?_
    refine g_iadd C dX12_seen_149 ?_
    refine m_iast C (k := 22) (by decide) h5 dX12_seen_150 ?_
    refine m_nmI _ (fun I6 e7 => ?_)
    replace h := h I6 e7
    refine g_goto C 165 dX12_seen_151 rfl ?_
    exact g_weak [0, 1, 2, 3, 4] rfl (Nat.le_refl _) (Nat.le_refl _) (wM_seen_gc165  C hB62 v1 v2 v3 v5 I6 J h)
set_option maxRecDepth 100000 in
theorem wM_seen_gb97 {Γ : gT} {D : gD} {ca : Nat → ClassId} {o : Nat → Nat} {Q : gI → gJ → Prop} (C : Cx Γ cX12_seen RX12 8 D (tyW ca) (rl 1) none 0 0 (PMv ca o Q)) {B62 : Int32 → Int32 → Int32 → gI → gJ → Prop} (hB62 : ∀ (v1 : Int32) (v2 : Int32) (v3 : Int32) (I : gI) (J : gJ), B62 v1 v2 v3 I J → G Γ 0 0 62 [(0, .ref (o 0)), (1, .int v1), (2, .int v2), (3, .int v3)] [] (cM ca o I J)) {B97 : Int32 → Int32 → Int32 → Int32 → Int32 → Int32 → gI → gJ → Prop} (hB97 : ∀ (v1 : Int32) (v2 : Int32) (v3 : Int32) (v4 : Int32) (v5 : Int32) (v6 : Int32) (I : gI) (J : gJ), B97 v1 v2 v3 v4 v5 v6 I J → G Γ 0 0 97 [(0, .ref (o 0)), (1, .int v1), (2, .int v2), (3, .int v3), (4, .int v4), (5, .int v5), (6, .int v6)] [] (cM ca o I J)) (v1 : Int32) (v2 : Int32) (v3 : Int32) (v4 : Int32) (v5 : Int32) (v6 : Int32) (I : gI) (J : gJ) (h : wM_seen_b97 B62 B97 v1 v2 v3 v4 v5 v6 I J Q) : G Γ 0 0 97 [(0, .ref (o 0)), (1, .int v1), (2, .int v2), (3, .int v3), (4, .int v4), (5, .int v5), (6, .int v6)] [] (cM ca o I J) := by
  unfold wM_seen_b97 at h
  refine g_iload C (i := 6) dX12_seen_97 rfl ?_
  refine g_iconst_2 C dX12_seen_99 ?_
  refine g_irem C dX12_seen_100 (by decide) ?_
  refine g_if_ne C 116 dX12_seen_101 rfl (fun c1 => ?_) (fun c1 => ?_)
  · replace h := h.1 c1
    refine g_iload C (i := 6) dX12_seen_116 rfl ?_
    refine g_iconst_4 C dX12_seen_118 ?_
    refine g_irem C dX12_seen_119 (by decide) ?_
    refine g_iconst_1 C dX12_seen_120 ?_
    refine g_icmp_ne C 129 dX12_seen_121 rfl (fun c2 => ?_) (fun c2 => ?_)
    · replace h := h.1 c2
      refine g_iconst_1 C dX12_seen_129 ?_
      refine g_iload C (i := 4) dX12_seen_130 rfl ?_
      refine g_isub C dX12_seen_132 ?_
      exact g_weak [0, 1, 2, 3, 5] rfl (Nat.le_refl _) (Nat.le_refl _) (wM_seen_gc133  C hB62 v1 v2 v3 v5 (1 - v4) I J h)
    · replace h := h.2 c2
      refine g_iload C (i := 4) dX12_seen_124 rfl ?_
      refine g_goto C 133 dX12_seen_126 rfl ?_
      exact g_weak [0, 1, 2, 3, 5] rfl (Nat.le_refl _) (Nat.le_refl _) (wM_seen_gc133  C hB62 v1 v2 v3 v5 v4 I J h)
  · replace h := h.2 c1
    refine g_iload C (i := 6) dX12_seen_104 rfl ?_
    refine g_iconst_2 C dX12_seen_106 ?_
    refine g_idiv C dX12_seen_107 (by decide) ?_
    refine g_istore C (i := 6) [(0, .ref (o 0)), (1, .int v1), (2, .int v2), (3, .int v3), (4, .int v4), (5, .int v5), (6, .int (v6 / 2))] dX12_seen_108 (by decide) rfl ?_
    refine g_iinc C 1 [(0, .ref (o 0)), (1, .int v1), (2, .int v2), (3, .int v3), (4, .int v4), (5, .int (v5 + 1)), (6, .int (v6 / 2))] dX12_seen_110 rfl (by decide) (by decide) rfl ?_
    refine g_goto C 97 dX12_seen_113 rfl ?_
    exact g_weak [0, 1, 2, 3, 4, 5, 6] rfl (Nat.le_refl _) (Nat.le_refl _) (hB97 v1 v2 v3 v4 (v5 + 1) (v6 / 2) I J h)
theorem wM_seen_gl97 {Γ : gT} {D : gD} {ca : Nat → ClassId} {o : Nat → Nat} {Q : gI → gJ → Prop} (C : Cx Γ cX12_seen RX12 8 D (tyW ca) (rl 1) none 0 0 (PMv ca o Q)) {B62 : Int32 → Int32 → Int32 → gI → gJ → Prop} (hB62 : ∀ (v1 : Int32) (v2 : Int32) (v3 : Int32) (I : gI) (J : gJ), B62 v1 v2 v3 I J → G Γ 0 0 62 [(0, .ref (o 0)), (1, .int v1), (2, .int v2), (3, .int v3)] [] (cM ca o I J)) : ∀ (n : Nat) (v1 : Int32) (v2 : Int32) (v3 : Int32) (v4 : Int32) (v5 : Int32) (v6 : Int32) (I : gI) (J : gJ) (_ : wM_seen_l97 B62 Q n v1 v2 v3 v4 v5 v6 I J), G Γ 0 0 97 [(0, .ref (o 0)), (1, .int v1), (2, .int v2), (3, .int v3), (4, .int v4), (5, .int v5), (6, .int v6)] [] (cM ca o I J) := by
  intro n
  induction n with
  | zero => intro v1 v2 v3 v4 v5 v6 I J h; exact h.elim
  | succ n ih => intro v1 v2 v3 v4 v5 v6 I J h; exact wM_seen_gb97 C hB62 ih v1 v2 v3 v4 v5 v6 I J h
set_option maxRecDepth 100000 in
theorem wM_seen_gb62 {Γ : gT} {D : gD} {ca : Nat → ClassId} {o : Nat → Nat} {Q : gI → gJ → Prop} (C : Cx Γ cX12_seen RX12 8 D (tyW ca) (rl 1) none 0 0 (PMv ca o Q)) {B62 : Int32 → Int32 → Int32 → gI → gJ → Prop} (hB62 : ∀ (v1 : Int32) (v2 : Int32) (v3 : Int32) (I : gI) (J : gJ), B62 v1 v2 v3 I J → G Γ 0 0 62 [(0, .ref (o 0)), (1, .int v1), (2, .int v2), (3, .int v3)] [] (cM ca o I J)) (v1 : Int32) (v2 : Int32) (v3 : Int32) (I : gI) (J : gJ) (h : wM_seen_b62 B62 v1 v2 v3 I J Q) : G Γ 0 0 62 [(0, .ref (o 0)), (1, .int v1), (2, .int v2), (3, .int v3)] [] (cM ca o I J) := by
  unfold wM_seen_b62 at h
  refine g_iload_n C (i := 3) dX12_seen_62 rfl rfl ?_
  refine g_iload_n C (i := 2) dX12_seen_63 rfl rfl ?_
  refine g_icmp_gt C 204 dX12_seen_64 rfl (fun c1 => ?_) (fun c1 => ?_)
  · replace h := h.1 c1
    exact g_ret_v C dX12_seen_204 (Nat.le_refl _) (Nat.le_refl _) ⟨_, _, rfl, rfl, h⟩
  · replace h := h.2 c1
    refine g_aload_n C (i := 0) dX12_seen_67 rfl rfl ?_
    refine g_iload_n C (i := 1) dX12_seen_68 rfl rfl ?_
    refine g_iload_n C (i := 3) dX12_seen_69 rfl rfl ?_
    refine g_iconst_1 C dX12_seen_70 ?_
    refine g_isub C dX12_seen_71 ?_
    refine m_callPi C rfl (wM_k_intAt v1 (v3 - 1) I J _ h) 2 swM_intAt (rl_ok (by decide) (by decide)) rfl (Nat.le_of_ble_eq_true rfl) (st := []) _ rfl dX12_seen_72 (fun r2 h => ?_)
    refine g_istore C (i := 4) [(0, .ref (o 0)), (1, .int v1), (2, .int v2), (3, .int v3), (4, .int r2)] dX12_seen_75 (by decide) rfl ?_
    refine g_iconst_0 C dX12_seen_77 ?_
    refine g_istore C (i := 5) [(0, .ref (o 0)), (1, .int v1), (2, .int v2), (3, .int v3), (4, .int r2), (5, .int 0)] dX12_seen_78 (by decide) rfl ?_
    refine g_iload_n C (i := 3) dX12_seen_80 rfl rfl ?_
    refine g_istore C (i := 6) [(0, .ref (o 0)), (1, .int v1), (2, .int v2), (3, .int v3), (4, .int r2), (5, .int 0), (6, .int v3)] dX12_seen_81 (by decide) rfl ?_
    refine g_iload C (i := 4) dX12_seen_83 rfl ?_
    refine g_if_eq C 97 dX12_seen_85 rfl (fun c3 => ?_) (fun c3 => ?_)
    · replace h := h.1 c3
      obtain ⟨n, h⟩ := h
      exact g_weak [0, 1, 2, 3, 4, 5, 6] rfl (Nat.le_refl _) (Nat.le_refl _) (wM_seen_gl97  C hB62 n v1 v2 v3 r2 0 v3 I J h)
    · replace h := h.2 c3
      refine g_iload C (i := 4) dX12_seen_88 rfl ?_
      refine g_iconst_1 C dX12_seen_90 ?_
      refine g_icmp_eq C 97 dX12_seen_91 rfl (fun c4 => ?_) (fun c4 => ?_)
      · replace h := h.1 c4
        obtain ⟨n, h⟩ := h
        exact g_weak [0, 1, 2, 3, 4, 5, 6] rfl (Nat.le_refl _) (Nat.le_refl _) (wM_seen_gl97  C hB62 n v1 v2 v3 r2 0 v3 I J h)
      · replace h := h.2 c4
        refine g_goto C 198 dX12_seen_94 rfl ?_
        refine g_iinc C 1 [(0, .ref (o 0)), (1, .int v1), (2, .int v2), (3, .int (v3 + 1)), (4, .int r2), (5, .int 0), (6, .int v3)] dX12_seen_198 rfl (by decide) (by decide) rfl ?_
        refine g_goto C 62 dX12_seen_201 rfl ?_
        exact g_weak [0, 1, 2, 3] rfl (Nat.le_refl _) (Nat.le_refl _) (hB62 v1 v2 (v3 + 1) I J h)
theorem wM_seen_gl62 {Γ : gT} {D : gD} {ca : Nat → ClassId} {o : Nat → Nat} {Q : gI → gJ → Prop} (C : Cx Γ cX12_seen RX12 8 D (tyW ca) (rl 1) none 0 0 (PMv ca o Q)) : ∀ (n : Nat) (v1 : Int32) (v2 : Int32) (v3 : Int32) (I : gI) (J : gJ) (_ : wM_seen_l62 Q n v1 v2 v3 I J), G Γ 0 0 62 [(0, .ref (o 0)), (1, .int v1), (2, .int v2), (3, .int v3)] [] (cM ca o I J) := by
  intro n
  induction n with
  | zero => intro v1 v2 v3 I J h; exact h.elim
  | succ n ih => intro v1 v2 v3 I J h; exact wM_seen_gb62 C ih v1 v2 v3 I J h
set_option maxRecDepth 100000 in
theorem wM_seen_gb29 {Γ : gT} {D : gD} {ca : Nat → ClassId} {o : Nat → Nat} {Q : gI → gJ → Prop} (C : Cx Γ cX12_seen RX12 8 D (tyW ca) (rl 1) none 0 0 (PMv ca o Q)) {B29 : Int32 → Int32 → Int32 → gI → gJ → Prop} (hB29 : ∀ (v1 : Int32) (v2 : Int32) (v3 : Int32) (I : gI) (J : gJ), B29 v1 v2 v3 I J → G Γ 0 0 29 [(0, .ref (o 0)), (1, .int v1), (2, .int v2), (3, .int v3)] [] (cM ca o I J)) (v1 : Int32) (v2 : Int32) (v3 : Int32) (I : gI) (J : gJ) (h : wM_seen_b29 B29 v1 v2 v3 I J Q) : G Γ 0 0 29 [(0, .ref (o 0)), (1, .int v1), (2, .int v2), (3, .int v3)] [] (cM ca o I J) := by
  unfold wM_seen_b29 at h
  refine g_iload_n C (i := 3) dX12_seen_29 rfl rfl ?_
  refine g_bipush C (v := 6) dX12_seen_30 (by decide) ?_
  refine g_icmp_ge C 55 dX12_seen_32 rfl (fun c1 => ?_) (fun c1 => ?_)
  · replace h := h.1 c1
    refine g_aload_n C (i := 0) dX12_seen_55 rfl rfl ?_
    refine g_iconst_m1 C dX12_seen_56 ?_
    refine m_put_wrongCrease C dX12_seen_57 ?_
    refine m_nmI _ (fun I2 e3 => ?_)
    replace h := h I2 e3
    refine g_iconst_1 C dX12_seen_60 ?_
    refine g_istore_n C (i := 3) [(0, .ref (o 0)), (1, .int v1), (2, .int v2), (3, .int 1)] dX12_seen_61 rfl (by decide) rfl ?_
    obtain ⟨n, h⟩ := h
    exact g_weak [0, 1, 2, 3] rfl (Nat.le_refl _) (Nat.le_refl _) (wM_seen_gl62  C  n v1 v2 1 I2 J h)
  · replace h := h.2 c1
    refine g_aload_n C (i := 0) dX12_seen_35 rfl rfl ?_
    refine m_get_want0 C dX12_seen_36 ?_
    refine g_iload_n C (i := 3) dX12_seen_39 rfl rfl ?_
    refine g_iconst_0 C dX12_seen_40 ?_
    obtain ⟨h4, h⟩ := h
    refine m_iast C (k := 22) (by decide) h4 dX12_seen_41 ?_
    refine m_nmI _ (fun I5 e6 => ?_)
    replace h := h I5 e6
    refine g_aload_n C (i := 0) dX12_seen_42 rfl rfl ?_
    refine m_get_want1 C dX12_seen_43 ?_
    refine g_iload_n C (i := 3) dX12_seen_46 rfl rfl ?_
    refine g_iconst_0 C dX12_seen_47 ?_
    refine m_iast C (k := 23) (by decide) h4 dX12_seen_48 ?_
    refine m_nmI _ (fun I7 e8 => ?_)
    replace h := h I7 e8
    refine g_iinc C 1 [(0, .ref (o 0)), (1, .int v1), (2, .int v2), (3, .int (v3 + 1))] dX12_seen_49 rfl (by decide) (by decide) rfl ?_
    refine g_goto C 29 dX12_seen_52 rfl ?_
    exact g_weak [0, 1, 2, 3] rfl (Nat.le_refl _) (Nat.le_refl _) (hB29 v1 v2 (v3 + 1) I7 J h)
theorem wM_seen_gl29 {Γ : gT} {D : gD} {ca : Nat → ClassId} {o : Nat → Nat} {Q : gI → gJ → Prop} (C : Cx Γ cX12_seen RX12 8 D (tyW ca) (rl 1) none 0 0 (PMv ca o Q)) : ∀ (n : Nat) (v1 : Int32) (v2 : Int32) (v3 : Int32) (I : gI) (J : gJ) (_ : wM_seen_l29 Q n v1 v2 v3 I J), G Γ 0 0 29 [(0, .ref (o 0)), (1, .int v1), (2, .int v2), (3, .int v3)] [] (cM ca o I J) := by
  intro n
  induction n with
  | zero => intro v1 v2 v3 I J h; exact h.elim
  | succ n ih => intro v1 v2 v3 I J h; exact wM_seen_gb29 C ih v1 v2 v3 I J h
set_option maxRecDepth 100000 in
theorem wM_seen_gb5 {Γ : gT} {D : gD} {ca : Nat → ClassId} {o : Nat → Nat} {Q : gI → gJ → Prop} (C : Cx Γ cX12_seen RX12 8 D (tyW ca) (rl 1) none 0 0 (PMv ca o Q)) {B5 : Int32 → Int32 → gI → gJ → Prop} (hB5 : ∀ (v1 : Int32) (v2 : Int32) (I : gI) (J : gJ), B5 v1 v2 I J → G Γ 0 0 5 [(0, .ref (o 0)), (1, .int v1), (2, .int v2)] [] (cM ca o I J)) (v1 : Int32) (v2 : Int32) (I : gI) (J : gJ) (h : wM_seen_b5 B5 v1 v2 I J Q) : G Γ 0 0 5 [(0, .ref (o 0)), (1, .int v1), (2, .int v2)] [] (cM ca o I J) := by
  unfold wM_seen_b5 at h
  refine g_iload_n C (i := 2) dX12_seen_5 rfl rfl ?_
  refine g_aload_n C (i := 0) dX12_seen_6 rfl rfl ?_
  refine m_get_levels C dX12_seen_7 ?_
  refine g_ishr C dX12_seen_10 ?_
  refine g_if_le C 27 dX12_seen_11 rfl (fun c1 => ?_) (fun c1 => ?_)
  · replace h := h.1 c1
    refine g_iconst_0 C dX12_seen_27 ?_
    refine g_istore_n C (i := 3) [(0, .ref (o 0)), (1, .int v1), (2, .int v2), (3, .int 0)] dX12_seen_28 rfl (by decide) rfl ?_
    obtain ⟨n, h⟩ := h
    exact g_weak [0, 1, 2, 3] rfl (Nat.le_refl _) (Nat.le_refl _) (wM_seen_gl29  C  n v1 v2 0 I J h)
  · replace h := h.2 c1
    refine g_aload_n C (i := 0) dX12_seen_14 rfl rfl ?_
    refine g_dup C dX12_seen_15 rfl ?_
    refine m_get_levels C dX12_seen_16 ?_
    refine g_iconst_1 C dX12_seen_19 ?_
    refine g_iadd C dX12_seen_20 ?_
    refine m_put_levels C dX12_seen_21 ?_
    refine m_nmI _ (fun I2 e3 => ?_)
    replace h := h I2 e3
    refine g_goto C 5 dX12_seen_24 rfl ?_
    exact g_weak [0, 1, 2] rfl (Nat.le_refl _) (Nat.le_refl _) (hB5 v1 v2 I2 J h)
theorem wM_seen_gl5 {Γ : gT} {D : gD} {ca : Nat → ClassId} {o : Nat → Nat} {Q : gI → gJ → Prop} (C : Cx Γ cX12_seen RX12 8 D (tyW ca) (rl 1) none 0 0 (PMv ca o Q)) : ∀ (n : Nat) (v1 : Int32) (v2 : Int32) (I : gI) (J : gJ) (_ : wM_seen_l5 Q n v1 v2 I J), G Γ 0 0 5 [(0, .ref (o 0)), (1, .int v1), (2, .int v2)] [] (cM ca o I J) := by
  intro n
  induction n with
  | zero => intro v1 v2 I J h; exact h.elim
  | succ n ih => intro v1 v2 I J h; exact wM_seen_gb5 C ih v1 v2 I J h
set_option maxRecDepth 100000 in
theorem wM_seen_g {Γ : gT} {D : gD} {ca : Nat → ClassId} {o : Nat → Nat} {Q : gI → gJ → Prop} (v1 : Int32) (v2 : Int32) (I : gI) (J : gJ) (C : Cx Γ cX12_seen RX12 8 D (tyW ca) (rl 1) none 0 0 (PMv ca o Q)) (h : wM_seen v1 v2 I J Q) : G Γ 0 0 0 [(0, .ref (o 0)), (1, .int v1), (2, .int v2)] [] (cM ca o I J) := by
  unfold wM_seen at h
  refine g_aload_n C (i := 0) dX12_seen_0 rfl rfl ?_
  refine g_iconst_0 C dX12_seen_1 ?_
  refine m_put_levels C dX12_seen_2 ?_
  refine m_nmI _ (fun I1 e2 => ?_)
  replace h := h I1 e2
  obtain ⟨n, h⟩ := h
  exact g_weak [0, 1, 2] rfl (Nat.le_refl _) (Nat.le_refl _) (wM_seen_gl5  C  n v1 v2 I1 J h)
theorem wM_k_seen {D : gD} {ca : Nat → ClassId} {o : Nat → Nat} (v1 : Int32) (v2 : Int32) (I : gI) (J : gJ) (Q : gI → gJ → Prop) (h : wM_seen v1 v2 I J Q) : Ct yX12_seen cX12_seen 8 none (rl 1) D (tyW ca) 0 0 [.ref (o 0), .int v1, .int v2] (cM ca o I J) (PMv ca o Q) := ct_of (rm := rl 1) (by decide +kernel) (Nat.le_of_ble_eq_true rfl) (fun Γ C => wM_seen_g v1 v2 I J C h)
set_option maxRecDepth 100000 in
theorem wM_endOf_gc41 {Γ : gT} {D : gD} {ca : Nat → ClassId} {o : Nat → Nat} {Q : gI → gJ → Prop} (C : Cx Γ cX12_endOf RX12 25 D (tyW ca) (rl 1) none 0 0 (PMv ca o Q)) {B20 : Int32 → Int32 → Int64 → Int64 → Int64 → Int64 → Int32 → Int32 → Int32 → gI → gJ → Prop} (hB20 : ∀ (v1 : Int32) (v2 : Int32) (v3 : Int64) (v5 : Int64) (v7 : Int64) (v9 : Int64) (v11 : Int32) (v12 : Int32) (v13 : Int32) (I : gI) (J : gJ), B20 v1 v2 v3 v5 v7 v9 v11 v12 v13 I J → G Γ 0 0 20 [(0, .ref (o 0)), (1, .int v1), (2, .int v2), (3, .long v3), (5, .long v5), (7, .long v7), (9, .long v9), (11, .int v11), (12, .int v12), (13, .int v13)] [] (cM ca o I J)) (v1 : Int32) (v2 : Int32) (v3 : Int64) (v5 : Int64) (v7 : Int64) (v9 : Int64) (v11 : Int32) (v12 : Int32) (v13 : Int32) (s0 : Int32) (I : gI) (J : gJ) (h : wM_endOf_c41 B20 v1 v2 v3 v5 v7 v9 v11 v12 v13 s0 I J Q) : G Γ 0 0 41 [(0, .ref (o 0)), (1, .int v1), (2, .int v2), (3, .long v3), (5, .long v5), (7, .long v7), (9, .long v9), (11, .int v11), (12, .int v12), (13, .int v13)] [.int s0] (cM ca o I J) := by
  unfold wM_endOf_c41 at h
  refine g_istore C (i := 14) [(0, .ref (o 0)), (1, .int v1), (2, .int v2), (3, .long v3), (5, .long v5), (7, .long v7), (9, .long v9), (11, .int v11), (12, .int v12), (13, .int v13), (14, .int s0)] dX12_endOf_41 (by decide) rfl ?_
  refine g_iload C (i := 11) dX12_endOf_43 rfl ?_
  refine g_iload C (i := 14) dX12_endOf_45 rfl ?_
  refine g_iadd C dX12_endOf_47 ?_
  refine g_istore C (i := 15) [(0, .ref (o 0)), (1, .int v1), (2, .int v2), (3, .long v3), (5, .long v5), (7, .long v7), (9, .long v9), (11, .int v11), (12, .int v12), (13, .int v13), (14, .int s0), (15, .int (v11 + s0))] dX12_endOf_48 (by decide) rfl ?_
  refine g_iload C (i := 11) dX12_endOf_50 rfl ?_
  refine g_iload C (i := 14) dX12_endOf_52 rfl ?_
  refine g_isub C dX12_endOf_54 ?_
  refine g_istore C (i := 16) [(0, .ref (o 0)), (1, .int v1), (2, .int v2), (3, .long v3), (5, .long v5), (7, .long v7), (9, .long v9), (11, .int v11), (12, .int v12), (13, .int v13), (14, .int s0), (15, .int (v11 + s0)), (16, .int (v11 - s0))] dX12_endOf_55 (by decide) rfl ?_
  refine g_lload_n C (i := 3) dX12_endOf_57 rfl rfl ?_
  refine g_aload_n C (i := 0) dX12_endOf_58 rfl rfl ?_
  refine g_lload C (i := 7) dX12_endOf_59 rfl ?_
  refine g_lload C (i := 9) dX12_endOf_61 rfl ?_
  refine g_iload C (i := 15) dX12_endOf_63 rfl ?_
  refine m_callPl C rfl (wM_k_turnX v7 v9 (v11 + s0) I J _ h) 3 swM_turnX (rl_ok (by decide) (by decide)) rfl (Nat.le_of_ble_eq_true rfl) (st := [.long v3]) _ rfl dX12_endOf_65 (fun r1 h => ?_)
  refine g_ladd C dX12_endOf_68 ?_
  refine g_lstore C (i := 17) [(0, .ref (o 0)), (1, .int v1), (2, .int v2), (3, .long v3), (5, .long v5), (7, .long v7), (9, .long v9), (11, .int v11), (12, .int v12), (13, .int v13), (14, .int s0), (15, .int (v11 + s0)), (16, .int (v11 - s0)), (17, .long (v3 + r1))] dX12_endOf_69 (by decide) rfl ?_
  refine g_lload C (i := 5) dX12_endOf_71 rfl ?_
  refine g_aload_n C (i := 0) dX12_endOf_73 rfl rfl ?_
  refine g_lload C (i := 7) dX12_endOf_74 rfl ?_
  refine g_lload C (i := 9) dX12_endOf_76 rfl ?_
  refine g_iload C (i := 15) dX12_endOf_78 rfl ?_
  refine m_callPl C rfl (wM_k_turnY v7 v9 (v11 + s0) I J _ h) 3 swM_turnY (rl_ok (by decide) (by decide)) rfl (Nat.le_of_ble_eq_true rfl) (st := [.long v5]) _ rfl dX12_endOf_80 (fun r2 h => ?_)
  refine g_ladd C dX12_endOf_83 ?_
  refine g_lstore C (i := 19) [(0, .ref (o 0)), (1, .int v1), (2, .int v2), (3, .long v3), (5, .long v5), (7, .long v7), (9, .long v9), (11, .int v11), (12, .int v12), (13, .int v13), (14, .int s0), (15, .int (v11 + s0)), (16, .int (v11 - s0)), (17, .long (v3 + r1)), (19, .long (v5 + r2))] dX12_endOf_84 (by decide) rfl ?_
  refine g_lload_n C (i := 3) dX12_endOf_86 rfl rfl ?_
  refine g_aload_n C (i := 0) dX12_endOf_87 rfl rfl ?_
  refine g_lload C (i := 7) dX12_endOf_88 rfl ?_
  refine g_lload C (i := 9) dX12_endOf_90 rfl ?_
  refine g_iload C (i := 16) dX12_endOf_92 rfl ?_
  refine m_callPl C rfl (wM_k_turnX v7 v9 (v11 - s0) I J _ h) 3 swM_turnX (rl_ok (by decide) (by decide)) rfl (Nat.le_of_ble_eq_true rfl) (st := [.long v3]) _ rfl dX12_endOf_94 (fun r3 h => ?_)
  refine g_ladd C dX12_endOf_97 ?_
  refine g_lstore C (i := 21) [(0, .ref (o 0)), (1, .int v1), (2, .int v2), (3, .long v3), (5, .long v5), (7, .long v7), (9, .long v9), (11, .int v11), (12, .int v12), (13, .int v13), (14, .int s0), (15, .int (v11 + s0)), (16, .int (v11 - s0)), (17, .long (v3 + r1)), (19, .long (v5 + r2)), (21, .long (v3 + r3))] dX12_endOf_98 (by decide) rfl ?_
  refine g_lload C (i := 5) dX12_endOf_100 rfl ?_
  refine g_aload_n C (i := 0) dX12_endOf_102 rfl rfl ?_
  refine g_lload C (i := 7) dX12_endOf_103 rfl ?_
  refine g_lload C (i := 9) dX12_endOf_105 rfl ?_
  refine g_iload C (i := 16) dX12_endOf_107 rfl ?_
  refine m_callPl C rfl (wM_k_turnY v7 v9 (v11 - s0) I J _ h) 3 swM_turnY (rl_ok (by decide) (by decide)) rfl (Nat.le_of_ble_eq_true rfl) (st := [.long v5]) _ rfl dX12_endOf_109 (fun r4 h => ?_)
  refine g_ladd C dX12_endOf_112 ?_
  refine g_lstore C (i := 23) [(0, .ref (o 0)), (1, .int v1), (2, .int v2), (3, .long v3), (5, .long v5), (7, .long v7), (9, .long v9), (11, .int v11), (12, .int v12), (13, .int v13), (14, .int s0), (15, .int (v11 + s0)), (16, .int (v11 - s0)), (17, .long (v3 + r1)), (19, .long (v5 + r2)), (21, .long (v3 + r3)), (23, .long (v5 + r4))] dX12_endOf_113 (by decide) rfl ?_
  refine g_iload C (i := 15) dX12_endOf_115 rfl ?_
  refine g_iload C (i := 12) dX12_endOf_117 rfl ?_
  refine g_iadd C dX12_endOf_119 ?_
  refine g_istore C (i := 11) [(0, .ref (o 0)), (1, .int v1), (2, .int v2), (3, .long v3), (5, .long v5), (7, .long v7), (9, .long v9), (11, .int ((v11 + s0) + v12)), (12, .int v12), (13, .int v13), (14, .int s0), (15, .int (v11 + s0)), (16, .int (v11 - s0)), (17, .long (v3 + r1)), (19, .long (v5 + r2)), (21, .long (v3 + r3)), (23, .long (v5 + r4))] dX12_endOf_120 (by decide) rfl ?_
  refine g_iload C (i := 16) dX12_endOf_122 rfl ?_
  refine g_iload C (i := 12) dX12_endOf_124 rfl ?_
  refine g_iadd C dX12_endOf_126 ?_
  refine g_istore C (i := 12) [(0, .ref (o 0)), (1, .int v1), (2, .int v2), (3, .long v3), (5, .long v5), (7, .long v7), (9, .long v9), (11, .int ((v11 + s0) + v12)), (12, .int ((v11 - s0) + v12)), (13, .int v13), (14, .int s0), (15, .int (v11 + s0)), (16, .int (v11 - s0)), (17, .long (v3 + r1)), (19, .long (v5 + r2)), (21, .long (v3 + r3)), (23, .long (v5 + r4))] dX12_endOf_127 (by decide) rfl ?_
  refine g_lload C (i := 17) dX12_endOf_129 rfl ?_
  refine g_lstore_n C (i := 3) [(0, .ref (o 0)), (1, .int v1), (2, .int v2), (3, .long (v3 + r1)), (5, .long v5), (7, .long v7), (9, .long v9), (11, .int ((v11 + s0) + v12)), (12, .int ((v11 - s0) + v12)), (13, .int v13), (14, .int s0), (15, .int (v11 + s0)), (16, .int (v11 - s0)), (17, .long (v3 + r1)), (19, .long (v5 + r2)), (21, .long (v3 + r3)), (23, .long (v5 + r4))] dX12_endOf_131 rfl (by decide) rfl ?_
  refine g_lload C (i := 19) dX12_endOf_132 rfl ?_
  refine g_lstore C (i := 5) [(0, .ref (o 0)), (1, .int v1), (2, .int v2), (3, .long (v3 + r1)), (5, .long (v5 + r2)), (7, .long v7), (9, .long v9), (11, .int ((v11 + s0) + v12)), (12, .int ((v11 - s0) + v12)), (13, .int v13), (14, .int s0), (15, .int (v11 + s0)), (16, .int (v11 - s0)), (17, .long (v3 + r1)), (19, .long (v5 + r2)), (21, .long (v3 + r3)), (23, .long (v5 + r4))] dX12_endOf_134 (by decide) rfl ?_
  refine g_lload C (i := 21) dX12_endOf_136 rfl ?_
  refine g_lstore C (i := 7) [(0, .ref (o 0)), (1, .int v1), (2, .int v2), (3, .long (v3 + r1)), (5, .long (v5 + r2)), (7, .long (v3 + r3)), (9, .long v9), (11, .int ((v11 + s0) + v12)), (12, .int ((v11 - s0) + v12)), (13, .int v13), (14, .int s0), (15, .int (v11 + s0)), (16, .int (v11 - s0)), (17, .long (v3 + r1)), (19, .long (v5 + r2)), (21, .long (v3 + r3)), (23, .long (v5 + r4))] dX12_endOf_138 (by decide) rfl ?_
  refine g_lload C (i := 23) dX12_endOf_140 rfl ?_
  refine g_lstore C (i := 9) [(0, .ref (o 0)), (1, .int v1), (2, .int v2), (3, .long (v3 + r1)), (5, .long (v5 + r2)), (7, .long (v3 + r3)), (9, .long (v5 + r4)), (11, .int ((v11 + s0) + v12)), (12, .int ((v11 - s0) + v12)), (13, .int v13), (14, .int s0), (15, .int (v11 + s0)), (16, .int (v11 - s0)), (17, .long (v3 + r1)), (19, .long (v5 + r2)), (21, .long (v3 + r3)), (23, .long (v5 + r4))] dX12_endOf_142 (by decide) rfl ?_
  refine g_iinc C 1 [(0, .ref (o 0)), (1, .int v1), (2, .int v2), (3, .long (v3 + r1)), (5, .long (v5 + r2)), (7, .long (v3 + r3)), (9, .long (v5 + r4)), (11, .int ((v11 + s0) + v12)), (12, .int ((v11 - s0) + v12)), (13, .int (v13 + 1)), (14, .int s0), (15, .int (v11 + s0)), (16, .int (v11 - s0)), (17, .long (v3 + r1)), (19, .long (v5 + r2)), (21, .long (v3 + r3)), (23, .long (v5 + r4))] dX12_endOf_144 rfl (by decide) (by decide) rfl ?_
  refine g_goto C 20 dX12_endOf_147 rfl ?_
  exact g_weak [0, 1, 2, 3, 4, 5, 6, 7, 8, 9] rfl (Nat.le_refl _) (Nat.le_refl _) (hB20 v1 v2 (v3 + r1) (v5 + r2) (v3 + r3) (v5 + r4) ((v11 + s0) + v12) ((v11 - s0) + v12) (v13 + 1) I J h)
set_option maxRecDepth 100000 in
theorem wM_endOf_gb20 {Γ : gT} {D : gD} {ca : Nat → ClassId} {o : Nat → Nat} {Q : gI → gJ → Prop} (C : Cx Γ cX12_endOf RX12 25 D (tyW ca) (rl 1) none 0 0 (PMv ca o Q)) {B20 : Int32 → Int32 → Int64 → Int64 → Int64 → Int64 → Int32 → Int32 → Int32 → gI → gJ → Prop} (hB20 : ∀ (v1 : Int32) (v2 : Int32) (v3 : Int64) (v5 : Int64) (v7 : Int64) (v9 : Int64) (v11 : Int32) (v12 : Int32) (v13 : Int32) (I : gI) (J : gJ), B20 v1 v2 v3 v5 v7 v9 v11 v12 v13 I J → G Γ 0 0 20 [(0, .ref (o 0)), (1, .int v1), (2, .int v2), (3, .long v3), (5, .long v5), (7, .long v7), (9, .long v9), (11, .int v11), (12, .int v12), (13, .int v13)] [] (cM ca o I J)) (v1 : Int32) (v2 : Int32) (v3 : Int64) (v5 : Int64) (v7 : Int64) (v9 : Int64) (v11 : Int32) (v12 : Int32) (v13 : Int32) (I : gI) (J : gJ) (h : wM_endOf_b20 B20 v1 v2 v3 v5 v7 v9 v11 v12 v13 I J Q) : G Γ 0 0 20 [(0, .ref (o 0)), (1, .int v1), (2, .int v2), (3, .long v3), (5, .long v5), (7, .long v7), (9, .long v9), (11, .int v11), (12, .int v12), (13, .int v13)] [] (cM ca o I J) := by
  unfold wM_endOf_b20 at h
  refine g_iload C (i := 13) dX12_endOf_20 rfl ?_
  refine g_iload_n C (i := 1) dX12_endOf_22 rfl rfl ?_
  refine g_icmp_ge C 150 dX12_endOf_23 rfl (fun c1 => ?_) (fun c1 => ?_)
  · replace h := h.1 c1
    refine g_aload_n C (i := 0) dX12_endOf_150 rfl rfl ?_
    refine g_lload_n C (i := 3) dX12_endOf_151 rfl rfl ?_
    refine m_put_atX C dX12_endOf_152 ?_
    refine m_nmJ _ (fun J2 e3 => ?_)
    replace h := h J2 e3
    refine g_aload_n C (i := 0) dX12_endOf_155 rfl rfl ?_
    refine g_lload C (i := 5) dX12_endOf_156 rfl ?_
    refine m_put_atY C dX12_endOf_158 ?_
    refine m_nmJ _ (fun J4 e5 => ?_)
    replace h := h J4 e5
    exact g_ret_v C dX12_endOf_161 (Nat.le_refl _) (Nat.le_refl _) ⟨_, _, rfl, rfl, h⟩
  · replace h := h.2 c1
    refine g_iload_n C (i := 2) dX12_endOf_26 rfl rfl ?_
    refine g_iload C (i := 13) dX12_endOf_27 rfl ?_
    refine g_ishr C dX12_endOf_29 ?_
    refine g_iconst_1 C dX12_endOf_30 ?_
    refine g_iand C dX12_endOf_31 ?_
    refine g_iconst_1 C dX12_endOf_32 ?_
    refine g_icmp_ne C 40 dX12_endOf_33 rfl (fun c6 => ?_) (fun c6 => ?_)
    · replace h := h.1 c6
      refine g_iconst_m1 C dX12_endOf_40 ?_
      exact g_weak [0, 1, 2, 3, 4, 5, 6, 7, 8, 9] rfl (Nat.le_refl _) (Nat.le_refl _) (wM_endOf_gc41  C hB20 v1 v2 v3 v5 v7 v9 v11 v12 v13 (-1) I J h)
    · replace h := h.2 c6
      refine g_iconst_1 C dX12_endOf_36 ?_
      refine g_goto C 41 dX12_endOf_37 rfl ?_
      exact g_weak [0, 1, 2, 3, 4, 5, 6, 7, 8, 9] rfl (Nat.le_refl _) (Nat.le_refl _) (wM_endOf_gc41  C hB20 v1 v2 v3 v5 v7 v9 v11 v12 v13 1 I J h)
theorem wM_endOf_gl20 {Γ : gT} {D : gD} {ca : Nat → ClassId} {o : Nat → Nat} {Q : gI → gJ → Prop} (C : Cx Γ cX12_endOf RX12 25 D (tyW ca) (rl 1) none 0 0 (PMv ca o Q)) : ∀ (n : Nat) (v1 : Int32) (v2 : Int32) (v3 : Int64) (v5 : Int64) (v7 : Int64) (v9 : Int64) (v11 : Int32) (v12 : Int32) (v13 : Int32) (I : gI) (J : gJ) (_ : wM_endOf_l20 Q n v1 v2 v3 v5 v7 v9 v11 v12 v13 I J), G Γ 0 0 20 [(0, .ref (o 0)), (1, .int v1), (2, .int v2), (3, .long v3), (5, .long v5), (7, .long v7), (9, .long v9), (11, .int v11), (12, .int v12), (13, .int v13)] [] (cM ca o I J) := by
  intro n
  induction n with
  | zero => intro v1 v2 v3 v5 v7 v9 v11 v12 v13 I J h; exact h.elim
  | succ n ih => intro v1 v2 v3 v5 v7 v9 v11 v12 v13 I J h; exact wM_endOf_gb20 C ih v1 v2 v3 v5 v7 v9 v11 v12 v13 I J h
set_option maxRecDepth 100000 in
theorem wM_endOf_g {Γ : gT} {D : gD} {ca : Nat → ClassId} {o : Nat → Nat} {Q : gI → gJ → Prop} (v1 : Int32) (v2 : Int32) (I : gI) (J : gJ) (C : Cx Γ cX12_endOf RX12 25 D (tyW ca) (rl 1) none 0 0 (PMv ca o Q)) (h : wM_endOf v1 v2 I J Q) : G Γ 0 0 0 [(0, .ref (o 0)), (1, .int v1), (2, .int v2)] [] (cM ca o I J) := by
  unfold wM_endOf at h
  refine g_lconst_1 C dX12_endOf_0 ?_
  refine g_lstore_n C (i := 3) [(0, .ref (o 0)), (1, .int v1), (2, .int v2), (3, .long 1)] dX12_endOf_1 rfl (by decide) rfl ?_
  refine g_lconst_0 C dX12_endOf_2 ?_
  refine g_lstore C (i := 5) [(0, .ref (o 0)), (1, .int v1), (2, .int v2), (3, .long 1), (5, .long 0)] dX12_endOf_3 (by decide) rfl ?_
  refine g_lconst_1 C dX12_endOf_5 ?_
  refine g_lstore C (i := 7) [(0, .ref (o 0)), (1, .int v1), (2, .int v2), (3, .long 1), (5, .long 0), (7, .long 1)] dX12_endOf_6 (by decide) rfl ?_
  refine g_lconst_0 C dX12_endOf_8 ?_
  refine g_lstore C (i := 9) [(0, .ref (o 0)), (1, .int v1), (2, .int v2), (3, .long 1), (5, .long 0), (7, .long 1), (9, .long 0)] dX12_endOf_9 (by decide) rfl ?_
  refine g_iconst_0 C dX12_endOf_11 ?_
  refine g_istore C (i := 11) [(0, .ref (o 0)), (1, .int v1), (2, .int v2), (3, .long 1), (5, .long 0), (7, .long 1), (9, .long 0), (11, .int 0)] dX12_endOf_12 (by decide) rfl ?_
  refine g_iconst_0 C dX12_endOf_14 ?_
  refine g_istore C (i := 12) [(0, .ref (o 0)), (1, .int v1), (2, .int v2), (3, .long 1), (5, .long 0), (7, .long 1), (9, .long 0), (11, .int 0), (12, .int 0)] dX12_endOf_15 (by decide) rfl ?_
  refine g_iconst_0 C dX12_endOf_17 ?_
  refine g_istore C (i := 13) [(0, .ref (o 0)), (1, .int v1), (2, .int v2), (3, .long 1), (5, .long 0), (7, .long 1), (9, .long 0), (11, .int 0), (12, .int 0), (13, .int 0)] dX12_endOf_18 (by decide) rfl ?_
  obtain ⟨n, h⟩ := h
  exact g_weak [0, 1, 2, 3, 4, 5, 6, 7, 8, 9] rfl (Nat.le_refl _) (Nat.le_refl _) (wM_endOf_gl20  C  n v1 v2 1 0 1 0 0 0 0 I J h)
theorem wM_k_endOf {D : gD} {ca : Nat → ClassId} {o : Nat → Nat} (v1 : Int32) (v2 : Int32) (I : gI) (J : gJ) (Q : gI → gJ → Prop) (h : wM_endOf v1 v2 I J Q) : Ct yX12_endOf cX12_endOf 25 none (rl 1) D (tyW ca) 0 0 [.ref (o 0), .int v1, .int v2] (cM ca o I J) (PMv ca o Q) := ct_of (rm := rl 1) (by decide +kernel) (Nat.le_of_ble_eq_true rfl) (fun Γ C => wM_endOf_g v1 v2 I J C h)
set_option maxRecDepth 100000 in
theorem wM_goes_gb65 {Γ : gT} {D : gD} {ca : Nat → ClassId} {o : Nat → Nat} {Q : gI → gJ → Prop} {rd : Nat} {rc : Int32 → Int32 → Int32 → gI → gJ → (gI → gJ → Prop) → Prop} (hrc : ∀ (v1 : Int32) (v2 : Int32) (v3 : Int32) (I : gI) (J : gJ) (Q : gI → gJ → Prop), rc v1 v2 v3 I J Q → Ct yX12_goes cX12_goes 5 none (rl (1 + rd)) D (tyW ca) 0 0 [.ref (o 0), .int v1, .int v2, .int v3] (cM ca o I J) (PMv ca o Q)) (C : Cx Γ cX12_goes RX12 5 D (tyW ca) (rl (1 + rd + 1)) none 0 0 (PMv ca o Q)) {B65 : Int32 → Int32 → Int32 → Int32 → gI → gJ → Prop} (hB65 : ∀ (v1 : Int32) (v2 : Int32) (v3 : Int32) (v4 : Int32) (I : gI) (J : gJ), B65 v1 v2 v3 v4 I J → G Γ 0 0 65 [(0, .ref (o 0)), (1, .int v1), (2, .int v2), (3, .int v3), (4, .int v4)] [] (cM ca o I J)) (v1 : Int32) (v2 : Int32) (v3 : Int32) (v4 : Int32) (I : gI) (J : gJ) (h : wM_goes_b65 rc B65 v1 v2 v3 v4 I J Q) : G Γ 0 0 65 [(0, .ref (o 0)), (1, .int v1), (2, .int v2), (3, .int v3), (4, .int v4)] [] (cM ca o I J) := by
  unfold wM_goes_b65 at h
  refine g_iload C (i := 4) dX12_goes_65 rfl ?_
  refine g_iload_n C (i := 2) dX12_goes_67 rfl rfl ?_
  refine g_icmp_ge C 120 dX12_goes_68 rfl (fun c1 => ?_) (fun c1 => ?_)
  · replace h := h.1 c1
    exact g_ret_v C dX12_goes_120 (Nat.le_refl _) (Nat.le_refl _) ⟨_, _, rfl, rfl, h⟩
  · replace h := h.2 c1
    refine g_iload_n C (i := 3) dX12_goes_71 rfl rfl ?_
    refine g_iload C (i := 4) dX12_goes_72 rfl ?_
    refine g_ishr C dX12_goes_74 ?_
    refine g_iconst_1 C dX12_goes_75 ?_
    refine g_iand C dX12_goes_76 ?_
    refine g_iconst_1 C dX12_goes_77 ?_
    refine g_icmp_ne C 84 dX12_goes_78 rfl (fun c2 => ?_) (fun c2 => ?_)
    · replace h := h.1 c2
      refine g_aload_n C (i := 0) dX12_goes_84 rfl rfl ?_
      refine m_get_leaf C dX12_goes_85 ?_
      refine g_iload_n C (i := 1) dX12_goes_88 rfl rfl ?_
      refine g_iload C (i := 4) dX12_goes_89 rfl ?_
      obtain ⟨h3, h⟩ := h
      refine m_iast C (k := 24) (by decide) h3 dX12_goes_91 ?_
      refine m_nmI _ (fun I4 e5 => ?_)
      replace h := h I4 e5
      refine g_aload_n C (i := 0) dX12_goes_92 rfl rfl ?_
      refine m_get_at C dX12_goes_93 ?_
      refine g_iload C (i := 4) dX12_goes_96 rfl ?_
      refine g_iload_n C (i := 1) dX12_goes_98 rfl rfl ?_
      obtain ⟨h6, h⟩ := h
      refine m_iast C (k := 25) (by decide) h6 dX12_goes_99 ?_
      refine m_nmI _ (fun I7 e8 => ?_)
      replace h := h I7 e8
      refine g_aload_n C (i := 0) dX12_goes_100 rfl rfl ?_
      refine g_iload_n C (i := 1) dX12_goes_101 rfl rfl ?_
      refine g_iconst_1 C dX12_goes_102 ?_
      refine g_iadd C dX12_goes_103 ?_
      refine g_iload_n C (i := 2) dX12_goes_104 rfl rfl ?_
      refine g_iload_n C (i := 3) dX12_goes_105 rfl rfl ?_
      refine g_iconst_1 C dX12_goes_106 ?_
      refine g_iload C (i := 4) dX12_goes_107 rfl ?_
      refine g_ishl C dX12_goes_109 ?_
      refine g_ior C dX12_goes_110 ?_
      refine m_callv C rfl (hrc (v1 + 1) v2 (v3 ||| (1 <<< (v4 &&& 31))) I7 J _ h) 3 swM_goes (rl_ok (by omega) (by decide)) rfl (Nat.le_of_ble_eq_true rfl) (st := []) _ rfl dX12_goes_111 (fun I10 J11 h => ?_)
      refine g_iinc C 1 [(0, .ref (o 0)), (1, .int v1), (2, .int v2), (3, .int v3), (4, .int (v4 + 1))] dX12_goes_114 rfl (by decide) (by decide) rfl ?_
      refine g_goto C 65 dX12_goes_117 rfl ?_
      exact g_weak [0, 1, 2, 3, 4] rfl (Nat.le_refl _) (Nat.le_refl _) (hB65 v1 v2 v3 (v4 + 1) I10 J11 h)
    · replace h := h.2 c2
      refine g_goto C 114 dX12_goes_81 rfl ?_
      refine g_iinc C 1 [(0, .ref (o 0)), (1, .int v1), (2, .int v2), (3, .int v3), (4, .int (v4 + 1))] dX12_goes_114 rfl (by decide) (by decide) rfl ?_
      refine g_goto C 65 dX12_goes_117 rfl ?_
      exact g_weak [0, 1, 2, 3, 4] rfl (Nat.le_refl _) (Nat.le_refl _) (hB65 v1 v2 v3 (v4 + 1) I J h)
theorem wM_goes_gl65 {Γ : gT} {D : gD} {ca : Nat → ClassId} {o : Nat → Nat} {Q : gI → gJ → Prop} {rd : Nat} {rc : Int32 → Int32 → Int32 → gI → gJ → (gI → gJ → Prop) → Prop} (hrc : ∀ (v1 : Int32) (v2 : Int32) (v3 : Int32) (I : gI) (J : gJ) (Q : gI → gJ → Prop), rc v1 v2 v3 I J Q → Ct yX12_goes cX12_goes 5 none (rl (1 + rd)) D (tyW ca) 0 0 [.ref (o 0), .int v1, .int v2, .int v3] (cM ca o I J) (PMv ca o Q)) (C : Cx Γ cX12_goes RX12 5 D (tyW ca) (rl (1 + rd + 1)) none 0 0 (PMv ca o Q)) : ∀ (n : Nat) (v1 : Int32) (v2 : Int32) (v3 : Int32) (v4 : Int32) (I : gI) (J : gJ) (_ : wM_goes_l65 rc Q n v1 v2 v3 v4 I J), G Γ 0 0 65 [(0, .ref (o 0)), (1, .int v1), (2, .int v2), (3, .int v3), (4, .int v4)] [] (cM ca o I J) := by
  intro n
  induction n with
  | zero => intro v1 v2 v3 v4 I J h; exact h.elim
  | succ n ih => intro v1 v2 v3 v4 I J h; exact wM_goes_gb65 hrc C ih v1 v2 v3 v4 I J h
set_option maxRecDepth 100000 in
theorem wM_goes_gb17 {Γ : gT} {D : gD} {ca : Nat → ClassId} {o : Nat → Nat} {Q : gI → gJ → Prop} {rd : Nat} {rc : Int32 → Int32 → Int32 → gI → gJ → (gI → gJ → Prop) → Prop} (hrc : ∀ (v1 : Int32) (v2 : Int32) (v3 : Int32) (I : gI) (J : gJ) (Q : gI → gJ → Prop), rc v1 v2 v3 I J Q → Ct yX12_goes cX12_goes 5 none (rl (1 + rd)) D (tyW ca) 0 0 [.ref (o 0), .int v1, .int v2, .int v3] (cM ca o I J) (PMv ca o Q)) (C : Cx Γ cX12_goes RX12 5 D (tyW ca) (rl (1 + rd + 1)) none 0 0 (PMv ca o Q)) {B17 : Int32 → Int32 → gI → gJ → Prop} (hB17 : ∀ (v2 : Int32) (v4 : Int32) (I : gI) (J : gJ), B17 v2 v4 I J → G Γ 0 0 17 [(0, .ref (o 0)), (2, .int v2), (4, .int v4)] [] (cM ca o I J)) (v2 : Int32) (v4 : Int32) (I : gI) (J : gJ) (h : wM_goes_b17 rc B17 v2 v4 I J Q) : G Γ 0 0 17 [(0, .ref (o 0)), (2, .int v2), (4, .int v4)] [] (cM ca o I J) := by
  unfold wM_goes_b17 at h
  refine g_iload C (i := 4) dX12_goes_17 rfl ?_
  refine g_iload_n C (i := 2) dX12_goes_19 rfl rfl ?_
  refine g_icmp_ge C 51 dX12_goes_20 rfl (fun c1 => ?_) (fun c1 => ?_)
  · replace h := h.1 c1
    refine g_aload_n C (i := 0) dX12_goes_51 rfl rfl ?_
    refine g_dup C dX12_goes_52 rfl ?_
    refine m_get_foundMany C dX12_goes_53 ?_
    refine g_iconst_1 C dX12_goes_56 ?_
    refine g_iadd C dX12_goes_57 ?_
    refine m_put_foundMany C dX12_goes_58 ?_
    refine m_nmI _ (fun I2 e3 => ?_)
    replace h := h I2 e3
    exact g_ret_v C dX12_goes_61 (Nat.le_refl _) (Nat.le_refl _) ⟨_, _, rfl, rfl, h⟩
  · replace h := h.2 c1
    refine g_aload_n C (i := 0) dX12_goes_23 rfl rfl ?_
    refine m_get_found C dX12_goes_24 ?_
    refine g_bipush C (v := 8) dX12_goes_27 (by decide) ?_
    refine g_aload_n C (i := 0) dX12_goes_29 rfl rfl ?_
    refine m_get_foundMany C dX12_goes_30 ?_
    refine g_imul C dX12_goes_33 ?_
    refine g_iload C (i := 4) dX12_goes_34 rfl ?_
    refine g_iadd C dX12_goes_36 ?_
    refine g_aload_n C (i := 0) dX12_goes_37 rfl rfl ?_
    refine m_get_leaf C dX12_goes_38 ?_
    refine g_iload C (i := 4) dX12_goes_41 rfl ?_
    obtain ⟨h4, h⟩ := h
    refine m_iald C (k := 24) (by decide) h4 dX12_goes_43 ?_
    obtain ⟨h5, h⟩ := h
    refine m_iast C (k := 26) (by decide) h5 dX12_goes_44 ?_
    refine m_nmI _ (fun I6 e7 => ?_)
    replace h := h I6 e7
    refine g_iinc C 1 [(0, .ref (o 0)), (2, .int v2), (4, .int (v4 + 1))] dX12_goes_45 rfl (by decide) (by decide) rfl ?_
    refine g_goto C 17 dX12_goes_48 rfl ?_
    exact g_weak [0, 1, 2] rfl (Nat.le_refl _) (Nat.le_refl _) (hB17 v2 (v4 + 1) I6 J h)
theorem wM_goes_gl17 {Γ : gT} {D : gD} {ca : Nat → ClassId} {o : Nat → Nat} {Q : gI → gJ → Prop} {rd : Nat} {rc : Int32 → Int32 → Int32 → gI → gJ → (gI → gJ → Prop) → Prop} (hrc : ∀ (v1 : Int32) (v2 : Int32) (v3 : Int32) (I : gI) (J : gJ) (Q : gI → gJ → Prop), rc v1 v2 v3 I J Q → Ct yX12_goes cX12_goes 5 none (rl (1 + rd)) D (tyW ca) 0 0 [.ref (o 0), .int v1, .int v2, .int v3] (cM ca o I J) (PMv ca o Q)) (C : Cx Γ cX12_goes RX12 5 D (tyW ca) (rl (1 + rd + 1)) none 0 0 (PMv ca o Q)) : ∀ (n : Nat) (v2 : Int32) (v4 : Int32) (I : gI) (J : gJ) (_ : wM_goes_l17 rc Q n v2 v4 I J), G Γ 0 0 17 [(0, .ref (o 0)), (2, .int v2), (4, .int v4)] [] (cM ca o I J) := by
  intro n
  induction n with
  | zero => intro v2 v4 I J h; exact h.elim
  | succ n ih => intro v2 v4 I J h; exact wM_goes_gb17 hrc C ih v2 v4 I J h
set_option maxRecDepth 100000 in
theorem wM_goes_g {Γ : gT} {D : gD} {ca : Nat → ClassId} {o : Nat → Nat} {Q : gI → gJ → Prop} {rd : Nat} {rc : Int32 → Int32 → Int32 → gI → gJ → (gI → gJ → Prop) → Prop} (hrc : ∀ (v1 : Int32) (v2 : Int32) (v3 : Int32) (I : gI) (J : gJ) (Q : gI → gJ → Prop), rc v1 v2 v3 I J Q → Ct yX12_goes cX12_goes 5 none (rl (1 + rd)) D (tyW ca) 0 0 [.ref (o 0), .int v1, .int v2, .int v3] (cM ca o I J) (PMv ca o Q)) (v1 : Int32) (v2 : Int32) (v3 : Int32) (I : gI) (J : gJ) (C : Cx Γ cX12_goes RX12 5 D (tyW ca) (rl (1 + rd + 1)) none 0 0 (PMv ca o Q)) (h : wM_goes_r rc v1 v2 v3 I J Q) : G Γ 0 0 0 [(0, .ref (o 0)), (1, .int v1), (2, .int v2), (3, .int v3)] [] (cM ca o I J) := by
  unfold wM_goes_r at h
  refine g_iload_n C (i := 1) dX12_goes_0 rfl rfl ?_
  refine g_iload_n C (i := 2) dX12_goes_1 rfl rfl ?_
  refine g_icmp_ne C 62 dX12_goes_2 rfl (fun c1 => ?_) (fun c1 => ?_)
  · replace h := h.1 c1
    refine g_iconst_0 C dX12_goes_62 ?_
    refine g_istore C (i := 4) [(0, .ref (o 0)), (1, .int v1), (2, .int v2), (3, .int v3), (4, .int 0)] dX12_goes_63 (by decide) rfl ?_
    obtain ⟨n, h⟩ := h
    exact g_weak [0, 1, 2, 3, 4] rfl (Nat.le_refl _) (Nat.le_refl _) (wM_goes_gl65 hrc C  n v1 v2 v3 0 I J h)
  · replace h := h.2 c1
    refine g_aload_n C (i := 0) dX12_goes_5 rfl rfl ?_
    refine g_iload_n C (i := 2) dX12_goes_6 rfl rfl ?_
    refine m_callPz C rfl (wM_k_isCrossed v2 I J _ h) 1 swM_isCrossed (rl_ok (by omega) (by decide)) rfl (Nat.le_of_ble_eq_true rfl) (st := []) _ rfl dX12_goes_7 (fun r2 h => ?_)
    refine g_zeq C 14 dX12_goes_10 rfl (fun c3 => ?_) (fun c3 => ?_)
    · replace h := h.1 c3
      refine g_iconst_0 C dX12_goes_14 ?_
      refine g_istore C (i := 4) [(0, .ref (o 0)), (1, .int v1), (2, .int v2), (3, .int v3), (4, .int 0)] dX12_goes_15 (by decide) rfl ?_
      obtain ⟨n, h⟩ := h
      exact g_weak [0, 2, 4] rfl (Nat.le_refl _) (Nat.le_refl _) (wM_goes_gl17 hrc C  n v2 0 I J h)
    · replace h := h.2 c3
      exact g_ret_v C dX12_goes_13 (Nat.le_refl _) (Nat.le_refl _) ⟨_, _, rfl, rfl, h⟩
theorem wM_k_goes {D : gD} {ca : Nat → ClassId} {o : Nat → Nat} (q : Nat) : ∀ (v1 : Int32) (v2 : Int32) (v3 : Int32) (I : gI) (J : gJ) (Q : gI → gJ → Prop) (_ : wM_goes q v1 v2 v3 I J Q), Ct yX12_goes cX12_goes 5 none (rl (1 + q)) D (tyW ca) 0 0 [.ref (o 0), .int v1, .int v2, .int v3] (cM ca o I J) (PMv ca o Q) := by
  induction q with
  | zero => intro v1 v2 v3 I J Q h; exact h.elim
  | succ q ih => intro v1 v2 v3 I J Q h; exact ct_of (rm := rl (1 + (q + 1))) (by decide +kernel) (Nat.le_of_ble_eq_true rfl) (fun Γ C => wM_goes_g (rd := q) (rc := wM_goes q) ih v1 v2 v3 I J C h)
set_option maxRecDepth 100000 in
theorem wM_page_gb194 {Γ : gT} {D : gD} {ca : Nat → ClassId} {o : Nat → Nat} {Q : Int32 → gI → gJ → Prop} (C : Cx Γ cX12_page RX12 8 D (tyW ca) (rl 1) (some .int) 0 0 (PMi ca o Q)) {B194 : Int32 → Int32 → Int32 → Int32 → gI → gJ → Prop} (hB194 : ∀ (v2 : Int32) (v3 : Int32) (v6 : Int32) (v7 : Int32) (I : gI) (J : gJ), B194 v2 v3 v6 v7 I J → G Γ 0 0 194 [(0, .ref (o 0)), (2, .int v2), (3, .int v3), (6, .int v6), (7, .int v7)] [] (cM ca o I J)) (v2 : Int32) (v3 : Int32) (v6 : Int32) (v7 : Int32) (I : gI) (J : gJ) (h : wM_page_b194 B194 v2 v3 v6 v7 I J Q) : G Γ 0 0 194 [(0, .ref (o 0)), (2, .int v2), (3, .int v3), (6, .int v6), (7, .int v7)] [] (cM ca o I J) := by
  unfold wM_page_b194 at h
  refine g_iload C (i := 7) dX12_page_194 rfl ?_
  refine g_iload_n C (i := 3) dX12_page_196 rfl rfl ?_
  refine g_icmp_ge C 221 dX12_page_197 rfl (fun c1 => ?_) (fun c1 => ?_)
  · replace h := h.1 c1
    refine g_iload C (i := 6) dX12_page_221 rfl ?_
    exact g_ret_i C dX12_page_223 (Nat.le_refl _) (Nat.le_refl _) ⟨_, _, _, rfl, rfl, h⟩
  · replace h := h.2 c1
    refine g_aload_n C (i := 0) dX12_page_200 rfl rfl ?_
    refine m_get_deep C dX12_page_201 ?_
    refine g_iload C (i := 7) dX12_page_204 rfl ?_
    obtain ⟨h2, h⟩ := h
    refine m_iald C (k := 28) (by decide) h2 dX12_page_206 ?_
    refine g_iload_n C (i := 2) dX12_page_207 rfl rfl ?_
    refine g_icmp_ne C 215 dX12_page_208 rfl (fun c3 => ?_) (fun c3 => ?_)
    · replace h := h.1 c3
      refine g_iinc C 1 [(0, .ref (o 0)), (2, .int v2), (3, .int v3), (6, .int v6), (7, .int (v7 + 1))] dX12_page_215 rfl (by decide) (by decide) rfl ?_
      refine g_goto C 194 dX12_page_218 rfl ?_
      exact g_weak [0, 1, 2, 3, 4] rfl (Nat.le_refl _) (Nat.le_refl _) (hB194 v2 v3 v6 (v7 + 1) I J h)
    · replace h := h.2 c3
      refine g_iload C (i := 7) dX12_page_211 rfl ?_
      refine g_istore C (i := 6) [(0, .ref (o 0)), (2, .int v2), (3, .int v3), (6, .int v7), (7, .int v7)] dX12_page_213 (by decide) rfl ?_
      refine g_iinc C 1 [(0, .ref (o 0)), (2, .int v2), (3, .int v3), (6, .int v7), (7, .int (v7 + 1))] dX12_page_215 rfl (by decide) (by decide) rfl ?_
      refine g_goto C 194 dX12_page_218 rfl ?_
      exact g_weak [0, 1, 2, 3, 4] rfl (Nat.le_refl _) (Nat.le_refl _) (hB194 v2 v3 v7 (v7 + 1) I J h)
theorem wM_page_gl194 {Γ : gT} {D : gD} {ca : Nat → ClassId} {o : Nat → Nat} {Q : Int32 → gI → gJ → Prop} (C : Cx Γ cX12_page RX12 8 D (tyW ca) (rl 1) (some .int) 0 0 (PMi ca o Q)) : ∀ (n : Nat) (v2 : Int32) (v3 : Int32) (v6 : Int32) (v7 : Int32) (I : gI) (J : gJ) (_ : wM_page_l194 Q n v2 v3 v6 v7 I J), G Γ 0 0 194 [(0, .ref (o 0)), (2, .int v2), (3, .int v3), (6, .int v6), (7, .int v7)] [] (cM ca o I J) := by
  intro n
  induction n with
  | zero => intro v2 v3 v6 v7 I J h; exact h.elim
  | succ n ih => intro v2 v3 v6 v7 I J h; exact wM_page_gb194 C ih v2 v3 v6 v7 I J h
set_option maxRecDepth 100000 in
theorem wM_page_gb94 {Γ : gT} {D : gD} {ca : Nat → ClassId} {o : Nat → Nat} {Q : Int32 → gI → gJ → Prop} (C : Cx Γ cX12_page RX12 8 D (tyW ca) (rl 1) (some .int) 0 0 (PMi ca o Q)) {B85 : Int32 → Int32 → Int32 → Int32 → gI → gJ → Prop} (hB85 : ∀ (v2 : Int32) (v3 : Int32) (v4 : Int32) (v5 : Int32) (I : gI) (J : gJ), B85 v2 v3 v4 v5 I J → G Γ 0 0 85 [(0, .ref (o 0)), (2, .int v2), (3, .int v3), (4, .int v4), (5, .int v5)] [] (cM ca o I J)) {B94 : Int32 → Int32 → Int32 → Int32 → Int32 → gI → gJ → Prop} (hB94 : ∀ (v2 : Int32) (v3 : Int32) (v4 : Int32) (v5 : Int32) (v6 : Int32) (I : gI) (J : gJ), B94 v2 v3 v4 v5 v6 I J → G Γ 0 0 94 [(0, .ref (o 0)), (2, .int v2), (3, .int v3), (4, .int v4), (5, .int v5), (6, .int v6)] [] (cM ca o I J)) (v2 : Int32) (v3 : Int32) (v4 : Int32) (v5 : Int32) (v6 : Int32) (I : gI) (J : gJ) (h : wM_page_b94 B85 B94 v2 v3 v4 v5 v6 I J Q) : G Γ 0 0 94 [(0, .ref (o 0)), (2, .int v2), (3, .int v3), (4, .int v4), (5, .int v5), (6, .int v6)] [] (cM ca o I J) := by
  unfold wM_page_b94 at h
  refine g_iload C (i := 6) dX12_page_94 rfl ?_
  refine g_iload_n C (i := 3) dX12_page_96 rfl rfl ?_
  refine g_icmp_ge C 173 dX12_page_97 rfl (fun c1 => ?_) (fun c1 => ?_)
  · replace h := h.1 c1
    refine g_iload C (i := 4) dX12_page_173 rfl ?_
    refine g_iconst_2 C dX12_page_175 ?_
    refine g_idiv C dX12_page_176 (by decide) ?_
    refine g_istore C (i := 4) [(0, .ref (o 0)), (2, .int v2), (3, .int v3), (4, .int (v4 / 2)), (5, .int v5), (6, .int v6)] dX12_page_177 (by decide) rfl ?_
    refine g_iload C (i := 5) dX12_page_179 rfl ?_
    refine g_iconst_2 C dX12_page_181 ?_
    refine g_imul C dX12_page_182 ?_
    refine g_istore C (i := 5) [(0, .ref (o 0)), (2, .int v2), (3, .int v3), (4, .int (v4 / 2)), (5, .int (v5 * 2)), (6, .int v6)] dX12_page_183 (by decide) rfl ?_
    refine g_goto C 85 dX12_page_185 rfl ?_
    exact g_weak [0, 1, 2, 3, 4] rfl (Nat.le_refl _) (Nat.le_refl _) (hB85 v2 v3 (v4 / 2) (v5 * 2) I J h)
  · replace h := h.2 c1
    refine g_aload_n C (i := 0) dX12_page_100 rfl rfl ?_
    refine m_get_heap C dX12_page_101 ?_
    refine g_iload C (i := 6) dX12_page_104 rfl ?_
    obtain ⟨h2, h⟩ := h
    refine m_iald C (k := 27) (by decide) h2 dX12_page_106 ?_
    refine g_iload C (i := 4) dX12_page_107 rfl ?_
    refine g_iconst_2 C dX12_page_109 ?_
    refine g_idiv C dX12_page_110 (by decide) ?_
    refine g_icmp_lt C 155 dX12_page_111 rfl (fun c3 => ?_) (fun c3 => ?_)
    · replace h := h.1 c3
      refine g_aload_n C (i := 0) dX12_page_155 rfl rfl ?_
      refine m_get_deep C dX12_page_156 ?_
      refine g_iload C (i := 6) dX12_page_159 rfl ?_
      refine g_dup2 C dX12_page_161 rfl rfl ?_
      refine m_iald C (k := 28) (by decide) h2 dX12_page_162 ?_
      refine g_iload C (i := 5) dX12_page_163 rfl ?_
      refine g_iadd C dX12_page_165 ?_
      refine m_iast C (k := 28) (by decide) h2 dX12_page_166 ?_
      refine m_nmI _ (fun I4 e5 => ?_)
      replace h := h I4 e5
      refine g_iinc C 1 [(0, .ref (o 0)), (2, .int v2), (3, .int v3), (4, .int v4), (5, .int v5), (6, .int (v6 + 1))] dX12_page_167 rfl (by decide) (by decide) rfl ?_
      refine g_goto C 94 dX12_page_170 rfl ?_
      exact g_weak [0, 1, 2, 3, 4, 5] rfl (Nat.le_refl _) (Nat.le_refl _) (hB94 v2 v3 v4 v5 (v6 + 1) I4 J h)
    · replace h := h.2 c3
      refine g_aload_n C (i := 0) dX12_page_114 rfl rfl ?_
      refine m_get_heap C dX12_page_115 ?_
      refine g_iload C (i := 6) dX12_page_118 rfl ?_
      refine g_iload C (i := 4) dX12_page_120 rfl ?_
      refine g_iconst_1 C dX12_page_122 ?_
      refine g_isub C dX12_page_123 ?_
      refine g_aload_n C (i := 0) dX12_page_124 rfl rfl ?_
      refine m_get_heap C dX12_page_125 ?_
      refine g_iload C (i := 6) dX12_page_128 rfl ?_
      refine m_iald C (k := 27) (by decide) h2 dX12_page_130 ?_
      refine g_isub C dX12_page_131 ?_
      refine m_iast C (k := 27) (by decide) h2 dX12_page_132 ?_
      refine m_nmI _ (fun I6 e7 => ?_)
      replace h := h I6 e7
      refine g_aload_n C (i := 0) dX12_page_133 rfl rfl ?_
      refine m_get_deep C dX12_page_134 ?_
      refine g_iload C (i := 6) dX12_page_137 rfl ?_
      refine g_iload C (i := 5) dX12_page_139 rfl ?_
      refine g_iconst_1 C dX12_page_141 ?_
      refine g_isub C dX12_page_142 ?_
      refine g_aload_n C (i := 0) dX12_page_143 rfl rfl ?_
      refine m_get_deep C dX12_page_144 ?_
      refine g_iload C (i := 6) dX12_page_147 rfl ?_
      refine m_iald C (k := 28) (by decide) h2 dX12_page_149 ?_
      refine g_isub C dX12_page_150 ?_
      refine m_iast C (k := 28) (by decide) h2 dX12_page_151 ?_
      refine m_nmI _ (fun I8 e9 => ?_)
      replace h := h I8 e9
      refine g_goto C 167 dX12_page_152 rfl ?_
      refine g_iinc C 1 [(0, .ref (o 0)), (2, .int v2), (3, .int v3), (4, .int v4), (5, .int v5), (6, .int (v6 + 1))] dX12_page_167 rfl (by decide) (by decide) rfl ?_
      refine g_goto C 94 dX12_page_170 rfl ?_
      exact g_weak [0, 1, 2, 3, 4, 5] rfl (Nat.le_refl _) (Nat.le_refl _) (hB94 v2 v3 v4 v5 (v6 + 1) I8 J h)
theorem wM_page_gl94 {Γ : gT} {D : gD} {ca : Nat → ClassId} {o : Nat → Nat} {Q : Int32 → gI → gJ → Prop} (C : Cx Γ cX12_page RX12 8 D (tyW ca) (rl 1) (some .int) 0 0 (PMi ca o Q)) {B85 : Int32 → Int32 → Int32 → Int32 → gI → gJ → Prop} (hB85 : ∀ (v2 : Int32) (v3 : Int32) (v4 : Int32) (v5 : Int32) (I : gI) (J : gJ), B85 v2 v3 v4 v5 I J → G Γ 0 0 85 [(0, .ref (o 0)), (2, .int v2), (3, .int v3), (4, .int v4), (5, .int v5)] [] (cM ca o I J)) : ∀ (n : Nat) (v2 : Int32) (v3 : Int32) (v4 : Int32) (v5 : Int32) (v6 : Int32) (I : gI) (J : gJ) (_ : wM_page_l94 B85 Q n v2 v3 v4 v5 v6 I J), G Γ 0 0 94 [(0, .ref (o 0)), (2, .int v2), (3, .int v3), (4, .int v4), (5, .int v5), (6, .int v6)] [] (cM ca o I J) := by
  intro n
  induction n with
  | zero => intro v2 v3 v4 v5 v6 I J h; exact h.elim
  | succ n ih => intro v2 v3 v4 v5 v6 I J h; exact wM_page_gb94 C hB85 ih v2 v3 v4 v5 v6 I J h
set_option maxRecDepth 100000 in
theorem wM_page_gb85 {Γ : gT} {D : gD} {ca : Nat → ClassId} {o : Nat → Nat} {Q : Int32 → gI → gJ → Prop} (C : Cx Γ cX12_page RX12 8 D (tyW ca) (rl 1) (some .int) 0 0 (PMi ca o Q)) {B85 : Int32 → Int32 → Int32 → Int32 → gI → gJ → Prop} (hB85 : ∀ (v2 : Int32) (v3 : Int32) (v4 : Int32) (v5 : Int32) (I : gI) (J : gJ), B85 v2 v3 v4 v5 I J → G Γ 0 0 85 [(0, .ref (o 0)), (2, .int v2), (3, .int v3), (4, .int v4), (5, .int v5)] [] (cM ca o I J)) (v2 : Int32) (v3 : Int32) (v4 : Int32) (v5 : Int32) (I : gI) (J : gJ) (h : wM_page_b85 B85 v2 v3 v4 v5 I J Q) : G Γ 0 0 85 [(0, .ref (o 0)), (2, .int v2), (3, .int v3), (4, .int v4), (5, .int v5)] [] (cM ca o I J) := by
  unfold wM_page_b85 at h
  refine g_iload C (i := 4) dX12_page_85 rfl ?_
  refine g_iconst_1 C dX12_page_87 ?_
  refine g_icmp_le C 188 dX12_page_88 rfl (fun c1 => ?_) (fun c1 => ?_)
  · replace h := h.1 c1
    refine g_iconst_m1 C dX12_page_188 ?_
    refine g_istore C (i := 6) [(0, .ref (o 0)), (2, .int v2), (3, .int v3), (4, .int v4), (5, .int v5), (6, .int (-1))] dX12_page_189 (by decide) rfl ?_
    refine g_iconst_0 C dX12_page_191 ?_
    refine g_istore C (i := 7) [(0, .ref (o 0)), (2, .int v2), (3, .int v3), (4, .int v4), (5, .int v5), (6, .int (-1)), (7, .int 0)] dX12_page_192 (by decide) rfl ?_
    obtain ⟨n, h⟩ := h
    exact g_weak [0, 1, 2, 5, 6] rfl (Nat.le_refl _) (Nat.le_refl _) (wM_page_gl194  C  n v2 v3 (-1) 0 I J h)
  · replace h := h.2 c1
    refine g_iconst_0 C dX12_page_91 ?_
    refine g_istore C (i := 6) [(0, .ref (o 0)), (2, .int v2), (3, .int v3), (4, .int v4), (5, .int v5), (6, .int 0)] dX12_page_92 (by decide) rfl ?_
    obtain ⟨n, h⟩ := h
    exact g_weak [0, 1, 2, 3, 4, 5] rfl (Nat.le_refl _) (Nat.le_refl _) (wM_page_gl94  C hB85 n v2 v3 v4 v5 0 I J h)
theorem wM_page_gl85 {Γ : gT} {D : gD} {ca : Nat → ClassId} {o : Nat → Nat} {Q : Int32 → gI → gJ → Prop} (C : Cx Γ cX12_page RX12 8 D (tyW ca) (rl 1) (some .int) 0 0 (PMi ca o Q)) : ∀ (n : Nat) (v2 : Int32) (v3 : Int32) (v4 : Int32) (v5 : Int32) (I : gI) (J : gJ) (_ : wM_page_l85 Q n v2 v3 v4 v5 I J), G Γ 0 0 85 [(0, .ref (o 0)), (2, .int v2), (3, .int v3), (4, .int v4), (5, .int v5)] [] (cM ca o I J) := by
  intro n
  induction n with
  | zero => intro v2 v3 v4 v5 I J h; exact h.elim
  | succ n ih => intro v2 v3 v4 v5 I J h; exact wM_page_gb85 C ih v2 v3 v4 v5 I J h
set_option maxRecDepth 100000 in
theorem wM_page_gb56 {Γ : gT} {D : gD} {ca : Nat → ClassId} {o : Nat → Nat} {Q : Int32 → gI → gJ → Prop} (C : Cx Γ cX12_page RX12 8 D (tyW ca) (rl 1) (some .int) 0 0 (PMi ca o Q)) {B56 : Int32 → Int32 → Int32 → Int32 → Int32 → gI → gJ → Prop} (hB56 : ∀ (v2 : Int32) (v3 : Int32) (v4 : Int32) (v5 : Int32) (v6 : Int32) (I : gI) (J : gJ), B56 v2 v3 v4 v5 v6 I J → G Γ 0 0 56 [(0, .ref (o 0)), (2, .int v2), (3, .int v3), (4, .int v4), (5, .int v5), (6, .int v6)] [] (cM ca o I J)) (v2 : Int32) (v3 : Int32) (v4 : Int32) (v5 : Int32) (v6 : Int32) (I : gI) (J : gJ) (h : wM_page_b56 B56 v2 v3 v4 v5 v6 I J Q) : G Γ 0 0 56 [(0, .ref (o 0)), (2, .int v2), (3, .int v3), (4, .int v4), (5, .int v5), (6, .int v6)] [] (cM ca o I J) := by
  unfold wM_page_b56 at h
  refine g_iload C (i := 6) dX12_page_56 rfl ?_
  refine g_iload_n C (i := 3) dX12_page_58 rfl rfl ?_
  refine g_icmp_ge C 85 dX12_page_59 rfl (fun c1 => ?_) (fun c1 => ?_)
  · replace h := h.1 c1
    obtain ⟨n, h⟩ := h
    exact g_weak [0, 1, 2, 3, 4] rfl (Nat.le_refl _) (Nat.le_refl _) (wM_page_gl85  C  n v2 v3 v4 v5 I J h)
  · replace h := h.2 c1
    refine g_aload_n C (i := 0) dX12_page_62 rfl rfl ?_
    refine m_get_heap C dX12_page_63 ?_
    refine g_iload C (i := 6) dX12_page_66 rfl ?_
    refine g_iload C (i := 6) dX12_page_68 rfl ?_
    obtain ⟨h2, h⟩ := h
    refine m_iast C (k := 27) (by decide) h2 dX12_page_70 ?_
    refine m_nmI _ (fun I3 e4 => ?_)
    replace h := h I3 e4
    refine g_aload_n C (i := 0) dX12_page_71 rfl rfl ?_
    refine m_get_deep C dX12_page_72 ?_
    refine g_iload C (i := 6) dX12_page_75 rfl ?_
    refine g_iconst_0 C dX12_page_77 ?_
    refine m_iast C (k := 28) (by decide) h2 dX12_page_78 ?_
    refine m_nmI _ (fun I5 e6 => ?_)
    replace h := h I5 e6
    refine g_iinc C 1 [(0, .ref (o 0)), (2, .int v2), (3, .int v3), (4, .int v4), (5, .int v5), (6, .int (v6 + 1))] dX12_page_79 rfl (by decide) (by decide) rfl ?_
    refine g_goto C 56 dX12_page_82 rfl ?_
    exact g_weak [0, 1, 2, 3, 4, 5] rfl (Nat.le_refl _) (Nat.le_refl _) (hB56 v2 v3 v4 v5 (v6 + 1) I5 J h)
theorem wM_page_gl56 {Γ : gT} {D : gD} {ca : Nat → ClassId} {o : Nat → Nat} {Q : Int32 → gI → gJ → Prop} (C : Cx Γ cX12_page RX12 8 D (tyW ca) (rl 1) (some .int) 0 0 (PMi ca o Q)) : ∀ (n : Nat) (v2 : Int32) (v3 : Int32) (v4 : Int32) (v5 : Int32) (v6 : Int32) (I : gI) (J : gJ) (_ : wM_page_l56 Q n v2 v3 v4 v5 v6 I J), G Γ 0 0 56 [(0, .ref (o 0)), (2, .int v2), (3, .int v3), (4, .int v4), (5, .int v5), (6, .int v6)] [] (cM ca o I J) := by
  intro n
  induction n with
  | zero => intro v2 v3 v4 v5 v6 I J h; exact h.elim
  | succ n ih => intro v2 v3 v4 v5 v6 I J h; exact wM_page_gb56 C ih v2 v3 v4 v5 v6 I J h
set_option maxRecDepth 100000 in
theorem wM_page_gc46 {Γ : gT} {D : gD} {ca : Nat → ClassId} {o : Nat → Nat} {Q : Int32 → gI → gJ → Prop} (C : Cx Γ cX12_page RX12 8 D (tyW ca) (rl 1) (some .int) 0 0 (PMi ca o Q)) (I : gI) (J : gJ) (h : wM_page_c46 I J Q) : G Γ 0 0 46 [(0, .ref (o 0))] [] (cM ca o I J) := by
  unfold wM_page_c46 at h
  refine g_aload_n C (i := 0) dX12_page_46 rfl rfl ?_
  refine g_bipush C (v := (-5)) dX12_page_47 (by decide) ?_
  refine m_calli C rfl (wM_k_no (-5) I J _ h) 1 swM_no (rl_ok (by decide) (by decide)) rfl (Nat.le_of_ble_eq_true rfl) (st := []) _ rfl dX12_page_49 (fun r1 I2 J3 h => ?_)
  exact g_ret_i C dX12_page_52 (Nat.le_refl _) (Nat.le_refl _) ⟨_, _, _, rfl, rfl, h⟩
set_option maxRecDepth 100000 in
theorem wM_page_gc11 {Γ : gT} {D : gD} {ca : Nat → ClassId} {o : Nat → Nat} {Q : Int32 → gI → gJ → Prop} (C : Cx Γ cX12_page RX12 8 D (tyW ca) (rl 1) (some .int) 0 0 (PMi ca o Q)) (v2 : Int32) (I : gI) (J : gJ) (h : wM_page_c11 v2 I J Q) : G Γ 0 0 11 [(0, .ref (o 0)), (2, .int v2)] [] (cM ca o I J) := by
  unfold wM_page_c11 at h
  refine g_aload_n C (i := 0) dX12_page_11 rfl rfl ?_
  refine g_iload_n C (i := 2) dX12_page_12 rfl rfl ?_
  refine g_if_ge C 21 dX12_page_13 rfl (fun c1 => ?_) (fun c1 => ?_)
  · replace h := h.1 c1
    refine g_bipush C (v := (-6)) dX12_page_21 (by decide) ?_
    refine m_calli C rfl (wM_k_no (-6) I J _ h) 1 swM_no (rl_ok (by decide) (by decide)) rfl (Nat.le_of_ble_eq_true rfl) (st := []) _ rfl dX12_page_23 (fun r2 I3 J4 h => ?_)
    exact g_ret_i C dX12_page_26 (Nat.le_refl _) (Nat.le_refl _) ⟨_, _, _, rfl, rfl, h⟩
  · replace h := h.2 c1
    refine g_bipush C (v := (-5)) dX12_page_16 (by decide) ?_
    refine g_goto C 23 dX12_page_18 rfl ?_
    refine m_calli C rfl (wM_k_no (-5) I J _ h) 1 swM_no (rl_ok (by decide) (by decide)) rfl (Nat.le_of_ble_eq_true rfl) (st := []) _ rfl dX12_page_23 (fun r5 I6 J7 h => ?_)
    exact g_ret_i C dX12_page_26 (Nat.le_refl _) (Nat.le_refl _) ⟨_, _, _, rfl, rfl, h⟩
set_option maxRecDepth 100000 in
theorem wM_page_g {Γ : gT} {D : gD} {ca : Nat → ClassId} {o : Nat → Nat} {Q : Int32 → gI → gJ → Prop} (v1 : Int32) (v2 : Int32) (I : gI) (J : gJ) (C : Cx Γ cX12_page RX12 8 D (tyW ca) (rl 1) (some .int) 0 0 (PMi ca o Q)) (h : wM_page v1 v2 I J Q) : G Γ 0 0 0 [(0, .ref (o 0)), (1, .int v1), (2, .int v2)] [] (cM ca o I J) := by
  unfold wM_page at h
  refine g_iload_n C (i := 1) dX12_page_0 rfl rfl ?_
  refine g_iconst_1 C dX12_page_1 ?_
  refine g_icmp_lt C 11 dX12_page_2 rfl (fun c1 => ?_) (fun c1 => ?_)
  · replace h := h.1 c1
    exact g_weak [0, 2] rfl (Nat.le_refl _) (Nat.le_refl _) (wM_page_gc11  C  v2 I J h)
  · replace h := h.2 c1
    refine g_iload_n C (i := 1) dX12_page_5 rfl rfl ?_
    refine g_bipush C (v := 6) dX12_page_6 (by decide) ?_
    refine g_icmp_le C 27 dX12_page_8 rfl (fun c2 => ?_) (fun c2 => ?_)
    · replace h := h.1 c2
      refine g_iconst_1 C dX12_page_27 ?_
      refine g_iload_n C (i := 1) dX12_page_28 rfl rfl ?_
      refine g_ishl C dX12_page_29 ?_
      refine g_istore_n C (i := 3) [(0, .ref (o 0)), (1, .int v1), (2, .int v2), (3, .int (1 <<< (v1 &&& 31)))] dX12_page_30 rfl (by decide) rfl ?_
      refine g_iload_n C (i := 3) dX12_page_31 rfl rfl ?_
      refine g_istore C (i := 4) [(0, .ref (o 0)), (1, .int v1), (2, .int v2), (3, .int (1 <<< (v1 &&& 31))), (4, .int (1 <<< (v1 &&& 31)))] dX12_page_32 (by decide) rfl ?_
      refine g_iconst_1 C dX12_page_34 ?_
      refine g_istore C (i := 5) [(0, .ref (o 0)), (1, .int v1), (2, .int v2), (3, .int (1 <<< (v1 &&& 31))), (4, .int (1 <<< (v1 &&& 31))), (5, .int 1)] dX12_page_35 (by decide) rfl ?_
      refine g_iload_n C (i := 2) dX12_page_37 rfl rfl ?_
      refine g_if_lt C 46 dX12_page_38 rfl (fun c3 => ?_) (fun c3 => ?_)
      · replace h := h.1 c3
        exact g_weak [0] rfl (Nat.le_refl _) (Nat.le_refl _) (wM_page_gc46  C   I J h)
      · replace h := h.2 c3
        refine g_iload_n C (i := 2) dX12_page_41 rfl rfl ?_
        refine g_iload_n C (i := 3) dX12_page_42 rfl rfl ?_
        refine g_icmp_lt C 53 dX12_page_43 rfl (fun c4 => ?_) (fun c4 => ?_)
        · replace h := h.1 c4
          refine g_iconst_0 C dX12_page_53 ?_
          refine g_istore C (i := 6) [(0, .ref (o 0)), (1, .int v1), (2, .int v2), (3, .int (1 <<< (v1 &&& 31))), (4, .int (1 <<< (v1 &&& 31))), (5, .int 1), (6, .int 0)] dX12_page_54 (by decide) rfl ?_
          obtain ⟨n, h⟩ := h
          exact g_weak [0, 2, 3, 4, 5, 6] rfl (Nat.le_refl _) (Nat.le_refl _) (wM_page_gl56  C  n v2 (1 <<< (v1 &&& 31)) (1 <<< (v1 &&& 31)) 1 0 I J h)
        · replace h := h.2 c4
          exact g_weak [0] rfl (Nat.le_refl _) (Nat.le_refl _) (wM_page_gc46  C   I J h)
    · replace h := h.2 c2
      exact g_weak [0, 2] rfl (Nat.le_refl _) (Nat.le_refl _) (wM_page_gc11  C  v2 I J h)
theorem wM_k_page {D : gD} {ca : Nat → ClassId} {o : Nat → Nat} (v1 : Int32) (v2 : Int32) (I : gI) (J : gJ) (Q : Int32 → gI → gJ → Prop) (h : wM_page v1 v2 I J Q) : Ct yX12_page cX12_page 8 (some .int) (rl 1) D (tyW ca) 0 0 [.ref (o 0), .int v1, .int v2] (cM ca o I J) (PMi ca o Q) := ct_of (rm := rl 1) (by decide +kernel) (Nat.le_of_ble_eq_true rfl) (fun Γ C => wM_page_g v1 v2 I J C h)
