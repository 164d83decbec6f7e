set_option maxRecDepth 100000 in
theorem wM_crease_gc39 {Γ : gT} {D : gD} {ca : Nat → ClassId} {o : Nat → Nat} {Q : Int32 → gI → gJ → Prop} (C : Cx Γ cX12_crease RX12 4 D (tyW ca) (rl 5) (some .int) 0 0 (PMi ca o Q)) (I : gI) (J : gJ) (h : wM_crease_c39 I J Q) : G Γ 0 0 39 [(0, .ref (o 0))] [] (cM ca o I J) := by
  unfold wM_crease_c39 at h
  refine g_aload_n C (i := 0) dX12_crease_39 rfl rfl ?_
  refine g_bipush C (v := (-5)) dX12_crease_40 (by decide) ?_
  refine m_calli C rfl (wM_k_no (-5) I J _ h) 1 swM_no (rl_ok (by decide) (by decide)) rfl (Nat.le_of_ble_eq_true rfl) (st := []) _ rfl dX12_crease_42 (fun r1 I2 J3 h => ?_)
  exact g_ret_i C dX12_crease_45 (Nat.le_refl _) (Nat.le_refl _) ⟨_, _, _, rfl, rfl, h⟩
set_option maxRecDepth 100000 in
theorem wM_crease_g {Γ : gT} {D : gD} {ca : Nat → ClassId} {o : Nat → Nat} {Q : Int32 → gI → gJ → Prop} (v1 : Int32) (v2 : Int64) (I : gI) (J : gJ) (C : Cx Γ cX12_crease RX12 4 D (tyW ca) (rl 5) (some .int) 0 0 (PMi ca o Q)) (h : wM_crease v1 v2 I J Q) : G Γ 0 0 0 [(0, .ref (o 0)), (1, .int v1), (2, .long v2)] [] (cM ca o I J) := by
  unfold wM_crease at h
  refine g_aload_n C (i := 0) dX12_crease_0 rfl rfl ?_
  refine g_iload_n C (i := 1) dX12_crease_1 rfl rfl ?_
  refine m_callPz C rfl (wM_k_isStrip v1 I J _ h) 1 swM_isStrip (rl_ok (by decide) (by decide)) rfl (Nat.le_of_ble_eq_true rfl) (st := []) _ rfl dX12_crease_2 (fun r1 h => ?_)
  refine g_zne C 14 dX12_crease_5 rfl (fun c2 => ?_) (fun c2 => ?_)
  · replace h := h.1 c2
    refine g_lload_n C (i := 2) dX12_crease_14 rfl rfl ?_
    refine g_lconst_1 C dX12_crease_15 ?_
    refine g_llt C 39 dX12_crease_16 dX12_crease_17 rfl (fun c3 => ?_) (fun c3 => ?_)
    · replace h := h.1 c3
      exact g_weak [0] rfl (Nat.le_refl _) (Nat.le_refl _) (wM_crease_gc39  C   I J h)
    · replace h := h.2 c3
      refine g_lload_n C (i := 2) dX12_crease_20 rfl rfl ?_
      refine g_aload_n C (i := 0) dX12_crease_21 rfl rfl ?_
      refine g_iload_n C (i := 1) dX12_crease_22 rfl rfl ?_
      refine m_callPl C rfl (wM_k_creasesOf v1 I J _ h) 1 swM_creasesOf (rl_ok (by decide) (by decide)) rfl (Nat.le_of_ble_eq_true rfl) (st := [.long v2]) _ rfl dX12_crease_23 (fun r4 h => ?_)
      refine g_lgt C 39 dX12_crease_26 dX12_crease_27 rfl (fun c5 => ?_) (fun c5 => ?_)
      · replace h := h.1 c5
        exact g_weak [0] rfl (Nat.le_refl _) (Nat.le_refl _) (wM_crease_gc39  C   I J h)
      · replace h := h.2 c5
        refine g_aload_n C (i := 0) dX12_crease_30 rfl rfl ?_
        refine g_iload_n C (i := 1) dX12_crease_31 rfl rfl ?_
        refine g_lload_n C (i := 2) dX12_crease_32 rfl rfl ?_
        refine m_callPi C rfl (wM_k_creaseOf v1 v2 I J _ h) 2 swM_creaseOf (rl_ok (by decide) (by decide)) rfl (Nat.le_of_ble_eq_true rfl) (st := []) _ rfl dX12_crease_33 (fun r6 h => ?_)
        refine g_goto C 45 dX12_crease_36 rfl ?_
        exact g_ret_i C dX12_crease_45 (Nat.le_refl _) (Nat.le_refl _) ⟨_, _, _, rfl, rfl, h⟩
  · replace h := h.2 c2
    refine g_aload_n C (i := 0) dX12_crease_8 rfl rfl ?_
    refine g_iconst_m1 C dX12_crease_9 ?_
    refine m_calli C rfl (wM_k_no (-1) I J _ h) 1 swM_no (rl_ok (by decide) (by decide)) rfl (Nat.le_of_ble_eq_true rfl) (st := []) _ rfl dX12_crease_10 (fun r7 I8 J9 h => ?_)
    exact g_ret_i C dX12_crease_13 (Nat.le_refl _) (Nat.le_refl _) ⟨_, _, _, rfl, rfl, h⟩
theorem wM_k_crease {D : gD} {ca : Nat → ClassId} {o : Nat → Nat} (v1 : Int32) (v2 : Int64) (I : gI) (J : gJ) (Q : Int32 → gI → gJ → Prop) (h : wM_crease v1 v2 I J Q) : Ct yX12_crease cX12_crease 4 (some .int) (rl 5) D (tyW ca) 0 0 [.ref (o 0), .int v1, .long v2] (cM ca o I J) (PMi ca o Q) := ct_of (rm := rl 5) (by decide +kernel) (Nat.le_of_ble_eq_true rfl) (fun Γ C => wM_crease_g v1 v2 I J C h)
set_option maxRecDepth 100000 in
theorem wM_placeOf_gc270 {Γ : gT} {D : gD} {ca : Nat → ClassId} {o : Nat → Nat} {Q : gI → gJ → Prop} (C : Cx Γ cX12_placeOf RX12 18 D (tyW ca) (rl 5) none 0 0 (PMv ca o Q)) (v13 : Int64) (v15 : Int64) (s0 : Int32) (I : gI) (J : gJ) (h : wM_placeOf_c270 v13 v15 s0 I J Q) : G Γ 0 0 270 [(0, .ref (o 0)), (13, .long v13), (15, .long v15)] [.int s0] (cM ca o I J) := by
  unfold wM_placeOf_c270 at h
  refine g_istore C (i := 17) [(0, .ref (o 0)), (13, .long v13), (15, .long v15), (17, .int s0)] dX12_placeOf_270 (by decide) rfl ?_
  refine g_aload_n C (i := 0) dX12_placeOf_272 rfl rfl ?_
  refine g_aload_n C (i := 0) dX12_placeOf_273 rfl rfl ?_
  refine g_lload C (i := 13) dX12_placeOf_274 rfl ?_
  refine g_lload C (i := 15) dX12_placeOf_276 rfl ?_
  refine g_iload C (i := 17) dX12_placeOf_278 rfl ?_
  refine g_ineg C dX12_placeOf_280 ?_
  refine m_callPl C rfl (wM_k_turnX v13 v15 (-s0) I J _ h) 3 swM_turnX (rl_ok (by decide) (by decide)) rfl (Nat.le_of_ble_eq_true rfl) (st := [.ref (o 0)]) _ rfl dX12_placeOf_281 (fun r1 h => ?_)
  refine m_put_atX C dX12_placeOf_284 ?_
  refine m_nmJ _ (fun J2 e3 => ?_)
  replace h := h J2 e3
  refine g_aload_n C (i := 0) dX12_placeOf_287 rfl rfl ?_
  refine g_aload_n C (i := 0) dX12_placeOf_288 rfl rfl ?_
  refine g_lload C (i := 13) dX12_placeOf_289 rfl ?_
  refine g_lload C (i := 15) dX12_placeOf_291 rfl ?_
  refine g_iload C (i := 17) dX12_placeOf_293 rfl ?_
  refine g_ineg C dX12_placeOf_295 ?_
  refine m_callPl C rfl (wM_k_turnY v13 v15 (-s0) I J2 _ h) 3 swM_turnY (rl_ok (by decide) (by decide)) rfl (Nat.le_of_ble_eq_true rfl) (st := [.ref (o 0)]) _ rfl dX12_placeOf_296 (fun r4 h => ?_)
  refine m_put_atY C dX12_placeOf_299 ?_
  refine m_nmJ _ (fun J5 e6 => ?_)
  replace h := h J5 e6
  exact g_ret_v C dX12_placeOf_302 (Nat.le_refl _) (Nat.le_refl _) ⟨_, _, rfl, rfl, h⟩
set_option maxRecDepth 100000 in
theorem wM_placeOf_gc195 {Γ : gT} {D : gD} {ca : Nat → ClassId} {o : Nat → Nat} {Q : gI → gJ → Prop} (C : Cx Γ cX12_placeOf RX12 18 D (tyW ca) (rl 5) none 0 0 (PMv ca o Q)) (v1 : Int32) (v4 : Int32) (v5 : Int64) (v7 : Int64) (v9 : Int64) (s0 : Int64) (I : gI) (J : gJ) (h : wM_placeOf_c195 v1 v4 v5 v7 v9 s0 I J Q) : G Γ 0 0 195 [(0, .ref (o 0)), (1, .int v1), (4, .int v4), (5, .long v5), (7, .long v7), (9, .long v9)] [.long s0] (cM ca o I J) := by
  unfold wM_placeOf_c195 at h
  refine g_lstore C (i := 11) [(0, .ref (o 0)), (1, .int v1), (4, .int v4), (5, .long v5), (7, .long v7), (9, .long v9), (11, .long s0)] dX12_placeOf_195 (by decide) rfl ?_
  refine g_aload_n C (i := 0) dX12_placeOf_197 rfl rfl ?_
  refine g_iload_n C (i := 1) dX12_placeOf_198 rfl rfl ?_
  refine g_lload C (i := 9) dX12_placeOf_199 rfl ?_
  refine m_callv C rfl (wM_k_plainPlace v1 v9 I J _ h) 2 swM_plainPlace (rl_ok (by decide) (by decide)) rfl (Nat.le_of_ble_eq_true rfl) (st := []) _ rfl dX12_placeOf_201 (fun I2 J3 h => ?_)
  refine g_aload_n C (i := 0) dX12_placeOf_204 rfl rfl ?_
  refine m_get_atX C dX12_placeOf_205 ?_
  refine g_lstore C (i := 13) [(0, .ref (o 0)), (1, .int v1), (4, .int v4), (5, .long v5), (7, .long v7), (9, .long v9), (11, .long s0), (13, .long (J3 0 1))] dX12_placeOf_208 (by decide) rfl ?_
  refine g_aload_n C (i := 0) dX12_placeOf_210 rfl rfl ?_
  refine m_get_atY C dX12_placeOf_211 ?_
  refine g_lstore C (i := 15) [(0, .ref (o 0)), (1, .int v1), (4, .int v4), (5, .long v5), (7, .long v7), (9, .long v9), (11, .long s0), (13, .long (J3 0 1)), (15, .long (J3 0 2))] dX12_placeOf_214 (by decide) rfl ?_
  refine g_aload_n C (i := 0) dX12_placeOf_216 rfl rfl ?_
  refine g_iload_n C (i := 1) dX12_placeOf_217 rfl rfl ?_
  refine g_lload C (i := 11) dX12_placeOf_218 rfl ?_
  refine m_callv C rfl (wM_k_plainPlace v1 s0 I2 J3 _ h) 2 swM_plainPlace (rl_ok (by decide) (by decide)) rfl (Nat.le_of_ble_eq_true rfl) (st := []) _ rfl dX12_placeOf_220 (fun I5 J6 h => ?_)
  refine g_aload_n C (i := 0) dX12_placeOf_223 rfl rfl ?_
  refine m_get_atX C dX12_placeOf_224 ?_
  refine g_lload C (i := 13) dX12_placeOf_227 rfl ?_
  refine g_lsub C dX12_placeOf_229 ?_
  refine g_lstore C (i := 13) [(0, .ref (o 0)), (1, .int v1), (4, .int v4), (5, .long v5), (7, .long v7), (9, .long v9), (11, .long s0), (13, .long ((J6 0 1) - (J3 0 1))), (15, .long (J3 0 2))] dX12_placeOf_230 (by decide) rfl ?_
  refine g_aload_n C (i := 0) dX12_placeOf_232 rfl rfl ?_
  refine m_get_atY C dX12_placeOf_233 ?_
  refine g_lload C (i := 15) dX12_placeOf_236 rfl ?_
  refine g_lsub C dX12_placeOf_238 ?_
  refine g_lstore C (i := 15) [(0, .ref (o 0)), (1, .int v1), (4, .int v4), (5, .long v5), (7, .long v7), (9, .long v9), (11, .long s0), (13, .long ((J6 0 1) - (J3 0 1))), (15, .long ((J6 0 2) - (J3 0 2)))] dX12_placeOf_239 (by decide) rfl ?_
  refine g_iload C (i := 4) dX12_placeOf_241 rfl ?_
  refine g_iconst_3 C dX12_placeOf_243 ?_
  refine g_icmp_ne C 258 dX12_placeOf_244 rfl (fun c7 => ?_) (fun c7 => ?_)
  · replace h := h.1 c7
    refine g_aload_n C (i := 0) dX12_placeOf_258 rfl rfl ?_
    refine g_iload_n C (i := 1) dX12_placeOf_259 rfl rfl ?_
    refine g_lload C (i := 7) dX12_placeOf_260 rfl ?_
    refine g_lconst_1 C dX12_placeOf_262 ?_
    refine g_lsub C dX12_placeOf_263 ?_
    refine g_iconst_0 C dX12_placeOf_264 ?_
    refine m_callPi C rfl (wM_k_turned v1 (v7 - 1) 0 I5 J6 _ h) 3 swM_turned (rl_ok (by decide) (by decide)) rfl (Nat.le_of_ble_eq_true rfl) (st := []) _ rfl dX12_placeOf_265 (fun r8 h => ?_)
    refine g_iconst_2 C dX12_placeOf_268 ?_
    refine g_iadd C dX12_placeOf_269 ?_
    exact g_weak [0, 7, 8] rfl (Nat.le_refl _) (Nat.le_refl _) (wM_placeOf_gc270  C  ((J6 0 1) - (J3 0 1)) ((J6 0 2) - (J3 0 2)) (r8 + 2) I5 J6 h)
  · replace h := h.2 c7
    refine g_aload_n C (i := 0) dX12_placeOf_247 rfl rfl ?_
    refine g_iload_n C (i := 1) dX12_placeOf_248 rfl rfl ?_
    refine g_lload C (i := 5) dX12_placeOf_249 rfl ?_
    refine g_iconst_0 C dX12_placeOf_251 ?_
    refine m_callPi C rfl (wM_k_turned v1 v5 0 I5 J6 _ h) 3 swM_turned (rl_ok (by decide) (by decide)) rfl (Nat.le_of_ble_eq_true rfl) (st := []) _ rfl dX12_placeOf_252 (fun r9 h => ?_)
    refine g_goto C 270 dX12_placeOf_255 rfl ?_
    exact g_weak [0, 7, 8] rfl (Nat.le_refl _) (Nat.le_refl _) (wM_placeOf_gc270  C  ((J6 0 1) - (J3 0 1)) ((J6 0 2) - (J3 0 2)) r9 I5 J6 h)
set_option maxRecDepth 100000 in
theorem wM_placeOf_gc176 {Γ : gT} {D : gD} {ca : Nat → ClassId} {o : Nat → Nat} {Q : gI → gJ → Prop} (C : Cx Γ cX12_placeOf RX12 18 D (tyW ca) (rl 5) none 0 0 (PMv ca o Q)) (v1 : Int32) (v2 : Int64) (v4 : Int32) (v5 : Int64) (v7 : Int64) (s0 : Int64) (I : gI) (J : gJ) (h : wM_placeOf_c176 v1 v2 v4 v5 v7 s0 I J Q) : G Γ 0 0 176 [(0, .ref (o 0)), (1, .int v1), (2, .long v2), (4, .int v4), (5, .long v5), (7, .long v7)] [.long s0] (cM ca o I J) := by
  unfold wM_placeOf_c176 at h
  refine g_lstore C (i := 9) [(0, .ref (o 0)), (1, .int v1), (2, .long v2), (4, .int v4), (5, .long v5), (7, .long v7), (9, .long s0)] dX12_placeOf_176 (by decide) rfl ?_
  refine g_iload C (i := 4) dX12_placeOf_178 rfl ?_
  refine g_iconst_3 C dX12_placeOf_180 ?_
  refine g_icmp_ne C 191 dX12_placeOf_181 rfl (fun c1 => ?_) (fun c1 => ?_)
  · replace h := h.1 c1
    refine g_lload C (i := 7) dX12_placeOf_191 rfl ?_
    refine g_lload_n C (i := 2) dX12_placeOf_193 rfl rfl ?_
    refine g_lsub C dX12_placeOf_194 ?_
    exact g_weak [0, 1, 3, 4, 5, 6] rfl (Nat.le_refl _) (Nat.le_refl _) (wM_placeOf_gc195  C  v1 v4 v5 v7 s0 (v7 - v2) I J h)
  · replace h := h.2 c1
    refine g_lload C (i := 5) dX12_placeOf_184 rfl ?_
    refine g_lload_n C (i := 2) dX12_placeOf_186 rfl rfl ?_
    refine g_ladd C dX12_placeOf_187 ?_
    refine g_goto C 195 dX12_placeOf_188 rfl ?_
    exact g_weak [0, 1, 3, 4, 5, 6] rfl (Nat.le_refl _) (Nat.le_refl _) (wM_placeOf_gc195  C  v1 v4 v5 v7 s0 (v5 + v2) I J h)
set_option maxRecDepth 100000 in
theorem wM_placeOf_gc144 {Γ : gT} {D : gD} {ca : Nat → ClassId} {o : Nat → Nat} {Q : gI → gJ → Prop} (C : Cx Γ cX12_placeOf RX12 18 D (tyW ca) (rl 5) none 0 0 (PMv ca o Q)) (v1 : Int32) (v2 : Int64) (v4 : Int32) (I : gI) (J : gJ) (h : wM_placeOf_c144 v1 v2 v4 I J Q) : G Γ 0 0 144 [(0, .ref (o 0)), (1, .int v1), (2, .long v2), (4, .int v4)] [] (cM ca o I J) := by
  unfold wM_placeOf_c144 at h
  refine g_aload_n C (i := 0) dX12_placeOf_144 rfl rfl ?_
  refine g_iload_n C (i := 1) dX12_placeOf_145 rfl rfl ?_
  refine m_callPl C rfl (wM_k_cutOf v1 I J _ h) 1 swM_cutOf (rl_ok (by decide) (by decide)) rfl (Nat.le_of_ble_eq_true rfl) (st := []) _ rfl dX12_placeOf_146 (fun r1 h => ?_)
  refine g_lstore C (i := 5) [(0, .ref (o 0)), (1, .int v1), (2, .long v2), (4, .int v4), (5, .long r1)] dX12_placeOf_149 (by decide) rfl ?_
  refine g_aload_n C (i := 0) dX12_placeOf_151 rfl rfl ?_
  refine g_iload_n C (i := 1) dX12_placeOf_152 rfl rfl ?_
  refine m_callPl C rfl (wM_k_creasesOf v1 I J _ h) 1 swM_creasesOf (rl_ok (by decide) (by decide)) rfl (Nat.le_of_ble_eq_true rfl) (st := []) _ rfl dX12_placeOf_153 (fun r2 h => ?_)
  refine g_lconst_1 C dX12_placeOf_156 ?_
  refine g_ladd C dX12_placeOf_157 ?_
  refine g_lload C (i := 5) dX12_placeOf_158 rfl ?_
  refine g_ladd C dX12_placeOf_160 ?_
  refine g_lstore C (i := 7) [(0, .ref (o 0)), (1, .int v1), (2, .long v2), (4, .int v4), (5, .long r1), (7, .long ((r2 + 1) + r1))] dX12_placeOf_161 (by decide) rfl ?_
  refine g_iload C (i := 4) dX12_placeOf_163 rfl ?_
  refine g_iconst_3 C dX12_placeOf_165 ?_
  refine g_icmp_ne C 174 dX12_placeOf_166 rfl (fun c3 => ?_) (fun c3 => ?_)
  · replace h := h.1 c3
    refine g_lload C (i := 7) dX12_placeOf_174 rfl ?_
    exact g_weak [0, 1, 2, 3, 4, 5] rfl (Nat.le_refl _) (Nat.le_refl _) (wM_placeOf_gc176  C  v1 v2 v4 r1 ((r2 + 1) + r1) ((r2 + 1) + r1) I J h)
  · replace h := h.2 c3
    refine g_lload C (i := 5) dX12_placeOf_169 rfl ?_
    refine g_goto C 176 dX12_placeOf_171 rfl ?_
    exact g_weak [0, 1, 2, 3, 4, 5] rfl (Nat.le_refl _) (Nat.le_refl _) (wM_placeOf_gc176  C  v1 v2 v4 r1 ((r2 + 1) + r1) r1 I J h)
set_option maxRecDepth 100000 in
theorem wM_placeOf_gc97 {Γ : gT} {D : gD} {ca : Nat → ClassId} {o : Nat → Nat} {Q : gI → gJ → Prop} (C : Cx Γ cX12_placeOf RX12 18 D (tyW ca) (rl 5) none 0 0 (PMv ca o Q)) {B31 : Int32 → Int64 → Int32 → Int64 → gI → gJ → Prop} (hB31 : ∀ (v1 : Int32) (v2 : Int64) (v5 : Int32) (v6 : Int64) (I : gI) (J : gJ), B31 v1 v2 v5 v6 I J → G Γ 0 0 31 [(0, .ref (o 0)), (1, .int v1), (2, .long v2), (5, .int v5), (6, .long v6)] [] (cM ca o I J)) (v1 : Int32) (v2 : Int64) (v6 : Int64) (s0 : Int32) (s1 : Int32) (I : gI) (J : gJ) (h : wM_placeOf_c97 B31 v1 v2 v6 s0 s1 I J Q) : G Γ 0 0 97 [(0, .ref (o 0)), (1, .int v1), (2, .long v2), (6, .long v6)] [.int s1, .int s0] (cM ca o I J) := by
  unfold wM_placeOf_c97 at h
  refine g_iadd C dX12_placeOf_97 ?_
  refine g_istore C (i := 5) [(0, .ref (o 0)), (1, .int v1), (2, .long v2), (5, .int (s0 + s1)), (6, .long v6)] dX12_placeOf_98 (by decide) rfl ?_
  refine g_lload C (i := 6) dX12_placeOf_100 rfl ?_
  refine g_lconst_1 C dX12_placeOf_102 ?_
  refine g_ladd C dX12_placeOf_103 ?_
  refine g_lstore C (i := 6) [(0, .ref (o 0)), (1, .int v1), (2, .long v2), (5, .int (s0 + s1)), (6, .long (v6 + 1))] dX12_placeOf_104 (by decide) rfl ?_
  refine g_goto C 31 dX12_placeOf_106 rfl ?_
  exact g_weak [0, 1, 2, 3, 4] rfl (Nat.le_refl _) (Nat.le_refl _) (hB31 v1 v2 (s0 + s1) (v6 + 1) I J h)
set_option maxRecDepth 100000 in
theorem wM_placeOf_gc96 {Γ : gT} {D : gD} {ca : Nat → ClassId} {o : Nat → Nat} {Q : gI → gJ → Prop} (C : Cx Γ cX12_placeOf RX12 18 D (tyW ca) (rl 5) none 0 0 (PMv ca o Q)) {B31 : Int32 → Int64 → Int32 → Int64 → gI → gJ → Prop} (hB31 : ∀ (v1 : Int32) (v2 : Int64) (v5 : Int32) (v6 : Int64) (I : gI) (J : gJ), B31 v1 v2 v5 v6 I J → G Γ 0 0 31 [(0, .ref (o 0)), (1, .int v1), (2, .long v2), (5, .int v5), (6, .long v6)] [] (cM ca o I J)) (v1 : Int32) (v2 : Int64) (v6 : Int64) (s0 : Int32) (I : gI) (J : gJ) (h : wM_placeOf_c96 B31 v1 v2 v6 s0 I J Q) : G Γ 0 0 96 [(0, .ref (o 0)), (1, .int v1), (2, .long v2), (6, .long v6)] [.int s0] (cM ca o I J) := by
  unfold wM_placeOf_c96 at h
  refine g_iconst_m1 C dX12_placeOf_96 ?_
  exact g_weak [0, 1, 2, 3] rfl (Nat.le_refl _) (Nat.le_refl _) (wM_placeOf_gc97  C hB31 v1 v2 v6 s0 (-1) I J h)
set_option maxRecDepth 100000 in
theorem wM_placeOf_gb31 {Γ : gT} {D : gD} {ca : Nat → ClassId} {o : Nat → Nat} {Q : gI → gJ → Prop} (C : Cx Γ cX12_placeOf RX12 18 D (tyW ca) (rl 5) none 0 0 (PMv ca o Q)) {B31 : Int32 → Int64 → Int32 → Int64 → gI → gJ → Prop} (hB31 : ∀ (v1 : Int32) (v2 : Int64) (v5 : Int32) (v6 : Int64) (I : gI) (J : gJ), B31 v1 v2 v5 v6 I J → G Γ 0 0 31 [(0, .ref (o 0)), (1, .int v1), (2, .long v2), (5, .int v5), (6, .long v6)] [] (cM ca o I J)) (v1 : Int32) (v2 : Int64) (v5 : Int32) (v6 : Int64) (I : gI) (J : gJ) (h : wM_placeOf_b31 B31 v1 v2 v5 v6 I J Q) : G Γ 0 0 31 [(0, .ref (o 0)), (1, .int v1), (2, .long v2), (5, .int v5), (6, .long v6)] [] (cM ca o I J) := by
  unfold wM_placeOf_b31 at h
  refine g_lload C (i := 6) dX12_placeOf_31 rfl ?_
  refine g_lload_n C (i := 2) dX12_placeOf_33 rfl rfl ?_
  refine g_lgt C 109 dX12_placeOf_34 dX12_placeOf_35 rfl (fun c1 => ?_) (fun c1 => ?_)
  · replace h := h.1 c1
    exact g_ret_v C dX12_placeOf_109 (Nat.le_refl _) (Nat.le_refl _) ⟨_, _, rfl, rfl, h⟩
  · replace h := h.2 c1
    refine g_aload_n C (i := 0) dX12_placeOf_38 rfl rfl ?_
    refine g_dup C dX12_placeOf_39 rfl ?_
    refine m_get_atX C dX12_placeOf_40 ?_
    refine g_aload_n C (i := 0) dX12_placeOf_43 rfl rfl ?_
    refine g_lconst_1 C dX12_placeOf_44 ?_
    refine g_lconst_0 C dX12_placeOf_45 ?_
    refine g_iload C (i := 5) dX12_placeOf_46 rfl ?_
    refine m_callPl C rfl (wM_k_turnX 1 0 v5 I J _ h) 3 swM_turnX (rl_ok (by decide) (by decide)) rfl (Nat.le_of_ble_eq_true rfl) (st := [.long (J 0 1), .ref (o 0)]) _ rfl dX12_placeOf_48 (fun r2 h => ?_)
    refine g_ladd C dX12_placeOf_51 ?_
    refine m_put_atX C dX12_placeOf_52 ?_
    refine m_nmJ _ (fun J3 e4 => ?_)
    replace h := h J3 e4
    refine g_aload_n C (i := 0) dX12_placeOf_55 rfl rfl ?_
    refine g_dup C dX12_placeOf_56 rfl ?_
    refine m_get_atY C dX12_placeOf_57 ?_
    refine g_aload_n C (i := 0) dX12_placeOf_60 rfl rfl ?_
    refine g_lconst_1 C dX12_placeOf_61 ?_
    refine g_lconst_0 C dX12_placeOf_62 ?_
    refine g_iload C (i := 5) dX12_placeOf_63 rfl ?_
    refine m_callPl C rfl (wM_k_turnY 1 0 v5 I J3 _ h) 3 swM_turnY (rl_ok (by decide) (by decide)) rfl (Nat.le_of_ble_eq_true rfl) (st := [.long (J3 0 2), .ref (o 0)]) _ rfl dX12_placeOf_65 (fun r5 h => ?_)
    refine g_ladd C dX12_placeOf_68 ?_
    refine m_put_atY C dX12_placeOf_69 ?_
    refine m_nmJ _ (fun J6 e7 => ?_)
    replace h := h J6 e7
    refine g_iload C (i := 5) dX12_placeOf_72 rfl ?_
    refine g_lload C (i := 6) dX12_placeOf_74 rfl ?_
    refine g_lload_n C (i := 2) dX12_placeOf_76 rfl rfl ?_
    refine g_lge C 96 dX12_placeOf_77 dX12_placeOf_78 rfl (fun c8 => ?_) (fun c8 => ?_)
    · replace h := h.1 c8
      exact g_weak [0, 1, 2, 4] rfl (Nat.le_refl _) (Nat.le_refl _) (wM_placeOf_gc96  C hB31 v1 v2 v6 v5 I J6 h)
    · replace h := h.2 c8
      refine g_aload_n C (i := 0) dX12_placeOf_81 rfl rfl ?_
      refine g_iload_n C (i := 1) dX12_placeOf_82 rfl rfl ?_
      refine g_lload C (i := 6) dX12_placeOf_83 rfl ?_
      refine m_callPi C rfl (wM_k_creaseOf v1 v6 I J6 _ h) 2 swM_creaseOf (rl_ok (by decide) (by decide)) rfl (Nat.le_of_ble_eq_true rfl) (st := [.int v5]) _ rfl dX12_placeOf_85 (fun r9 h => ?_)
      refine g_iconst_1 C dX12_placeOf_88 ?_
      refine g_icmp_ne C 96 dX12_placeOf_89 rfl (fun c10 => ?_) (fun c10 => ?_)
      · replace h := h.1 c10
        exact g_weak [0, 1, 2, 4] rfl (Nat.le_refl _) (Nat.le_refl _) (wM_placeOf_gc96  C hB31 v1 v2 v6 v5 I J6 h)
      · replace h := h.2 c10
        refine g_iconst_1 C dX12_placeOf_92 ?_
        refine g_goto C 97 dX12_placeOf_93 rfl ?_
        exact g_weak [0, 1, 2, 4] rfl (Nat.le_refl _) (Nat.le_refl _) (wM_placeOf_gc97  C hB31 v1 v2 v6 v5 1 I J6 h)
theorem wM_placeOf_gl31 {Γ : gT} {D : gD} {ca : Nat → ClassId} {o : Nat → Nat} {Q : gI → gJ → Prop} (C : Cx Γ cX12_placeOf RX12 18 D (tyW ca) (rl 5) none 0 0 (PMv ca o Q)) : ∀ (n : Nat) (v1 : Int32) (v2 : Int64) (v5 : Int32) (v6 : Int64) (I : gI) (J : gJ) (_ : wM_placeOf_l31 Q n v1 v2 v5 v6 I J), G Γ 0 0 31 [(0, .ref (o 0)), (1, .int v1), (2, .long v2), (5, .int v5), (6, .long v6)] [] (cM ca o I J) := by
  intro n
  induction n with
  | zero => intro v1 v2 v5 v6 I J h; exact h.elim
  | succ n ih => intro v1 v2 v5 v6 I J h; exact wM_placeOf_gb31 C ih v1 v2 v5 v6 I J h
set_option maxRecDepth 100000 in
theorem wM_placeOf_g {Γ : gT} {D : gD} {ca : Nat → ClassId} {o : Nat → Nat} {Q : gI → gJ → Prop} (v1 : Int32) (v2 : Int64) (I : gI) (J : gJ) (C : Cx Γ cX12_placeOf RX12 18 D (tyW ca) (rl 5) none 0 0 (PMv ca o Q)) (h : wM_placeOf v1 v2 I J Q) : G Γ 0 0 0 [(0, .ref (o 0)), (1, .int v1), (2, .long v2)] [] (cM ca o I J) := by
  unfold wM_placeOf at h
  refine g_aload_n C (i := 0) dX12_placeOf_0 rfl rfl ?_
  refine m_get_kind C dX12_placeOf_1 ?_
  refine g_iload_n C (i := 1) dX12_placeOf_4 rfl rfl ?_
  obtain ⟨h1, h⟩ := h
  refine m_iald C (k := 2) (by decide) h1 dX12_placeOf_5 ?_
  refine g_istore C (i := 4) [(0, .ref (o 0)), (1, .int v1), (2, .long v2), (4, .int (I 2 v1.toNatClampNeg))] dX12_placeOf_6 (by decide) rfl ?_
  refine g_iload C (i := 4) dX12_placeOf_8 rfl ?_
  refine g_bipush C (v := 6) dX12_placeOf_10 (by decide) ?_
  refine g_icmp_ne C 110 dX12_placeOf_12 rfl (fun c2 => ?_) (fun c2 => ?_)
  · replace h := h.1 c2
    refine g_iload C (i := 4) dX12_placeOf_110 rfl ?_
    refine g_iconst_3 C dX12_placeOf_112 ?_
    refine g_icmp_eq C 144 dX12_placeOf_113 rfl (fun c3 => ?_) (fun c3 => ?_)
    · replace h := h.1 c3
      exact g_weak [0, 1, 2, 3] rfl (Nat.le_refl _) (Nat.le_refl _) (wM_placeOf_gc144  C  v1 v2 (I 2 v1.toNatClampNeg) I J h)
    · replace h := h.2 c3
      refine g_iload C (i := 4) dX12_placeOf_116 rfl ?_
      refine g_iconst_4 C dX12_placeOf_118 ?_
      refine g_icmp_eq C 144 dX12_placeOf_119 rfl (fun c4 => ?_) (fun c4 => ?_)
      · replace h := h.1 c4
        exact g_weak [0, 1, 2, 3] rfl (Nat.le_refl _) (Nat.le_refl _) (wM_placeOf_gc144  C  v1 v2 (I 2 v1.toNatClampNeg) I J h)
      · replace h := h.2 c4
        refine g_aload_n C (i := 0) dX12_placeOf_122 rfl rfl ?_
        refine g_iload_n C (i := 1) dX12_placeOf_123 rfl rfl ?_
        refine g_lload_n C (i := 2) dX12_placeOf_124 rfl rfl ?_
        refine m_callv C rfl (wM_k_plainPlace v1 v2 I J _ h) 2 swM_plainPlace (rl_ok (by decide) (by decide)) rfl (Nat.le_of_ble_eq_true rfl) (st := []) _ rfl dX12_placeOf_125 (fun I6 J7 h => ?_)
        refine g_iload C (i := 4) dX12_placeOf_128 rfl ?_
        refine g_iconst_5 C dX12_placeOf_130 ?_
        refine g_icmp_ne C 143 dX12_placeOf_131 rfl (fun c8 => ?_) (fun c8 => ?_)
        · replace h := h.1 c8
          exact g_ret_v C dX12_placeOf_143 (Nat.le_refl _) (Nat.le_refl _) ⟨_, _, rfl, rfl, h⟩
        · replace h := h.2 c8
          refine g_aload_n C (i := 0) dX12_placeOf_134 rfl rfl ?_
          refine g_aload_n C (i := 0) dX12_placeOf_135 rfl rfl ?_
          refine m_get_atY C dX12_placeOf_136 ?_
          refine g_lneg C dX12_placeOf_139 ?_
          refine m_put_atY C dX12_placeOf_140 ?_
          refine m_nmJ _ (fun J9 e10 => ?_)
          replace h := h J9 e10
          exact g_ret_v C dX12_placeOf_143 (Nat.le_refl _) (Nat.le_refl _) ⟨_, _, rfl, rfl, h⟩
  · replace h := h.2 c2
    refine g_aload_n C (i := 0) dX12_placeOf_15 rfl rfl ?_
    refine g_lconst_0 C dX12_placeOf_16 ?_
    refine m_put_atX C dX12_placeOf_17 ?_
    refine m_nmJ _ (fun J11 e12 => ?_)
    replace h := h J11 e12
    refine g_aload_n C (i := 0) dX12_placeOf_20 rfl rfl ?_
    refine g_lconst_0 C dX12_placeOf_21 ?_
    refine m_put_atY C dX12_placeOf_22 ?_
    refine m_nmJ _ (fun J13 e14 => ?_)
    replace h := h J13 e14
    refine g_iconst_0 C dX12_placeOf_25 ?_
    refine g_istore C (i := 5) [(0, .ref (o 0)), (1, .int v1), (2, .long v2), (4, .int (I 2 v1.toNatClampNeg)), (5, .int 0)] dX12_placeOf_26 (by decide) rfl ?_
    refine g_lconst_1 C dX12_placeOf_28 ?_
    refine g_lstore C (i := 6) [(0, .ref (o 0)), (1, .int v1), (2, .long v2), (4, .int (I 2 v1.toNatClampNeg)), (5, .int 0), (6, .long 1)] dX12_placeOf_29 (by decide) rfl ?_
    obtain ⟨n, h⟩ := h
    exact g_weak [0, 1, 2, 4, 5] rfl (Nat.le_refl _) (Nat.le_refl _) (wM_placeOf_gl31  C  n v1 v2 0 1 I J13 h)
theorem wM_k_placeOf {D : gD} {ca : Nat → ClassId} {o : Nat → Nat} (v1 : Int32) (v2 : Int64) (I : gI) (J : gJ) (Q : gI → gJ → Prop) (h : wM_placeOf v1 v2 I J Q) : Ct yX12_placeOf cX12_placeOf 18 none (rl 5) D (tyW ca) 0 0 [.ref (o 0), .int v1, .long v2] (cM ca o I J) (PMv ca o Q) := ct_of (rm := rl 5) (by decide +kernel) (Nat.le_of_ble_eq_true rfl) (fun Γ C => wM_placeOf_g v1 v2 I J C h)
set_option maxRecDepth 100000 in
theorem wM_walked_gb16 {Γ : gT} {D : gD} {ca : Nat → ClassId} {o : Nat → Nat} {Q : gI → gJ → Prop} {k4 : Nat} (hk4 : 1 ≤ k4 ∧ k4 ≤ 29) {k5 : Nat} (hk5 : 1 ≤ k5 ∧ k5 ≤ 29) (C : Cx Γ cX12_walked RX12 8 D (tyW ca) (rl 5) none 0 0 (PMv ca o Q)) {B16 : Int32 → Int32 → Int32 → Int32 → gI → gJ → Prop} (hB16 : ∀ (v1 : Int32) (v2 : Int32) (v6 : Int32) (v7 : Int32) (I : gI) (J : gJ), B16 v1 v2 v6 v7 I J → G Γ 0 0 16 [(0, .ref (o 0)), (1, .int v1), (2, .int v2), (4, .ref (o k4)), (5, .ref (o k5)), (6, .int v6), (7, .int v7)] [] (cM ca o I J)) (v1 : Int32) (v2 : Int32) (v6 : Int32) (v7 : Int32) (I : gI) (J : gJ) (h : wM_walked_b16 k4 k5 B16 v1 v2 v6 v7 I J Q) : G Γ 0 0 16 [(0, .ref (o 0)), (1, .int v1), (2, .int v2), (4, .ref (o k4)), (5, .ref (o k5)), (6, .int v6), (7, .int v7)] [] (cM ca o I J) := by
  unfold wM_walked_b16 at h
  refine g_iload C (i := 7) dX12_walked_16 rfl ?_
  refine g_iload_n C (i := 2) dX12_walked_18 rfl rfl ?_
  refine g_icmp_gt C 100 dX12_walked_19 rfl (fun c1 => ?_) (fun c1 => ?_)
  · replace h := h.1 c1
    exact g_ret_v C dX12_walked_100 (Nat.le_refl _) (Nat.le_refl _) ⟨_, _, rfl, rfl, h⟩
  · replace h := h.2 c1
    refine g_aload C (i := 4) dX12_walked_22 rfl ?_
    refine g_iload C (i := 7) dX12_walked_24 rfl ?_
    refine g_aload C (i := 4) dX12_walked_26 rfl ?_
    refine g_iload C (i := 7) dX12_walked_28 rfl ?_
    refine g_iconst_1 C dX12_walked_30 ?_
    refine g_isub C dX12_walked_31 ?_
    obtain ⟨h2, h⟩ := h
    refine m_iald C (k := k4) hk4 h2 dX12_walked_32 ?_
    refine g_aload_n C (i := 0) dX12_walked_33 rfl rfl ?_
    refine g_lconst_1 C dX12_walked_34 ?_
    refine g_lconst_0 C dX12_walked_35 ?_
    refine g_iload C (i := 6) dX12_walked_36 rfl ?_
    refine m_callPl C rfl (wM_k_turnX 1 0 v6 I J _ h) 3 swM_turnX (rl_ok (by decide) (by decide)) rfl (Nat.le_of_ble_eq_true rfl) (st := [.int (I k4 (v7 - 1).toNatClampNeg), .int v7, .ref (o k4)]) _ rfl dX12_walked_38 (fun r3 h => ?_)
    refine g_l2i C dX12_walked_41 ?_
    refine g_iadd C dX12_walked_42 ?_
    obtain ⟨h4, h⟩ := h
    refine m_iast C (k := k4) hk4 h4 dX12_walked_43 ?_
    refine m_nmI _ (fun I5 e6 => ?_)
    replace h := h I5 e6
    refine g_aload C (i := 5) dX12_walked_44 rfl ?_
    refine g_iload C (i := 7) dX12_walked_46 rfl ?_
    refine g_aload C (i := 5) dX12_walked_48 rfl ?_
    refine g_iload C (i := 7) dX12_walked_50 rfl ?_
    refine g_iconst_1 C dX12_walked_52 ?_
    refine g_isub C dX12_walked_53 ?_
    obtain ⟨h7, h⟩ := h
    refine m_iald C (k := k5) hk5 h7 dX12_walked_54 ?_
    refine g_aload_n C (i := 0) dX12_walked_55 rfl rfl ?_
    refine g_lconst_1 C dX12_walked_56 ?_
    refine g_lconst_0 C dX12_walked_57 ?_
    refine g_iload C (i := 6) dX12_walked_58 rfl ?_
    refine m_callPl C rfl (wM_k_turnY 1 0 v6 I5 J _ h) 3 swM_turnY (rl_ok (by decide) (by decide)) rfl (Nat.le_of_ble_eq_true rfl) (st := [.int (I5 k5 (v7 - 1).toNatClampNeg), .int v7, .ref (o k5)]) _ rfl dX12_walked_60 (fun r8 h => ?_)
    refine g_l2i C dX12_walked_63 ?_
    refine g_iadd C dX12_walked_64 ?_
    obtain ⟨h9, h⟩ := h
    refine m_iast C (k := k5) hk5 h9 dX12_walked_65 ?_
    refine m_nmI _ (fun I10 e11 => ?_)
    replace h := h I10 e11
    refine g_iload C (i := 7) dX12_walked_66 rfl ?_
    refine g_iload_n C (i := 2) dX12_walked_68 rfl rfl ?_
    refine g_icmp_ge C 94 dX12_walked_69 rfl (fun c12 => ?_) (fun c12 => ?_)
    · replace h := h.1 c12
      refine g_iinc C 1 [(0, .ref (o 0)), (1, .int v1), (2, .int v2), (4, .ref (o k4)), (5, .ref (o k5)), (6, .int v6), (7, .int (v7 + 1))] dX12_walked_94 rfl (by decide) (by decide) rfl ?_
      refine g_goto C 16 dX12_walked_97 rfl ?_
      exact g_weak [0, 1, 2, 3, 4, 5, 6] rfl (Nat.le_refl _) (Nat.le_refl _) (hB16 v1 v2 v6 (v7 + 1) I10 J h)
    · replace h := h.2 c12
      refine g_iload C (i := 6) dX12_walked_72 rfl ?_
      refine g_aload_n C (i := 0) dX12_walked_74 rfl rfl ?_
      refine g_iload_n C (i := 1) dX12_walked_75 rfl rfl ?_
      refine g_iload C (i := 7) dX12_walked_76 rfl ?_
      refine g_i2l C dX12_walked_78 ?_
      refine m_callPi C rfl (wM_k_creaseOf v1 v7.toInt64 I10 J _ h) 2 swM_creaseOf (rl_ok (by decide) (by decide)) rfl (Nat.le_of_ble_eq_true rfl) (st := [.int v6]) _ rfl dX12_walked_79 (fun r13 h => ?_)
      refine g_iconst_1 C dX12_walked_82 ?_
      refine g_icmp_ne C 90 dX12_walked_83 rfl (fun c14 => ?_) (fun c14 => ?_)
      · replace h := h.1 c14
        refine g_iconst_m1 C dX12_walked_90 ?_
        refine g_iadd C dX12_walked_91 ?_
        refine g_istore C (i := 6) [(0, .ref (o 0)), (1, .int v1), (2, .int v2), (4, .ref (o k4)), (5, .ref (o k5)), (6, .int (v6 + (-1))), (7, .int v7)] dX12_walked_92 (by decide) rfl ?_
        refine g_iinc C 1 [(0, .ref (o 0)), (1, .int v1), (2, .int v2), (4, .ref (o k4)), (5, .ref (o k5)), (6, .int (v6 + (-1))), (7, .int (v7 + 1))] dX12_walked_94 rfl (by decide) (by decide) rfl ?_
        refine g_goto C 16 dX12_walked_97 rfl ?_
        exact g_weak [0, 1, 2, 3, 4, 5, 6] rfl (Nat.le_refl _) (Nat.le_refl _) (hB16 v1 v2 (v6 + (-1)) (v7 + 1) I10 J h)
      · replace h := h.2 c14
        refine g_iconst_1 C dX12_walked_86 ?_
        refine g_goto C 91 dX12_walked_87 rfl ?_
        refine g_iadd C dX12_walked_91 ?_
        refine g_istore C (i := 6) [(0, .ref (o 0)), (1, .int v1), (2, .int v2), (4, .ref (o k4)), (5, .ref (o k5)), (6, .int (v6 + 1)), (7, .int v7)] dX12_walked_92 (by decide) rfl ?_
        refine g_iinc C 1 [(0, .ref (o 0)), (1, .int v1), (2, .int v2), (4, .ref (o k4)), (5, .ref (o k5)), (6, .int (v6 + 1)), (7, .int (v7 + 1))] dX12_walked_94 rfl (by decide) (by decide) rfl ?_
        refine g_goto C 16 dX12_walked_97 rfl ?_
        exact g_weak [0, 1, 2, 3, 4, 5, 6] rfl (Nat.le_refl _) (Nat.le_refl _) (hB16 v1 v2 (v6 + 1) (v7 + 1) I10 J h)
theorem wM_walked_gl16 {Γ : gT} {D : gD} {ca : Nat → ClassId} {o : Nat → Nat} {Q : gI → gJ → Prop} {k4 : Nat} (hk4 : 1 ≤ k4 ∧ k4 ≤ 29) {k5 : Nat} (hk5 : 1 ≤ k5 ∧ k5 ≤ 29) (C : Cx Γ cX12_walked RX12 8 D (tyW ca) (rl 5) none 0 0 (PMv ca o Q)) : ∀ (n : Nat) (v1 : Int32) (v2 : Int32) (v6 : Int32) (v7 : Int32) (I : gI) (J : gJ) (_ : wM_walked_l16 k4 k5 Q n v1 v2 v6 v7 I J), G Γ 0 0 16 [(0, .ref (o 0)), (1, .int v1), (2, .int v2), (4, .ref (o k4)), (5, .ref (o k5)), (6, .int v6), (7, .int v7)] [] (cM ca o I J) := by
  intro n
  induction n with
  | zero => intro v1 v2 v6 v7 I J h; exact h.elim
  | succ n ih => intro v1 v2 v6 v7 I J h; exact wM_walked_gb16 hk4 hk5 C ih v1 v2 v6 v7 I J h
set_option maxRecDepth 100000 in
theorem wM_walked_g {Γ : gT} {D : gD} {ca : Nat → ClassId} {o : Nat → Nat} {Q : gI → gJ → Prop} {k4 : Nat} (hk4 : 1 ≤ k4 ∧ k4 ≤ 29) {k5 : Nat} (hk5 : 1 ≤ k5 ∧ k5 ≤ 29) (v1 : Int32) (v2 : Int32) (v3 : Int32) (I : gI) (J : gJ) (C : Cx Γ cX12_walked RX12 8 D (tyW ca) (rl 5) none 0 0 (PMv ca o Q)) (h : wM_walked k4 k5 v1 v2 v3 I J Q) : G Γ 0 0 0 [(0, .ref (o 0)), (1, .int v1), (2, .int v2), (3, .int v3), (4, .ref (o k4)), (5, .ref (o k5))] [] (cM ca o I J) := by
  unfold wM_walked at h
  refine g_iload_n C (i := 3) dX12_walked_0 rfl rfl ?_
  refine g_istore C (i := 6) [(0, .ref (o 0)), (1, .int v1), (2, .int v2), (3, .int v3), (4, .ref (o k4)), (5, .ref (o k5)), (6, .int v3)] dX12_walked_1 (by decide) rfl ?_
  refine g_aload C (i := 4) dX12_walked_3 rfl ?_
  refine g_iconst_0 C dX12_walked_5 ?_
  refine g_iconst_0 C dX12_walked_6 ?_
  obtain ⟨h1, h⟩ := h
  refine m_iast C (k := k4) hk4 h1 dX12_walked_7 ?_
  refine m_nmI _ (fun I2 e3 => ?_)
  replace h := h I2 e3
  refine g_aload C (i := 5) dX12_walked_8 rfl ?_
  refine g_iconst_0 C dX12_walked_10 ?_
  refine g_iconst_0 C dX12_walked_11 ?_
  obtain ⟨h4, h⟩ := h
  refine m_iast C (k := k5) hk5 h4 dX12_walked_12 ?_
  refine m_nmI _ (fun I5 e6 => ?_)
  replace h := h I5 e6
  refine g_iconst_1 C dX12_walked_13 ?_
  refine g_istore C (i := 7) [(0, .ref (o 0)), (1, .int v1), (2, .int v2), (3, .int v3), (4, .ref (o k4)), (5, .ref (o k5)), (6, .int v3), (7, .int 1)] dX12_walked_14 (by decide) rfl ?_
  obtain ⟨n, h⟩ := h
  exact g_weak [0, 1, 2, 4, 5, 6, 7] rfl (Nat.le_refl _) (Nat.le_refl _) (wM_walked_gl16 hk4 hk5 C  n v1 v2 v3 1 I5 J h)
theorem wM_k_walked {D : gD} {ca : Nat → ClassId} {o : Nat → Nat} {k4 : Nat} (hk4 : 1 ≤ k4 ∧ k4 ≤ 29) {k5 : Nat} (hk5 : 1 ≤ k5 ∧ k5 ≤ 29) (v1 : Int32) (v2 : Int32) (v3 : Int32) (I : gI) (J : gJ) (Q : gI → gJ → Prop) (h : wM_walked k4 k5 v1 v2 v3 I J Q) : Ct yX12_walked cX12_walked 8 none (rl 5) D (tyW ca) 0 0 [.ref (o 0), .int v1, .int v2, .int v3, .ref (o k4), .ref (o k5)] (cM ca o I J) (PMv ca o Q) := ct_of (rm := rl 5) (by decide +kernel) (Nat.le_of_ble_eq_true rfl) (fun Γ C => wM_walked_g hk4 hk5 v1 v2 v3 I J C h)
set_option maxRecDepth 100000 in
theorem wM_judge_gc98 {Γ : gT} {D : gD} {ca : Nat → ClassId} {o : Nat → Nat} {Q : Int32 → gI → gJ → Prop} (C : Cx Γ cX12_judge RX12 7 D (tyW ca) (rl 5) (some .int) 0 0 (PMi ca o Q)) {B70 : Int32 → Int32 → Int32 → Int32 → gI → gJ → Prop} (hB70 : ∀ (v1 : Int32) (v2 : Int32) (v3 : Int32) (v5 : Int32) (I : gI) (J : gJ), B70 v1 v2 v3 v5 I J → G Γ 0 0 70 [(0, .ref (o 0)), (1, .int v1), (2, .int v2), (3, .int v3), (5, .int v5)] [] (cM ca o I J)) (v1 : Int32) (v2 : Int32) (v3 : Int32) (v5 : Int32) (v6 : Int32) (I : gI) (J : gJ) (h : wM_judge_c98 B70 v1 v2 v3 v5 v6 I J Q) : G Γ 0 0 98 [(0, .ref (o 0)), (1, .int v1), (2, .int v2), (3, .int v3), (5, .int v5), (6, .int v6)] [] (cM ca o I J) := by
  unfold wM_judge_c98 at h
  refine g_iload C (i := 6) dX12_judge_98 rfl ?_
  refine g_aload_n C (i := 0) dX12_judge_100 rfl rfl ?_
  refine g_iload_n C (i := 1) dX12_judge_101 rfl rfl ?_
  refine g_iload C (i := 5) dX12_judge_102 rfl ?_
  refine g_i2l C dX12_judge_104 ?_
  refine m_callPi C rfl (wM_k_creaseOf v1 v5.toInt64 I J _ h) 2 swM_creaseOf (rl_ok (by decide) (by decide)) rfl (Nat.le_of_ble_eq_true rfl) (st := [.int v6]) _ rfl dX12_judge_105 (fun r1 h => ?_)
  refine g_icmp_eq C 114 dX12_judge_108 rfl (fun c2 => ?_) (fun c2 => ?_)
  · replace h := h.1 c2
    refine g_iinc C 1 [(0, .ref (o 0)), (1, .int v1), (2, .int v2), (3, .int v3), (5, .int (v5 + 1)), (6, .int v6)] dX12_judge_114 rfl (by decide) (by decide) rfl ?_
    refine g_goto C 70 dX12_judge_117 rfl ?_
    exact g_weak [0, 1, 2, 3, 4] rfl (Nat.le_refl _) (Nat.le_refl _) (hB70 v1 v2 v3 (v5 + 1) I J h)
  · replace h := h.2 c2
    refine g_iload C (i := 5) dX12_judge_111 rfl ?_
    exact g_ret_i C dX12_judge_113 (Nat.le_refl _) (Nat.le_refl _) ⟨_, _, _, rfl, rfl, h⟩
set_option maxRecDepth 100000 in
theorem wM_judge_gb70 {Γ : gT} {D : gD} {ca : Nat → ClassId} {o : Nat → Nat} {Q : Int32 → gI → gJ → Prop} (C : Cx Γ cX12_judge RX12 7 D (tyW ca) (rl 5) (some .int) 0 0 (PMi ca o Q)) {B70 : Int32 → Int32 → Int32 → Int32 → gI → gJ → Prop} (hB70 : ∀ (v1 : Int32) (v2 : Int32) (v3 : Int32) (v5 : Int32) (I : gI) (J : gJ), B70 v1 v2 v3 v5 I J → G Γ 0 0 70 [(0, .ref (o 0)), (1, .int v1), (2, .int v2), (3, .int v3), (5, .int v5)] [] (cM ca o I J)) (v1 : Int32) (v2 : Int32) (v3 : Int32) (v5 : Int32) (I : gI) (J : gJ) (h : wM_judge_b70 B70 v1 v2 v3 v5 I J Q) : G Γ 0 0 70 [(0, .ref (o 0)), (1, .int v1), (2, .int v2), (3, .int v3), (5, .int v5)] [] (cM ca o I J) := by
  unfold wM_judge_b70 at h
  refine g_iload C (i := 5) dX12_judge_70 rfl ?_
  refine g_iload_n C (i := 3) dX12_judge_72 rfl rfl ?_
  refine g_icmp_gt C 120 dX12_judge_73 rfl (fun c1 => ?_) (fun c1 => ?_)
  · replace h := h.1 c1
    refine g_iconst_m1 C dX12_judge_120 ?_
    exact g_ret_i C dX12_judge_121 (Nat.le_refl _) (Nat.le_refl _) ⟨_, _, _, rfl, rfl, h⟩
  · replace h := h.2 c1
    refine g_aload_n C (i := 0) dX12_judge_76 rfl rfl ?_
    refine g_iload_n C (i := 2) dX12_judge_77 rfl rfl ?_
    refine g_iload C (i := 5) dX12_judge_78 rfl ?_
    refine g_iconst_1 C dX12_judge_80 ?_
    refine g_isub C dX12_judge_81 ?_
    refine m_callPi C rfl (wM_k_intAt v2 (v5 - 1) I J _ h) 2 swM_intAt (rl_ok (by decide) (by decide)) rfl (Nat.le_of_ble_eq_true rfl) (st := []) _ rfl dX12_judge_82 (fun r2 h => ?_)
    refine g_istore C (i := 6) [(0, .ref (o 0)), (1, .int v1), (2, .int v2), (3, .int v3), (5, .int v5), (6, .int r2)] dX12_judge_85 (by decide) rfl ?_
    refine g_iload C (i := 6) dX12_judge_87 rfl ?_
    refine g_if_eq C 98 dX12_judge_89 rfl (fun c3 => ?_) (fun c3 => ?_)
    · replace h := h.1 c3
      exact g_weak [0, 1, 2, 3, 4, 5] rfl (Nat.le_refl _) (Nat.le_refl _) (wM_judge_gc98  C hB70 v1 v2 v3 v5 r2 I J h)
    · replace h := h.2 c3
      refine g_iload C (i := 6) dX12_judge_92 rfl ?_
      refine g_iconst_1 C dX12_judge_94 ?_
      refine g_icmp_ne C 114 dX12_judge_95 rfl (fun c4 => ?_) (fun c4 => ?_)
      · replace h := h.1 c4
        refine g_iinc C 1 [(0, .ref (o 0)), (1, .int v1), (2, .int v2), (3, .int v3), (5, .int (v5 + 1)), (6, .int r2)] dX12_judge_114 rfl (by decide) (by decide) rfl ?_
        refine g_goto C 70 dX12_judge_117 rfl ?_
        exact g_weak [0, 1, 2, 3, 4] rfl (Nat.le_refl _) (Nat.le_refl _) (hB70 v1 v2 v3 (v5 + 1) I J h)
      · replace h := h.2 c4
        exact g_weak [0, 1, 2, 3, 4, 5] rfl (Nat.le_refl _) (Nat.le_refl _) (wM_judge_gc98  C hB70 v1 v2 v3 v5 r2 I J h)
theorem wM_judge_gl70 {Γ : gT} {D : gD} {ca : Nat → ClassId} {o : Nat → Nat} {Q : Int32 → gI → gJ → Prop} (C : Cx Γ cX12_judge RX12 7 D (tyW ca) (rl 5) (some .int) 0 0 (PMi ca o Q)) : ∀ (n : Nat) (v1 : Int32) (v2 : Int32) (v3 : Int32) (v5 : Int32) (I : gI) (J : gJ) (_ : wM_judge_l70 Q n v1 v2 v3 v5 I J), G Γ 0 0 70 [(0, .ref (o 0)), (1, .int v1), (2, .int v2), (3, .int v3), (5, .int v5)] [] (cM ca o I J) := by
  intro n
  induction n with
  | zero => intro v1 v2 v3 v5 I J h; exact h.elim
  | succ n ih => intro v1 v2 v3 v5 I J h; exact wM_judge_gb70 C ih v1 v2 v3 v5 I J h
set_option maxRecDepth 100000 in
theorem wM_judge_gc42 {Γ : gT} {D : gD} {ca : Nat → ClassId} {o : Nat → Nat} {Q : Int32 → gI → gJ → Prop} (C : Cx Γ cX12_judge RX12 7 D (tyW ca) (rl 5) (some .int) 0 0 (PMi ca o Q)) (v1 : Int32) (v2 : Int32) (v3 : Int32) (v4 : Int32) (I : gI) (J : gJ) (h : wM_judge_c42 v1 v2 v3 v4 I J Q) : G Γ 0 0 42 [(0, .ref (o 0)), (1, .int v1), (2, .int v2), (3, .int v3), (4, .int v4)] [] (cM ca o I J) := by
  unfold wM_judge_c42 at h
  refine g_iload C (i := 4) dX12_judge_42 rfl ?_
  refine g_if_eq C 54 dX12_judge_44 rfl (fun c1 => ?_) (fun c1 => ?_)
  · replace h := h.1 c1
    refine g_iload_n C (i := 3) dX12_judge_54 rfl rfl ?_
    refine g_bipush C (v := 63) dX12_judge_55 (by decide) ?_
    refine g_icmp_le C 67 dX12_judge_57 rfl (fun c2 => ?_) (fun c2 => ?_)
    · replace h := h.1 c2
      refine g_iconst_1 C dX12_judge_67 ?_
      refine g_istore C (i := 5) [(0, .ref (o 0)), (1, .int v1), (2, .int v2), (3, .int v3), (4, .int v4), (5, .int 1)] dX12_judge_68 (by decide) rfl ?_
      obtain ⟨n, h⟩ := h
      exact g_weak [0, 1, 2, 3, 5] rfl (Nat.le_refl _) (Nat.le_refl _) (wM_judge_gl70  C  n v1 v2 v3 1 I J h)
    · replace h := h.2 c2
      refine g_aload_n C (i := 0) dX12_judge_60 rfl rfl ?_
      refine g_bipush C (v := (-6)) dX12_judge_61 (by decide) ?_
      refine m_calli C rfl (wM_k_noTen (-6) I J _ h) 1 swM_noTen (rl_ok (by decide) (by decide)) rfl (Nat.le_of_ble_eq_true rfl) (st := []) _ rfl dX12_judge_63 (fun r3 I4 J5 h => ?_)
      exact g_ret_i C dX12_judge_66 (Nat.le_refl _) (Nat.le_refl _) ⟨_, _, _, rfl, rfl, h⟩
  · replace h := h.2 c1
    refine g_aload_n C (i := 0) dX12_judge_47 rfl rfl ?_
    refine g_iload C (i := 4) dX12_judge_48 rfl ?_
    refine m_calli C rfl (wM_k_noTen v4 I J _ h) 1 swM_noTen (rl_ok (by decide) (by decide)) rfl (Nat.le_of_ble_eq_true rfl) (st := []) _ rfl dX12_judge_50 (fun r6 I7 J8 h => ?_)
    exact g_ret_i C dX12_judge_53 (Nat.le_refl _) (Nat.le_refl _) ⟨_, _, _, rfl, rfl, h⟩
set_option maxRecDepth 100000 in
theorem wM_judge_g {Γ : gT} {D : gD} {ca : Nat → ClassId} {o : Nat → Nat} {Q : Int32 → gI → gJ → Prop} (v1 : Int32) (v2 : Int32) (v3 : Int32) (I : gI) (J : gJ) (C : Cx Γ cX12_judge RX12 7 D (tyW ca) (rl 5) (some .int) 0 0 (PMi ca o Q)) (h : wM_judge v1 v2 v3 I J Q) : G Γ 0 0 0 [(0, .ref (o 0)), (1, .int v1), (2, .int v2), (3, .int v3)] [] (cM ca o I J) := by
  unfold wM_judge at h
  refine g_aload_n C (i := 0) dX12_judge_0 rfl rfl ?_
  refine g_iload_n C (i := 1) dX12_judge_1 rfl rfl ?_
  refine m_callPz C rfl (wM_k_isStrip v1 I J _ h) 1 swM_isStrip (rl_ok (by decide) (by decide)) rfl (Nat.le_of_ble_eq_true rfl) (st := []) _ rfl dX12_judge_2 (fun r1 h => ?_)
  refine g_zne C 14 dX12_judge_5 rfl (fun c2 => ?_) (fun c2 => ?_)
  · replace h := h.1 c2
    refine g_aload_n C (i := 0) dX12_judge_14 rfl rfl ?_
    refine g_iload_n C (i := 2) dX12_judge_15 rfl rfl ?_
    refine g_iload_n C (i := 3) dX12_judge_16 rfl rfl ?_
    refine m_callPi C rfl (wM_k_bars v2 v3 I J _ h) 2 swM_bars (rl_ok (by decide) (by decide)) rfl (Nat.le_of_ble_eq_true rfl) (st := []) _ rfl dX12_judge_17 (fun r3 h => ?_)
    refine g_istore C (i := 4) [(0, .ref (o 0)), (1, .int v1), (2, .int v2), (3, .int v3), (4, .int r3)] dX12_judge_20 (by decide) rfl ?_
    refine g_iload C (i := 4) dX12_judge_22 rfl ?_
    refine g_if_ne C 42 dX12_judge_24 rfl (fun c4 => ?_) (fun c4 => ?_)
    · replace h := h.1 c4
      exact g_weak [0, 1, 2, 3, 4] rfl (Nat.le_refl _) (Nat.le_refl _) (wM_judge_gc42  C  v1 v2 v3 r3 I J h)
    · replace h := h.2 c4
      refine g_iload_n C (i := 3) dX12_judge_27 rfl rfl ?_
      refine g_i2l C dX12_judge_28 ?_
      refine g_aload_n C (i := 0) dX12_judge_29 rfl rfl ?_
      refine g_iload_n C (i := 1) dX12_judge_30 rfl rfl ?_
      refine m_callPl C rfl (wM_k_creasesOf v1 I J _ h) 1 swM_creasesOf (rl_ok (by decide) (by decide)) rfl (Nat.le_of_ble_eq_true rfl) (st := [.long v3.toInt64]) _ rfl dX12_judge_31 (fun r5 h => ?_)
      refine g_lle C 42 dX12_judge_34 dX12_judge_35 rfl (fun c6 => ?_) (fun c6 => ?_)
      · replace h := h.1 c6
        exact g_weak [0, 1, 2, 3, 4] rfl (Nat.le_refl _) (Nat.le_refl _) (wM_judge_gc42  C  v1 v2 v3 r3 I J h)
      · replace h := h.2 c6
        refine g_bipush C (v := (-5)) dX12_judge_38 (by decide) ?_
        refine g_istore C (i := 4) [(0, .ref (o 0)), (1, .int v1), (2, .int v2), (3, .int v3), (4, .int (-5))] dX12_judge_40 (by decide) rfl ?_
        exact g_weak [0, 1, 2, 3, 4] rfl (Nat.le_refl _) (Nat.le_refl _) (wM_judge_gc42  C  v1 v2 v3 (-5) I J h)
  · replace h := h.2 c2
    refine g_aload_n C (i := 0) dX12_judge_8 rfl rfl ?_
    refine g_iconst_m1 C dX12_judge_9 ?_
    refine m_calli C rfl (wM_k_noTen (-1) I J _ h) 1 swM_noTen (rl_ok (by decide) (by decide)) rfl (Nat.le_of_ble_eq_true rfl) (st := []) _ rfl dX12_judge_10 (fun r7 I8 J9 h => ?_)
    exact g_ret_i C dX12_judge_13 (Nat.le_refl _) (Nat.le_refl _) ⟨_, _, _, rfl, rfl, h⟩
theorem wM_k_judge {D : gD} {ca : Nat → ClassId} {o : Nat → Nat} (v1 : Int32) (v2 : Int32) (v3 : Int32) (I : gI) (J : gJ) (Q : Int32 → gI → gJ → Prop) (h : wM_judge v1 v2 v3 I J Q) : Ct yX12_judge cX12_judge 7 (some .int) (rl 5) D (tyW ca) 0 0 [.ref (o 0), .int v1, .int v2, .int v3] (cM ca o I J) (PMi ca o Q) := ct_of (rm := rl 5) (by decide +kernel) (Nat.le_of_ble_eq_true rfl) (fun Γ C => wM_judge_g v1 v2 v3 I J C h)
set_option maxRecDepth 100000 in
theorem wM_piece_gc220 {Γ : gT} {D : gD} {ca : Nat → ClassId} {o : Nat → Nat} {Q : Int32 → gI → gJ → Prop} (C : Cx Γ cX12_piece RX12 12 D (tyW ca) (rl 5) (some .int) 0 0 (PMi ca o Q)) {B138 : Int32 → Int32 → Int32 → Int32 → Int32 → Int32 → Int32 → gI → gJ → Prop} (hB138 : ∀ (v2 : Int32) (v3 : Int32) (v4 : Int32) (v6 : Int32) (v7 : Int32) (v8 : Int32) (v9 : Int32) (I : gI) (J : gJ), B138 v2 v3 v4 v6 v7 v8 v9 I J → G Γ 0 0 138 [(0, .ref (o 0)), (2, .int v2), (3, .int v3), (4, .int v4), (6, .int v6), (7, .int v7), (8, .int v8), (9, .int v9)] [] (cM ca o I J)) (v2 : Int32) (v3 : Int32) (v4 : Int32) (v6 : Int32) (v7 : Int32) (v8 : Int32) (v9 : Int32) (v10 : Int32) (I : gI) (J : gJ) (h : wM_piece_c220 B138 v2 v3 v4 v6 v7 v8 v9 v10 I J Q) : G Γ 0 0 220 [(0, .ref (o 0)), (2, .int v2), (3, .int v3), (4, .int v4), (6, .int v6), (7, .int v7), (8, .int v8), (9, .int v9), (10, .int v10)] [] (cM ca o I J) := by
  unfold wM_piece_c220 at h
  refine g_iload C (i := 10) dX12_piece_220 rfl ?_
  refine g_if_ne C 228 dX12_piece_222 rfl (fun c1 => ?_) (fun c1 => ?_)
  · replace h := h.1 c1
    refine g_iinc C 1 [(0, .ref (o 0)), (2, .int v2), (3, .int v3), (4, .int v4), (6, .int v6), (7, .int (v7 + 1)), (8, .int v8), (9, .int v9), (10, .int v10)] dX12_piece_228 rfl (by decide) (by decide) rfl ?_
    refine g_iload C (i := 8) dX12_piece_231 rfl ?_
    refine g_iconst_m1 C dX12_piece_233 ?_
    refine g_icmp_ne C 242 dX12_piece_234 rfl (fun c2 => ?_) (fun c2 => ?_)
    · replace h := h.1 c2
      refine g_iload C (i := 8) dX12_piece_242 rfl ?_
      refine g_istore C (i := 8) [(0, .ref (o 0)), (2, .int v2), (3, .int v3), (4, .int v4), (6, .int v6), (7, .int (v7 + 1)), (8, .int v8), (9, .int v9), (10, .int v10)] dX12_piece_244 (by decide) rfl ?_
      refine g_iinc C 1 [(0, .ref (o 0)), (2, .int v2), (3, .int v3), (4, .int v4), (6, .int v6), (7, .int (v7 + 1)), (8, .int v8), (9, .int (v9 + 1)), (10, .int v10)] dX12_piece_246 rfl (by decide) (by decide) rfl ?_
      refine g_goto C 138 dX12_piece_249 rfl ?_
      exact g_weak [0, 1, 2, 3, 4, 5, 6, 7] rfl (Nat.le_refl _) (Nat.le_refl _) (hB138 v2 v3 v4 v6 (v7 + 1) v8 (v9 + 1) I J h)
    · replace h := h.2 c2
      refine g_iload C (i := 9) dX12_piece_237 rfl ?_
      refine g_goto C 244 dX12_piece_239 rfl ?_
      refine g_istore C (i := 8) [(0, .ref (o 0)), (2, .int v2), (3, .int v3), (4, .int v4), (6, .int v6), (7, .int (v7 + 1)), (8, .int v9), (9, .int v9), (10, .int v10)] dX12_piece_244 (by decide) rfl ?_
      refine g_iinc C 1 [(0, .ref (o 0)), (2, .int v2), (3, .int v3), (4, .int v4), (6, .int v6), (7, .int (v7 + 1)), (8, .int v9), (9, .int (v9 + 1)), (10, .int v10)] dX12_piece_246 rfl (by decide) (by decide) rfl ?_
      refine g_goto C 138 dX12_piece_249 rfl ?_
      exact g_weak [0, 1, 2, 3, 4, 5, 6, 7] rfl (Nat.le_refl _) (Nat.le_refl _) (hB138 v2 v3 v4 v6 (v7 + 1) v9 (v9 + 1) I J h)
  · replace h := h.2 c1
    refine g_goto C 246 dX12_piece_225 rfl ?_
    refine g_iinc C 1 [(0, .ref (o 0)), (2, .int v2), (3, .int v3), (4, .int v4), (6, .int v6), (7, .int v7), (8, .int v8), (9, .int (v9 + 1)), (10, .int v10)] dX12_piece_246 rfl (by decide) (by decide) rfl ?_
    refine g_goto C 138 dX12_piece_249 rfl ?_
    exact g_weak [0, 1, 2, 3, 4, 5, 6, 7] rfl (Nat.le_refl _) (Nat.le_refl _) (hB138 v2 v3 v4 v6 v7 v8 (v9 + 1) I J h)
set_option maxRecDepth 100000 in
theorem wM_piece_gb155 {Γ : gT} {D : gD} {ca : Nat → ClassId} {o : Nat → Nat} {Q : Int32 → gI → gJ → Prop} (C : Cx Γ cX12_piece RX12 12 D (tyW ca) (rl 5) (some .int) 0 0 (PMi ca o Q)) {B138 : Int32 → Int32 → Int32 → Int32 → Int32 → Int32 → Int32 → gI → gJ → Prop} (hB138 : ∀ (v2 : Int32) (v3 : Int32) (v4 : Int32) (v6 : Int32) (v7 : Int32) (v8 : Int32) (v9 : Int32) (I : gI) (J : gJ), B138 v2 v3 v4 v6 v7 v8 v9 I J → G Γ 0 0 138 [(0, .ref (o 0)), (2, .int v2), (3, .int v3), (4, .int v4), (6, .int v6), (7, .int v7), (8, .int v8), (9, .int v9)] [] (cM ca o I J)) {B155 : Int32 → Int32 → Int32 → Int32 → Int32 → Int32 → Int32 → Int32 → Int32 → gI → gJ → Prop} (hB155 : ∀ (v2 : Int32) (v3 : Int32) (v4 : Int32) (v6 : Int32) (v7 : Int32) (v8 : Int32) (v9 : Int32) (v10 : Int32) (v11 : Int32) (I : gI) (J : gJ), B155 v2 v3 v4 v6 v7 v8 v9 v10 v11 I J → G Γ 0 0 155 [(0, .ref (o 0)), (2, .int v2), (3, .int v3), (4, .int v4), (6, .int v6), (7, .int v7), (8, .int v8), (9, .int v9), (10, .int v10), (11, .int v11)] [] (cM ca o I J)) (v2 : Int32) (v3 : Int32) (v4 : Int32) (v6 : Int32) (v7 : Int32) (v8 : Int32) (v9 : Int32) (v10 : Int32) (v11 : Int32) (I : gI) (J : gJ) (h : wM_piece_b155 B138 B155 v2 v3 v4 v6 v7 v8 v9 v10 v11 I J Q) : G Γ 0 0 155 [(0, .ref (o 0)), (2, .int v2), (3, .int v3), (4, .int v4), (6, .int v6), (7, .int v7), (8, .int v8), (9, .int v9), (10, .int v10), (11, .int v11)] [] (cM ca o I J) := by
  unfold wM_piece_b155 at h
  refine g_iload C (i := 11) dX12_piece_155 rfl ?_
  refine g_iload_n C (i := 3) dX12_piece_157 rfl rfl ?_
  refine g_icmp_ge C 220 dX12_piece_158 rfl (fun c1 => ?_) (fun c1 => ?_)
  · replace h := h.1 c1
    exact g_weak [0, 1, 2, 3, 4, 5, 6, 7, 8] rfl (Nat.le_refl _) (Nat.le_refl _) (wM_piece_gc220  C hB138 v2 v3 v4 v6 v7 v8 v9 v10 I J h)
  · replace h := h.2 c1
    refine g_iload C (i := 10) dX12_piece_161 rfl ?_
    refine g_if_eq C 220 dX12_piece_163 rfl (fun c2 => ?_) (fun c2 => ?_)
    · replace h := h.1 c2
      exact g_weak [0, 1, 2, 3, 4, 5, 6, 7, 8] rfl (Nat.le_refl _) (Nat.le_refl _) (wM_piece_gc220  C hB138 v2 v3 v4 v6 v7 v8 v9 v10 I J h)
    · replace h := h.2 c2
      refine g_aload_n C (i := 0) dX12_piece_166 rfl rfl ?_
      refine g_iload_n C (i := 2) dX12_piece_167 rfl rfl ?_
      refine g_iload C (i := 11) dX12_piece_168 rfl ?_
      refine m_callPi C rfl (wM_k_intAt v2 v11 I J _ h) 2 swM_intAt (rl_ok (by decide) (by decide)) rfl (Nat.le_of_ble_eq_true rfl) (st := []) _ rfl dX12_piece_170 (fun r3 h => ?_)
      refine g_aload_n C (i := 0) dX12_piece_173 rfl rfl ?_
      refine m_get_xs C dX12_piece_174 ?_
      refine g_iload C (i := 9) dX12_piece_177 rfl ?_
      refine g_iload C (i := 11) dX12_piece_179 rfl ?_
      refine g_iadd C dX12_piece_181 ?_
      obtain ⟨h4, h⟩ := h
      refine m_iald C (k := 14) (by decide) h4 dX12_piece_182 ?_
      refine g_icmp_eq C 207 dX12_piece_183 rfl (fun c5 => ?_) (fun c5 => ?_)
      · replace h := h.1 c5
        refine g_iconst_1 C dX12_piece_207 ?_
        refine g_goto C 212 dX12_piece_208 rfl ?_
        refine g_istore C (i := 10) [(0, .ref (o 0)), (2, .int v2), (3, .int v3), (4, .int v4), (6, .int v6), (7, .int v7), (8, .int v8), (9, .int v9), (10, .int 1), (11, .int v11)] dX12_piece_212 (by decide) rfl ?_
        refine g_iinc C 1 [(0, .ref (o 0)), (2, .int v2), (3, .int v3), (4, .int v4), (6, .int v6), (7, .int v7), (8, .int v8), (9, .int v9), (10, .int 1), (11, .int (v11 + 1))] dX12_piece_214 rfl (by decide) (by decide) rfl ?_
        refine g_goto C 155 dX12_piece_217 rfl ?_
        exact g_weak [0, 1, 2, 3, 4, 5, 6, 7, 8, 9] rfl (Nat.le_refl _) (Nat.le_refl _) (hB155 v2 v3 v4 v6 v7 v8 v9 1 (v11 + 1) I J h)
      · replace h := h.2 c5
        refine g_aload_n C (i := 0) dX12_piece_186 rfl rfl ?_
        refine g_iload_n C (i := 2) dX12_piece_187 rfl rfl ?_
        refine g_iload C (i := 11) dX12_piece_188 rfl ?_
        refine m_callPi C rfl (wM_k_intAt v2 v11 I J _ h) 2 swM_intAt (rl_ok (by decide) (by decide)) rfl (Nat.le_of_ble_eq_true rfl) (st := []) _ rfl dX12_piece_190 (fun r6 h => ?_)
        refine g_if_eq C 211 dX12_piece_193 rfl (fun c7 => ?_) (fun c7 => ?_)
        · replace h := h.1 c7
          refine g_iconst_0 C dX12_piece_211 ?_
          refine g_istore C (i := 10) [(0, .ref (o 0)), (2, .int v2), (3, .int v3), (4, .int v4), (6, .int v6), (7, .int v7), (8, .int v8), (9, .int v9), (10, .int 0), (11, .int v11)] dX12_piece_212 (by decide) rfl ?_
          refine g_iinc C 1 [(0, .ref (o 0)), (2, .int v2), (3, .int v3), (4, .int v4), (6, .int v6), (7, .int v7), (8, .int v8), (9, .int v9), (10, .int 0), (11, .int (v11 + 1))] dX12_piece_214 rfl (by decide) (by decide) rfl ?_
          refine g_goto C 155 dX12_piece_217 rfl ?_
          exact g_weak [0, 1, 2, 3, 4, 5, 6, 7, 8, 9] rfl (Nat.le_refl _) (Nat.le_refl _) (hB155 v2 v3 v4 v6 v7 v8 v9 0 (v11 + 1) I J h)
        · replace h := h.2 c7
          refine g_aload_n C (i := 0) dX12_piece_196 rfl rfl ?_
          refine g_iload_n C (i := 2) dX12_piece_197 rfl rfl ?_
          refine g_iload C (i := 11) dX12_piece_198 rfl ?_
          refine m_callPi C rfl (wM_k_intAt v2 v11 I J _ h) 2 swM_intAt (rl_ok (by decide) (by decide)) rfl (Nat.le_of_ble_eq_true rfl) (st := []) _ rfl dX12_piece_200 (fun r8 h => ?_)
          refine g_iconst_1 C dX12_piece_203 ?_
          refine g_icmp_eq C 211 dX12_piece_204 rfl (fun c9 => ?_) (fun c9 => ?_)
          · replace h := h.1 c9
            refine g_iconst_0 C dX12_piece_211 ?_
            refine g_istore C (i := 10) [(0, .ref (o 0)), (2, .int v2), (3, .int v3), (4, .int v4), (6, .int v6), (7, .int v7), (8, .int v8), (9, .int v9), (10, .int 0), (11, .int v11)] dX12_piece_212 (by decide) rfl ?_
            refine g_iinc C 1 [(0, .ref (o 0)), (2, .int v2), (3, .int v3), (4, .int v4), (6, .int v6), (7, .int v7), (8, .int v8), (9, .int v9), (10, .int 0), (11, .int (v11 + 1))] dX12_piece_214 rfl (by decide) (by decide) rfl ?_
            refine g_goto C 155 dX12_piece_217 rfl ?_
            exact g_weak [0, 1, 2, 3, 4, 5, 6, 7, 8, 9] rfl (Nat.le_refl _) (Nat.le_refl _) (hB155 v2 v3 v4 v6 v7 v8 v9 0 (v11 + 1) I J h)
          · replace h := h.2 c9
            refine g_iconst_1 C dX12_piece_207 ?_
            refine g_goto C 212 dX12_piece_208 rfl ?_
            refine g_istore C (i := 10) [(0, .ref (o 0)), (2, .int v2), (3, .int v3), (4, .int v4), (6, .int v6), (7, .int v7), (8, .int v8), (9, .int v9), (10, .int 1), (11, .int v11)] dX12_piece_212 (by decide) rfl ?_
            refine g_iinc C 1 [(0, .ref (o 0)), (2, .int v2), (3, .int v3), (4, .int v4), (6, .int v6), (7, .int v7), (8, .int v8), (9, .int v9), (10, .int 1), (11, .int (v11 + 1))] dX12_piece_214 rfl (by decide) (by decide) rfl ?_
            refine g_goto C 155 dX12_piece_217 rfl ?_
            exact g_weak [0, 1, 2, 3, 4, 5, 6, 7, 8, 9] rfl (Nat.le_refl _) (Nat.le_refl _) (hB155 v2 v3 v4 v6 v7 v8 v9 1 (v11 + 1) I J h)
theorem wM_piece_gl155 {Γ : gT} {D : gD} {ca : Nat → ClassId} {o : Nat → Nat} {Q : Int32 → gI → gJ → Prop} (C : Cx Γ cX12_piece RX12 12 D (tyW ca) (rl 5) (some .int) 0 0 (PMi ca o Q)) {B138 : Int32 → Int32 → Int32 → Int32 → Int32 → Int32 → Int32 → gI → gJ → Prop} (hB138 : ∀ (v2 : Int32) (v3 : Int32) (v4 : Int32) (v6 : Int32) (v7 : Int32) (v8 : Int32) (v9 : Int32) (I : gI) (J : gJ), B138 v2 v3 v4 v6 v7 v8 v9 I J → G Γ 0 0 138 [(0, .ref (o 0)), (2, .int v2), (3, .int v3), (4, .int v4), (6, .int v6), (7, .int v7), (8, .int v8), (9, .int v9)] [] (cM ca o I J)) : ∀ (n : Nat) (v2 : Int32) (v3 : Int32) (v4 : Int32) (v6 : Int32) (v7 : Int32) (v8 : Int32) (v9 : Int32) (v10 : Int32) (v11 : Int32) (I : gI) (J : gJ) (_ : wM_piece_l155 B138 Q n v2 v3 v4 v6 v7 v8 v9 v10 v11 I J), G Γ 0 0 155 [(0, .ref (o 0)), (2, .int v2), (3, .int v3), (4, .int v4), (6, .int v6), (7, .int v7), (8, .int v8), (9, .int v9), (10, .int v10), (11, .int v11)] [] (cM ca o I J) := by
  intro n
  induction n with
  | zero => intro v2 v3 v4 v6 v7 v8 v9 v10 v11 I J h; exact h.elim
  | succ n ih => intro v2 v3 v4 v6 v7 v8 v9 v10 v11 I J h; exact wM_piece_gb155 C hB138 ih v2 v3 v4 v6 v7 v8 v9 v10 v11 I J h
set_option maxRecDepth 100000 in
theorem wM_piece_gb138 {Γ : gT} {D : gD} {ca : Nat → ClassId} {o : Nat → Nat} {Q : Int32 → gI → gJ → Prop} (C : Cx Γ cX12_piece RX12 12 D (tyW ca) (rl 5) (some .int) 0 0 (PMi ca o Q)) {B138 : Int32 → Int32 → Int32 → Int32 → Int32 → Int32 → Int32 → gI → gJ → Prop} (hB138 : ∀ (v2 : Int32) (v3 : Int32) (v4 : Int32) (v6 : Int32) (v7 : Int32) (v8 : Int32) (v9 : Int32) (I : gI) (J : gJ), B138 v2 v3 v4 v6 v7 v8 v9 I J → G Γ 0 0 138 [(0, .ref (o 0)), (2, .int v2), (3, .int v3), (4, .int v4), (6, .int v6), (7, .int v7), (8, .int v8), (9, .int v9)] [] (cM ca o I J)) (v2 : Int32) (v3 : Int32) (v4 : Int32) (v6 : Int32) (v7 : Int32) (v8 : Int32) (v9 : Int32) (I : gI) (J : gJ) (h : wM_piece_b138 B138 v2 v3 v4 v6 v7 v8 v9 I J Q) : G Γ 0 0 138 [(0, .ref (o 0)), (2, .int v2), (3, .int v3), (4, .int v4), (6, .int v6), (7, .int v7), (8, .int v8), (9, .int v9)] [] (cM ca o I J) := by
  unfold wM_piece_b138 at h
  refine g_iload C (i := 9) dX12_piece_138 rfl ?_
  refine g_iload_n C (i := 3) dX12_piece_140 rfl rfl ?_
  refine g_iadd C dX12_piece_141 ?_
  refine g_iconst_1 C dX12_piece_142 ?_
  refine g_isub C dX12_piece_143 ?_
  refine g_iload C (i := 6) dX12_piece_144 rfl ?_
  refine g_icmp_gt C 252 dX12_piece_146 rfl (fun c1 => ?_) (fun c1 => ?_)
  · replace h := h.1 c1
    refine g_iload C (i := 4) dX12_piece_252 rfl ?_
    refine g_if_ne C 260 dX12_piece_254 rfl (fun c2 => ?_) (fun c2 => ?_)
    · replace h := h.1 c2
      refine g_iload C (i := 8) dX12_piece_260 rfl ?_
      refine g_iconst_m1 C dX12_piece_262 ?_
      refine g_icmp_ne C 275 dX12_piece_263 rfl (fun c3 => ?_) (fun c3 => ?_)
      · replace h := h.1 c3
        refine g_iload C (i := 8) dX12_piece_275 rfl ?_
        exact g_ret_i C dX12_piece_277 (Nat.le_refl _) (Nat.le_refl _) ⟨_, _, _, rfl, rfl, h⟩
      · replace h := h.2 c3
        refine g_aload_n C (i := 0) dX12_piece_266 rfl rfl ?_
        refine g_bipush C (v := (-5)) dX12_piece_267 (by decide) ?_
        refine m_calli C rfl (wM_k_no (-5) I J _ h) 1 swM_no (rl_ok (by decide) (by decide)) rfl (Nat.le_of_ble_eq_true rfl) (st := []) _ rfl dX12_piece_269 (fun r4 I5 J6 h => ?_)
        refine g_goto C 277 dX12_piece_272 rfl ?_
        exact g_ret_i C dX12_piece_277 (Nat.le_refl _) (Nat.le_refl _) ⟨_, _, _, rfl, rfl, h⟩
    · replace h := h.2 c2
      refine g_iload C (i := 7) dX12_piece_257 rfl ?_
      exact g_ret_i C dX12_piece_259 (Nat.le_refl _) (Nat.le_refl _) ⟨_, _, _, rfl, rfl, h⟩
  · replace h := h.2 c1
    refine g_iconst_1 C dX12_piece_149 ?_
    refine g_istore C (i := 10) [(0, .ref (o 0)), (2, .int v2), (3, .int v3), (4, .int v4), (6, .int v6), (7, .int v7), (8, .int v8), (9, .int v9), (10, .int 1)] dX12_piece_150 (by decide) rfl ?_
    refine g_iconst_0 C dX12_piece_152 ?_
    refine g_istore C (i := 11) [(0, .ref (o 0)), (2, .int v2), (3, .int v3), (4, .int v4), (6, .int v6), (7, .int v7), (8, .int v8), (9, .int v9), (10, .int 1), (11, .int 0)] dX12_piece_153 (by decide) rfl ?_
    obtain ⟨n, h⟩ := h
    exact g_weak [0, 1, 2, 3, 4, 5, 6, 7, 8, 9] rfl (Nat.le_refl _) (Nat.le_refl _) (wM_piece_gl155  C hB138 n v2 v3 v4 v6 v7 v8 v9 1 0 I J h)
theorem wM_piece_gl138 {Γ : gT} {D : gD} {ca : Nat → ClassId} {o : Nat → Nat} {Q : Int32 → gI → gJ → Prop} (C : Cx Γ cX12_piece RX12 12 D (tyW ca) (rl 5) (some .int) 0 0 (PMi ca o Q)) : ∀ (n : Nat) (v2 : Int32) (v3 : Int32) (v4 : Int32) (v6 : Int32) (v7 : Int32) (v8 : Int32) (v9 : Int32) (I : gI) (J : gJ) (_ : wM_piece_l138 Q n v2 v3 v4 v6 v7 v8 v9 I J), G Γ 0 0 138 [(0, .ref (o 0)), (2, .int v2), (3, .int v3), (4, .int v4), (6, .int v6), (7, .int v7), (8, .int v8), (9, .int v9)] [] (cM ca o I J) := by
  intro n
  induction n with
  | zero => intro v2 v3 v4 v6 v7 v8 v9 I J h; exact h.elim
  | succ n ih => intro v2 v3 v4 v6 v7 v8 v9 I J h; exact wM_piece_gb138 C ih v2 v3 v4 v6 v7 v8 v9 I J h
set_option maxRecDepth 100000 in
theorem wM_piece_gb107 {Γ : gT} {D : gD} {ca : Nat → ClassId} {o : Nat → Nat} {Q : Int32 → gI → gJ → Prop} (C : Cx Γ cX12_piece RX12 12 D (tyW ca) (rl 5) (some .int) 0 0 (PMi ca o Q)) {B107 : Int32 → Int32 → Int32 → Int32 → Int32 → Int32 → Int32 → Int32 → gI → gJ → Prop} (hB107 : ∀ (v1 : Int32) (v2 : Int32) (v3 : Int32) (v4 : Int32) (v6 : Int32) (v7 : Int32) (v8 : Int32) (v9 : Int32) (I : gI) (J : gJ), B107 v1 v2 v3 v4 v6 v7 v8 v9 I J → G Γ 0 0 107 [(0, .ref (o 0)), (1, .int v1), (2, .int v2), (3, .int v3), (4, .int v4), (6, .int v6), (7, .int v7), (8, .int v8), (9, .int v9)] [] (cM ca o I J)) (v1 : Int32) (v2 : Int32) (v3 : Int32) (v4 : Int32) (v6 : Int32) (v7 : Int32) (v8 : Int32) (v9 : Int32) (I : gI) (J : gJ) (h : wM_piece_b107 B107 v1 v2 v3 v4 v6 v7 v8 v9 I J Q) : G Γ 0 0 107 [(0, .ref (o 0)), (1, .int v1), (2, .int v2), (3, .int v3), (4, .int v4), (6, .int v6), (7, .int v7), (8, .int v8), (9, .int v9)] [] (cM ca o I J) := by
  unfold wM_piece_b107 at h
  refine g_iload C (i := 9) dX12_piece_107 rfl ?_
  refine g_iload C (i := 6) dX12_piece_109 rfl ?_
  refine g_icmp_gt C 135 dX12_piece_111 rfl (fun c1 => ?_) (fun c1 => ?_)
  · replace h := h.1 c1
    refine g_iconst_1 C dX12_piece_135 ?_
    refine g_istore C (i := 9) [(0, .ref (o 0)), (1, .int v1), (2, .int v2), (3, .int v3), (4, .int v4), (6, .int v6), (7, .int v7), (8, .int v8), (9, .int 1)] dX12_piece_136 (by decide) rfl ?_
    obtain ⟨n, h⟩ := h
    exact g_weak [0, 2, 3, 4, 5, 6, 7, 8] rfl (Nat.le_refl _) (Nat.le_refl _) (wM_piece_gl138  C  n v2 v3 v4 v6 v7 v8 1 I J h)
  · replace h := h.2 c1
    refine g_aload_n C (i := 0) dX12_piece_114 rfl rfl ?_
    refine m_get_xs C dX12_piece_115 ?_
    refine g_iload C (i := 9) dX12_piece_118 rfl ?_
    refine g_aload_n C (i := 0) dX12_piece_120 rfl rfl ?_
    refine g_iload_n C (i := 1) dX12_piece_121 rfl rfl ?_
    refine g_iload C (i := 9) dX12_piece_122 rfl ?_
    refine g_i2l C dX12_piece_124 ?_
    refine m_callPi C rfl (wM_k_creaseOf v1 v9.toInt64 I J _ h) 2 swM_creaseOf (rl_ok (by decide) (by decide)) rfl (Nat.le_of_ble_eq_true rfl) (st := [.int v9, .ref (o 14)]) _ rfl dX12_piece_125 (fun r2 h => ?_)
    obtain ⟨h3, h⟩ := h
    refine m_iast C (k := 14) (by decide) h3 dX12_piece_128 ?_
    refine m_nmI _ (fun I4 e5 => ?_)
    replace h := h I4 e5
    refine g_iinc C 1 [(0, .ref (o 0)), (1, .int v1), (2, .int v2), (3, .int v3), (4, .int v4), (6, .int v6), (7, .int v7), (8, .int v8), (9, .int (v9 + 1))] dX12_piece_129 rfl (by decide) (by decide) rfl ?_
    refine g_goto C 107 dX12_piece_132 rfl ?_
    exact g_weak [0, 1, 2, 3, 4, 5, 6, 7, 8] rfl (Nat.le_refl _) (Nat.le_refl _) (hB107 v1 v2 v3 v4 v6 v7 v8 (v9 + 1) I4 J h)
theorem wM_piece_gl107 {Γ : gT} {D : gD} {ca : Nat → ClassId} {o : Nat → Nat} {Q : Int32 → gI → gJ → Prop} (C : Cx Γ cX12_piece RX12 12 D (tyW ca) (rl 5) (some .int) 0 0 (PMi ca o Q)) : ∀ (n : Nat) (v1 : Int32) (v2 : Int32) (v3 : Int32) (v4 : Int32) (v6 : Int32) (v7 : Int32) (v8 : Int32) (v9 : Int32) (I : gI) (J : gJ) (_ : wM_piece_l107 Q n v1 v2 v3 v4 v6 v7 v8 v9 I J), G Γ 0 0 107 [(0, .ref (o 0)), (1, .int v1), (2, .int v2), (3, .int v3), (4, .int v4), (6, .int v6), (7, .int v7), (8, .int v8), (9, .int v9)] [] (cM ca o I J) := by
  intro n
  induction n with
  | zero => intro v1 v2 v3 v4 v6 v7 v8 v9 I J h; exact h.elim
  | succ n ih => intro v1 v2 v3 v4 v6 v7 v8 v9 I J h; exact wM_piece_gb107 C ih v1 v2 v3 v4 v6 v7 v8 v9 I J h
set_option maxRecDepth 100000 in
theorem wM_piece_gc96 {Γ : gT} {D : gD} {ca : Nat → ClassId} {o : Nat → Nat} {Q : Int32 → gI → gJ → Prop} (C : Cx Γ cX12_piece RX12 12 D (tyW ca) (rl 5) (some .int) 0 0 (PMi ca o Q)) (v1 : Int32) (v2 : Int32) (v3 : Int32) (v4 : Int32) (s0 : Int32) (I : gI) (J : gJ) (h : wM_piece_c96 v1 v2 v3 v4 s0 I J Q) : G Γ 0 0 96 [(0, .ref (o 0)), (1, .int v1), (2, .int v2), (3, .int v3), (4, .int v4)] [.int s0] (cM ca o I J) := by
  unfold wM_piece_c96 at h
  refine g_istore C (i := 6) [(0, .ref (o 0)), (1, .int v1), (2, .int v2), (3, .int v3), (4, .int v4), (6, .int s0)] dX12_piece_96 (by decide) rfl ?_
  refine g_iconst_0 C dX12_piece_98 ?_
  refine g_istore C (i := 7) [(0, .ref (o 0)), (1, .int v1), (2, .int v2), (3, .int v3), (4, .int v4), (6, .int s0), (7, .int 0)] dX12_piece_99 (by decide) rfl ?_
  refine g_iconst_m1 C dX12_piece_101 ?_
  refine g_istore C (i := 8) [(0, .ref (o 0)), (1, .int v1), (2, .int v2), (3, .int v3), (4, .int v4), (6, .int s0), (7, .int 0), (8, .int (-1))] dX12_piece_102 (by decide) rfl ?_
  refine g_iconst_1 C dX12_piece_104 ?_
  refine g_istore C (i := 9) [(0, .ref (o 0)), (1, .int v1), (2, .int v2), (3, .int v3), (4, .int v4), (6, .int s0), (7, .int 0), (8, .int (-1)), (9, .int 1)] dX12_piece_105 (by decide) rfl ?_
  obtain ⟨n, h⟩ := h
  exact g_weak [0, 1, 2, 3, 4, 5, 6, 7, 8] rfl (Nat.le_refl _) (Nat.le_refl _) (wM_piece_gl107  C  n v1 v2 v3 v4 s0 0 (-1) 1 I J h)
set_option maxRecDepth 100000 in
theorem wM_piece_gc65 {Γ : gT} {D : gD} {ca : Nat → ClassId} {o : Nat → Nat} {Q : Int32 → gI → gJ → Prop} (C : Cx Γ cX12_piece RX12 12 D (tyW ca) (rl 5) (some .int) 0 0 (PMi ca o Q)) (I : gI) (J : gJ) (h : wM_piece_c65 I J Q) : G Γ 0 0 65 [(0, .ref (o 0))] [] (cM ca o I J) := by
  unfold wM_piece_c65 at h
  refine g_aload_n C (i := 0) dX12_piece_65 rfl rfl ?_
  refine g_bipush C (v := (-6)) dX12_piece_66 (by decide) ?_
  refine m_calli C rfl (wM_k_no (-6) I J _ h) 1 swM_no (rl_ok (by decide) (by decide)) rfl (Nat.le_of_ble_eq_true rfl) (st := []) _ rfl dX12_piece_68 (fun r1 I2 J3 h => ?_)
  exact g_ret_i C dX12_piece_71 (Nat.le_refl _) (Nat.le_refl _) ⟨_, _, _, rfl, rfl, h⟩
set_option maxRecDepth 100000 in
theorem wM_piece_gc42 {Γ : gT} {D : gD} {ca : Nat → ClassId} {o : Nat → Nat} {Q : Int32 → gI → gJ → Prop} (C : Cx Γ cX12_piece RX12 12 D (tyW ca) (rl 5) (some .int) 0 0 (PMi ca o Q)) (v1 : Int32) (v2 : Int32) (v3 : Int32) (v4 : Int32) (v5 : Int32) (I : gI) (J : gJ) (h : wM_piece_c42 v1 v2 v3 v4 v5 I J Q) : G Γ 0 0 42 [(0, .ref (o 0)), (1, .int v1), (2, .int v2), (3, .int v3), (4, .int v4), (5, .int v5)] [] (cM ca o I J) := by
  unfold wM_piece_c42 at h
  refine g_iload C (i := 5) dX12_piece_42 rfl ?_
  refine g_if_eq C 54 dX12_piece_44 rfl (fun c1 => ?_) (fun c1 => ?_)
  · replace h := h.1 c1
    refine g_iload_n C (i := 3) dX12_piece_54 rfl rfl ?_
    refine g_iconst_1 C dX12_piece_55 ?_
    refine g_icmp_lt C 65 dX12_piece_56 rfl (fun c2 => ?_) (fun c2 => ?_)
    · replace h := h.1 c2
      exact g_weak [0] rfl (Nat.le_refl _) (Nat.le_refl _) (wM_piece_gc65  C   I J h)
    · replace h := h.2 c2
      refine g_iload_n C (i := 3) dX12_piece_59 rfl rfl ?_
      refine g_bipush C (v := 40) dX12_piece_60 (by decide) ?_
      refine g_icmp_le C 72 dX12_piece_62 rfl (fun c3 => ?_) (fun c3 => ?_)
      · replace h := h.1 c3
        refine g_aload_n C (i := 0) dX12_piece_72 rfl rfl ?_
        refine g_iload_n C (i := 1) dX12_piece_73 rfl rfl ?_
        refine m_callPl C rfl (wM_k_creasesOf v1 I J _ h) 1 swM_creasesOf (rl_ok (by decide) (by decide)) rfl (Nat.le_of_ble_eq_true rfl) (st := []) _ rfl dX12_piece_74 (fun r4 h => ?_)
        refine g_ldc2 C (v := 4000) (tb_in (List.mem_of_getElem? (i := 1709) (by decide +kernel)) (by decide +kernel)) dX12_piece_77 ?_
        refine g_lge C 93 dX12_piece_80 dX12_piece_81 rfl (fun c5 => ?_) (fun c5 => ?_)
        · replace h := h.1 c5
          refine g_sipush C (v := 4000) dX12_piece_93 (by decide) ?_
          exact g_weak [0, 1, 2, 3, 4] rfl (Nat.le_refl _) (Nat.le_refl _) (wM_piece_gc96  C  v1 v2 v3 v4 4000 I J h)
        · replace h := h.2 c5
          refine g_aload_n C (i := 0) dX12_piece_84 rfl rfl ?_
          refine g_iload_n C (i := 1) dX12_piece_85 rfl rfl ?_
          refine m_callPl C rfl (wM_k_creasesOf v1 I J _ h) 1 swM_creasesOf (rl_ok (by decide) (by decide)) rfl (Nat.le_of_ble_eq_true rfl) (st := []) _ rfl dX12_piece_86 (fun r6 h => ?_)
          refine g_l2i C dX12_piece_89 ?_
          refine g_goto C 96 dX12_piece_90 rfl ?_
          exact g_weak [0, 1, 2, 3, 4] rfl (Nat.le_refl _) (Nat.le_refl _) (wM_piece_gc96  C  v1 v2 v3 v4 r6.toInt32 I J h)
      · replace h := h.2 c3
        exact g_weak [0] rfl (Nat.le_refl _) (Nat.le_refl _) (wM_piece_gc65  C   I J h)
  · replace h := h.2 c1
    refine g_aload_n C (i := 0) dX12_piece_47 rfl rfl ?_
    refine g_iload C (i := 5) dX12_piece_48 rfl ?_
    refine m_calli C rfl (wM_k_no v5 I J _ h) 1 swM_no (rl_ok (by decide) (by decide)) rfl (Nat.le_of_ble_eq_true rfl) (st := []) _ rfl dX12_piece_50 (fun r7 I8 J9 h => ?_)
    exact g_ret_i C dX12_piece_53 (Nat.le_refl _) (Nat.le_refl _) ⟨_, _, _, rfl, rfl, h⟩
set_option maxRecDepth 100000 in
theorem wM_piece_gc38 {Γ : gT} {D : gD} {ca : Nat → ClassId} {o : Nat → Nat} {Q : Int32 → gI → gJ → Prop} (C : Cx Γ cX12_piece RX12 12 D (tyW ca) (rl 5) (some .int) 0 0 (PMi ca o Q)) (v1 : Int32) (v2 : Int32) (v3 : Int32) (v4 : Int32) (I : gI) (J : gJ) (h : wM_piece_c38 v1 v2 v3 v4 I J Q) : G Γ 0 0 38 [(0, .ref (o 0)), (1, .int v1), (2, .int v2), (3, .int v3), (4, .int v4)] [] (cM ca o I J) := by
  unfold wM_piece_c38 at h
  refine g_bipush C (v := (-5)) dX12_piece_38 (by decide) ?_
  refine g_istore C (i := 5) [(0, .ref (o 0)), (1, .int v1), (2, .int v2), (3, .int v3), (4, .int v4), (5, .int (-5))] dX12_piece_40 (by decide) rfl ?_
  exact g_weak [0, 1, 2, 3, 4, 5] rfl (Nat.le_refl _) (Nat.le_refl _) (wM_piece_gc42  C  v1 v2 v3 v4 (-5) I J h)
set_option maxRecDepth 100000 in
theorem wM_piece_g {Γ : gT} {D : gD} {ca : Nat → ClassId} {o : Nat → Nat} {Q : Int32 → gI → gJ → Prop} (v1 : Int32) (v2 : Int32) (v3 : Int32) (v4 : Int32) (I : gI) (J : gJ) (C : Cx Γ cX12_piece RX12 12 D (tyW ca) (rl 5) (some .int) 0 0 (PMi ca o Q)) (h : wM_piece v1 v2 v3 v4 I J Q) : G Γ 0 0 0 [(0, .ref (o 0)), (1, .int v1), (2, .int v2), (3, .int v3), (4, .int v4)] [] (cM ca o I J) := by
  unfold wM_piece at h
  refine g_aload_n C (i := 0) dX12_piece_0 rfl rfl ?_
  refine g_iload_n C (i := 1) dX12_piece_1 rfl rfl ?_
  refine m_callPz C rfl (wM_k_isStrip v1 I J _ h) 1 swM_isStrip (rl_ok (by decide) (by decide)) rfl (Nat.le_of_ble_eq_true rfl) (st := []) _ rfl dX12_piece_2 (fun r1 h => ?_)
  refine g_zne C 14 dX12_piece_5 rfl (fun c2 => ?_) (fun c2 => ?_)
  · replace h := h.1 c2
    refine g_aload_n C (i := 0) dX12_piece_14 rfl rfl ?_
    refine g_iload_n C (i := 2) dX12_piece_15 rfl rfl ?_
    refine g_iload_n C (i := 3) dX12_piece_16 rfl rfl ?_
    refine m_callPi C rfl (wM_k_bars v2 v3 I J _ h) 2 swM_bars (rl_ok (by decide) (by decide)) rfl (Nat.le_of_ble_eq_true rfl) (st := []) _ rfl dX12_piece_17 (fun r3 h => ?_)
    refine g_istore C (i := 5) [(0, .ref (o 0)), (1, .int v1), (2, .int v2), (3, .int v3), (4, .int v4), (5, .int r3)] dX12_piece_20 (by decide) rfl ?_
    refine g_iload C (i := 5) dX12_piece_22 rfl ?_
    refine g_if_ne C 42 dX12_piece_24 rfl (fun c4 => ?_) (fun c4 => ?_)
    · replace h := h.1 c4
      exact g_weak [0, 1, 2, 3, 4, 5] rfl (Nat.le_refl _) (Nat.le_refl _) (wM_piece_gc42  C  v1 v2 v3 v4 r3 I J h)
    · replace h := h.2 c4
      refine g_iload C (i := 4) dX12_piece_27 rfl ?_
      refine g_if_lt C 38 dX12_piece_29 rfl (fun c5 => ?_) (fun c5 => ?_)
      · replace h := h.1 c5
        exact g_weak [0, 1, 2, 3, 4] rfl (Nat.le_refl _) (Nat.le_refl _) (wM_piece_gc38  C  v1 v2 v3 v4 I J h)
      · replace h := h.2 c5
        refine g_iload C (i := 4) dX12_piece_32 rfl ?_
        refine g_iconst_1 C dX12_piece_34 ?_
        refine g_icmp_le C 42 dX12_piece_35 rfl (fun c6 => ?_) (fun c6 => ?_)
        · replace h := h.1 c6
          exact g_weak [0, 1, 2, 3, 4, 5] rfl (Nat.le_refl _) (Nat.le_refl _) (wM_piece_gc42  C  v1 v2 v3 v4 r3 I J h)
        · replace h := h.2 c6
          exact g_weak [0, 1, 2, 3, 4] rfl (Nat.le_refl _) (Nat.le_refl _) (wM_piece_gc38  C  v1 v2 v3 v4 I J h)
  · replace h := h.2 c2
    refine g_aload_n C (i := 0) dX12_piece_8 rfl rfl ?_
    refine g_iconst_m1 C dX12_piece_9 ?_
    refine m_calli C rfl (wM_k_no (-1) I J _ h) 1 swM_no (rl_ok (by decide) (by decide)) rfl (Nat.le_of_ble_eq_true rfl) (st := []) _ rfl dX12_piece_10 (fun r7 I8 J9 h => ?_)
    exact g_ret_i C dX12_piece_13 (Nat.le_refl _) (Nat.le_refl _) ⟨_, _, _, rfl, rfl, h⟩
theorem wM_k_piece {D : gD} {ca : Nat → ClassId} {o : Nat → Nat} (v1 : Int32) (v2 : Int32) (v3 : Int32) (v4 : Int32) (I : gI) (J : gJ) (Q : Int32 → gI → gJ → Prop) (h : wM_piece v1 v2 v3 v4 I J Q) : Ct yX12_piece cX12_piece 12 (some .int) (rl 5) D (tyW ca) 0 0 [.ref (o 0), .int v1, .int v2, .int v3, .int v4] (cM ca o I J) (PMi ca o Q) := ct_of (rm := rl 5) (by decide +kernel) (Nat.le_of_ble_eq_true rfl) (fun Γ C => wM_piece_g v1 v2 v3 v4 I J C h)
set_option maxRecDepth 100000 in
theorem wM_place_gc91 {Γ : gT} {D : gD} {ca : Nat → ClassId} {o : Nat → Nat} {Q : Int64 → gI → gJ → Prop} (C : Cx Γ cX12_place RX12 5 D (tyW ca) (rl 6) (some .long) 0 0 (PMl ca o Q)) (v1 : Int32) (v2 : Int64) (v4 : Int32) (I : gI) (J : gJ) (h : wM_place_c91 v1 v2 v4 I J Q) : G Γ 0 0 91 [(0, .ref (o 0)), (1, .int v1), (2, .long v2), (4, .int v4)] [] (cM ca o I J) := by
  unfold wM_place_c91 at h
  refine g_aload_n C (i := 0) dX12_place_91 rfl rfl ?_
  refine g_iload_n C (i := 1) dX12_place_92 rfl rfl ?_
  refine g_lload_n C (i := 2) dX12_place_93 rfl rfl ?_
  refine m_callv C rfl (wM_k_placeOf v1 v2 I J _ h) 2 swM_placeOf (rl_ok (by decide) (by decide)) rfl (Nat.le_of_ble_eq_true rfl) (st := []) _ rfl dX12_place_94 (fun I2 J3 h => ?_)
  refine g_iload C (i := 4) dX12_place_97 rfl ?_
  refine g_if_ne C 109 dX12_place_99 rfl (fun c4 => ?_) (fun c4 => ?_)
  · replace h := h.1 c4
    refine g_aload_n C (i := 0) dX12_place_109 rfl rfl ?_
    refine m_get_atY C dX12_place_110 ?_
    exact g_ret_l C dX12_place_113 (Nat.le_refl _) (Nat.le_refl _) ⟨_, _, _, rfl, rfl, h⟩
  · replace h := h.2 c4
    refine g_aload_n C (i := 0) dX12_place_102 rfl rfl ?_
    refine m_get_atX C dX12_place_103 ?_
    refine g_goto C 113 dX12_place_106 rfl ?_
    exact g_ret_l C dX12_place_113 (Nat.le_refl _) (Nat.le_refl _) ⟨_, _, _, rfl, rfl, h⟩
set_option maxRecDepth 100000 in
theorem wM_place_gc48 {Γ : gT} {D : gD} {ca : Nat → ClassId} {o : Nat → Nat} {Q : Int64 → gI → gJ → Prop} (C : Cx Γ cX12_place RX12 5 D (tyW ca) (rl 6) (some .long) 0 0 (PMl ca o Q)) (I : gI) (J : gJ) (h : wM_place_c48 I J Q) : G Γ 0 0 48 [(0, .ref (o 0))] [] (cM ca o I J) := by
  unfold wM_place_c48 at h
  refine g_ldc2 C (v := (-2000000000000000)) (tb_in (List.mem_of_getElem? (i := 1642) (by decide +kernel)) (by decide +kernel)) dX12_place_48 ?_
  refine g_aload_n C (i := 0) dX12_place_51 rfl rfl ?_
  refine g_bipush C (v := (-5)) dX12_place_52 (by decide) ?_
  refine m_calli C rfl (wM_k_no (-5) I J _ h) 1 swM_no (rl_ok (by decide) (by decide)) rfl (Nat.le_of_ble_eq_true rfl) (st := [.long (-2000000000000000)]) _ rfl dX12_place_54 (fun r1 I2 J3 h => ?_)
  refine g_i2l C dX12_place_57 ?_
  refine g_ladd C dX12_place_58 ?_
  exact g_ret_l C dX12_place_59 (Nat.le_refl _) (Nat.le_refl _) ⟨_, _, _, rfl, rfl, h⟩
set_option maxRecDepth 100000 in
theorem wM_place_g {Γ : gT} {D : gD} {ca : Nat → ClassId} {o : Nat → Nat} {Q : Int64 → gI → gJ → Prop} (v1 : Int32) (v2 : Int64) (v4 : Int32) (I : gI) (J : gJ) (C : Cx Γ cX12_place RX12 5 D (tyW ca) (rl 6) (some .long) 0 0 (PMl ca o Q)) (h : wM_place v1 v2 v4 I J Q) : G Γ 0 0 0 [(0, .ref (o 0)), (1, .int v1), (2, .long v2), (4, .int v4)] [] (cM ca o I J) := by
  unfold wM_place at h
  refine g_aload_n C (i := 0) dX12_place_0 rfl rfl ?_
  refine g_iload_n C (i := 1) dX12_place_1 rfl rfl ?_
  refine m_callPz C rfl (wM_k_isStrip v1 I J _ h) 1 swM_isStrip (rl_ok (by decide) (by decide)) rfl (Nat.le_of_ble_eq_true rfl) (st := []) _ rfl dX12_place_2 (fun r1 h => ?_)
  refine g_zne C 19 dX12_place_5 rfl (fun c2 => ?_) (fun c2 => ?_)
  · replace h := h.1 c2
    refine g_lload_n C (i := 2) dX12_place_19 rfl rfl ?_
    refine g_lconst_0 C dX12_place_20 ?_
    refine g_llt C 48 dX12_place_21 dX12_place_22 rfl (fun c3 => ?_) (fun c3 => ?_)
    · replace h := h.1 c3
      exact g_weak [0] rfl (Nat.le_refl _) (Nat.le_refl _) (wM_place_gc48  C   I J h)
    · replace h := h.2 c3
      refine g_lload_n C (i := 2) dX12_place_25 rfl rfl ?_
      refine g_aload_n C (i := 0) dX12_place_26 rfl rfl ?_
      refine g_iload_n C (i := 1) dX12_place_27 rfl rfl ?_
      refine m_callPl C rfl (wM_k_creasesOf v1 I J _ h) 1 swM_creasesOf (rl_ok (by decide) (by decide)) rfl (Nat.le_of_ble_eq_true rfl) (st := [.long v2]) _ rfl dX12_place_28 (fun r4 h => ?_)
      refine g_lconst_1 C dX12_place_31 ?_
      refine g_ladd C dX12_place_32 ?_
      refine g_lgt C 48 dX12_place_33 dX12_place_34 rfl (fun c5 => ?_) (fun c5 => ?_)
      · replace h := h.1 c5
        exact g_weak [0] rfl (Nat.le_refl _) (Nat.le_refl _) (wM_place_gc48  C   I J h)
      · replace h := h.2 c5
        refine g_iload C (i := 4) dX12_place_37 rfl ?_
        refine g_if_lt C 48 dX12_place_39 rfl (fun c6 => ?_) (fun c6 => ?_)
        · replace h := h.1 c6
          exact g_weak [0] rfl (Nat.le_refl _) (Nat.le_refl _) (wM_place_gc48  C   I J h)
        · replace h := h.2 c6
          refine g_iload C (i := 4) dX12_place_42 rfl ?_
          refine g_iconst_1 C dX12_place_44 ?_
          refine g_icmp_le C 60 dX12_place_45 rfl (fun c7 => ?_) (fun c7 => ?_)
          · replace h := h.1 c7
            refine g_aload_n C (i := 0) dX12_place_60 rfl rfl ?_
            refine m_get_kind C dX12_place_61 ?_
            refine g_iload_n C (i := 1) dX12_place_64 rfl rfl ?_
            obtain ⟨h8, h⟩ := h
            refine m_iald C (k := 2) (by decide) h8 dX12_place_65 ?_
            refine g_bipush C (v := 6) dX12_place_66 (by decide) ?_
            refine g_icmp_ne C 91 dX12_place_68 rfl (fun c9 => ?_) (fun c9 => ?_)
            · replace h := h.1 c9
              exact g_weak [0, 1, 2, 3] rfl (Nat.le_refl _) (Nat.le_refl _) (wM_place_gc91  C  v1 v2 v4 I J h)
            · replace h := h.2 c9
              refine g_lload_n C (i := 2) dX12_place_71 rfl rfl ?_
              refine g_ldc2 C (v := 100000) (tb_in (List.mem_of_getElem? (i := 1643) (by decide +kernel)) (by decide +kernel)) dX12_place_72 ?_
              refine g_lle C 91 dX12_place_75 dX12_place_76 rfl (fun c10 => ?_) (fun c10 => ?_)
              · replace h := h.1 c10
                exact g_weak [0, 1, 2, 3] rfl (Nat.le_refl _) (Nat.le_refl _) (wM_place_gc91  C  v1 v2 v4 I J h)
              · replace h := h.2 c10
                refine g_ldc2 C (v := (-2000000000000000)) (tb_in (List.mem_of_getElem? (i := 1642) (by decide +kernel)) (by decide +kernel)) dX12_place_79 ?_
                refine g_aload_n C (i := 0) dX12_place_82 rfl rfl ?_
                refine g_bipush C (v := (-7)) dX12_place_83 (by decide) ?_
                refine m_calli C rfl (wM_k_no (-7) I J _ h) 1 swM_no (rl_ok (by decide) (by decide)) rfl (Nat.le_of_ble_eq_true rfl) (st := [.long (-2000000000000000)]) _ rfl dX12_place_85 (fun r11 I12 J13 h => ?_)
                refine g_i2l C dX12_place_88 ?_
                refine g_ladd C dX12_place_89 ?_
                exact g_ret_l C dX12_place_90 (Nat.le_refl _) (Nat.le_refl _) ⟨_, _, _, rfl, rfl, h⟩
          · replace h := h.2 c7
            exact g_weak [0] rfl (Nat.le_refl _) (Nat.le_refl _) (wM_place_gc48  C   I J h)
  · replace h := h.2 c2
    refine g_ldc2 C (v := (-2000000000000000)) (tb_in (List.mem_of_getElem? (i := 1642) (by decide +kernel)) (by decide +kernel)) dX12_place_8 ?_
    refine g_aload_n C (i := 0) dX12_place_11 rfl rfl ?_
    refine g_iconst_m1 C dX12_place_12 ?_
    refine m_calli C rfl (wM_k_no (-1) I J _ h) 1 swM_no (rl_ok (by decide) (by decide)) rfl (Nat.le_of_ble_eq_true rfl) (st := [.long (-2000000000000000)]) _ rfl dX12_place_13 (fun r14 I15 J16 h => ?_)
    refine g_i2l C dX12_place_16 ?_
    refine g_ladd C dX12_place_17 ?_
    exact g_ret_l C dX12_place_18 (Nat.le_refl _) (Nat.le_refl _) ⟨_, _, _, rfl, rfl, h⟩
theorem wM_k_place {D : gD} {ca : Nat → ClassId} {o : Nat → Nat} (v1 : Int32) (v2 : Int64) (v4 : Int32) (I : gI) (J : gJ) (Q : Int64 → gI → gJ → Prop) (h : wM_place v1 v2 v4 I J Q) : Ct yX12_place cX12_place 5 (some .long) (rl 6) D (tyW ca) 0 0 [.ref (o 0), .int v1, .long v2, .int v4] (cM ca o I J) (PMl ca o Q) := ct_of (rm := rl 6) (by decide +kernel) (Nat.le_of_ble_eq_true rfl) (fun Γ C => wM_place_g v1 v2 v4 I J C h)
set_option maxRecDepth 100000 in
theorem wM_passed_gb41 {Γ : gT} {D : gD} {ca : Nat → ClassId} {o : Nat → Nat} {Q : Int32 → gI → gJ → Prop} (C : Cx Γ cX12_passed RX12 8 D (tyW ca) (rl 6) (some .int) 0 0 (PMi ca o Q)) {B41 : Int32 → Int32 → Int32 → Int32 → Int32 → gI → gJ → Prop} (hB41 : ∀ (v2 : Int32) (v3 : Int32) (v4 : Int32) (v6 : Int32) (v7 : Int32) (I : gI) (J : gJ), B41 v2 v3 v4 v6 v7 I J → G Γ 0 0 41 [(0, .ref (o 0)), (2, .int v2), (3, .int v3), (4, .int v4), (6, .int v6), (7, .int v7)] [] (cM ca o I J)) (v2 : Int32) (v3 : Int32) (v4 : Int32) (v6 : Int32) (v7 : Int32) (I : gI) (J : gJ) (h : wM_passed_b41 B41 v2 v3 v4 v6 v7 I J Q) : G Γ 0 0 41 [(0, .ref (o 0)), (2, .int v2), (3, .int v3), (4, .int v4), (6, .int v6), (7, .int v7)] [] (cM ca o I J) := by
  unfold wM_passed_b41 at h
  refine g_iload C (i := 7) dX12_passed_41 rfl ?_
  refine g_iload_n C (i := 2) dX12_passed_43 rfl rfl ?_
  refine g_icmp_gt C 79 dX12_passed_44 rfl (fun c1 => ?_) (fun c1 => ?_)
  · replace h := h.1 c1
    refine g_iload C (i := 6) dX12_passed_79 rfl ?_
    exact g_ret_i C dX12_passed_81 (Nat.le_refl _) (Nat.le_refl _) ⟨_, _, _, rfl, rfl, h⟩
  · replace h := h.2 c1
    refine g_aload_n C (i := 0) dX12_passed_47 rfl rfl ?_
    refine m_get_xs C dX12_passed_48 ?_
    refine g_iload C (i := 7) dX12_passed_51 rfl ?_
    obtain ⟨h2, h⟩ := h
    refine m_iald C (k := 14) (by decide) h2 dX12_passed_53 ?_
    refine g_iload_n C (i := 3) dX12_passed_54 rfl rfl ?_
    refine g_icmp_ne C 73 dX12_passed_55 rfl (fun c3 => ?_) (fun c3 => ?_)
    · replace h := h.1 c3
      refine g_iinc C 1 [(0, .ref (o 0)), (2, .int v2), (3, .int v3), (4, .int v4), (6, .int v6), (7, .int (v7 + 1))] dX12_passed_73 rfl (by decide) (by decide) rfl ?_
      refine g_goto C 41 dX12_passed_76 rfl ?_
      exact g_weak [0, 1, 2, 3, 4, 5] rfl (Nat.le_refl _) (Nat.le_refl _) (hB41 v2 v3 v4 v6 (v7 + 1) I J h)
    · replace h := h.2 c3
      refine g_aload_n C (i := 0) dX12_passed_58 rfl rfl ?_
      refine m_get_ys C dX12_passed_59 ?_
      refine g_iload C (i := 7) dX12_passed_62 rfl ?_
      refine m_iald C (k := 15) (by decide) h2 dX12_passed_64 ?_
      refine g_iload C (i := 4) dX12_passed_65 rfl ?_
      refine g_icmp_ne C 73 dX12_passed_67 rfl (fun c4 => ?_) (fun c4 => ?_)
      · replace h := h.1 c4
        refine g_iinc C 1 [(0, .ref (o 0)), (2, .int v2), (3, .int v3), (4, .int v4), (6, .int v6), (7, .int (v7 + 1))] dX12_passed_73 rfl (by decide) (by decide) rfl ?_
        refine g_goto C 41 dX12_passed_76 rfl ?_
        exact g_weak [0, 1, 2, 3, 4, 5] rfl (Nat.le_refl _) (Nat.le_refl _) (hB41 v2 v3 v4 v6 (v7 + 1) I J h)
      · replace h := h.2 c4
        refine g_iinc C 1 [(0, .ref (o 0)), (2, .int v2), (3, .int v3), (4, .int v4), (6, .int (v6 + 1)), (7, .int v7)] dX12_passed_70 rfl (by decide) (by decide) rfl ?_
        refine g_iinc C 1 [(0, .ref (o 0)), (2, .int v2), (3, .int v3), (4, .int v4), (6, .int (v6 + 1)), (7, .int (v7 + 1))] dX12_passed_73 rfl (by decide) (by decide) rfl ?_
        refine g_goto C 41 dX12_passed_76 rfl ?_
        exact g_weak [0, 1, 2, 3, 4, 5] rfl (Nat.le_refl _) (Nat.le_refl _) (hB41 v2 v3 v4 (v6 + 1) (v7 + 1) I J h)
theorem wM_passed_gl41 {Γ : gT} {D : gD} {ca : Nat → ClassId} {o : Nat → Nat} {Q : Int32 → gI → gJ → Prop} (C : Cx Γ cX12_passed RX12 8 D (tyW ca) (rl 6) (some .int) 0 0 (PMi ca o Q)) : ∀ (n : Nat) (v2 : Int32) (v3 : Int32) (v4 : Int32) (v6 : Int32) (v7 : Int32) (I : gI) (J : gJ) (_ : wM_passed_l41 Q n v2 v3 v4 v6 v7 I J), G Γ 0 0 41 [(0, .ref (o 0)), (2, .int v2), (3, .int v3), (4, .int v4), (6, .int v6), (7, .int v7)] [] (cM ca o I J) := by
  intro n
  induction n with
  | zero => intro v2 v3 v4 v6 v7 I J h; exact h.elim
  | succ n ih => intro v2 v3 v4 v6 v7 I J h; exact wM_passed_gb41 C ih v2 v3 v4 v6 v7 I J h
set_option maxRecDepth 100000 in
theorem wM_passed_g {Γ : gT} {D : gD} {ca : Nat → ClassId} {o : Nat → Nat} {Q : Int32 → gI → gJ → Prop} (v1 : Int32) (v2 : Int32) (v3 : Int32) (v4 : Int32) (I : gI) (J : gJ) (C : Cx Γ cX12_passed RX12 8 D (tyW ca) (rl 6) (some .int) 0 0 (PMi ca o Q)) (h : wM_passed v1 v2 v3 v4 I J Q) : G Γ 0 0 0 [(0, .ref (o 0)), (1, .int v1), (2, .int v2), (3, .int v3), (4, .int v4)] [] (cM ca o I J) := by
  unfold wM_passed at h
  refine g_aload_n C (i := 0) dX12_passed_0 rfl rfl ?_
  refine g_iload_n C (i := 1) dX12_passed_1 rfl rfl ?_
  refine g_iload_n C (i := 2) dX12_passed_2 rfl rfl ?_
  refine m_callPi C rfl (wM_k_walks v1 v2 I J _ h) 2 swM_walks (rl_ok (by decide) (by decide)) rfl (Nat.le_of_ble_eq_true rfl) (st := []) _ rfl dX12_passed_3 (fun r1 h => ?_)
  refine g_istore C (i := 5) [(0, .ref (o 0)), (1, .int v1), (2, .int v2), (3, .int v3), (4, .int v4), (5, .int r1)] dX12_passed_6 (by decide) rfl ?_
  refine g_iload C (i := 5) dX12_passed_8 rfl ?_
  refine g_if_eq C 20 dX12_passed_10 rfl (fun c2 => ?_) (fun c2 => ?_)
  · replace h := h.1 c2
    refine g_aload_n C (i := 0) dX12_passed_20 rfl rfl ?_
    refine g_iload_n C (i := 1) dX12_passed_21 rfl rfl ?_
    refine g_iload_n C (i := 2) dX12_passed_22 rfl rfl ?_
    refine g_iconst_0 C dX12_passed_23 ?_
    refine g_aload_n C (i := 0) dX12_passed_24 rfl rfl ?_
    refine m_get_xs C dX12_passed_25 ?_
    refine g_aload_n C (i := 0) dX12_passed_28 rfl rfl ?_
    refine m_get_ys C dX12_passed_29 ?_
    refine m_callv C rfl (wM_k_walked (by decide) (by decide) v1 v2 0 I J _ h) 5 swM_walked (rl_ok (by decide) (by decide)) rfl (Nat.le_of_ble_eq_true rfl) (st := []) _ rfl dX12_passed_32 (fun I4 J5 h => ?_)
    refine g_iconst_0 C dX12_passed_35 ?_
    refine g_istore C (i := 6) [(0, .ref (o 0)), (1, .int v1), (2, .int v2), (3, .int v3), (4, .int v4), (5, .int r1), (6, .int 0)] dX12_passed_36 (by decide) rfl ?_
    refine g_iconst_0 C dX12_passed_38 ?_
    refine g_istore C (i := 7) [(0, .ref (o 0)), (1, .int v1), (2, .int v2), (3, .int v3), (4, .int v4), (5, .int r1), (6, .int 0), (7, .int 0)] dX12_passed_39 (by decide) rfl ?_
    obtain ⟨n, h⟩ := h
    exact g_weak [0, 2, 3, 4, 6, 7] rfl (Nat.le_refl _) (Nat.le_refl _) (wM_passed_gl41  C  n v2 v3 v4 0 0 I4 J5 h)
  · replace h := h.2 c2
    refine g_aload_n C (i := 0) dX12_passed_13 rfl rfl ?_
    refine g_iload C (i := 5) dX12_passed_14 rfl ?_
    refine m_calli C rfl (wM_k_no r1 I J _ h) 1 swM_no (rl_ok (by decide) (by decide)) rfl (Nat.le_of_ble_eq_true rfl) (st := []) _ rfl dX12_passed_16 (fun r6 I7 J8 h => ?_)
    exact g_ret_i C dX12_passed_19 (Nat.le_refl _) (Nat.le_refl _) ⟨_, _, _, rfl, rfl, h⟩
theorem wM_k_passed {D : gD} {ca : Nat → ClassId} {o : Nat → Nat} (v1 : Int32) (v2 : Int32) (v3 : Int32) (v4 : Int32) (I : gI) (J : gJ) (Q : Int32 → gI → gJ → Prop) (h : wM_passed v1 v2 v3 v4 I J Q) : Ct yX12_passed cX12_passed 8 (some .int) (rl 6) D (tyW ca) 0 0 [.ref (o 0), .int v1, .int v2, .int v3, .int v4] (cM ca o I J) (PMi ca o Q) := ct_of (rm := rl 6) (by decide +kernel) (Nat.le_of_ble_eq_true rfl) (fun Γ C => wM_passed_g v1 v2 v3 v4 I J C h)
set_option maxRecDepth 100000 in
theorem wM_most_gb42 {Γ : gT} {D : gD} {ca : Nat → ClassId} {o : Nat → Nat} {Q : Int32 → gI → gJ → Prop} (C : Cx Γ cX12_most RX12 7 D (tyW ca) (rl 6) (some .int) 0 0 (PMi ca o Q)) {B42 : Int32 → Int32 → Int32 → gI → gJ → Prop} (hB42 : ∀ (v2 : Int32) (v4 : Int32) (v5 : Int32) (I : gI) (J : gJ), B42 v2 v4 v5 I J → G Γ 0 0 42 [(0, .ref (o 0)), (2, .int v2), (4, .int v4), (5, .int v5)] [] (cM ca o I J)) (v2 : Int32) (v4 : Int32) (v5 : Int32) (I : gI) (J : gJ) (h : wM_most_b42 B42 v2 v4 v5 I J Q) : G Γ 0 0 42 [(0, .ref (o 0)), (2, .int v2), (4, .int v4), (5, .int v5)] [] (cM ca o I J) := by
  unfold wM_most_b42 at h
  refine g_iload C (i := 5) dX12_most_42 rfl ?_
  refine g_iload_n C (i := 2) dX12_most_44 rfl rfl ?_
  refine g_icmp_gt C 86 dX12_most_45 rfl (fun c1 => ?_) (fun c1 => ?_)
  · replace h := h.1 c1
    refine g_iload C (i := 4) dX12_most_86 rfl ?_
    exact g_ret_i C dX12_most_88 (Nat.le_refl _) (Nat.le_refl _) ⟨_, _, _, rfl, rfl, h⟩
  · replace h := h.2 c1
    refine g_aload_n C (i := 0) dX12_most_48 rfl rfl ?_
    refine g_aload_n C (i := 0) dX12_most_49 rfl rfl ?_
    refine m_get_xs C dX12_most_50 ?_
    refine g_iload C (i := 5) dX12_most_53 rfl ?_
    obtain ⟨h2, h⟩ := h
    refine m_iald C (k := 14) (by decide) h2 dX12_most_55 ?_
    refine g_aload_n C (i := 0) dX12_most_56 rfl rfl ?_
    refine m_get_ys C dX12_most_57 ?_
    refine g_iload C (i := 5) dX12_most_60 rfl ?_
    refine m_iald C (k := 15) (by decide) h2 dX12_most_62 ?_
    refine g_iconst_0 C dX12_most_63 ?_
    refine m_calli C rfl (wM_k_meets (I 14 v5.toNatClampNeg) (I 15 v5.toNatClampNeg) 0 I J _ h) 3 swM_meets (rl_ok (by decide) (by decide)) rfl (Nat.le_of_ble_eq_true rfl) (st := []) _ rfl dX12_most_64 (fun r3 I4 J5 h => ?_)
    refine g_istore C (i := 6) [(0, .ref (o 0)), (2, .int v2), (4, .int v4), (5, .int v5), (6, .int r3)] dX12_most_67 (by decide) rfl ?_
    refine g_iload C (i := 6) dX12_most_69 rfl ?_
    refine g_iload C (i := 4) dX12_most_71 rfl ?_
    refine g_icmp_le C 80 dX12_most_73 rfl (fun c6 => ?_) (fun c6 => ?_)
    · replace h := h.1 c6
      refine g_iinc C 1 [(0, .ref (o 0)), (2, .int v2), (4, .int v4), (5, .int (v5 + 1)), (6, .int r3)] dX12_most_80 rfl (by decide) (by decide) rfl ?_
      refine g_goto C 42 dX12_most_83 rfl ?_
      exact g_weak [0, 1, 2, 3] rfl (Nat.le_refl _) (Nat.le_refl _) (hB42 v2 v4 (v5 + 1) I4 J5 h)
    · replace h := h.2 c6
      refine g_iload C (i := 6) dX12_most_76 rfl ?_
      refine g_istore C (i := 4) [(0, .ref (o 0)), (2, .int v2), (4, .int r3), (5, .int v5), (6, .int r3)] dX12_most_78 (by decide) rfl ?_
      refine g_iinc C 1 [(0, .ref (o 0)), (2, .int v2), (4, .int r3), (5, .int (v5 + 1)), (6, .int r3)] dX12_most_80 rfl (by decide) (by decide) rfl ?_
      refine g_goto C 42 dX12_most_83 rfl ?_
      exact g_weak [0, 1, 2, 3] rfl (Nat.le_refl _) (Nat.le_refl _) (hB42 v2 r3 (v5 + 1) I4 J5 h)
theorem wM_most_gl42 {Γ : gT} {D : gD} {ca : Nat → ClassId} {o : Nat → Nat} {Q : Int32 → gI → gJ → Prop} (C : Cx Γ cX12_most RX12 7 D (tyW ca) (rl 6) (some .int) 0 0 (PMi ca o Q)) : ∀ (n : Nat) (v2 : Int32) (v4 : Int32) (v5 : Int32) (I : gI) (J : gJ) (_ : wM_most_l42 Q n v2 v4 v5 I J), G Γ 0 0 42 [(0, .ref (o 0)), (2, .int v2), (4, .int v4), (5, .int v5)] [] (cM ca o I J) := by
  intro n
  induction n with
  | zero => intro v2 v4 v5 I J h; exact h.elim
  | succ n ih => intro v2 v4 v5 I J h; exact wM_most_gb42 C ih v2 v4 v5 I J h
set_option maxRecDepth 100000 in
theorem wM_most_g {Γ : gT} {D : gD} {ca : Nat → ClassId} {o : Nat → Nat} {Q : Int32 → gI → gJ → Prop} (v1 : Int32) (v2 : Int32) (I : gI) (J : gJ) (C : Cx Γ cX12_most RX12 7 D (tyW ca) (rl 6) (some .int) 0 0 (PMi ca o Q)) (h : wM_most v1 v2 I J Q) : G Γ 0 0 0 [(0, .ref (o 0)), (1, .int v1), (2, .int v2)] [] (cM ca o I J) := by
  unfold wM_most at h
  refine g_aload_n C (i := 0) dX12_most_0 rfl rfl ?_
  refine g_iload_n C (i := 1) dX12_most_1 rfl rfl ?_
  refine g_iload_n C (i := 2) dX12_most_2 rfl rfl ?_
  refine m_callPi C rfl (wM_k_walks v1 v2 I J _ h) 2 swM_walks (rl_ok (by decide) (by decide)) rfl (Nat.le_of_ble_eq_true rfl) (st := []) _ rfl dX12_most_3 (fun r1 h => ?_)
  refine g_istore_n C (i := 3) [(0, .ref (o 0)), (1, .int v1), (2, .int v2), (3, .int r1)] dX12_most_6 rfl (by decide) rfl ?_
  refine g_iload_n C (i := 3) dX12_most_7 rfl rfl ?_
  refine g_if_eq C 17 dX12_most_8 rfl (fun c2 => ?_) (fun c2 => ?_)
  · replace h := h.1 c2
    refine g_aload_n C (i := 0) dX12_most_17 rfl rfl ?_
    refine g_iload_n C (i := 1) dX12_most_18 rfl rfl ?_
    refine g_iload_n C (i := 2) dX12_most_19 rfl rfl ?_
    refine g_iconst_0 C dX12_most_20 ?_
    refine g_aload_n C (i := 0) dX12_most_21 rfl rfl ?_
    refine m_get_xs C dX12_most_22 ?_
    refine g_aload_n C (i := 0) dX12_most_25 rfl rfl ?_
    refine m_get_ys C dX12_most_26 ?_
    refine m_callv C rfl (wM_k_walked (by decide) (by decide) v1 v2 0 I J _ h) 5 swM_walked (rl_ok (by decide) (by decide)) rfl (Nat.le_of_ble_eq_true rfl) (st := []) _ rfl dX12_most_29 (fun I4 J5 h => ?_)
    refine g_aload_n C (i := 0) dX12_most_32 rfl rfl ?_
    refine m_callv C rfl (wM_k_clears I4 J5 _ h) 0 swM_clears (rl_ok (by decide) (by decide)) rfl (Nat.le_of_ble_eq_true rfl) (st := []) _ rfl dX12_most_33 (fun I7 J8 h => ?_)
    refine g_iconst_0 C dX12_most_36 ?_
    refine g_istore C (i := 4) [(0, .ref (o 0)), (1, .int v1), (2, .int v2), (3, .int r1), (4, .int 0)] dX12_most_37 (by decide) rfl ?_
    refine g_iconst_0 C dX12_most_39 ?_
    refine g_istore C (i := 5) [(0, .ref (o 0)), (1, .int v1), (2, .int v2), (3, .int r1), (4, .int 0), (5, .int 0)] dX12_most_40 (by decide) rfl ?_
    obtain ⟨n, h⟩ := h
    exact g_weak [0, 2, 4, 5] rfl (Nat.le_refl _) (Nat.le_refl _) (wM_most_gl42  C  n v2 0 0 I7 J8 h)
  · replace h := h.2 c2
    refine g_aload_n C (i := 0) dX12_most_11 rfl rfl ?_
    refine g_iload_n C (i := 3) dX12_most_12 rfl rfl ?_
    refine m_calli C rfl (wM_k_no r1 I J _ h) 1 swM_no (rl_ok (by decide) (by decide)) rfl (Nat.le_of_ble_eq_true rfl) (st := []) _ rfl dX12_most_13 (fun r9 I10 J11 h => ?_)
    exact g_ret_i C dX12_most_16 (Nat.le_refl _) (Nat.le_refl _) ⟨_, _, _, rfl, rfl, h⟩
theorem wM_k_most {D : gD} {ca : Nat → ClassId} {o : Nat → Nat} (v1 : Int32) (v2 : Int32) (I : gI) (J : gJ) (Q : Int32 → gI → gJ → Prop) (h : wM_most v1 v2 I J Q) : Ct yX12_most cX12_most 7 (some .int) (rl 6) D (tyW ca) 0 0 [.ref (o 0), .int v1, .int v2] (cM ca o I J) (PMi ca o Q) := ct_of (rm := rl 6) (by decide +kernel) (Nat.le_of_ble_eq_true rfl) (fun Γ C => wM_most_g v1 v2 I J C h)
set_option maxRecDepth 100000 in
theorem wM_twice_gc157 {Γ : gT} {D : gD} {ca : Nat → ClassId} {o : Nat → Nat} {Q : Int32 → gI → gJ → Prop} (C : Cx Γ cX12_twice RX12 8 D (tyW ca) (rl 6) (some .int) 0 0 (PMi ca o Q)) {B42 : Int32 → Int32 → Int32 → gI → gJ → Prop} (hB42 : ∀ (v2 : Int32) (v4 : Int32) (v5 : Int32) (I : gI) (J : gJ), B42 v2 v4 v5 I J → G Γ 0 0 42 [(0, .ref (o 0)), (2, .int v2), (4, .int v4), (5, .int v5)] [] (cM ca o I J)) (v2 : Int32) (v4 : Int32) (v5 : Int32) (s1 : Int32) (s2 : Int32) (s3 : Int32) (I : gI) (J : gJ) (h : wM_twice_c157 B42 v2 v4 v5 s1 s2 s3 I J Q) : G Γ 0 0 157 [(0, .ref (o 0)), (2, .int v2), (4, .int v4), (5, .int v5)] [.int s3, .int s2, .int s1, .ref (o 0)] (cM ca o I J) := by
  unfold wM_twice_c157 at h
  refine m_calli C rfl (wM_k_meets s1 s2 s3 I J _ h) 3 swM_meets (rl_ok (by decide) (by decide)) rfl (Nat.le_of_ble_eq_true rfl) (st := []) _ rfl dX12_twice_157 (fun r1 I2 J3 h => ?_)
  refine g_iconst_1 C dX12_twice_160 ?_
  refine g_icmp_le C 167 dX12_twice_161 rfl (fun c4 => ?_) (fun c4 => ?_)
  · replace h := h.1 c4
    refine g_iinc C 1 [(0, .ref (o 0)), (2, .int v2), (4, .int v4), (5, .int (v5 + 1))] dX12_twice_167 rfl (by decide) (by decide) rfl ?_
    refine g_goto C 42 dX12_twice_170 rfl ?_
    exact g_weak [0, 1, 2, 3] rfl (Nat.le_refl _) (Nat.le_refl _) (hB42 v2 v4 (v5 + 1) I2 J3 h)
  · replace h := h.2 c4
    refine g_iinc C 1 [(0, .ref (o 0)), (2, .int v2), (4, .int (v4 + 1)), (5, .int v5)] dX12_twice_164 rfl (by decide) (by decide) rfl ?_
    refine g_iinc C 1 [(0, .ref (o 0)), (2, .int v2), (4, .int (v4 + 1)), (5, .int (v5 + 1))] dX12_twice_167 rfl (by decide) (by decide) rfl ?_
    refine g_goto C 42 dX12_twice_170 rfl ?_
    exact g_weak [0, 1, 2, 3] rfl (Nat.le_refl _) (Nat.le_refl _) (hB42 v2 (v4 + 1) (v5 + 1) I2 J3 h)
set_option maxRecDepth 100000 in
theorem wM_twice_gc126 {Γ : gT} {D : gD} {ca : Nat → ClassId} {o : Nat → Nat} {Q : Int32 → gI → gJ → Prop} (C : Cx Γ cX12_twice RX12 8 D (tyW ca) (rl 6) (some .int) 0 0 (PMi ca o Q)) {B42 : Int32 → Int32 → Int32 → gI → gJ → Prop} (hB42 : ∀ (v2 : Int32) (v4 : Int32) (v5 : Int32) (I : gI) (J : gJ), B42 v2 v4 v5 I J → G Γ 0 0 42 [(0, .ref (o 0)), (2, .int v2), (4, .int v4), (5, .int v5)] [] (cM ca o I J)) (v2 : Int32) (v4 : Int32) (v5 : Int32) (v6 : Int32) (s0 : Int32) (I : gI) (J : gJ) (h : wM_twice_c126 B42 v2 v4 v5 v6 s0 I J Q) : G Γ 0 0 126 [(0, .ref (o 0)), (2, .int v2), (4, .int v4), (5, .int v5), (6, .int v6)] [.int s0] (cM ca o I J) := by
  unfold wM_twice_c126 at h
  refine g_istore C (i := 7) [(0, .ref (o 0)), (2, .int v2), (4, .int v4), (5, .int v5), (6, .int v6), (7, .int s0)] dX12_twice_126 (by decide) rfl ?_
  refine g_aload_n C (i := 0) dX12_twice_128 rfl rfl ?_
  refine g_iload C (i := 6) dX12_twice_129 rfl ?_
  refine g_iload C (i := 7) dX12_twice_131 rfl ?_
  refine g_aload_n C (i := 0) dX12_twice_133 rfl rfl ?_
  refine m_get_xs C dX12_twice_134 ?_
  refine g_iload C (i := 5) dX12_twice_137 rfl ?_
  obtain ⟨h1, h⟩ := h
  refine m_iald C (k := 14) (by decide) h1 dX12_twice_139 ?_
  refine g_aload_n C (i := 0) dX12_twice_140 rfl rfl ?_
  refine m_get_xs C dX12_twice_141 ?_
  refine g_iload C (i := 5) dX12_twice_144 rfl ?_
  refine g_iconst_1 C dX12_twice_146 ?_
  refine g_isub C dX12_twice_147 ?_
  obtain ⟨h2, h⟩ := h
  refine m_iald C (k := 14) (by decide) h2 dX12_twice_148 ?_
  refine g_icmp_ne C 156 dX12_twice_149 rfl (fun c3 => ?_) (fun c3 => ?_)
  · replace h := h.1 c3
    refine g_iconst_0 C dX12_twice_156 ?_
    exact g_weak [0, 1, 2, 3] rfl (Nat.le_refl _) (Nat.le_refl _) (wM_twice_gc157  C hB42 v2 v4 v5 v6 s0 0 I J h)
  · replace h := h.2 c3
    refine g_iconst_1 C dX12_twice_152 ?_
    refine g_goto C 157 dX12_twice_153 rfl ?_
    exact g_weak [0, 1, 2, 3] rfl (Nat.le_refl _) (Nat.le_refl _) (wM_twice_gc157  C hB42 v2 v4 v5 v6 s0 1 I J h)
set_option maxRecDepth 100000 in
theorem wM_twice_gc86 {Γ : gT} {D : gD} {ca : Nat → ClassId} {o : Nat → Nat} {Q : Int32 → gI → gJ → Prop} (C : Cx Γ cX12_twice RX12 8 D (tyW ca) (rl 6) (some .int) 0 0 (PMi ca o Q)) {B42 : Int32 → Int32 → Int32 → gI → gJ → Prop} (hB42 : ∀ (v2 : Int32) (v4 : Int32) (v5 : Int32) (I : gI) (J : gJ), B42 v2 v4 v5 I J → G Γ 0 0 42 [(0, .ref (o 0)), (2, .int v2), (4, .int v4), (5, .int v5)] [] (cM ca o I J)) (v2 : Int32) (v4 : Int32) (v5 : Int32) (s0 : Int32) (I : gI) (J : gJ) (h : wM_twice_c86 B42 v2 v4 v5 s0 I J Q) : G Γ 0 0 86 [(0, .ref (o 0)), (2, .int v2), (4, .int v4), (5, .int v5)] [.int s0] (cM ca o I J) := by
  unfold wM_twice_c86 at h
  refine g_istore C (i := 6) [(0, .ref (o 0)), (2, .int v2), (4, .int v4), (5, .int v5), (6, .int s0)] dX12_twice_86 (by decide) rfl ?_
  refine g_aload_n C (i := 0) dX12_twice_88 rfl rfl ?_
  refine m_get_ys C dX12_twice_89 ?_
  refine g_iload C (i := 5) dX12_twice_92 rfl ?_
  obtain ⟨h1, h⟩ := h
  refine m_iald C (k := 15) (by decide) h1 dX12_twice_94 ?_
  refine g_aload_n C (i := 0) dX12_twice_95 rfl rfl ?_
  refine m_get_ys C dX12_twice_96 ?_
  refine g_iload C (i := 5) dX12_twice_99 rfl ?_
  refine g_iconst_1 C dX12_twice_101 ?_
  refine g_isub C dX12_twice_102 ?_
  obtain ⟨h2, h⟩ := h
  refine m_iald C (k := 15) (by decide) h2 dX12_twice_103 ?_
  refine g_icmp_ge C 117 dX12_twice_104 rfl (fun c3 => ?_) (fun c3 => ?_)
  · replace h := h.1 c3
    refine g_aload_n C (i := 0) dX12_twice_117 rfl rfl ?_
    refine m_get_ys C dX12_twice_118 ?_
    refine g_iload C (i := 5) dX12_twice_121 rfl ?_
    refine g_iconst_1 C dX12_twice_123 ?_
    refine g_isub C dX12_twice_124 ?_
    refine m_iald C (k := 15) (by decide) h2 dX12_twice_125 ?_
    exact g_weak [0, 1, 2, 3, 4] rfl (Nat.le_refl _) (Nat.le_refl _) (wM_twice_gc126  C hB42 v2 v4 v5 s0 (I 15 (v5 - 1).toNatClampNeg) I J h)
  · replace h := h.2 c3
    refine g_aload_n C (i := 0) dX12_twice_107 rfl rfl ?_
    refine m_get_ys C dX12_twice_108 ?_
    refine g_iload C (i := 5) dX12_twice_111 rfl ?_
    refine m_iald C (k := 15) (by decide) h1 dX12_twice_113 ?_
    refine g_goto C 126 dX12_twice_114 rfl ?_
    exact g_weak [0, 1, 2, 3, 4] rfl (Nat.le_refl _) (Nat.le_refl _) (wM_twice_gc126  C hB42 v2 v4 v5 s0 (I 15 v5.toNatClampNeg) I J h)
set_option maxRecDepth 100000 in
theorem wM_twice_gb42 {Γ : gT} {D : gD} {ca : Nat → ClassId} {o : Nat → Nat} {Q : Int32 → gI → gJ → Prop} (C : Cx Γ cX12_twice RX12 8 D (tyW ca) (rl 6) (some .int) 0 0 (PMi ca o Q)) {B42 : Int32 → Int32 → Int32 → gI → gJ → Prop} (hB42 : ∀ (v2 : Int32) (v4 : Int32) (v5 : Int32) (I : gI) (J : gJ), B42 v2 v4 v5 I J → G Γ 0 0 42 [(0, .ref (o 0)), (2, .int v2), (4, .int v4), (5, .int v5)] [] (cM ca o I J)) (v2 : Int32) (v4 : Int32) (v5 : Int32) (I : gI) (J : gJ) (h : wM_twice_b42 B42 v2 v4 v5 I J Q) : G Γ 0 0 42 [(0, .ref (o 0)), (2, .int v2), (4, .int v4), (5, .int v5)] [] (cM ca o I J) := by
  unfold wM_twice_b42 at h
  refine g_iload C (i := 5) dX12_twice_42 rfl ?_
  refine g_iload_n C (i := 2) dX12_twice_44 rfl rfl ?_
  refine g_icmp_gt C 173 dX12_twice_45 rfl (fun c1 => ?_) (fun c1 => ?_)
  · replace h := h.1 c1
    refine g_iload C (i := 4) dX12_twice_173 rfl ?_
    exact g_ret_i C dX12_twice_175 (Nat.le_refl _) (Nat.le_refl _) ⟨_, _, _, rfl, rfl, h⟩
  · replace h := h.2 c1
    refine g_aload_n C (i := 0) dX12_twice_48 rfl rfl ?_
    refine m_get_xs C dX12_twice_49 ?_
    refine g_iload C (i := 5) dX12_twice_52 rfl ?_
    obtain ⟨h2, h⟩ := h
    refine m_iald C (k := 14) (by decide) h2 dX12_twice_54 ?_
    refine g_aload_n C (i := 0) dX12_twice_55 rfl rfl ?_
    refine m_get_xs C dX12_twice_56 ?_
    refine g_iload C (i := 5) dX12_twice_59 rfl ?_
    refine g_iconst_1 C dX12_twice_61 ?_
    refine g_isub C dX12_twice_62 ?_
    obtain ⟨h3, h⟩ := h
    refine m_iald C (k := 14) (by decide) h3 dX12_twice_63 ?_
    refine g_icmp_ge C 77 dX12_twice_64 rfl (fun c4 => ?_) (fun c4 => ?_)
    · replace h := h.1 c4
      refine g_aload_n C (i := 0) dX12_twice_77 rfl rfl ?_
      refine m_get_xs C dX12_twice_78 ?_
      refine g_iload C (i := 5) dX12_twice_81 rfl ?_
      refine g_iconst_1 C dX12_twice_83 ?_
      refine g_isub C dX12_twice_84 ?_
      refine m_iald C (k := 14) (by decide) h3 dX12_twice_85 ?_
      exact g_weak [0, 1, 2, 3] rfl (Nat.le_refl _) (Nat.le_refl _) (wM_twice_gc86  C hB42 v2 v4 v5 (I 14 (v5 - 1).toNatClampNeg) I J h)
    · replace h := h.2 c4
      refine g_aload_n C (i := 0) dX12_twice_67 rfl rfl ?_
      refine m_get_xs C dX12_twice_68 ?_
      refine g_iload C (i := 5) dX12_twice_71 rfl ?_
      refine m_iald C (k := 14) (by decide) h2 dX12_twice_73 ?_
      refine g_goto C 86 dX12_twice_74 rfl ?_
      exact g_weak [0, 1, 2, 3] rfl (Nat.le_refl _) (Nat.le_refl _) (wM_twice_gc86  C hB42 v2 v4 v5 (I 14 v5.toNatClampNeg) I J h)
theorem wM_twice_gl42 {Γ : gT} {D : gD} {ca : Nat → ClassId} {o : Nat → Nat} {Q : Int32 → gI → gJ → Prop} (C : Cx Γ cX12_twice RX12 8 D (tyW ca) (rl 6) (some .int) 0 0 (PMi ca o Q)) : ∀ (n : Nat) (v2 : Int32) (v4 : Int32) (v5 : Int32) (I : gI) (J : gJ) (_ : wM_twice_l42 Q n v2 v4 v5 I J), G Γ 0 0 42 [(0, .ref (o 0)), (2, .int v2), (4, .int v4), (5, .int v5)] [] (cM ca o I J) := by
  intro n
  induction n with
  | zero => intro v2 v4 v5 I J h; exact h.elim
  | succ n ih => intro v2 v4 v5 I J h; exact wM_twice_gb42 C ih v2 v4 v5 I J h
set_option maxRecDepth 100000 in
theorem wM_twice_g {Γ : gT} {D : gD} {ca : Nat → ClassId} {o : Nat → Nat} {Q : Int32 → gI → gJ → Prop} (v1 : Int32) (v2 : Int32) (I : gI) (J : gJ) (C : Cx Γ cX12_twice RX12 8 D (tyW ca) (rl 6) (some .int) 0 0 (PMi ca o Q)) (h : wM_twice v1 v2 I J Q) : G Γ 0 0 0 [(0, .ref (o 0)), (1, .int v1), (2, .int v2)] [] (cM ca o I J) := by
  unfold wM_twice at h
  refine g_aload_n C (i := 0) dX12_twice_0 rfl rfl ?_
  refine g_iload_n C (i := 1) dX12_twice_1 rfl rfl ?_
  refine g_iload_n C (i := 2) dX12_twice_2 rfl rfl ?_
  refine m_callPi C rfl (wM_k_walks v1 v2 I J _ h) 2 swM_walks (rl_ok (by decide) (by decide)) rfl (Nat.le_of_ble_eq_true rfl) (st := []) _ rfl dX12_twice_3 (fun r1 h => ?_)
  refine g_istore_n C (i := 3) [(0, .ref (o 0)), (1, .int v1), (2, .int v2), (3, .int r1)] dX12_twice_6 rfl (by decide) rfl ?_
  refine g_iload_n C (i := 3) dX12_twice_7 rfl rfl ?_
  refine g_if_eq C 17 dX12_twice_8 rfl (fun c2 => ?_) (fun c2 => ?_)
  · replace h := h.1 c2
    refine g_aload_n C (i := 0) dX12_twice_17 rfl rfl ?_
    refine g_iload_n C (i := 1) dX12_twice_18 rfl rfl ?_
    refine g_iload_n C (i := 2) dX12_twice_19 rfl rfl ?_
    refine g_iconst_0 C dX12_twice_20 ?_
    refine g_aload_n C (i := 0) dX12_twice_21 rfl rfl ?_
    refine m_get_xs C dX12_twice_22 ?_
    refine g_aload_n C (i := 0) dX12_twice_25 rfl rfl ?_
    refine m_get_ys C dX12_twice_26 ?_
    refine m_callv C rfl (wM_k_walked (by decide) (by decide) v1 v2 0 I J _ h) 5 swM_walked (rl_ok (by decide) (by decide)) rfl (Nat.le_of_ble_eq_true rfl) (st := []) _ rfl dX12_twice_29 (fun I4 J5 h => ?_)
    refine g_aload_n C (i := 0) dX12_twice_32 rfl rfl ?_
    refine m_callv C rfl (wM_k_clears I4 J5 _ h) 0 swM_clears (rl_ok (by decide) (by decide)) rfl (Nat.le_of_ble_eq_true rfl) (st := []) _ rfl dX12_twice_33 (fun I7 J8 h => ?_)
    refine g_iconst_0 C dX12_twice_36 ?_
    refine g_istore C (i := 4) [(0, .ref (o 0)), (1, .int v1), (2, .int v2), (3, .int r1), (4, .int 0)] dX12_twice_37 (by decide) rfl ?_
    refine g_iconst_1 C dX12_twice_39 ?_
    refine g_istore C (i := 5) [(0, .ref (o 0)), (1, .int v1), (2, .int v2), (3, .int r1), (4, .int 0), (5, .int 1)] dX12_twice_40 (by decide) rfl ?_
    obtain ⟨n, h⟩ := h
    exact g_weak [0, 2, 4, 5] rfl (Nat.le_refl _) (Nat.le_refl _) (wM_twice_gl42  C  n v2 0 1 I7 J8 h)
  · replace h := h.2 c2
    refine g_aload_n C (i := 0) dX12_twice_11 rfl rfl ?_
    refine g_iload_n C (i := 3) dX12_twice_12 rfl rfl ?_
    refine m_calli C rfl (wM_k_no r1 I J _ h) 1 swM_no (rl_ok (by decide) (by decide)) rfl (Nat.le_of_ble_eq_true rfl) (st := []) _ rfl dX12_twice_13 (fun r9 I10 J11 h => ?_)
    exact g_ret_i C dX12_twice_16 (Nat.le_refl _) (Nat.le_refl _) ⟨_, _, _, rfl, rfl, h⟩
theorem wM_k_twice {D : gD} {ca : Nat → ClassId} {o : Nat → Nat} (v1 : Int32) (v2 : Int32) (I : gI) (J : gJ) (Q : Int32 → gI → gJ → Prop) (h : wM_twice v1 v2 I J Q) : Ct yX12_twice cX12_twice 8 (some .int) (rl 6) D (tyW ca) 0 0 [.ref (o 0), .int v1, .int v2] (cM ca o I J) (PMi ca o Q) := ct_of (rm := rl 6) (by decide +kernel) (Nat.le_of_ble_eq_true rfl) (fun Γ C => wM_twice_g v1 v2 I J C h)
set_option maxRecDepth 100000 in
theorem wM_cover_gb39 {Γ : gT} {D : gD} {ca : Nat → ClassId} {o : Nat → Nat} {Q : Int32 → gI → gJ → Prop} (C : Cx Γ cX12_cover RX12 5 D (tyW ca) (rl 6) (some .int) 0 0 (PMi ca o Q)) {B39 : Int32 → Int32 → gI → gJ → Prop} (hB39 : ∀ (v2 : Int32) (v4 : Int32) (I : gI) (J : gJ), B39 v2 v4 I J → G Γ 0 0 39 [(0, .ref (o 0)), (2, .int v2), (4, .int v4)] [] (cM ca o I J)) (v2 : Int32) (v4 : Int32) (I : gI) (J : gJ) (h : wM_cover_b39 B39 v2 v4 I J Q) : G Γ 0 0 39 [(0, .ref (o 0)), (2, .int v2), (4, .int v4)] [] (cM ca o I J) := by
  unfold wM_cover_b39 at h
  refine g_iload C (i := 4) dX12_cover_39 rfl ?_
  refine g_iload_n C (i := 2) dX12_cover_41 rfl rfl ?_
  refine g_icmp_gt C 71 dX12_cover_42 rfl (fun c1 => ?_) (fun c1 => ?_)
  · replace h := h.1 c1
    refine g_aload_n C (i := 0) dX12_cover_71 rfl rfl ?_
    refine m_get_marks C dX12_cover_72 ?_
    exact g_ret_i C dX12_cover_75 (Nat.le_refl _) (Nat.le_refl _) ⟨_, _, _, rfl, rfl, h⟩
  · replace h := h.2 c1
    refine g_aload_n C (i := 0) dX12_cover_45 rfl rfl ?_
    refine g_aload_n C (i := 0) dX12_cover_46 rfl rfl ?_
    refine m_get_xs C dX12_cover_47 ?_
    refine g_iload C (i := 4) dX12_cover_50 rfl ?_
    obtain ⟨h2, h⟩ := h
    refine m_iald C (k := 14) (by decide) h2 dX12_cover_52 ?_
    refine g_aload_n C (i := 0) dX12_cover_53 rfl rfl ?_
    refine m_get_ys C dX12_cover_54 ?_
    refine g_iload C (i := 4) dX12_cover_57 rfl ?_
    refine m_iald C (k := 15) (by decide) h2 dX12_cover_59 ?_
    refine g_iconst_0 C dX12_cover_60 ?_
    refine m_calli C rfl (wM_k_meets (I 14 v4.toNatClampNeg) (I 15 v4.toNatClampNeg) 0 I J _ h) 3 swM_meets (rl_ok (by decide) (by decide)) rfl (Nat.le_of_ble_eq_true rfl) (st := []) _ rfl dX12_cover_61 (fun r3 I4 J5 h => ?_)
    refine g_pop C dX12_cover_64 rfl ?_
    refine g_iinc C 1 [(0, .ref (o 0)), (2, .int v2), (4, .int (v4 + 1))] dX12_cover_65 rfl (by decide) (by decide) rfl ?_
    refine g_goto C 39 dX12_cover_68 rfl ?_
    exact g_weak [0, 1, 2] rfl (Nat.le_refl _) (Nat.le_refl _) (hB39 v2 (v4 + 1) I4 J5 h)
theorem wM_cover_gl39 {Γ : gT} {D : gD} {ca : Nat → ClassId} {o : Nat → Nat} {Q : Int32 → gI → gJ → Prop} (C : Cx Γ cX12_cover RX12 5 D (tyW ca) (rl 6) (some .int) 0 0 (PMi ca o Q)) : ∀ (n : Nat) (v2 : Int32) (v4 : Int32) (I : gI) (J : gJ) (_ : wM_cover_l39 Q n v2 v4 I J), G Γ 0 0 39 [(0, .ref (o 0)), (2, .int v2), (4, .int v4)] [] (cM ca o I J) := by
  intro n
  induction n with
  | zero => intro v2 v4 I J h; exact h.elim
  | succ n ih => intro v2 v4 I J h; exact wM_cover_gb39 C ih v2 v4 I J h
set_option maxRecDepth 100000 in
theorem wM_cover_g {Γ : gT} {D : gD} {ca : Nat → ClassId} {o : Nat → Nat} {Q : Int32 → gI → gJ → Prop} (v1 : Int32) (v2 : Int32) (I : gI) (J : gJ) (C : Cx Γ cX12_cover RX12 5 D (tyW ca) (rl 6) (some .int) 0 0 (PMi ca o Q)) (h : wM_cover v1 v2 I J Q) : G Γ 0 0 0 [(0, .ref (o 0)), (1, .int v1), (2, .int v2)] [] (cM ca o I J) := by
  unfold wM_cover at h
  refine g_aload_n C (i := 0) dX12_cover_0 rfl rfl ?_
  refine g_iload_n C (i := 1) dX12_cover_1 rfl rfl ?_
  refine g_iload_n C (i := 2) dX12_cover_2 rfl rfl ?_
  refine m_callPi C rfl (wM_k_walks v1 v2 I J _ h) 2 swM_walks (rl_ok (by decide) (by decide)) rfl (Nat.le_of_ble_eq_true rfl) (st := []) _ rfl dX12_cover_3 (fun r1 h => ?_)
  refine g_istore_n C (i := 3) [(0, .ref (o 0)), (1, .int v1), (2, .int v2), (3, .int r1)] dX12_cover_6 rfl (by decide) rfl ?_
  refine g_iload_n C (i := 3) dX12_cover_7 rfl rfl ?_
  refine g_if_eq C 17 dX12_cover_8 rfl (fun c2 => ?_) (fun c2 => ?_)
  · replace h := h.1 c2
    refine g_aload_n C (i := 0) dX12_cover_17 rfl rfl ?_
    refine g_iload_n C (i := 1) dX12_cover_18 rfl rfl ?_
    refine g_iload_n C (i := 2) dX12_cover_19 rfl rfl ?_
    refine g_iconst_0 C dX12_cover_20 ?_
    refine g_aload_n C (i := 0) dX12_cover_21 rfl rfl ?_
    refine m_get_xs C dX12_cover_22 ?_
    refine g_aload_n C (i := 0) dX12_cover_25 rfl rfl ?_
    refine m_get_ys C dX12_cover_26 ?_
    refine m_callv C rfl (wM_k_walked (by decide) (by decide) v1 v2 0 I J _ h) 5 swM_walked (rl_ok (by decide) (by decide)) rfl (Nat.le_of_ble_eq_true rfl) (st := []) _ rfl dX12_cover_29 (fun I4 J5 h => ?_)
    refine g_aload_n C (i := 0) dX12_cover_32 rfl rfl ?_
    refine m_callv C rfl (wM_k_clears I4 J5 _ h) 0 swM_clears (rl_ok (by decide) (by decide)) rfl (Nat.le_of_ble_eq_true rfl) (st := []) _ rfl dX12_cover_33 (fun I7 J8 h => ?_)
    refine g_iconst_0 C dX12_cover_36 ?_
    refine g_istore C (i := 4) [(0, .ref (o 0)), (1, .int v1), (2, .int v2), (3, .int r1), (4, .int 0)] dX12_cover_37 (by decide) rfl ?_
    obtain ⟨n, h⟩ := h
    exact g_weak [0, 2, 4] rfl (Nat.le_refl _) (Nat.le_refl _) (wM_cover_gl39  C  n v2 0 I7 J8 h)
  · replace h := h.2 c2
    refine g_aload_n C (i := 0) dX12_cover_11 rfl rfl ?_
    refine g_iload_n C (i := 3) dX12_cover_12 rfl rfl ?_
    refine m_calli C rfl (wM_k_no r1 I J _ h) 1 swM_no (rl_ok (by decide) (by decide)) rfl (Nat.le_of_ble_eq_true rfl) (st := []) _ rfl dX12_cover_13 (fun r9 I10 J11 h => ?_)
    exact g_ret_i C dX12_cover_16 (Nat.le_refl _) (Nat.le_refl _) ⟨_, _, _, rfl, rfl, h⟩
theorem wM_k_cover {D : gD} {ca : Nat → ClassId} {o : Nat → Nat} (v1 : Int32) (v2 : Int32) (I : gI) (J : gJ) (Q : Int32 → gI → gJ → Prop) (h : wM_cover v1 v2 I J Q) : Ct yX12_cover cX12_cover 5 (some .int) (rl 6) D (tyW ca) 0 0 [.ref (o 0), .int v1, .int v2] (cM ca o I J) (PMi ca o Q) := ct_of (rm := rl 6) (by decide +kernel) (Nat.le_of_ble_eq_true rfl) (fun Γ C => wM_cover_g v1 v2 I J C h)
set_option maxRecDepth 100000 in
theorem wM_when_gb56 {Γ : gT} {D : gD} {ca : Nat → ClassId} {o : Nat → Nat} {Q : Int32 → gI → gJ → Prop} (C : Cx Γ cX12_when RX12 8 D (tyW ca) (rl 6) (some .int) 0 0 (PMi ca o Q)) {B56 : Int32 → Int32 → Int32 → Int32 → Int32 → gI → gJ → Prop} (hB56 : ∀ (v2 : Int32) (v3 : Int32) (v5 : Int32) (v6 : Int32) (v7 : Int32) (I : gI) (J : gJ), B56 v2 v3 v5 v6 v7 I J → G Γ 0 0 56 [(0, .ref (o 0)), (2, .int v2), (3, .int v3), (5, .int v5), (6, .int v6), (7, .int v7)] [] (cM ca o I J)) (v2 : Int32) (v3 : Int32) (v5 : Int32) (v6 : Int32) (v7 : Int32) (I : gI) (J : gJ) (h : wM_when_b56 B56 v2 v3 v5 v6 v7 I J Q) : G Γ 0 0 56 [(0, .ref (o 0)), (2, .int v2), (3, .int v3), (5, .int v5), (6, .int v6), (7, .int v7)] [] (cM ca o I J) := by
  unfold wM_when_b56 at h
  refine g_iload C (i := 7) dX12_when_56 rfl ?_
  refine g_iload C (i := 5) dX12_when_58 rfl ?_
  refine g_icmp_gt C 105 dX12_when_60 rfl (fun c1 => ?_) (fun c1 => ?_)
  · replace h := h.1 c1
    refine g_iconst_m1 C dX12_when_105 ?_
    exact g_ret_i C dX12_when_106 (Nat.le_refl _) (Nat.le_refl _) ⟨_, _, _, rfl, rfl, h⟩
  · replace h := h.2 c1
    refine g_aload_n C (i := 0) dX12_when_63 rfl rfl ?_
    refine m_get_xs C dX12_when_64 ?_
    refine g_iload C (i := 7) dX12_when_67 rfl ?_
    obtain ⟨h2, h⟩ := h
    refine m_iald C (k := 14) (by decide) h2 dX12_when_69 ?_
    refine g_iload_n C (i := 2) dX12_when_70 rfl rfl ?_
    refine g_icmp_ne C 99 dX12_when_71 rfl (fun c3 => ?_) (fun c3 => ?_)
    · replace h := h.1 c3
      refine g_iinc C 1 [(0, .ref (o 0)), (2, .int v2), (3, .int v3), (5, .int v5), (6, .int v6), (7, .int (v7 + 1))] dX12_when_99 rfl (by decide) (by decide) rfl ?_
      refine g_goto C 56 dX12_when_102 rfl ?_
      exact g_weak [0, 1, 2, 3, 4, 5] rfl (Nat.le_refl _) (Nat.le_refl _) (hB56 v2 v3 v5 v6 (v7 + 1) I J h)
    · replace h := h.2 c3
      refine g_aload_n C (i := 0) dX12_when_74 rfl rfl ?_
      refine m_get_ys C dX12_when_75 ?_
      refine g_iload C (i := 7) dX12_when_78 rfl ?_
      refine m_iald C (k := 15) (by decide) h2 dX12_when_80 ?_
      refine g_iload_n C (i := 3) dX12_when_81 rfl rfl ?_
      refine g_icmp_eq C 88 dX12_when_82 rfl (fun c4 => ?_) (fun c4 => ?_)
      · replace h := h.1 c4
        refine g_iload C (i := 6) dX12_when_88 rfl ?_
        refine g_if_ne C 96 dX12_when_90 rfl (fun c5 => ?_) (fun c5 => ?_)
        · replace h := h.1 c5
          refine g_iinc C (-1) [(0, .ref (o 0)), (2, .int v2), (3, .int v3), (5, .int v5), (6, .int (v6 + (-1))), (7, .int v7)] dX12_when_96 rfl (by decide) (by decide) rfl ?_
          refine g_iinc C 1 [(0, .ref (o 0)), (2, .int v2), (3, .int v3), (5, .int v5), (6, .int (v6 + (-1))), (7, .int (v7 + 1))] dX12_when_99 rfl (by decide) (by decide) rfl ?_
          refine g_goto C 56 dX12_when_102 rfl ?_
          exact g_weak [0, 1, 2, 3, 4, 5] rfl (Nat.le_refl _) (Nat.le_refl _) (hB56 v2 v3 v5 (v6 + (-1)) (v7 + 1) I J h)
        · replace h := h.2 c5
          refine g_iload C (i := 7) dX12_when_93 rfl ?_
          exact g_ret_i C dX12_when_95 (Nat.le_refl _) (Nat.le_refl _) ⟨_, _, _, rfl, rfl, h⟩
      · replace h := h.2 c4
        refine g_goto C 99 dX12_when_85 rfl ?_
        refine g_iinc C 1 [(0, .ref (o 0)), (2, .int v2), (3, .int v3), (5, .int v5), (6, .int v6), (7, .int (v7 + 1))] dX12_when_99 rfl (by decide) (by decide) rfl ?_
        refine g_goto C 56 dX12_when_102 rfl ?_
        exact g_weak [0, 1, 2, 3, 4, 5] rfl (Nat.le_refl _) (Nat.le_refl _) (hB56 v2 v3 v5 v6 (v7 + 1) I J h)
theorem wM_when_gl56 {Γ : gT} {D : gD} {ca : Nat → ClassId} {o : Nat → Nat} {Q : Int32 → gI → gJ → Prop} (C : Cx Γ cX12_when RX12 8 D (tyW ca) (rl 6) (some .int) 0 0 (PMi ca o Q)) : ∀ (n : Nat) (v2 : Int32) (v3 : Int32) (v5 : Int32) (v6 : Int32) (v7 : Int32) (I : gI) (J : gJ) (_ : wM_when_l56 Q n v2 v3 v5 v6 v7 I J), G Γ 0 0 56 [(0, .ref (o 0)), (2, .int v2), (3, .int v3), (5, .int v5), (6, .int v6), (7, .int v7)] [] (cM ca o I J) := by
  intro n
  induction n with
  | zero => intro v2 v3 v5 v6 v7 I J h; exact h.elim
  | succ n ih => intro v2 v3 v5 v6 v7 I J h; exact wM_when_gb56 C ih v2 v3 v5 v6 v7 I J h
set_option maxRecDepth 100000 in
theorem wM_when_g {Γ : gT} {D : gD} {ca : Nat → ClassId} {o : Nat → Nat} {Q : Int32 → gI → gJ → Prop} (v1 : Int32) (v2 : Int32) (v3 : Int32) (v4 : Int32) (I : gI) (J : gJ) (C : Cx Γ cX12_when RX12 8 D (tyW ca) (rl 6) (some .int) 0 0 (PMi ca o Q)) (h : wM_when v1 v2 v3 v4 I J Q) : G Γ 0 0 0 [(0, .ref (o 0)), (1, .int v1), (2, .int v2), (3, .int v3), (4, .int v4)] [] (cM ca o I J) := by
  unfold wM_when at h
  refine g_aload_n C (i := 0) dX12_when_0 rfl rfl ?_
  refine g_iload_n C (i := 1) dX12_when_1 rfl rfl ?_
  refine m_callPz C rfl (wM_k_isStrip v1 I J _ h) 1 swM_isStrip (rl_ok (by decide) (by decide)) rfl (Nat.le_of_ble_eq_true rfl) (st := []) _ rfl dX12_when_2 (fun r1 h => ?_)
  refine g_zne C 14 dX12_when_5 rfl (fun c2 => ?_) (fun c2 => ?_)
  · replace h := h.1 c2
    refine g_iload C (i := 4) dX12_when_14 rfl ?_
    refine g_if_ge C 26 dX12_when_16 rfl (fun c3 => ?_) (fun c3 => ?_)
    · replace h := h.1 c3
      refine g_aload_n C (i := 0) dX12_when_26 rfl rfl ?_
      refine g_iload_n C (i := 1) dX12_when_27 rfl rfl ?_
      refine m_callPi C rfl (wM_k_farthest v1 I J _ h) 1 swM_farthest (rl_ok (by decide) (by decide)) rfl (Nat.le_of_ble_eq_true rfl) (st := []) _ rfl dX12_when_28 (fun r4 h => ?_)
      refine g_istore C (i := 5) [(0, .ref (o 0)), (1, .int v1), (2, .int v2), (3, .int v3), (4, .int v4), (5, .int r4)] dX12_when_31 (by decide) rfl ?_
      refine g_iload C (i := 4) dX12_when_33 rfl ?_
      refine g_istore C (i := 6) [(0, .ref (o 0)), (1, .int v1), (2, .int v2), (3, .int v3), (4, .int v4), (5, .int r4), (6, .int v4)] dX12_when_35 (by decide) rfl ?_
      refine g_aload_n C (i := 0) dX12_when_37 rfl rfl ?_
      refine g_iload_n C (i := 1) dX12_when_38 rfl rfl ?_
      refine g_iload C (i := 5) dX12_when_39 rfl ?_
      refine g_iconst_0 C dX12_when_41 ?_
      refine g_aload_n C (i := 0) dX12_when_42 rfl rfl ?_
      refine m_get_xs C dX12_when_43 ?_
      refine g_aload_n C (i := 0) dX12_when_46 rfl rfl ?_
      refine m_get_ys C dX12_when_47 ?_
      refine m_callv C rfl (wM_k_walked (by decide) (by decide) v1 r4 0 I J _ h) 5 swM_walked (rl_ok (by decide) (by decide)) rfl (Nat.le_of_ble_eq_true rfl) (st := []) _ rfl dX12_when_50 (fun I6 J7 h => ?_)
      refine g_iconst_0 C dX12_when_53 ?_
      refine g_istore C (i := 7) [(0, .ref (o 0)), (1, .int v1), (2, .int v2), (3, .int v3), (4, .int v4), (5, .int r4), (6, .int v4), (7, .int 0)] dX12_when_54 (by decide) rfl ?_
      obtain ⟨n, h⟩ := h
      exact g_weak [0, 2, 3, 5, 6, 7] rfl (Nat.le_refl _) (Nat.le_refl _) (wM_when_gl56  C  n v2 v3 r4 v4 0 I6 J7 h)
    · replace h := h.2 c3
      refine g_aload_n C (i := 0) dX12_when_19 rfl rfl ?_
      refine g_bipush C (v := (-5)) dX12_when_20 (by decide) ?_
      refine m_calli C rfl (wM_k_noTen (-5) I J _ h) 1 swM_noTen (rl_ok (by decide) (by decide)) rfl (Nat.le_of_ble_eq_true rfl) (st := []) _ rfl dX12_when_22 (fun r8 I9 J10 h => ?_)
      exact g_ret_i C dX12_when_25 (Nat.le_refl _) (Nat.le_refl _) ⟨_, _, _, rfl, rfl, h⟩
  · replace h := h.2 c2
    refine g_aload_n C (i := 0) dX12_when_8 rfl rfl ?_
    refine g_iconst_m1 C dX12_when_9 ?_
    refine m_calli C rfl (wM_k_noTen (-1) I J _ h) 1 swM_noTen (rl_ok (by decide) (by decide)) rfl (Nat.le_of_ble_eq_true rfl) (st := []) _ rfl dX12_when_10 (fun r11 I12 J13 h => ?_)
    exact g_ret_i C dX12_when_13 (Nat.le_refl _) (Nat.le_refl _) ⟨_, _, _, rfl, rfl, h⟩
theorem wM_k_when {D : gD} {ca : Nat → ClassId} {o : Nat → Nat} (v1 : Int32) (v2 : Int32) (v3 : Int32) (v4 : Int32) (I : gI) (J : gJ) (Q : Int32 → gI → gJ → Prop) (h : wM_when v1 v2 v3 v4 I J Q) : Ct yX12_when cX12_when 8 (some .int) (rl 6) D (tyW ca) 0 0 [.ref (o 0), .int v1, .int v2, .int v3, .int v4] (cM ca o I J) (PMi ca o Q) := ct_of (rm := rl 6) (by decide +kernel) (Nat.le_of_ble_eq_true rfl) (fun Γ C => wM_when_g v1 v2 v3 v4 I J C h)
set_option maxRecDepth 100000 in
theorem wM_near_gb151 {Γ : gT} {D : gD} {ca : Nat → ClassId} {o : Nat → Nat} {Q : Int32 → gI → gJ → Prop} (C : Cx Γ cX12_near RX12 13 D (tyW ca) (rl 6) (some .int) 0 0 (PMi ca o Q)) {B151 : Int32 → Int32 → Int32 → Int32 → Int32 → Int32 → Int32 → gI → gJ → Prop} (hB151 : ∀ (v3 : Int32) (v4 : Int32) (v5 : Int32) (v6 : Int32) (v7 : Int32) (v8 : Int32) (v9 : Int32) (I : gI) (J : gJ), B151 v3 v4 v5 v6 v7 v8 v9 I J → G Γ 0 0 151 [(0, .ref (o 0)), (3, .int v3), (4, .int v4), (5, .int v5), (6, .int v6), (7, .int v7), (8, .int v8), (9, .int v9)] [] (cM ca o I J)) (v3 : Int32) (v4 : Int32) (v5 : Int32) (v6 : Int32) (v7 : Int32) (v8 : Int32) (v9 : Int32) (I : gI) (J : gJ) (h : wM_near_b151 B151 v3 v4 v5 v6 v7 v8 v9 I J Q) : G Γ 0 0 151 [(0, .ref (o 0)), (3, .int v3), (4, .int v4), (5, .int v5), (6, .int v6), (7, .int v7), (8, .int v8), (9, .int v9)] [] (cM ca o I J) := by
  unfold wM_near_b151 at h
  refine g_iload C (i := 9) dX12_near_151 rfl ?_
  refine g_iload_n C (i := 3) dX12_near_153 rfl rfl ?_
  refine g_icmp_gt C 239 dX12_near_154 rfl (fun c1 => ?_) (fun c1 => ?_)
  · replace h := h.1 c1
    refine g_iload C (i := 6) dX12_near_239 rfl ?_
    refine g_if_ne C 249 dX12_near_241 rfl (fun c2 => ?_) (fun c2 => ?_)
    · replace h := h.1 c2
      refine g_iload C (i := 7) dX12_near_249 rfl ?_
      exact g_ret_i C dX12_near_251 (Nat.le_refl _) (Nat.le_refl _) ⟨_, _, _, rfl, rfl, h⟩
    · replace h := h.2 c2
      refine g_iload C (i := 8) dX12_near_244 rfl ?_
      refine g_goto C 251 dX12_near_246 rfl ?_
      exact g_ret_i C dX12_near_251 (Nat.le_refl _) (Nat.le_refl _) ⟨_, _, _, rfl, rfl, h⟩
  · replace h := h.2 c1
    refine g_aload_n C (i := 0) dX12_near_157 rfl rfl ?_
    refine m_get_xs2 C dX12_near_158 ?_
    refine g_iload C (i := 9) dX12_near_161 rfl ?_
    obtain ⟨h3, h⟩ := h
    refine m_iald C (k := 16) (by decide) h3 dX12_near_163 ?_
    refine g_iload C (i := 4) dX12_near_164 rfl ?_
    refine g_iadd C dX12_near_166 ?_
    refine g_aload_n C (i := 0) dX12_near_167 rfl rfl ?_
    refine m_get_xs C dX12_near_168 ?_
    refine g_iload C (i := 9) dX12_near_171 rfl ?_
    refine m_iald C (k := 14) (by decide) h3 dX12_near_173 ?_
    refine g_isub C dX12_near_174 ?_
    refine g_istore C (i := 10) [(0, .ref (o 0)), (3, .int v3), (4, .int v4), (5, .int v5), (6, .int v6), (7, .int v7), (8, .int v8), (9, .int v9), (10, .int (((I 16 v9.toNatClampNeg) + v4) - (I 14 v9.toNatClampNeg)))] dX12_near_175 (by decide) rfl ?_
    refine g_aload_n C (i := 0) dX12_near_177 rfl rfl ?_
    refine m_get_ys2 C dX12_near_178 ?_
    refine g_iload C (i := 9) dX12_near_181 rfl ?_
    refine m_iald C (k := 17) (by decide) h3 dX12_near_183 ?_
    refine g_iload C (i := 5) dX12_near_184 rfl ?_
    refine g_iadd C dX12_near_186 ?_
    refine g_aload_n C (i := 0) dX12_near_187 rfl rfl ?_
    refine m_get_ys C dX12_near_188 ?_
    refine g_iload C (i := 9) dX12_near_191 rfl ?_
    refine m_iald C (k := 15) (by decide) h3 dX12_near_193 ?_
    refine g_isub C dX12_near_194 ?_
    refine g_istore C (i := 11) [(0, .ref (o 0)), (3, .int v3), (4, .int v4), (5, .int v5), (6, .int v6), (7, .int v7), (8, .int v8), (9, .int v9), (10, .int (((I 16 v9.toNatClampNeg) + v4) - (I 14 v9.toNatClampNeg))), (11, .int (((I 17 v9.toNatClampNeg) + v5) - (I 15 v9.toNatClampNeg)))] dX12_near_195 (by decide) rfl ?_
    refine g_iload C (i := 10) dX12_near_197 rfl ?_
    refine g_iload C (i := 10) dX12_near_199 rfl ?_
    refine g_imul C dX12_near_201 ?_
    refine g_iload C (i := 11) dX12_near_202 rfl ?_
    refine g_iload C (i := 11) dX12_near_204 rfl ?_
    refine g_imul C dX12_near_206 ?_
    refine g_iadd C dX12_near_207 ?_
    refine g_topi (fun x4 e5 => ?_)
    replace h := h x4 e5
    refine g_istore C (i := 12) [(0, .ref (o 0)), (3, .int v3), (4, .int v4), (5, .int v5), (6, .int v6), (7, .int v7), (8, .int v8), (9, .int v9), (10, .int (((I 16 v9.toNatClampNeg) + v4) - (I 14 v9.toNatClampNeg))), (11, .int (((I 17 v9.toNatClampNeg) + v5) - (I 15 v9.toNatClampNeg))), (12, .int x4)] dX12_near_208 (by decide) rfl ?_
    refine g_iload C (i := 9) dX12_near_210 rfl ?_
    refine g_if_le C 225 dX12_near_212 rfl (fun c6 => ?_) (fun c6 => ?_)
    · replace h := h.1 c6
      refine g_iload C (i := 9) dX12_near_225 rfl ?_
      refine g_istore C (i := 7) [(0, .ref (o 0)), (3, .int v3), (4, .int v4), (5, .int v5), (6, .int v6), (7, .int v9), (8, .int v8), (9, .int v9), (10, .int (((I 16 v9.toNatClampNeg) + v4) - (I 14 v9.toNatClampNeg))), (11, .int (((I 17 v9.toNatClampNeg) + v5) - (I 15 v9.toNatClampNeg))), (12, .int x4)] dX12_near_227 (by decide) rfl ?_
      refine g_iload C (i := 12) dX12_near_229 rfl ?_
      refine g_istore C (i := 8) [(0, .ref (o 0)), (3, .int v3), (4, .int v4), (5, .int v5), (6, .int v6), (7, .int v9), (8, .int x4), (9, .int v9), (10, .int (((I 16 v9.toNatClampNeg) + v4) - (I 14 v9.toNatClampNeg))), (11, .int (((I 17 v9.toNatClampNeg) + v5) - (I 15 v9.toNatClampNeg))), (12, .int x4)] dX12_near_231 (by decide) rfl ?_
      refine g_iinc C 1 [(0, .ref (o 0)), (3, .int v3), (4, .int v4), (5, .int v5), (6, .int v6), (7, .int v9), (8, .int x4), (9, .int (v9 + 1)), (10, .int (((I 16 v9.toNatClampNeg) + v4) - (I 14 v9.toNatClampNeg))), (11, .int (((I 17 v9.toNatClampNeg) + v5) - (I 15 v9.toNatClampNeg))), (12, .int x4)] dX12_near_233 rfl (by decide) (by decide) rfl ?_
      refine g_goto C 151 dX12_near_236 rfl ?_
      exact g_weak [0, 1, 2, 3, 4, 5, 6, 7] rfl (Nat.le_refl _) (Nat.le_refl _) (hB151 v3 v4 v5 v6 v9 x4 (v9 + 1) I J h)
    · replace h := h.2 c6
      refine g_iload C (i := 12) dX12_near_215 rfl ?_
      refine g_iload C (i := 8) dX12_near_217 rfl ?_
      refine g_icmp_lt C 225 dX12_near_219 rfl (fun c7 => ?_) (fun c7 => ?_)
      · replace h := h.1 c7
        refine g_iload C (i := 9) dX12_near_225 rfl ?_
        refine g_istore C (i := 7) [(0, .ref (o 0)), (3, .int v3), (4, .int v4), (5, .int v5), (6, .int v6), (7, .int v9), (8, .int v8), (9, .int v9), (10, .int (((I 16 v9.toNatClampNeg) + v4) - (I 14 v9.toNatClampNeg))), (11, .int (((I 17 v9.toNatClampNeg) + v5) - (I 15 v9.toNatClampNeg))), (12, .int x4)] dX12_near_227 (by decide) rfl ?_
        refine g_iload C (i := 12) dX12_near_229 rfl ?_
        refine g_istore C (i := 8) [(0, .ref (o 0)), (3, .int v3), (4, .int v4), (5, .int v5), (6, .int v6), (7, .int v9), (8, .int x4), (9, .int v9), (10, .int (((I 16 v9.toNatClampNeg) + v4) - (I 14 v9.toNatClampNeg))), (11, .int (((I 17 v9.toNatClampNeg) + v5) - (I 15 v9.toNatClampNeg))), (12, .int x4)] dX12_near_231 (by decide) rfl ?_
        refine g_iinc C 1 [(0, .ref (o 0)), (3, .int v3), (4, .int v4), (5, .int v5), (6, .int v6), (7, .int v9), (8, .int x4), (9, .int (v9 + 1)), (10, .int (((I 16 v9.toNatClampNeg) + v4) - (I 14 v9.toNatClampNeg))), (11, .int (((I 17 v9.toNatClampNeg) + v5) - (I 15 v9.toNatClampNeg))), (12, .int x4)] dX12_near_233 rfl (by decide) (by decide) rfl ?_
        refine g_goto C 151 dX12_near_236 rfl ?_
        exact g_weak [0, 1, 2, 3, 4, 5, 6, 7] rfl (Nat.le_refl _) (Nat.le_refl _) (hB151 v3 v4 v5 v6 v9 x4 (v9 + 1) I J h)
      · replace h := h.2 c7
        refine g_goto C 233 dX12_near_222 rfl ?_
        refine g_iinc C 1 [(0, .ref (o 0)), (3, .int v3), (4, .int v4), (5, .int v5), (6, .int v6), (7, .int v7), (8, .int v8), (9, .int (v9 + 1)), (10, .int (((I 16 v9.toNatClampNeg) + v4) - (I 14 v9.toNatClampNeg))), (11, .int (((I 17 v9.toNatClampNeg) + v5) - (I 15 v9.toNatClampNeg))), (12, .int x4)] dX12_near_233 rfl (by decide) (by decide) rfl ?_
        refine g_goto C 151 dX12_near_236 rfl ?_
        exact g_weak [0, 1, 2, 3, 4, 5, 6, 7] rfl (Nat.le_refl _) (Nat.le_refl _) (hB151 v3 v4 v5 v6 v7 v8 (v9 + 1) I J h)
theorem wM_near_gl151 {Γ : gT} {D : gD} {ca : Nat → ClassId} {o : Nat → Nat} {Q : Int32 → gI → gJ → Prop} (C : Cx Γ cX12_near RX12 13 D (tyW ca) (rl 6) (some .int) 0 0 (PMi ca o Q)) : ∀ (n : Nat) (v3 : Int32) (v4 : Int32) (v5 : Int32) (v6 : Int32) (v7 : Int32) (v8 : Int32) (v9 : Int32) (I : gI) (J : gJ) (_ : wM_near_l151 Q n v3 v4 v5 v6 v7 v8 v9 I J), G Γ 0 0 151 [(0, .ref (o 0)), (3, .int v3), (4, .int v4), (5, .int v5), (6, .int v6), (7, .int v7), (8, .int v8), (9, .int v9)] [] (cM ca o I J) := by
  intro n
  induction n with
  | zero => intro v3 v4 v5 v6 v7 v8 v9 I J h; exact h.elim
  | succ n ih => intro v3 v4 v5 v6 v7 v8 v9 I J h; exact wM_near_gb151 C ih v3 v4 v5 v6 v7 v8 v9 I J h
set_option maxRecDepth 100000 in
theorem wM_near_gc105 {Γ : gT} {D : gD} {ca : Nat → ClassId} {o : Nat → Nat} {Q : Int32 → gI → gJ → Prop} (C : Cx Γ cX12_near RX12 13 D (tyW ca) (rl 6) (some .int) 0 0 (PMi ca o Q)) (I : gI) (J : gJ) (h : wM_near_c105 I J Q) : G Γ 0 0 105 [(0, .ref (o 0))] [] (cM ca o I J) := by
  unfold wM_near_c105 at h
  refine g_aload_n C (i := 0) dX12_near_105 rfl rfl ?_
  refine g_bipush C (v := (-6)) dX12_near_106 (by decide) ?_
  refine m_calli C rfl (wM_k_no (-6) I J _ h) 1 swM_no (rl_ok (by decide) (by decide)) rfl (Nat.le_of_ble_eq_true rfl) (st := []) _ rfl dX12_near_108 (fun r1 I2 J3 h => ?_)
  exact g_ret_i C dX12_near_111 (Nat.le_refl _) (Nat.le_refl _) ⟨_, _, _, rfl, rfl, h⟩
set_option maxRecDepth 100000 in
theorem wM_near_gc59 {Γ : gT} {D : gD} {ca : Nat → ClassId} {o : Nat → Nat} {Q : Int32 → gI → gJ → Prop} (C : Cx Γ cX12_near RX12 13 D (tyW ca) (rl 6) (some .int) 0 0 (PMi ca o Q)) (I : gI) (J : gJ) (h : wM_near_c59 I J Q) : G Γ 0 0 59 [(0, .ref (o 0))] [] (cM ca o I J) := by
  unfold wM_near_c59 at h
  refine g_aload_n C (i := 0) dX12_near_59 rfl rfl ?_
  refine g_bipush C (v := (-5)) dX12_near_60 (by decide) ?_
  refine m_calli C rfl (wM_k_no (-5) I J _ h) 1 swM_no (rl_ok (by decide) (by decide)) rfl (Nat.le_of_ble_eq_true rfl) (st := []) _ rfl dX12_near_62 (fun r1 I2 J3 h => ?_)
  exact g_ret_i C dX12_near_65 (Nat.le_refl _) (Nat.le_refl _) ⟨_, _, _, rfl, rfl, h⟩
set_option maxRecDepth 100000 in
theorem wM_near_gc16 {Γ : gT} {D : gD} {ca : Nat → ClassId} {o : Nat → Nat} {Q : Int32 → gI → gJ → Prop} (C : Cx Γ cX12_near RX12 13 D (tyW ca) (rl 6) (some .int) 0 0 (PMi ca o Q)) (I : gI) (J : gJ) (h : wM_near_c16 I J Q) : G Γ 0 0 16 [(0, .ref (o 0))] [] (cM ca o I J) := by
  unfold wM_near_c16 at h
  refine g_aload_n C (i := 0) dX12_near_16 rfl rfl ?_
  refine g_iconst_m1 C dX12_near_17 ?_
  refine m_calli C rfl (wM_k_no (-1) I J _ h) 1 swM_no (rl_ok (by decide) (by decide)) rfl (Nat.le_of_ble_eq_true rfl) (st := []) _ rfl dX12_near_18 (fun r1 I2 J3 h => ?_)
  exact g_ret_i C dX12_near_21 (Nat.le_refl _) (Nat.le_refl _) ⟨_, _, _, rfl, rfl, h⟩
set_option maxRecDepth 100000 in
theorem wM_near_g {Γ : gT} {D : gD} {ca : Nat → ClassId} {o : Nat → Nat} {Q : Int32 → gI → gJ → Prop} (v1 : Int32) (v2 : Int32) (v3 : Int32) (v4 : Int32) (v5 : Int32) (v6 : Int32) (I : gI) (J : gJ) (C : Cx Γ cX12_near RX12 13 D (tyW ca) (rl 6) (some .int) 0 0 (PMi ca o Q)) (h : wM_near v1 v2 v3 v4 v5 v6 I J Q) : G Γ 0 0 0 [(0, .ref (o 0)), (1, .int v1), (2, .int v2), (3, .int v3), (4, .int v4), (5, .int v5), (6, .int v6)] [] (cM ca o I J) := by
  unfold wM_near at h
  refine g_aload_n C (i := 0) dX12_near_0 rfl rfl ?_
  refine g_iload_n C (i := 1) dX12_near_1 rfl rfl ?_
  refine m_callPz C rfl (wM_k_isStrip v1 I J _ h) 1 swM_isStrip (rl_ok (by decide) (by decide)) rfl (Nat.le_of_ble_eq_true rfl) (st := []) _ rfl dX12_near_2 (fun r1 h => ?_)
  refine g_zeq C 16 dX12_near_5 rfl (fun c2 => ?_) (fun c2 => ?_)
  · replace h := h.1 c2
    exact g_weak [0] rfl (Nat.le_refl _) (Nat.le_refl _) (wM_near_gc16  C   I J h)
  · replace h := h.2 c2
    refine g_aload_n C (i := 0) dX12_near_8 rfl rfl ?_
    refine g_iload_n C (i := 2) dX12_near_9 rfl rfl ?_
    refine m_callPz C rfl (wM_k_isStrip v2 I J _ h) 1 swM_isStrip (rl_ok (by decide) (by decide)) rfl (Nat.le_of_ble_eq_true rfl) (st := []) _ rfl dX12_near_10 (fun r3 h => ?_)
    refine g_zne C 22 dX12_near_13 rfl (fun c4 => ?_) (fun c4 => ?_)
    · replace h := h.1 c4
      refine g_iload_n C (i := 3) dX12_near_22 rfl rfl ?_
      refine g_i2l C dX12_near_23 ?_
      refine g_aload_n C (i := 0) dX12_near_24 rfl rfl ?_
      refine g_iload_n C (i := 1) dX12_near_25 rfl rfl ?_
      refine m_callPl C rfl (wM_k_creasesOf v1 I J _ h) 1 swM_creasesOf (rl_ok (by decide) (by decide)) rfl (Nat.le_of_ble_eq_true rfl) (st := [.long v3.toInt64]) _ rfl dX12_near_26 (fun r5 h => ?_)
      refine g_lconst_1 C dX12_near_29 ?_
      refine g_ladd C dX12_near_30 ?_
      refine g_lgt C 59 dX12_near_31 dX12_near_32 rfl (fun c6 => ?_) (fun c6 => ?_)
      · replace h := h.1 c6
        exact g_weak [0] rfl (Nat.le_refl _) (Nat.le_refl _) (wM_near_gc59  C   I J h)
      · replace h := h.2 c6
        refine g_iload_n C (i := 3) dX12_near_35 rfl rfl ?_
        refine g_i2l C dX12_near_36 ?_
        refine g_aload_n C (i := 0) dX12_near_37 rfl rfl ?_
        refine g_iload_n C (i := 2) dX12_near_38 rfl rfl ?_
        refine m_callPl C rfl (wM_k_creasesOf v2 I J _ h) 1 swM_creasesOf (rl_ok (by decide) (by decide)) rfl (Nat.le_of_ble_eq_true rfl) (st := [.long v3.toInt64]) _ rfl dX12_near_39 (fun r7 h => ?_)
        refine g_lconst_1 C dX12_near_42 ?_
        refine g_ladd C dX12_near_43 ?_
        refine g_lgt C 59 dX12_near_44 dX12_near_45 rfl (fun c8 => ?_) (fun c8 => ?_)
        · replace h := h.1 c8
          exact g_weak [0] rfl (Nat.le_refl _) (Nat.le_refl _) (wM_near_gc59  C   I J h)
        · replace h := h.2 c8
          refine g_iload C (i := 6) dX12_near_48 rfl ?_
          refine g_if_lt C 59 dX12_near_50 rfl (fun c9 => ?_) (fun c9 => ?_)
          · replace h := h.1 c9
            exact g_weak [0] rfl (Nat.le_refl _) (Nat.le_refl _) (wM_near_gc59  C   I J h)
          · replace h := h.2 c9
            refine g_iload C (i := 6) dX12_near_53 rfl ?_
            refine g_iconst_1 C dX12_near_55 ?_
            refine g_icmp_le C 66 dX12_near_56 rfl (fun c10 => ?_) (fun c10 => ?_)
            · replace h := h.1 c10
              refine g_iload_n C (i := 3) dX12_near_66 rfl rfl ?_
              refine g_if_lt C 105 dX12_near_67 rfl (fun c11 => ?_) (fun c11 => ?_)
              · replace h := h.1 c11
                exact g_weak [0] rfl (Nat.le_refl _) (Nat.le_refl _) (wM_near_gc105  C   I J h)
              · replace h := h.2 c11
                refine g_iload_n C (i := 3) dX12_near_70 rfl rfl ?_
                refine g_sipush C (v := 4000) dX12_near_71 (by decide) ?_
                refine g_icmp_gt C 105 dX12_near_74 rfl (fun c12 => ?_) (fun c12 => ?_)
                · replace h := h.1 c12
                  exact g_weak [0] rfl (Nat.le_refl _) (Nat.le_refl _) (wM_near_gc105  C   I J h)
                · replace h := h.2 c12
                  refine g_iload C (i := 4) dX12_near_77 rfl ?_
                  refine g_bipush C (v := (-100)) dX12_near_79 (by decide) ?_
                  refine g_icmp_lt C 105 dX12_near_81 rfl (fun c13 => ?_) (fun c13 => ?_)
                  · replace h := h.1 c13
                    exact g_weak [0] rfl (Nat.le_refl _) (Nat.le_refl _) (wM_near_gc105  C   I J h)
                  · replace h := h.2 c13
                    refine g_iload C (i := 4) dX12_near_84 rfl ?_
                    refine g_bipush C (v := 100) dX12_near_86 (by decide) ?_
                    refine g_icmp_gt C 105 dX12_near_88 rfl (fun c14 => ?_) (fun c14 => ?_)
                    · replace h := h.1 c14
                      exact g_weak [0] rfl (Nat.le_refl _) (Nat.le_refl _) (wM_near_gc105  C   I J h)
                    · replace h := h.2 c14
                      refine g_iload C (i := 5) dX12_near_91 rfl ?_
                      refine g_bipush C (v := (-100)) dX12_near_93 (by decide) ?_
                      refine g_icmp_lt C 105 dX12_near_95 rfl (fun c15 => ?_) (fun c15 => ?_)
                      · replace h := h.1 c15
                        exact g_weak [0] rfl (Nat.le_refl _) (Nat.le_refl _) (wM_near_gc105  C   I J h)
                      · replace h := h.2 c15
                        refine g_iload C (i := 5) dX12_near_98 rfl ?_
                        refine g_bipush C (v := 100) dX12_near_100 (by decide) ?_
                        refine g_icmp_le C 112 dX12_near_102 rfl (fun c16 => ?_) (fun c16 => ?_)
                        · replace h := h.1 c16
                          refine g_aload_n C (i := 0) dX12_near_112 rfl rfl ?_
                          refine g_iload_n C (i := 1) dX12_near_113 rfl rfl ?_
                          refine g_iload_n C (i := 3) dX12_near_114 rfl rfl ?_
                          refine g_iconst_0 C dX12_near_115 ?_
                          refine g_aload_n C (i := 0) dX12_near_116 rfl rfl ?_
                          refine m_get_xs C dX12_near_117 ?_
                          refine g_aload_n C (i := 0) dX12_near_120 rfl rfl ?_
                          refine m_get_ys C dX12_near_121 ?_
                          refine m_callv C rfl (wM_k_walked (by decide) (by decide) v1 v3 0 I J _ h) 5 swM_walked (rl_ok (by decide) (by decide)) rfl (Nat.le_of_ble_eq_true rfl) (st := []) _ rfl dX12_near_124 (fun I18 J19 h => ?_)
                          refine g_aload_n C (i := 0) dX12_near_127 rfl rfl ?_
                          refine g_iload_n C (i := 2) dX12_near_128 rfl rfl ?_
                          refine g_iload_n C (i := 3) dX12_near_129 rfl rfl ?_
                          refine g_iconst_0 C dX12_near_130 ?_
                          refine g_aload_n C (i := 0) dX12_near_131 rfl rfl ?_
                          refine m_get_xs2 C dX12_near_132 ?_
                          refine g_aload_n C (i := 0) dX12_near_135 rfl rfl ?_
                          refine m_get_ys2 C dX12_near_136 ?_
                          refine m_callv C rfl (wM_k_walked (by decide) (by decide) v2 v3 0 I18 J19 _ h) 5 swM_walked (rl_ok (by decide) (by decide)) rfl (Nat.le_of_ble_eq_true rfl) (st := []) _ rfl dX12_near_139 (fun I21 J22 h => ?_)
                          refine g_iconst_0 C dX12_near_142 ?_
                          refine g_istore C (i := 7) [(0, .ref (o 0)), (1, .int v1), (2, .int v2), (3, .int v3), (4, .int v4), (5, .int v5), (6, .int v6), (7, .int 0)] dX12_near_143 (by decide) rfl ?_
                          refine g_iconst_0 C dX12_near_145 ?_
                          refine g_istore C (i := 8) [(0, .ref (o 0)), (1, .int v1), (2, .int v2), (3, .int v3), (4, .int v4), (5, .int v5), (6, .int v6), (7, .int 0), (8, .int 0)] dX12_near_146 (by decide) rfl ?_
                          refine g_iconst_0 C dX12_near_148 ?_
                          refine g_istore C (i := 9) [(0, .ref (o 0)), (1, .int v1), (2, .int v2), (3, .int v3), (4, .int v4), (5, .int v5), (6, .int v6), (7, .int 0), (8, .int 0), (9, .int 0)] dX12_near_149 (by decide) rfl ?_
                          obtain ⟨n, h⟩ := h
                          exact g_weak [0, 3, 4, 5, 6, 7, 8, 9] rfl (Nat.le_refl _) (Nat.le_refl _) (wM_near_gl151  C  n v3 v4 v5 v6 0 0 0 I21 J22 h)
                        · replace h := h.2 c16
                          exact g_weak [0] rfl (Nat.le_refl _) (Nat.le_refl _) (wM_near_gc105  C   I J h)
            · replace h := h.2 c10
              exact g_weak [0] rfl (Nat.le_refl _) (Nat.le_refl _) (wM_near_gc59  C   I J h)
    · replace h := h.2 c4
      exact g_weak [0] rfl (Nat.le_refl _) (Nat.le_refl _) (wM_near_gc16  C   I J h)
theorem wM_k_near {D : gD} {ca : Nat → ClassId} {o : Nat → Nat} (v1 : Int32) (v2 : Int32) (v3 : Int32) (v4 : Int32) (v5 : Int32) (v6 : Int32) (I : gI) (J : gJ) (Q : Int32 → gI → gJ → Prop) (h : wM_near v1 v2 v3 v4 v5 v6 I J Q) : Ct yX12_near cX12_near 13 (some .int) (rl 6) D (tyW ca) 0 0 [.ref (o 0), .int v1, .int v2, .int v3, .int v4, .int v5, .int v6] (cM ca o I J) (PMi ca o Q) := ct_of (rm := rl 6) (by decide +kernel) (Nat.le_of_ble_eq_true rfl) (fun Γ C => wM_near_g v1 v2 v3 v4 v5 v6 I J C h)
