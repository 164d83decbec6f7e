set_option maxRecDepth 100000 in
theorem wM_four_gb323 {Γ : gT} {D : gD} {ca : Nat → ClassId} {o : Nat → Nat} {Q : Int32 → gI → gJ → Prop} (C : Cx Γ cX12_four RX12 7 D (tyW ca) (rl 6) (some .int) 0 0 (PMi ca o Q)) {B323 : Int32 → gI → gJ → Prop} (hB323 : ∀ (v3 : Int32) (I : gI) (J : gJ), B323 v3 I J → G Γ 0 0 323 [(0, .ref (o 0)), (3, .int v3)] [] (cM ca o I J)) (v3 : Int32) (I : gI) (J : gJ) (h : wM_four_b323 B323 v3 I J Q) : G Γ 0 0 323 [(0, .ref (o 0)), (3, .int v3)] [] (cM ca o I J) := by
  unfold wM_four_b323 at h
  refine g_iload_n C (i := 3) dX12_four_323 rfl rfl ?_
  refine g_bipush C (v := 30) dX12_four_324 (by decide) ?_
  refine g_icmp_ge C 345 dX12_four_326 rfl (fun c1 => ?_) (fun c1 => ?_)
  · replace h := h.1 c1
    refine g_iload_n C (i := 3) dX12_four_345 rfl rfl ?_
    exact g_ret_i C dX12_four_346 (Nat.le_refl _) (Nat.le_refl _) ⟨_, _, _, rfl, rfl, h⟩
  · replace h := h.2 c1
    refine g_aload_n C (i := 0) dX12_four_329 rfl rfl ?_
    refine g_iload_n C (i := 3) dX12_four_330 rfl rfl ?_
    refine g_iconst_1 C dX12_four_331 ?_
    refine g_iadd C dX12_four_332 ?_
    refine m_callPz C rfl (wM_k_isOnce (v3 + 1) I J _ h) 1 swM_isOnce (rl_ok (by decide) (by decide)) rfl (Nat.le_of_ble_eq_true rfl) (st := []) _ rfl dX12_four_333 (fun r2 h => ?_)
    refine g_zeq C 345 dX12_four_336 rfl (fun c3 => ?_) (fun c3 => ?_)
    · replace h := h.1 c3
      refine g_iload_n C (i := 3) dX12_four_345 rfl rfl ?_
      exact g_ret_i C dX12_four_346 (Nat.le_refl _) (Nat.le_refl _) ⟨_, _, _, rfl, rfl, h⟩
    · replace h := h.2 c3
      refine g_iinc C 1 [(0, .ref (o 0)), (3, .int (v3 + 1))] dX12_four_339 rfl (by decide) (by decide) rfl ?_
      refine g_goto C 323 dX12_four_342 rfl ?_
      exact g_weak [0, 1] rfl (Nat.le_refl _) (Nat.le_refl _) (hB323 (v3 + 1) I J h)
theorem wM_four_gl323 {Γ : gT} {D : gD} {ca : Nat → ClassId} {o : Nat → Nat} {Q : Int32 → gI → gJ → Prop} (C : Cx Γ cX12_four RX12 7 D (tyW ca) (rl 6) (some .int) 0 0 (PMi ca o Q)) : ∀ (n : Nat) (v3 : Int32) (I : gI) (J : gJ) (_ : wM_four_l323 Q n v3 I J), G Γ 0 0 323 [(0, .ref (o 0)), (3, .int v3)] [] (cM ca o I J) := by
  intro n
  induction n with
  | zero => intro v3 I J h; exact h.elim
  | succ n ih => intro v3 I J h; exact wM_four_gb323 C ih v3 I J h
set_option maxRecDepth 100000 in
theorem wM_four_gc239 {Γ : gT} {D : gD} {ca : Nat → ClassId} {o : Nat → Nat} {Q : Int32 → gI → gJ → Prop} (C : Cx Γ cX12_four RX12 7 D (tyW ca) (rl 6) (some .int) 0 0 (PMi ca o Q)) {B83 : Int32 → Int32 → Int32 → gI → gJ → Prop} {B106 : Int32 → Int32 → Int32 → Int32 → gI → gJ → Prop} (hB83 : ∀ (v1 : Int32) (v2 : Int32) (v3 : Int32) (I : gI) (J : gJ), B83 v1 v2 v3 I J → G Γ 0 0 83 [(0, .ref (o 0)), (1, .int v1), (2, .int v2), (3, .int v3)] [] (cM ca o I J)) (hB106 : ∀ (v1 : Int32) (v2 : Int32) (v3 : Int32) (v4 : Int32) (I : gI) (J : gJ), B106 v1 v2 v3 v4 I J → G Γ 0 0 106 [(0, .ref (o 0)), (1, .int v1), (2, .int v2), (3, .int v3), (4, .int v4)] [] (cM ca o I J)) (v1 : Int32) (v2 : Int32) (v3 : Int32) (v4 : Int32) (v5 : Int32) (s0 : Int32) (I : gI) (J : gJ) (h : wM_four_c239 B83 B106 v1 v2 v3 v4 v5 s0 I J Q) : G Γ 0 0 239 [(0, .ref (o 0)), (1, .int v1), (2, .int v2), (3, .int v3), (4, .int v4), (5, .int v5)] [.int s0] (cM ca o I J) := by
  unfold wM_four_c239 at h
  refine g_istore C (i := 6) [(0, .ref (o 0)), (1, .int v1), (2, .int v2), (3, .int v3), (4, .int v4), (5, .int v5), (6, .int s0)] dX12_four_239 (by decide) rfl ?_
  refine g_aload_n C (i := 0) dX12_four_241 rfl rfl ?_
  refine m_get_ys C dX12_four_242 ?_
  refine g_iload C (i := 4) dX12_four_245 rfl ?_
  obtain ⟨h1, h⟩ := h
  refine m_iald C (k := 15) (by decide) h1 dX12_four_247 ?_
  refine g_aload_n C (i := 0) dX12_four_248 rfl rfl ?_
  refine m_get_ys C dX12_four_249 ?_
  refine g_iload C (i := 4) dX12_four_252 rfl ?_
  refine g_iconst_1 C dX12_four_254 ?_
  refine g_isub C dX12_four_255 ?_
  obtain ⟨h2, h⟩ := h
  refine m_iald C (k := 15) (by decide) h2 dX12_four_256 ?_
  refine g_icmp_ne C 286 dX12_four_257 rfl (fun c3 => ?_) (fun c3 => ?_)
  · replace h := h.1 c3
    refine g_aload_n C (i := 0) dX12_four_286 rfl rfl ?_
    refine m_get_up C dX12_four_287 ?_
    refine g_bipush C (v := 61) dX12_four_290 (by decide) ?_
    refine g_iload C (i := 6) dX12_four_292 rfl ?_
    refine g_bipush C (v := 30) dX12_four_294 (by decide) ?_
    refine g_iadd C dX12_four_296 ?_
    refine g_imul C dX12_four_297 ?_
    refine g_iload C (i := 5) dX12_four_298 rfl ?_
    refine g_iadd C dX12_four_300 ?_
    refine g_bipush C (v := 30) dX12_four_301 (by decide) ?_
    refine g_iadd C dX12_four_303 ?_
    refine g_dup2 C dX12_four_304 rfl rfl ?_
    obtain ⟨h4, h⟩ := h
    refine m_iald C (k := 21) (by decide) h4 dX12_four_305 ?_
    refine g_iconst_1 C dX12_four_306 ?_
    refine g_iadd C dX12_four_307 ?_
    refine m_iast C (k := 21) (by decide) h4 dX12_four_308 ?_
    refine m_nmI _ (fun I5 e6 => ?_)
    replace h := h I5 e6
    refine g_iinc C 1 [(0, .ref (o 0)), (1, .int v1), (2, .int v2), (3, .int v3), (4, .int (v4 + 1)), (5, .int v5), (6, .int s0)] dX12_four_309 rfl (by decide) (by decide) rfl ?_
    refine g_goto C 106 dX12_four_312 rfl ?_
    exact g_weak [0, 1, 2, 3, 4] rfl (Nat.le_refl _) (Nat.le_refl _) (hB106 v1 v2 v3 (v4 + 1) I5 J h)
  · replace h := h.2 c3
    refine g_aload_n C (i := 0) dX12_four_260 rfl rfl ?_
    refine m_get_along C dX12_four_261 ?_
    refine g_bipush C (v := 61) dX12_four_264 (by decide) ?_
    refine g_iload C (i := 6) dX12_four_266 rfl ?_
    refine g_bipush C (v := 30) dX12_four_268 (by decide) ?_
    refine g_iadd C dX12_four_270 ?_
    refine g_imul C dX12_four_271 ?_
    refine g_iload C (i := 5) dX12_four_272 rfl ?_
    refine g_iadd C dX12_four_274 ?_
    refine g_bipush C (v := 30) dX12_four_275 (by decide) ?_
    refine g_iadd C dX12_four_277 ?_
    refine g_dup2 C dX12_four_278 rfl rfl ?_
    obtain ⟨h7, h⟩ := h
    refine m_iald C (k := 20) (by decide) h7 dX12_four_279 ?_
    refine g_iconst_1 C dX12_four_280 ?_
    refine g_iadd C dX12_four_281 ?_
    refine m_iast C (k := 20) (by decide) h7 dX12_four_282 ?_
    refine m_nmI _ (fun I8 e9 => ?_)
    replace h := h I8 e9
    refine g_goto C 309 dX12_four_283 rfl ?_
    refine g_iinc C 1 [(0, .ref (o 0)), (1, .int v1), (2, .int v2), (3, .int v3), (4, .int (v4 + 1)), (5, .int v5), (6, .int s0)] dX12_four_309 rfl (by decide) (by decide) rfl ?_
    refine g_goto C 106 dX12_four_312 rfl ?_
    exact g_weak [0, 1, 2, 3, 4] rfl (Nat.le_refl _) (Nat.le_refl _) (hB106 v1 v2 v3 (v4 + 1) I8 J h)
set_option maxRecDepth 100000 in
theorem wM_four_gc199 {Γ : gT} {D : gD} {ca : Nat → ClassId} {o : Nat → Nat} {Q : Int32 → gI → gJ → Prop} (C : Cx Γ cX12_four RX12 7 D (tyW ca) (rl 6) (some .int) 0 0 (PMi ca o Q)) {B83 : Int32 → Int32 → Int32 → gI → gJ → Prop} {B106 : Int32 → Int32 → Int32 → Int32 → gI → gJ → Prop} (hB83 : ∀ (v1 : Int32) (v2 : Int32) (v3 : Int32) (I : gI) (J : gJ), B83 v1 v2 v3 I J → G Γ 0 0 83 [(0, .ref (o 0)), (1, .int v1), (2, .int v2), (3, .int v3)] [] (cM ca o I J)) (hB106 : ∀ (v1 : Int32) (v2 : Int32) (v3 : Int32) (v4 : Int32) (I : gI) (J : gJ), B106 v1 v2 v3 v4 I J → G Γ 0 0 106 [(0, .ref (o 0)), (1, .int v1), (2, .int v2), (3, .int v3), (4, .int v4)] [] (cM ca o I J)) (v1 : Int32) (v2 : Int32) (v3 : Int32) (v4 : Int32) (s0 : Int32) (I : gI) (J : gJ) (h : wM_four_c199 B83 B106 v1 v2 v3 v4 s0 I J Q) : G Γ 0 0 199 [(0, .ref (o 0)), (1, .int v1), (2, .int v2), (3, .int v3), (4, .int v4)] [.int s0] (cM ca o I J) := by
  unfold wM_four_c199 at h
  refine g_istore C (i := 5) [(0, .ref (o 0)), (1, .int v1), (2, .int v2), (3, .int v3), (4, .int v4), (5, .int s0)] dX12_four_199 (by decide) rfl ?_
  refine g_aload_n C (i := 0) dX12_four_201 rfl rfl ?_
  refine m_get_ys C dX12_four_202 ?_
  refine g_iload C (i := 4) dX12_four_205 rfl ?_
  obtain ⟨h1, h⟩ := h
  refine m_iald C (k := 15) (by decide) h1 dX12_four_207 ?_
  refine g_aload_n C (i := 0) dX12_four_208 rfl rfl ?_
  refine m_get_ys C dX12_four_209 ?_
  refine g_iload C (i := 4) dX12_four_212 rfl ?_
  refine g_iconst_1 C dX12_four_214 ?_
  refine g_isub C dX12_four_215 ?_
  obtain ⟨h2, h⟩ := h
  refine m_iald C (k := 15) (by decide) h2 dX12_four_216 ?_
  refine g_icmp_ge C 230 dX12_four_217 rfl (fun c3 => ?_) (fun c3 => ?_)
  · replace h := h.1 c3
    refine g_aload_n C (i := 0) dX12_four_230 rfl rfl ?_
    refine m_get_ys C dX12_four_231 ?_
    refine g_iload C (i := 4) dX12_four_234 rfl ?_
    refine g_iconst_1 C dX12_four_236 ?_
    refine g_isub C dX12_four_237 ?_
    refine m_iald C (k := 15) (by decide) h2 dX12_four_238 ?_
    exact g_weak [0, 1, 2, 3, 4, 5] rfl (Nat.le_refl _) (Nat.le_refl _) (wM_four_gc239  C hB83 hB106 v1 v2 v3 v4 s0 (I 15 (v4 - 1).toNatClampNeg) I J h)
  · replace h := h.2 c3
    refine g_aload_n C (i := 0) dX12_four_220 rfl rfl ?_
    refine m_get_ys C dX12_four_221 ?_
    refine g_iload C (i := 4) dX12_four_224 rfl ?_
    refine m_iald C (k := 15) (by decide) h1 dX12_four_226 ?_
    refine g_goto C 239 dX12_four_227 rfl ?_
    exact g_weak [0, 1, 2, 3, 4, 5] rfl (Nat.le_refl _) (Nat.le_refl _) (wM_four_gc239  C hB83 hB106 v1 v2 v3 v4 s0 (I 15 v4.toNatClampNeg) I J h)
set_option maxRecDepth 100000 in
theorem wM_four_gb106 {Γ : gT} {D : gD} {ca : Nat → ClassId} {o : Nat → Nat} {Q : Int32 → gI → gJ → Prop} (C : Cx Γ cX12_four RX12 7 D (tyW ca) (rl 6) (some .int) 0 0 (PMi ca o Q)) {B83 : Int32 → Int32 → Int32 → gI → gJ → Prop} (hB83 : ∀ (v1 : Int32) (v2 : Int32) (v3 : Int32) (I : gI) (J : gJ), B83 v1 v2 v3 I J → G Γ 0 0 83 [(0, .ref (o 0)), (1, .int v1), (2, .int v2), (3, .int v3)] [] (cM ca o I J)) {B106 : Int32 → Int32 → Int32 → Int32 → gI → gJ → Prop} (hB106 : ∀ (v1 : Int32) (v2 : Int32) (v3 : Int32) (v4 : Int32) (I : gI) (J : gJ), B106 v1 v2 v3 v4 I J → G Γ 0 0 106 [(0, .ref (o 0)), (1, .int v1), (2, .int v2), (3, .int v3), (4, .int v4)] [] (cM ca o I J)) (v1 : Int32) (v2 : Int32) (v3 : Int32) (v4 : Int32) (I : gI) (J : gJ) (h : wM_four_b106 B83 B106 v1 v2 v3 v4 I J Q) : G Γ 0 0 106 [(0, .ref (o 0)), (1, .int v1), (2, .int v2), (3, .int v3), (4, .int v4)] [] (cM ca o I J) := by
  unfold wM_four_b106 at h
  refine g_iload C (i := 4) dX12_four_106 rfl ?_
  refine g_iload_n C (i := 2) dX12_four_108 rfl rfl ?_
  refine g_icmp_gt C 315 dX12_four_109 rfl (fun c1 => ?_) (fun c1 => ?_)
  · replace h := h.1 c1
    refine g_iinc C 1 [(0, .ref (o 0)), (1, .int v1), (2, .int v2), (3, .int (v3 + 1)), (4, .int v4)] dX12_four_315 rfl (by decide) (by decide) rfl ?_
    refine g_goto C 83 dX12_four_318 rfl ?_
    exact g_weak [0, 1, 2, 3] rfl (Nat.le_refl _) (Nat.le_refl _) (hB83 v1 v2 (v3 + 1) I J h)
  · replace h := h.2 c1
    refine g_aload_n C (i := 0) dX12_four_112 rfl rfl ?_
    refine g_aload_n C (i := 0) dX12_four_113 rfl rfl ?_
    refine m_get_xs C dX12_four_114 ?_
    refine g_iload C (i := 4) dX12_four_117 rfl ?_
    obtain ⟨h2, h⟩ := h
    refine m_iald C (k := 14) (by decide) h2 dX12_four_119 ?_
    refine g_aload_n C (i := 0) dX12_four_120 rfl rfl ?_
    refine m_get_ys C dX12_four_121 ?_
    refine g_iload C (i := 4) dX12_four_124 rfl ?_
    refine m_iald C (k := 15) (by decide) h2 dX12_four_126 ?_
    refine m_callPz C rfl (wM_k_isWithin (I 14 v4.toNatClampNeg) (I 15 v4.toNatClampNeg) I J _ h) 2 swM_isWithin (rl_ok (by decide) (by decide)) rfl (Nat.le_of_ble_eq_true rfl) (st := []) _ rfl dX12_four_127 (fun r3 h => ?_)
    refine g_zeq C 309 dX12_four_130 rfl (fun c4 => ?_) (fun c4 => ?_)
    · replace h := h.1 c4
      refine g_iinc C 1 [(0, .ref (o 0)), (1, .int v1), (2, .int v2), (3, .int v3), (4, .int (v4 + 1))] dX12_four_309 rfl (by decide) (by decide) rfl ?_
      refine g_goto C 106 dX12_four_312 rfl ?_
      exact g_weak [0, 1, 2, 3, 4] rfl (Nat.le_refl _) (Nat.le_refl _) (hB106 v1 v2 v3 (v4 + 1) I J h)
    · replace h := h.2 c4
      refine g_aload_n C (i := 0) dX12_four_133 rfl rfl ?_
      refine g_aload_n C (i := 0) dX12_four_134 rfl rfl ?_
      refine m_get_xs C dX12_four_135 ?_
      refine g_iload C (i := 4) dX12_four_138 rfl ?_
      refine g_iconst_1 C dX12_four_140 ?_
      refine g_isub C dX12_four_141 ?_
      obtain ⟨h5, h⟩ := h
      refine m_iald C (k := 14) (by decide) h5 dX12_four_142 ?_
      refine g_aload_n C (i := 0) dX12_four_143 rfl rfl ?_
      refine m_get_ys C dX12_four_144 ?_
      refine g_iload C (i := 4) dX12_four_147 rfl ?_
      refine g_iconst_1 C dX12_four_149 ?_
      refine g_isub C dX12_four_150 ?_
      refine m_iald C (k := 15) (by decide) h5 dX12_four_151 ?_
      refine m_callPz C rfl (wM_k_isWithin (I 14 (v4 - 1).toNatClampNeg) (I 15 (v4 - 1).toNatClampNeg) I J _ h) 2 swM_isWithin (rl_ok (by decide) (by decide)) rfl (Nat.le_of_ble_eq_true rfl) (st := []) _ rfl dX12_four_152 (fun r6 h => ?_)
      refine g_zne C 161 dX12_four_155 rfl (fun c7 => ?_) (fun c7 => ?_)
      · replace h := h.1 c7
        refine g_aload_n C (i := 0) dX12_four_161 rfl rfl ?_
        refine m_get_xs C dX12_four_162 ?_
        refine g_iload C (i := 4) dX12_four_165 rfl ?_
        refine m_iald C (k := 14) (by decide) h2 dX12_four_167 ?_
        refine g_aload_n C (i := 0) dX12_four_168 rfl rfl ?_
        refine m_get_xs C dX12_four_169 ?_
        refine g_iload C (i := 4) dX12_four_172 rfl ?_
        refine g_iconst_1 C dX12_four_174 ?_
        refine g_isub C dX12_four_175 ?_
        refine m_iald C (k := 14) (by decide) h5 dX12_four_176 ?_
        refine g_icmp_ge C 190 dX12_four_177 rfl (fun c8 => ?_) (fun c8 => ?_)
        · replace h := h.1 c8
          refine g_aload_n C (i := 0) dX12_four_190 rfl rfl ?_
          refine m_get_xs C dX12_four_191 ?_
          refine g_iload C (i := 4) dX12_four_194 rfl ?_
          refine g_iconst_1 C dX12_four_196 ?_
          refine g_isub C dX12_four_197 ?_
          refine m_iald C (k := 14) (by decide) h5 dX12_four_198 ?_
          exact g_weak [0, 1, 2, 3, 4] rfl (Nat.le_refl _) (Nat.le_refl _) (wM_four_gc199  C hB83 hB106 v1 v2 v3 v4 (I 14 (v4 - 1).toNatClampNeg) I J h)
        · replace h := h.2 c8
          refine g_aload_n C (i := 0) dX12_four_180 rfl rfl ?_
          refine m_get_xs C dX12_four_181 ?_
          refine g_iload C (i := 4) dX12_four_184 rfl ?_
          refine m_iald C (k := 14) (by decide) h2 dX12_four_186 ?_
          refine g_goto C 199 dX12_four_187 rfl ?_
          exact g_weak [0, 1, 2, 3, 4] rfl (Nat.le_refl _) (Nat.le_refl _) (wM_four_gc199  C hB83 hB106 v1 v2 v3 v4 (I 14 v4.toNatClampNeg) I J h)
      · replace h := h.2 c7
        refine g_goto C 309 dX12_four_158 rfl ?_
        refine g_iinc C 1 [(0, .ref (o 0)), (1, .int v1), (2, .int v2), (3, .int v3), (4, .int (v4 + 1))] dX12_four_309 rfl (by decide) (by decide) rfl ?_
        refine g_goto C 106 dX12_four_312 rfl ?_
        exact g_weak [0, 1, 2, 3, 4] rfl (Nat.le_refl _) (Nat.le_refl _) (hB106 v1 v2 v3 (v4 + 1) I J h)
theorem wM_four_gl106 {Γ : gT} {D : gD} {ca : Nat → ClassId} {o : Nat → Nat} {Q : Int32 → gI → gJ → Prop} (C : Cx Γ cX12_four RX12 7 D (tyW ca) (rl 6) (some .int) 0 0 (PMi ca o Q)) {B83 : Int32 → Int32 → Int32 → gI → gJ → Prop} (hB83 : ∀ (v1 : Int32) (v2 : Int32) (v3 : Int32) (I : gI) (J : gJ), B83 v1 v2 v3 I J → G Γ 0 0 83 [(0, .ref (o 0)), (1, .int v1), (2, .int v2), (3, .int v3)] [] (cM ca o I J)) : ∀ (n : Nat) (v1 : Int32) (v2 : Int32) (v3 : Int32) (v4 : Int32) (I : gI) (J : gJ) (_ : wM_four_l106 B83 Q n v1 v2 v3 v4 I J), G Γ 0 0 106 [(0, .ref (o 0)), (1, .int v1), (2, .int v2), (3, .int v3), (4, .int v4)] [] (cM ca o I J) := by
  intro n
  induction n with
  | zero => intro v1 v2 v3 v4 I J h; exact h.elim
  | succ n ih => intro v1 v2 v3 v4 I J h; exact wM_four_gb106 C hB83 ih v1 v2 v3 v4 I J h
set_option maxRecDepth 100000 in
theorem wM_four_gb83 {Γ : gT} {D : gD} {ca : Nat → ClassId} {o : Nat → Nat} {Q : Int32 → gI → gJ → Prop} (C : Cx Γ cX12_four RX12 7 D (tyW ca) (rl 6) (some .int) 0 0 (PMi ca o Q)) {B83 : Int32 → Int32 → Int32 → gI → gJ → Prop} (hB83 : ∀ (v1 : Int32) (v2 : Int32) (v3 : Int32) (I : gI) (J : gJ), B83 v1 v2 v3 I J → G Γ 0 0 83 [(0, .ref (o 0)), (1, .int v1), (2, .int v2), (3, .int v3)] [] (cM ca o I J)) (v1 : Int32) (v2 : Int32) (v3 : Int32) (I : gI) (J : gJ) (h : wM_four_b83 B83 v1 v2 v3 I J Q) : G Γ 0 0 83 [(0, .ref (o 0)), (1, .int v1), (2, .int v2), (3, .int v3)] [] (cM ca o I J) := by
  unfold wM_four_b83 at h
  refine g_iload_n C (i := 3) dX12_four_83 rfl rfl ?_
  refine g_iconst_4 C dX12_four_84 ?_
  refine g_icmp_ge C 321 dX12_four_85 rfl (fun c1 => ?_) (fun c1 => ?_)
  · replace h := h.1 c1
    refine g_iconst_0 C dX12_four_321 ?_
    refine g_istore_n C (i := 3) [(0, .ref (o 0)), (1, .int v1), (2, .int v2), (3, .int 0)] dX12_four_322 rfl (by decide) rfl ?_
    obtain ⟨n, h⟩ := h
    exact g_weak [0, 3] rfl (Nat.le_refl _) (Nat.le_refl _) (wM_four_gl323  C  n 0 I J h)
  · replace h := h.2 c1
    refine g_aload_n C (i := 0) dX12_four_88 rfl rfl ?_
    refine g_iload_n C (i := 1) dX12_four_89 rfl rfl ?_
    refine g_iload_n C (i := 2) dX12_four_90 rfl rfl ?_
    refine g_iload_n C (i := 3) dX12_four_91 rfl rfl ?_
    refine g_aload_n C (i := 0) dX12_four_92 rfl rfl ?_
    refine m_get_xs C dX12_four_93 ?_
    refine g_aload_n C (i := 0) dX12_four_96 rfl rfl ?_
    refine m_get_ys C dX12_four_97 ?_
    refine m_callv C rfl (wM_k_walked (by decide) (by decide) v1 v2 v3 I J _ h) 5 swM_walked (rl_ok (by decide) (by decide)) rfl (Nat.le_of_ble_eq_true rfl) (st := []) _ rfl dX12_four_100 (fun I3 J4 h => ?_)
    refine g_iconst_1 C dX12_four_103 ?_
    refine g_istore C (i := 4) [(0, .ref (o 0)), (1, .int v1), (2, .int v2), (3, .int v3), (4, .int 1)] dX12_four_104 (by decide) rfl ?_
    obtain ⟨n, h⟩ := h
    exact g_weak [0, 1, 2, 3, 4] rfl (Nat.le_refl _) (Nat.le_refl _) (wM_four_gl106  C hB83 n v1 v2 v3 1 I3 J4 h)
theorem wM_four_gl83 {Γ : gT} {D : gD} {ca : Nat → ClassId} {o : Nat → Nat} {Q : Int32 → gI → gJ → Prop} (C : Cx Γ cX12_four RX12 7 D (tyW ca) (rl 6) (some .int) 0 0 (PMi ca o Q)) : ∀ (n : Nat) (v1 : Int32) (v2 : Int32) (v3 : Int32) (I : gI) (J : gJ) (_ : wM_four_l83 Q n v1 v2 v3 I J), G Γ 0 0 83 [(0, .ref (o 0)), (1, .int v1), (2, .int v2), (3, .int v3)] [] (cM ca o I J) := by
  intro n
  induction n with
  | zero => intro v1 v2 v3 I J h; exact h.elim
  | succ n ih => intro v1 v2 v3 I J h; exact wM_four_gb83 C ih v1 v2 v3 I J h
set_option maxRecDepth 100000 in
theorem wM_four_gb54 {Γ : gT} {D : gD} {ca : Nat → ClassId} {o : Nat → Nat} {Q : Int32 → gI → gJ → Prop} (C : Cx Γ cX12_four RX12 7 D (tyW ca) (rl 6) (some .int) 0 0 (PMi ca o Q)) {B54 : Int32 → Int32 → Int32 → gI → gJ → Prop} (hB54 : ∀ (v1 : Int32) (v2 : Int32) (v3 : Int32) (I : gI) (J : gJ), B54 v1 v2 v3 I J → G Γ 0 0 54 [(0, .ref (o 0)), (1, .int v1), (2, .int v2), (3, .int v3)] [] (cM ca o I J)) (v1 : Int32) (v2 : Int32) (v3 : Int32) (I : gI) (J : gJ) (h : wM_four_b54 B54 v1 v2 v3 I J Q) : G Γ 0 0 54 [(0, .ref (o 0)), (1, .int v1), (2, .int v2), (3, .int v3)] [] (cM ca o I J) := by
  unfold wM_four_b54 at h
  refine g_iload_n C (i := 3) dX12_four_54 rfl rfl ?_
  refine g_sipush C (v := 3721) dX12_four_55 (by decide) ?_
  refine g_icmp_ge C 81 dX12_four_58 rfl (fun c1 => ?_) (fun c1 => ?_)
  · replace h := h.1 c1
    refine g_iconst_0 C dX12_four_81 ?_
    refine g_istore_n C (i := 3) [(0, .ref (o 0)), (1, .int v1), (2, .int v2), (3, .int 0)] dX12_four_82 rfl (by decide) rfl ?_
    obtain ⟨n, h⟩ := h
    exact g_weak [0, 1, 2, 3] rfl (Nat.le_refl _) (Nat.le_refl _) (wM_four_gl83  C  n v1 v2 0 I J h)
  · replace h := h.2 c1
    refine g_aload_n C (i := 0) dX12_four_61 rfl rfl ?_
    refine m_get_along C dX12_four_62 ?_
    refine g_iload_n C (i := 3) dX12_four_65 rfl rfl ?_
    refine g_iconst_0 C dX12_four_66 ?_
    obtain ⟨h2, h⟩ := h
    refine m_iast C (k := 20) (by decide) h2 dX12_four_67 ?_
    refine m_nmI _ (fun I3 e4 => ?_)
    replace h := h I3 e4
    refine g_aload_n C (i := 0) dX12_four_68 rfl rfl ?_
    refine m_get_up C dX12_four_69 ?_
    refine g_iload_n C (i := 3) dX12_four_72 rfl rfl ?_
    refine g_iconst_0 C dX12_four_73 ?_
    refine m_iast C (k := 21) (by decide) h2 dX12_four_74 ?_
    refine m_nmI _ (fun I5 e6 => ?_)
    replace h := h I5 e6
    refine g_iinc C 1 [(0, .ref (o 0)), (1, .int v1), (2, .int v2), (3, .int (v3 + 1))] dX12_four_75 rfl (by decide) (by decide) rfl ?_
    refine g_goto C 54 dX12_four_78 rfl ?_
    exact g_weak [0, 1, 2, 3] rfl (Nat.le_refl _) (Nat.le_refl _) (hB54 v1 v2 (v3 + 1) I5 J h)
theorem wM_four_gl54 {Γ : gT} {D : gD} {ca : Nat → ClassId} {o : Nat → Nat} {Q : Int32 → gI → gJ → Prop} (C : Cx Γ cX12_four RX12 7 D (tyW ca) (rl 6) (some .int) 0 0 (PMi ca o Q)) : ∀ (n : Nat) (v1 : Int32) (v2 : Int32) (v3 : Int32) (I : gI) (J : gJ) (_ : wM_four_l54 Q n v1 v2 v3 I J), G Γ 0 0 54 [(0, .ref (o 0)), (1, .int v1), (2, .int v2), (3, .int v3)] [] (cM ca o I J) := by
  intro n
  induction n with
  | zero => intro v1 v2 v3 I J h; exact h.elim
  | succ n ih => intro v1 v2 v3 I J h; exact wM_four_gb54 C ih v1 v2 v3 I J h
set_option maxRecDepth 100000 in
theorem wM_four_gc45 {Γ : gT} {D : gD} {ca : Nat → ClassId} {o : Nat → Nat} {Q : Int32 → gI → gJ → Prop} (C : Cx Γ cX12_four RX12 7 D (tyW ca) (rl 6) (some .int) 0 0 (PMi ca o Q)) (I : gI) (J : gJ) (h : wM_four_c45 I J Q) : G Γ 0 0 45 [(0, .ref (o 0))] [] (cM ca o I J) := by
  unfold wM_four_c45 at h
  refine g_aload_n C (i := 0) dX12_four_45 rfl rfl ?_
  refine g_bipush C (v := (-6)) dX12_four_46 (by decide) ?_
  refine m_calli C rfl (wM_k_no (-6) I J _ h) 1 swM_no (rl_ok (by decide) (by decide)) rfl (Nat.le_of_ble_eq_true rfl) (st := []) _ rfl dX12_four_48 (fun r1 I2 J3 h => ?_)
  exact g_ret_i C dX12_four_51 (Nat.le_refl _) (Nat.le_refl _) ⟨_, _, _, rfl, rfl, h⟩
set_option maxRecDepth 100000 in
theorem wM_four_g {Γ : gT} {D : gD} {ca : Nat → ClassId} {o : Nat → Nat} {Q : Int32 → gI → gJ → Prop} (v1 : Int32) (v2 : Int32) (I : gI) (J : gJ) (C : Cx Γ cX12_four RX12 7 D (tyW ca) (rl 6) (some .int) 0 0 (PMi ca o Q)) (h : wM_four v1 v2 I J Q) : G Γ 0 0 0 [(0, .ref (o 0)), (1, .int v1), (2, .int v2)] [] (cM ca o I J) := by
  unfold wM_four at h
  refine g_aload_n C (i := 0) dX12_four_0 rfl rfl ?_
  refine g_iload_n C (i := 1) dX12_four_1 rfl rfl ?_
  refine m_callPz C rfl (wM_k_isStrip v1 I J _ h) 1 swM_isStrip (rl_ok (by decide) (by decide)) rfl (Nat.le_of_ble_eq_true rfl) (st := []) _ rfl dX12_four_2 (fun r1 h => ?_)
  refine g_zne C 14 dX12_four_5 rfl (fun c2 => ?_) (fun c2 => ?_)
  · replace h := h.1 c2
    refine g_iload_n C (i := 2) dX12_four_14 rfl rfl ?_
    refine g_i2l C dX12_four_15 ?_
    refine g_aload_n C (i := 0) dX12_four_16 rfl rfl ?_
    refine g_iload_n C (i := 1) dX12_four_17 rfl rfl ?_
    refine m_callPl C rfl (wM_k_creasesOf v1 I J _ h) 1 swM_creasesOf (rl_ok (by decide) (by decide)) rfl (Nat.le_of_ble_eq_true rfl) (st := [.long v2.toInt64]) _ rfl dX12_four_18 (fun r3 h => ?_)
    refine g_lconst_1 C dX12_four_21 ?_
    refine g_ladd C dX12_four_22 ?_
    refine g_lle C 34 dX12_four_23 dX12_four_24 rfl (fun c4 => ?_) (fun c4 => ?_)
    · replace h := h.1 c4
      refine g_iload_n C (i := 2) dX12_four_34 rfl rfl ?_
      refine g_if_lt C 45 dX12_four_35 rfl (fun c5 => ?_) (fun c5 => ?_)
      · replace h := h.1 c5
        exact g_weak [0] rfl (Nat.le_refl _) (Nat.le_refl _) (wM_four_gc45  C   I J h)
      · replace h := h.2 c5
        refine g_iload_n C (i := 2) dX12_four_38 rfl rfl ?_
        refine g_sipush C (v := 1000) dX12_four_39 (by decide) ?_
        refine g_icmp_le C 52 dX12_four_42 rfl (fun c6 => ?_) (fun c6 => ?_)
        · replace h := h.1 c6
          refine g_iconst_0 C dX12_four_52 ?_
          refine g_istore_n C (i := 3) [(0, .ref (o 0)), (1, .int v1), (2, .int v2), (3, .int 0)] dX12_four_53 rfl (by decide) rfl ?_
          obtain ⟨n, h⟩ := h
          exact g_weak [0, 1, 2, 3] rfl (Nat.le_refl _) (Nat.le_refl _) (wM_four_gl54  C  n v1 v2 0 I J h)
        · replace h := h.2 c6
          exact g_weak [0] rfl (Nat.le_refl _) (Nat.le_refl _) (wM_four_gc45  C   I J h)
    · replace h := h.2 c4
      refine g_aload_n C (i := 0) dX12_four_27 rfl rfl ?_
      refine g_bipush C (v := (-5)) dX12_four_28 (by decide) ?_
      refine m_calli C rfl (wM_k_no (-5) I J _ h) 1 swM_no (rl_ok (by decide) (by decide)) rfl (Nat.le_of_ble_eq_true rfl) (st := []) _ rfl dX12_four_30 (fun r7 I8 J9 h => ?_)
      exact g_ret_i C dX12_four_33 (Nat.le_refl _) (Nat.le_refl _) ⟨_, _, _, rfl, rfl, h⟩
  · replace h := h.2 c2
    refine g_aload_n C (i := 0) dX12_four_8 rfl rfl ?_
    refine g_iconst_m1 C dX12_four_9 ?_
    refine m_calli C rfl (wM_k_no (-1) I J _ h) 1 swM_no (rl_ok (by decide) (by decide)) rfl (Nat.le_of_ble_eq_true rfl) (st := []) _ rfl dX12_four_10 (fun r10 I11 J12 h => ?_)
    exact g_ret_i C dX12_four_13 (Nat.le_refl _) (Nat.le_refl _) ⟨_, _, _, rfl, rfl, h⟩
theorem wM_k_four {D : gD} {ca : Nat → ClassId} {o : Nat → Nat} (v1 : Int32) (v2 : Int32) (I : gI) (J : gJ) (Q : Int32 → gI → gJ → Prop) (h : wM_four v1 v2 I J Q) : Ct yX12_four cX12_four 7 (some .int) (rl 6) D (tyW ca) 0 0 [.ref (o 0), .int v1, .int v2] (cM ca o I J) (PMi ca o Q) := ct_of (rm := rl 6) (by decide +kernel) (Nat.le_of_ble_eq_true rfl) (fun Γ C => wM_four_g v1 v2 I J C h)
set_option maxRecDepth 100000 in
theorem wM_finds_g {Γ : gT} {D : gD} {ca : Nat → ClassId} {o : Nat → Nat} {Q : gI → gJ → Prop} (v1 : Int32) (I : gI) (J : gJ) (C : Cx Γ cX12_finds RX12 2 D (tyW ca) (rl 26) none 0 0 (PMv ca o Q)) (h : wM_finds v1 I J Q) : G Γ 0 0 0 [(0, .ref (o 0)), (1, .int v1)] [] (cM ca o I J) := by
  unfold wM_finds at h
  refine g_aload_n C (i := 0) dX12_finds_0 rfl rfl ?_
  refine m_get_foundOf C dX12_finds_1 ?_
  refine g_iload_n C (i := 1) dX12_finds_4 rfl rfl ?_
  refine g_icmp_ne C 9 dX12_finds_5 rfl (fun c1 => ?_) (fun c1 => ?_)
  · replace h := h.1 c1
    refine g_aload_n C (i := 0) dX12_finds_9 rfl rfl ?_
    refine g_iload_n C (i := 1) dX12_finds_10 rfl rfl ?_
    refine m_put_foundOf C dX12_finds_11 ?_
    refine m_nmI _ (fun I2 e3 => ?_)
    replace h := h I2 e3
    refine g_aload_n C (i := 0) dX12_finds_14 rfl rfl ?_
    refine g_iconst_0 C dX12_finds_15 ?_
    refine m_put_foundMany C dX12_finds_16 ?_
    refine m_nmI _ (fun I4 e5 => ?_)
    replace h := h I4 e5
    refine g_aload_n C (i := 0) dX12_finds_19 rfl rfl ?_
    refine g_iconst_0 C dX12_finds_20 ?_
    refine g_iload_n C (i := 1) dX12_finds_21 rfl rfl ?_
    refine g_iconst_0 C dX12_finds_22 ?_
    obtain ⟨q9, hq9, h⟩ := h
    refine m_callv C rfl (wM_k_goes q9 0 v1 0 I4 J _ h) 3 swM_goes (rl_ok (by omega) (by decide)) rfl (Nat.le_of_ble_eq_true rfl) (st := []) _ rfl dX12_finds_23 (fun I7 J8 h => ?_)
    exact g_ret_v C dX12_finds_26 (Nat.le_refl _) (Nat.le_refl _) ⟨_, _, rfl, rfl, h⟩
  · replace h := h.2 c1
    exact g_ret_v C dX12_finds_8 (Nat.le_refl _) (Nat.le_refl _) ⟨_, _, rfl, rfl, h⟩
theorem wM_k_finds {D : gD} {ca : Nat → ClassId} {o : Nat → Nat} (v1 : Int32) (I : gI) (J : gJ) (Q : gI → gJ → Prop) (h : wM_finds v1 I J Q) : Ct yX12_finds cX12_finds 2 none (rl 26) D (tyW ca) 0 0 [.ref (o 0), .int v1] (cM ca o I J) (PMv ca o Q) := ct_of (rm := rl 26) (by decide +kernel) (Nat.le_of_ble_eq_true rfl) (fun Γ C => wM_finds_g v1 I J C h)
set_option maxRecDepth 100000 in
theorem wM_orders_gc11 {Γ : gT} {D : gD} {ca : Nat → ClassId} {o : Nat → Nat} {Q : Int32 → gI → gJ → Prop} (C : Cx Γ cX12_orders RX12 2 D (tyW ca) (rl 27) (some .int) 0 0 (PMi ca o Q)) (I : gI) (J : gJ) (h : wM_orders_c11 I J Q) : G Γ 0 0 11 [(0, .ref (o 0))] [] (cM ca o I J) := by
  unfold wM_orders_c11 at h
  refine g_aload_n C (i := 0) dX12_orders_11 rfl rfl ?_
  refine g_bipush C (v := (-6)) dX12_orders_12 (by decide) ?_
  refine m_calli C rfl (wM_k_no (-6) I J _ h) 1 swM_no (rl_ok (by decide) (by decide)) rfl (Nat.le_of_ble_eq_true rfl) (st := []) _ rfl dX12_orders_14 (fun r1 I2 J3 h => ?_)
  exact g_ret_i C dX12_orders_17 (Nat.le_refl _) (Nat.le_refl _) ⟨_, _, _, rfl, rfl, h⟩
set_option maxRecDepth 100000 in
theorem wM_orders_g {Γ : gT} {D : gD} {ca : Nat → ClassId} {o : Nat → Nat} {Q : Int32 → gI → gJ → Prop} (v1 : Int32) (I : gI) (J : gJ) (C : Cx Γ cX12_orders RX12 2 D (tyW ca) (rl 27) (some .int) 0 0 (PMi ca o Q)) (h : wM_orders v1 I J Q) : G Γ 0 0 0 [(0, .ref (o 0)), (1, .int v1)] [] (cM ca o I J) := by
  unfold wM_orders at h
  refine g_iload_n C (i := 1) dX12_orders_0 rfl rfl ?_
  refine g_iconst_1 C dX12_orders_1 ?_
  refine g_icmp_lt C 11 dX12_orders_2 rfl (fun c1 => ?_) (fun c1 => ?_)
  · replace h := h.1 c1
    exact g_weak [0] rfl (Nat.le_refl _) (Nat.le_refl _) (wM_orders_gc11  C   I J h)
  · replace h := h.2 c1
    refine g_iload_n C (i := 1) dX12_orders_5 rfl rfl ?_
    refine g_bipush C (v := 8) dX12_orders_6 (by decide) ?_
    refine g_icmp_le C 18 dX12_orders_8 rfl (fun c2 => ?_) (fun c2 => ?_)
    · replace h := h.1 c2
      refine g_aload_n C (i := 0) dX12_orders_18 rfl rfl ?_
      refine g_iload_n C (i := 1) dX12_orders_19 rfl rfl ?_
      refine m_callv C rfl (wM_k_finds v1 I J _ h) 1 swM_finds (rl_ok (by decide) (by decide)) rfl (Nat.le_of_ble_eq_true rfl) (st := []) _ rfl dX12_orders_20 (fun I4 J5 h => ?_)
      refine g_aload_n C (i := 0) dX12_orders_23 rfl rfl ?_
      refine m_get_foundMany C dX12_orders_24 ?_
      exact g_ret_i C dX12_orders_27 (Nat.le_refl _) (Nat.le_refl _) ⟨_, _, _, rfl, rfl, h⟩
    · replace h := h.2 c2
      exact g_weak [0] rfl (Nat.le_refl _) (Nat.le_refl _) (wM_orders_gc11  C   I J h)
theorem wM_k_orders {D : gD} {ca : Nat → ClassId} {o : Nat → Nat} (v1 : Int32) (I : gI) (J : gJ) (Q : Int32 → gI → gJ → Prop) (h : wM_orders v1 I J Q) : Ct yX12_orders cX12_orders 2 (some .int) (rl 27) D (tyW ca) 0 0 [.ref (o 0), .int v1] (cM ca o I J) (PMi ca o Q) := ct_of (rm := rl 27) (by decide +kernel) (Nat.le_of_ble_eq_true rfl) (fun Γ C => wM_orders_g v1 I J C h)
set_option maxRecDepth 100000 in
theorem wM_order_gc71 {Γ : gT} {D : gD} {ca : Nat → ClassId} {o : Nat → Nat} {Q : Int32 → gI → gJ → Prop} (C : Cx Γ cX12_order RX12 4 D (tyW ca) (rl 27) (some .int) 0 0 (PMi ca o Q)) (I : gI) (J : gJ) (h : wM_order_c71 I J Q) : G Γ 0 0 71 [(0, .ref (o 0))] [] (cM ca o I J) := by
  unfold wM_order_c71 at h
  refine g_aload_n C (i := 0) dX12_order_71 rfl rfl ?_
  refine g_bipush C (v := (-5)) dX12_order_72 (by decide) ?_
  refine m_calli C rfl (wM_k_no (-5) I J _ h) 1 swM_no (rl_ok (by decide) (by decide)) rfl (Nat.le_of_ble_eq_true rfl) (st := []) _ rfl dX12_order_74 (fun r1 I2 J3 h => ?_)
  exact g_ret_i C dX12_order_77 (Nat.le_refl _) (Nat.le_refl _) ⟨_, _, _, rfl, rfl, h⟩
set_option maxRecDepth 100000 in
theorem wM_order_gc20 {Γ : gT} {D : gD} {ca : Nat → ClassId} {o : Nat → Nat} {Q : Int32 → gI → gJ → Prop} (C : Cx Γ cX12_order RX12 4 D (tyW ca) (rl 27) (some .int) 0 0 (PMi ca o Q)) (I : gI) (J : gJ) (h : wM_order_c20 I J Q) : G Γ 0 0 20 [] [.ref (o 0)] (cM ca o I J) := by
  unfold wM_order_c20 at h
  refine g_bipush C (v := (-5)) dX12_order_20 (by decide) ?_
  refine g_goto C 27 dX12_order_22 rfl ?_
  refine m_calli C rfl (wM_k_no (-5) I J _ h) 1 swM_no (rl_ok (by decide) (by decide)) rfl (Nat.le_of_ble_eq_true rfl) (st := []) _ rfl dX12_order_27 (fun r1 I2 J3 h => ?_)
  exact g_ret_i C dX12_order_30 (Nat.le_refl _) (Nat.le_refl _) ⟨_, _, _, rfl, rfl, h⟩
set_option maxRecDepth 100000 in
theorem wM_order_gc11 {Γ : gT} {D : gD} {ca : Nat → ClassId} {o : Nat → Nat} {Q : Int32 → gI → gJ → Prop} (C : Cx Γ cX12_order RX12 4 D (tyW ca) (rl 27) (some .int) 0 0 (PMi ca o Q)) (v2 : Int32) (v3 : Int32) (I : gI) (J : gJ) (h : wM_order_c11 v2 v3 I J Q) : G Γ 0 0 11 [(0, .ref (o 0)), (2, .int v2), (3, .int v3)] [] (cM ca o I J) := by
  unfold wM_order_c11 at h
  refine g_aload_n C (i := 0) dX12_order_11 rfl rfl ?_
  refine g_iload_n C (i := 3) dX12_order_12 rfl rfl ?_
  refine g_if_lt C 20 dX12_order_13 rfl (fun c1 => ?_) (fun c1 => ?_)
  · replace h := h.1 c1
    exact g_weak [] rfl (Nat.le_refl _) (Nat.le_refl _) (wM_order_gc20  C   I J h)
  · replace h := h.2 c1
    refine g_iload_n C (i := 2) dX12_order_16 rfl rfl ?_
    refine g_if_ge C 25 dX12_order_17 rfl (fun c2 => ?_) (fun c2 => ?_)
    · replace h := h.1 c2
      refine g_bipush C (v := (-6)) dX12_order_25 (by decide) ?_
      refine m_calli C rfl (wM_k_no (-6) I J _ h) 1 swM_no (rl_ok (by decide) (by decide)) rfl (Nat.le_of_ble_eq_true rfl) (st := []) _ rfl dX12_order_27 (fun r3 I4 J5 h => ?_)
      exact g_ret_i C dX12_order_30 (Nat.le_refl _) (Nat.le_refl _) ⟨_, _, _, rfl, rfl, h⟩
    · replace h := h.2 c2
      exact g_weak [] rfl (Nat.le_refl _) (Nat.le_refl _) (wM_order_gc20  C   I J h)
set_option maxRecDepth 100000 in
theorem wM_order_g {Γ : gT} {D : gD} {ca : Nat → ClassId} {o : Nat → Nat} {Q : Int32 → gI → gJ → Prop} (v1 : Int32) (v2 : Int32) (v3 : Int32) (I : gI) (J : gJ) (C : Cx Γ cX12_order RX12 4 D (tyW ca) (rl 27) (some .int) 0 0 (PMi ca o Q)) (h : wM_order v1 v2 v3 I J Q) : G Γ 0 0 0 [(0, .ref (o 0)), (1, .int v1), (2, .int v2), (3, .int v3)] [] (cM ca o I J) := by
  unfold wM_order at h
  refine g_iload_n C (i := 1) dX12_order_0 rfl rfl ?_
  refine g_iconst_1 C dX12_order_1 ?_
  refine g_icmp_lt C 11 dX12_order_2 rfl (fun c1 => ?_) (fun c1 => ?_)
  · replace h := h.1 c1
    exact g_weak [0, 2, 3] rfl (Nat.le_refl _) (Nat.le_refl _) (wM_order_gc11  C  v2 v3 I J h)
  · replace h := h.2 c1
    refine g_iload_n C (i := 1) dX12_order_5 rfl rfl ?_
    refine g_bipush C (v := 8) dX12_order_6 (by decide) ?_
    refine g_icmp_le C 31 dX12_order_8 rfl (fun c2 => ?_) (fun c2 => ?_)
    · replace h := h.1 c2
      refine g_aload_n C (i := 0) dX12_order_31 rfl rfl ?_
      refine g_iload_n C (i := 1) dX12_order_32 rfl rfl ?_
      refine m_callv C rfl (wM_k_finds v1 I J _ h) 1 swM_finds (rl_ok (by decide) (by decide)) rfl (Nat.le_of_ble_eq_true rfl) (st := []) _ rfl dX12_order_33 (fun I4 J5 h => ?_)
      refine g_iload_n C (i := 2) dX12_order_36 rfl rfl ?_
      refine g_if_lt C 71 dX12_order_37 rfl (fun c6 => ?_) (fun c6 => ?_)
      · replace h := h.1 c6
        exact g_weak [0] rfl (Nat.le_refl _) (Nat.le_refl _) (wM_order_gc71  C   I4 J5 h)
      · replace h := h.2 c6
        refine g_iload_n C (i := 2) dX12_order_40 rfl rfl ?_
        refine g_aload_n C (i := 0) dX12_order_41 rfl rfl ?_
        refine m_get_foundMany C dX12_order_42 ?_
        refine g_icmp_ge C 71 dX12_order_45 rfl (fun c7 => ?_) (fun c7 => ?_)
        · replace h := h.1 c7
          exact g_weak [0] rfl (Nat.le_refl _) (Nat.le_refl _) (wM_order_gc71  C   I4 J5 h)
        · replace h := h.2 c7
          refine g_iload_n C (i := 3) dX12_order_48 rfl rfl ?_
          refine g_if_lt C 71 dX12_order_49 rfl (fun c8 => ?_) (fun c8 => ?_)
          · replace h := h.1 c8
            exact g_weak [0] rfl (Nat.le_refl _) (Nat.le_refl _) (wM_order_gc71  C   I4 J5 h)
          · replace h := h.2 c8
            refine g_iload_n C (i := 3) dX12_order_52 rfl rfl ?_
            refine g_iload_n C (i := 1) dX12_order_53 rfl rfl ?_
            refine g_icmp_ge C 71 dX12_order_54 rfl (fun c9 => ?_) (fun c9 => ?_)
            · replace h := h.1 c9
              exact g_weak [0] rfl (Nat.le_refl _) (Nat.le_refl _) (wM_order_gc71  C   I4 J5 h)
            · replace h := h.2 c9
              refine g_aload_n C (i := 0) dX12_order_57 rfl rfl ?_
              refine m_get_found C dX12_order_58 ?_
              refine g_bipush C (v := 8) dX12_order_61 (by decide) ?_
              refine g_iload_n C (i := 2) dX12_order_63 rfl rfl ?_
              refine g_imul C dX12_order_64 ?_
              refine g_iload_n C (i := 3) dX12_order_65 rfl rfl ?_
              refine g_iadd C dX12_order_66 ?_
              obtain ⟨h10, h⟩ := h
              refine m_iald C (k := 26) (by decide) h10 dX12_order_67 ?_
              refine g_goto C 77 dX12_order_68 rfl ?_
              exact g_ret_i C dX12_order_77 (Nat.le_refl _) (Nat.le_refl _) ⟨_, _, _, rfl, rfl, h⟩
    · replace h := h.2 c2
      exact g_weak [0, 2, 3] rfl (Nat.le_refl _) (Nat.le_refl _) (wM_order_gc11  C  v2 v3 I J h)
theorem wM_k_order {D : gD} {ca : Nat → ClassId} {o : Nat → Nat} (v1 : Int32) (v2 : Int32) (v3 : Int32) (I : gI) (J : gJ) (Q : Int32 → gI → gJ → Prop) (h : wM_order v1 v2 v3 I J Q) : Ct yX12_order cX12_order 4 (some .int) (rl 27) D (tyW ca) 0 0 [.ref (o 0), .int v1, .int v2, .int v3] (cM ca o I J) (PMi ca o Q) := ct_of (rm := rl 27) (by decide +kernel) (Nat.le_of_ble_eq_true rfl) (fun Γ C => wM_order_g v1 v2 v3 I J C h)

