/-! the law: its kit -/
def LX (Γ : gT) (b Ls : Nat) (xs : Nat → Int32) : Prop := match Γ with
  | (_, _, _, _, s, _, _, _, _, _, _, _, A, _) => va_X b Ls xs s s.heap ∧ b < s.heap.size ∧ ¬ A b
section LAWK
variable {Γ : gT} {cc : ByteArray} {own : String} {nL : Nat} {D : gD} {ca : Nat → ClassId} {tys : List (ClassId × FieldType)} {rm : Room} {ret : Option FieldType} {mc ms : Nat} {Post : Option Value → va_W → Prop} {cn sn pc : Nat} {lv : List (Nat × Value)} {st : List Value} {ws : va_W} {b Ls : Nat} {xs : Nat → Int32}
theorem g_sld (C0 : Cx Γ cc own nL D tys rm ret mc ms Post) (hX : LX Γ b Ls xs) {i v : Int32} (hin : vp_in i Ls) (hv : xs i.toNatClampNeg = v) (hd : decode cc pc = .ok (.iaload, 1)) (k : G Γ cn sn (pc + 1) lv (.int v :: st) ws) : G Γ cn sn pc lv (.int i :: .ref b :: st) ws := by
  subst hv
  obtain ⟨p, l, e, R', s, m, args, below, meth, c, nL', D', A, Q⟩ := Γ
  obtain ⟨rfl, rfl, hx, hb, hml, hown, hlk, hts, hK, hA, rfl, hrr, rfl⟩ := C0
  intro H locs ls hP hD hS hl
  exact va_sld hx hb hX.1 hX.2.1 hX.2.2 hS hin hd (k H locs ls hP hD hS hl)
theorem g_slen (C0 : Cx Γ cc own nL D tys rm ret mc ms Post) (hX : LX Γ b Ls xs) (hd : decode cc pc = .ok (.arraylength, 1)) (k : G Γ cn sn (pc + 1) lv (.int (nI Ls) :: st) ws) : G Γ cn sn pc lv (.ref b :: st) ws := by
  obtain ⟨p, l, e, R', s, m, args, below, meth, c, nL', D', A, Q⟩ := Γ
  obtain ⟨rfl, rfl, hx, hb, hml, hown, hlk, hts, hK, hA, rfl, hrr, rfl⟩ := C0
  intro H locs ls hP hD hS hl
  exact va_slen hx hb hX.1 hX.2.1 hX.2.2 hS hd (k H locs ls hP hD hS hl)
theorem g_wide {cn' sn' : Nat} (h1 : cn ≤ cn') (h2 : sn ≤ sn') (k : G Γ cn' sn' pc lv st ws) : G Γ cn sn pc lv st ws := by
  obtain ⟨p, l, e, R', s, m, args, below, meth, c, nL', D', A, Q⟩ := Γ
  intro H locs ls hP hD hS hl
  exact W.widen h1 h2 (k H locs ls hP hD hS hl)
end LAWK
section FRAMES
variable {y : MethodName} {cc : ByteArray} {nL : Nat} {ret : Option FieldType} {rm : Room} {D : gD} {tys : List (ClassId × FieldType)} {mc ms : Nat} {As : List Value} {ws : va_W} {Post : Option Value → va_W → Prop}
theorem ct_frameL (h : Ct y cc nL ret rm D tys mc ms As ws Post) (wr : va_W) : Ct y cc nL ret rm D tys mc ms As (ws ++ wr) (fun v w => ∃ w1, Post v w1 ∧ w = w1 ++ wr) := ct_frame h [] wr
theorem ct_frameR (h : Ct y cc nL ret rm D tys mc ms As ws Post) (wl : va_W) : Ct y cc nL ret rm D tys mc ms As (wl ++ ws) (fun v w => ∃ w1, Post v w1 ∧ w = wl ++ w1) := by
  have := ct_frame h wl []
  simp only [List.append_nil] at this
  exact this
end FRAMES
theorem rcvX {ca : Nat → ClassId} {o : Nat → Nat} {I : gI} {J : gJ} {R : gR} {L : List Nat} {S : gS} {w : va_W} : gRcv (cX ca o I J R L S ++ w) (o 0) RX11 := ⟨0, 12, _, _, _, by
  rw [List.getElem?_append_left (by rw [cX_len]; omega)]
  exact cX_0 .., rfl⟩
theorem rcvM {ca : Nat → ClassId} {o : Nat → Nat} {I : gI} {J : gJ} {w : va_W} : gRcv (w ++ cM ca o I J) (o 0) RX12 := ⟨w.length, 13, _, _, _, by
  rw [List.getElem?_append_right (Nat.le_refl _), Nat.sub_self]
  exact cM_0 .., rfl⟩
theorem in_k {i k Ls : Nat} (hi : i + 7 ≤ Ls) (hL : Ls ≤ 3584) (hk : k < 7) : vp_in (nI i + nI k) Ls := by
  rw [nI_add]
  exact vp_in_nI (by omega) (by omega)
theorem in_0 {i Ls : Nat} (hi : i + 7 ≤ Ls) (hL : Ls ≤ 3584) : vp_in (nI i) Ls := vp_in_nI (by omega) (by omega)
/-- the law's locals -/
def lwL (oX oM : Nat → Nat) (b i : Nat) : List (Nat × Value) := [(0, .ref b), (1, .ref (oX 0)), (2, .ref (oM 0)), (3, .int (nI i))]
/-- where every case goes on -/
def lwK (Γ : gT) (ca : Nat → ClassId) (oX oM : Nat → Nat) (b i cn sn : Nat) : Prop := ∀ (n : Nat) (T : Nat → gP) (I X : gI) (J Y : gJ) (R : gR) (L : List Nat) (S : gS), Rl n T I J X Y R L S → G Γ (cn + 161) (sn + 966) 1716 (lwL oX oM b i) [] (cX ca oX X Y R L S ++ cM ca oM I J)
theorem rm_law {d c1 s1 maxL cn sn : Nat} (hd : d + 1 ≤ 2048) (hl : 8 + (maxL + 11) + 100 * d ≤ 84000) (hc : cn + c1 ≤ 600000) (hs : sn + s1 ≤ 7302250) : gRm (rla d c1 s1) room_1 maxL c1 s1 cn sn := ⟨rfl, rfl, ⟨hd, hl⟩, hc, hs⟩
theorem rm_law0 {d maxL cn sn : Nat} (hd : d + 1 ≤ 2048) (hl : 8 + (maxL + 11) + 100 * d ≤ 84000) (hc : cn ≤ 600000) (hs : sn ≤ 7302250) : gRm (rl d) room_1 maxL 0 0 cn sn := ⟨rfl, rfl, ⟨hd, hl⟩, hc, hs⟩
set_option maxRecDepth 100000 in
theorem lw_c0 {Γ : gT} {D : gD} {ca : Nat → ClassId} {oX oM : Nat → Nat} {b Ls : Nat} {xs : Nat → Int32} {Post : Option Value → va_W → Prop} {n : Nat} {T : Nat → gP} {I X : gI} {J Y : gJ} {R : gR} {L : List Nat} {S : gS} (h : Rl n T I J X Y R L S) (C : Cx Γ cL_law RL 4 D (tyW ca) room_1 (some .boolean) 600000 7302250 Post) (hX : LX Γ b Ls xs) {i : Nat} (hi : i + 7 ≤ Ls) (hL : Ls ≤ 3584) {cn sn : Nat} (hc : cn + 161 ≤ 600000) (hs : sn + 966 ≤ 7302250) (kk : lwK Γ ca oX oM b i cn sn) : G Γ cn sn 204 (lwL oX oM b i) [] (cX ca oX X Y R L S ++ cM ca oM I J) := by
  obtain ⟨v1, e1⟩ : ∃ v, xs (nI i + nI 1).toNatClampNeg = v := ⟨_, rfl⟩
  obtain ⟨v2, e2⟩ : ∃ v, xs (nI i + nI 2).toNatClampNeg = v := ⟨_, rfl⟩
  obtain ⟨v3, e3⟩ : ∃ v, xs (nI i + nI 3).toNatClampNeg = v := ⟨_, rfl⟩
  refine g_aload_n C (i := 1) dL_law_204 rfl rfl ?_
  refine g_aload_n C (i := 0) dL_law_205 rfl rfl ?_
  refine g_iload_n C (i := 3) dL_law_206 rfl rfl ?_
  refine g_iconst_1 C dL_law_207 ?_
  refine g_iadd C dL_law_208 ?_
  refine g_sld C hX (v := v1) (in_k (k := 1) hi hL (by decide)) e1 dL_law_209 ?_
  refine g_aload_n C (i := 0) dL_law_210 rfl rfl ?_
  refine g_iload_n C (i := 3) dL_law_211 rfl rfl ?_
  refine g_iconst_2 C dL_law_212 ?_
  refine g_iadd C dL_law_213 ?_
  refine g_sld C hX (v := v2) (in_k (k := 2) hi hL (by decide)) e2 dL_law_214 ?_
  refine g_aload_n C (i := 0) dL_law_215 rfl rfl ?_
  refine g_iload_n C (i := 3) dL_law_216 rfl rfl ?_
  refine g_iconst_3 C dL_law_217 ?_
  refine g_iadd C dL_law_218 ?_
  refine g_sld C hX (v := v3) (in_k (k := 3) hi hL (by decide)) e3 dL_law_219 ?_
  refine x_callV C (ct_frameL (wX11_k_row (D := D) (ca := ca) (o := oX) v1 v2 v3 X Y R L S _ (pc_row h v1 v2 v3)) (cM ca oM I J)) (gSite.of (tb_in (List.mem_of_getElem? (i := 302) (by decide +kernel)) (by decide +kernel)) (tb_in (List.mem_of_getElem? (i := 303) (by decide +kernel)) (by decide +kernel)) (tb_in (List.mem_of_getElem? (i := 304) (by decide +kernel)) (by decide +kernel)) (tb_in (List.mem_of_getElem? (i := 78) (by decide +kernel)) (by decide +kernel)) (tb_in (List.mem_of_getElem? (i := 305) (by decide +kernel)) (by decide +kernel)) (by decide +kernel)) rcvX (rm_law0 (by decide) (by decide) (by omega) (by omega)) rfl (Nat.le_of_ble_eq_true rfl) (n := 3) (st := []) _ rfl dL_law_220 (fun v ws hv => ?_)
  obtain ⟨w, ⟨r, X1, Y1, R1, rfl, rfl, hQ⟩, rfl⟩ := hv
  refine g_eqs (st' := [.int r]) (ws' := cX ca oX X1 Y1 R1 L S ++ cM ca oM I J) rfl rfl ?_
  refine g_aload_n C (i := 2) dL_law_223 rfl rfl ?_
  refine g_aload_n C (i := 0) dL_law_224 rfl rfl ?_
  refine g_iload_n C (i := 3) dL_law_225 rfl rfl ?_
  refine g_iconst_1 C dL_law_226 ?_
  refine g_iadd C dL_law_227 ?_
  refine g_sld C hX (v := v1) (in_k (k := 1) hi hL (by decide)) e1 dL_law_228 ?_
  refine g_aload_n C (i := 0) dL_law_229 rfl rfl ?_
  refine g_iload_n C (i := 3) dL_law_230 rfl rfl ?_
  refine g_iconst_2 C dL_law_231 ?_
  refine g_iadd C dL_law_232 ?_
  refine g_sld C hX (v := v2) (in_k (k := 2) hi hL (by decide)) e2 dL_law_233 ?_
  refine g_aload_n C (i := 0) dL_law_234 rfl rfl ?_
  refine g_iload_n C (i := 3) dL_law_235 rfl rfl ?_
  refine g_iconst_3 C dL_law_236 ?_
  refine g_iadd C dL_law_237 ?_
  refine g_sld C hX (v := v3) (in_k (k := 3) hi hL (by decide)) e3 dL_law_238 ?_
  refine x_callV C (ct_frameR (wM_k_row (D := D) (ca := ca) (o := oM) v1 v2 v3 I J _ hQ) (cX ca oX X1 Y1 R1 L S)) (gSite.of (tb_in (List.mem_of_getElem? (i := 1473) (by decide +kernel)) (by decide +kernel)) (tb_in (List.mem_of_getElem? (i := 1474) (by decide +kernel)) (by decide +kernel)) (tb_in (List.mem_of_getElem? (i := 1475) (by decide +kernel)) (by decide +kernel)) (tb_in (List.mem_of_getElem? (i := 87) (by decide +kernel)) (by decide +kernel)) (tb_in (List.mem_of_getElem? (i := 1476) (by decide +kernel)) (by decide +kernel)) (by decide +kernel)) rcvM (rm_law0 (by decide) (by decide) (by omega) (by omega)) rfl (Nat.le_of_ble_eq_true rfl) (n := 3) (st := [.int r]) _ rfl dL_law_239 (fun v ws hv => ?_)
  obtain ⟨w, ⟨r2, I1, J1, rfl, rfl, er, n1, T1, h1⟩, rfl⟩ := hv
  refine g_eqs (st' := [.int r2, .int r]) (ws' := cX ca oX X1 Y1 R1 L S ++ cM ca oM I1 J1) rfl rfl ?_
  exact g_icmp_eq C 1716 dL_law_242 rfl (fun _ => g_wide (by omega) (by omega) (kk _ _ _ _ _ _ _ _ _ h1)) (fun e => absurd er e)
set_option maxRecDepth 100000 in
theorem lw_c1 {Γ : gT} {D : gD} {ca : Nat → ClassId} {oX oM : Nat → Nat} {b Ls : Nat} {xs : Nat → Int32} {Post : Option Value → va_W → Prop} {n : Nat} {T : Nat → gP} {I X : gI} {J Y : gJ} {R : gR} {L : List Nat} {S : gS} (h : Rl n T I J X Y R L S) (C : Cx Γ cL_law RL 4 D (tyW ca) room_1 (some .boolean) 600000 7302250 Post) (hX : LX Γ b Ls xs) {i : Nat} (hi : i + 7 ≤ Ls) (hL : Ls ≤ 3584) {cn sn : Nat} (hc : cn + 161 ≤ 600000) (hs : sn + 966 ≤ 7302250) (kk : lwK Γ ca oX oM b i cn sn) : G Γ cn sn 247 (lwL oX oM b i) [] (cX ca oX X Y R L S ++ cM ca oM I J) := by
  obtain ⟨v1, e1⟩ : ∃ v, xs (nI i + nI 1).toNatClampNeg = v := ⟨_, rfl⟩
  obtain ⟨v2, e2⟩ : ∃ v, xs (nI i + nI 2).toNatClampNeg = v := ⟨_, rfl⟩
  obtain ⟨v3, e3⟩ : ∃ v, xs (nI i + nI 3).toNatClampNeg = v := ⟨_, rfl⟩
  obtain ⟨v4, e4⟩ : ∃ v, xs (nI i + nI 4).toNatClampNeg = v := ⟨_, rfl⟩
  refine g_aload_n C (i := 1) dL_law_247 rfl rfl ?_
  refine g_aload_n C (i := 0) dL_law_248 rfl rfl ?_
  refine g_iload_n C (i := 3) dL_law_249 rfl rfl ?_
  refine g_iconst_1 C dL_law_250 ?_
  refine g_iadd C dL_law_251 ?_
  refine g_sld C hX (v := v1) (in_k (k := 1) hi hL (by decide)) e1 dL_law_252 ?_
  refine g_aload_n C (i := 0) dL_law_253 rfl rfl ?_
  refine g_iload_n C (i := 3) dL_law_254 rfl rfl ?_
  refine g_iconst_2 C dL_law_255 ?_
  refine g_iadd C dL_law_256 ?_
  refine g_sld C hX (v := v2) (in_k (k := 2) hi hL (by decide)) e2 dL_law_257 ?_
  refine g_aload_n C (i := 0) dL_law_258 rfl rfl ?_
  refine g_iload_n C (i := 3) dL_law_259 rfl rfl ?_
  refine g_iconst_3 C dL_law_260 ?_
  refine g_iadd C dL_law_261 ?_
  refine g_sld C hX (v := v3) (in_k (k := 3) hi hL (by decide)) e3 dL_law_262 ?_
  refine g_i2l C dL_law_263 ?_
  refine g_bipush C (v := 32) dL_law_264 (by decide) ?_
  refine g_lshl C dL_law_266 ?_
  refine g_aload_n C (i := 0) dL_law_267 rfl rfl ?_
  refine g_iload_n C (i := 3) dL_law_268 rfl rfl ?_
  refine g_iconst_4 C dL_law_269 ?_
  refine g_iadd C dL_law_270 ?_
  refine g_sld C hX (v := v4) (in_k (k := 4) hi hL (by decide)) e4 dL_law_271 ?_
  refine g_i2l C dL_law_272 ?_
  refine g_ldc2 C (v := 4294967295) (tb_in (List.mem_of_getElem? (i := 1830) (by decide +kernel)) (by decide +kernel)) dL_law_273 ?_
  refine g_land C dL_law_276 ?_
  refine g_lor C dL_law_277 ?_
  refine g_topl (fun w1 qw1 => ?_)
  refine x_callV C (ct_frameL (wX11_k_set (D := D) (ca := ca) (o := oX) v1 v2 w1 X Y R L S _ (pc_set h v1 v2 w1)) (cM ca oM I J)) (gSite.of (tb_in (List.mem_of_getElem? (i := 321) (by decide +kernel)) (by decide +kernel)) (tb_in (List.mem_of_getElem? (i := 322) (by decide +kernel)) (by decide +kernel)) (tb_in (List.mem_of_getElem? (i := 323) (by decide +kernel)) (by decide +kernel)) (tb_in (List.mem_of_getElem? (i := 78) (by decide +kernel)) (by decide +kernel)) (tb_in (List.mem_of_getElem? (i := 324) (by decide +kernel)) (by decide +kernel)) (by decide +kernel)) rcvX (rm_law0 (by decide) (by decide) (by omega) (by omega)) rfl (Nat.le_of_ble_eq_true rfl) (n := 3) (st := []) _ rfl dL_law_278 (fun v ws hv => ?_)
  obtain ⟨w, ⟨r, X1, Y1, R1, rfl, rfl, hQ⟩, rfl⟩ := hv
  refine g_eqs (st' := [.int r]) (ws' := cX ca oX X1 Y1 R1 L S ++ cM ca oM I J) rfl rfl ?_
  refine g_aload_n C (i := 2) dL_law_281 rfl rfl ?_
  refine g_aload_n C (i := 0) dL_law_282 rfl rfl ?_
  refine g_iload_n C (i := 3) dL_law_283 rfl rfl ?_
  refine g_iconst_1 C dL_law_284 ?_
  refine g_iadd C dL_law_285 ?_
  refine g_sld C hX (v := v1) (in_k (k := 1) hi hL (by decide)) e1 dL_law_286 ?_
  refine g_aload_n C (i := 0) dL_law_287 rfl rfl ?_
  refine g_iload_n C (i := 3) dL_law_288 rfl rfl ?_
  refine g_iconst_2 C dL_law_289 ?_
  refine g_iadd C dL_law_290 ?_
  refine g_sld C hX (v := v2) (in_k (k := 2) hi hL (by decide)) e2 dL_law_291 ?_
  refine g_aload_n C (i := 0) dL_law_292 rfl rfl ?_
  refine g_iload_n C (i := 3) dL_law_293 rfl rfl ?_
  refine g_iconst_3 C dL_law_294 ?_
  refine g_iadd C dL_law_295 ?_
  refine g_sld C hX (v := v3) (in_k (k := 3) hi hL (by decide)) e3 dL_law_296 ?_
  refine g_i2l C dL_law_297 ?_
  refine g_bipush C (v := 32) dL_law_298 (by decide) ?_
  refine g_lshl C dL_law_300 ?_
  refine g_aload_n C (i := 0) dL_law_301 rfl rfl ?_
  refine g_iload_n C (i := 3) dL_law_302 rfl rfl ?_
  refine g_iconst_4 C dL_law_303 ?_
  refine g_iadd C dL_law_304 ?_
  refine g_sld C hX (v := v4) (in_k (k := 4) hi hL (by decide)) e4 dL_law_305 ?_
  refine g_i2l C dL_law_306 ?_
  refine g_ldc2 C (v := 4294967295) (tb_in (List.mem_of_getElem? (i := 1830) (by decide +kernel)) (by decide +kernel)) dL_law_307 ?_
  refine g_land C dL_law_310 ?_
  refine g_lor C dL_law_311 ?_
  refine g_topl (fun z qz => ?_)
  rw [show z = w1 from qz.trans qw1.symm]
  refine x_callV C (ct_frameR (wM_k_set (D := D) (ca := ca) (o := oM) v1 v2 w1 I J _ hQ) (cX ca oX X1 Y1 R1 L S)) (gSite.of (tb_in (List.mem_of_getElem? (i := 1485) (by decide +kernel)) (by decide +kernel)) (tb_in (List.mem_of_getElem? (i := 1486) (by decide +kernel)) (by decide +kernel)) (tb_in (List.mem_of_getElem? (i := 1487) (by decide +kernel)) (by decide +kernel)) (tb_in (List.mem_of_getElem? (i := 87) (by decide +kernel)) (by decide +kernel)) (tb_in (List.mem_of_getElem? (i := 1488) (by decide +kernel)) (by decide +kernel)) (by decide +kernel)) rcvM (rm_law0 (by decide) (by decide) (by omega) (by omega)) rfl (Nat.le_of_ble_eq_true rfl) (n := 3) (st := [.int r]) _ rfl dL_law_312 (fun v ws hv => ?_)
  obtain ⟨w, ⟨r2, I1, J1, rfl, rfl, er, n1, T1, h1⟩, rfl⟩ := hv
  refine g_eqs (st' := [.int r2, .int r]) (ws' := cX ca oX X1 Y1 R1 L S ++ cM ca oM I1 J1) rfl rfl ?_
  exact g_icmp_eq C 1716 dL_law_315 rfl (fun _ => g_wide (by omega) (by omega) (kk _ _ _ _ _ _ _ _ _ h1)) (fun e => absurd er e)
set_option maxRecDepth 100000 in
theorem lw_c2 {Γ : gT} {D : gD} {ca : Nat → ClassId} {oX oM : Nat → Nat} {b Ls : Nat} {xs : Nat → Int32} {Post : Option Value → va_W → Prop} {n : Nat} {T : Nat → gP} {I X : gI} {J Y : gJ} {R : gR} {L : List Nat} {S : gS} (h : Rl n T I J X Y R L S) (C : Cx Γ cL_law RL 4 D (tyW ca) room_1 (some .boolean) 600000 7302250 Post) (hX : LX Γ b Ls xs) {i : Nat} (hi : i + 7 ≤ Ls) (hL : Ls ≤ 3584) {cn sn : Nat} (hc : cn + 161 ≤ 600000) (hs : sn + 966 ≤ 7302250) (kk : lwK Γ ca oX oM b i cn sn) : G Γ cn sn 320 (lwL oX oM b i) [] (cX ca oX X Y R L S ++ cM ca oM I J) := by
  obtain ⟨v1, e1⟩ : ∃ v, xs (nI i + nI 1).toNatClampNeg = v := ⟨_, rfl⟩
  obtain ⟨v2, e2⟩ : ∃ v, xs (nI i + nI 2).toNatClampNeg = v := ⟨_, rfl⟩
  obtain ⟨v3, e3⟩ : ∃ v, xs (nI i + nI 3).toNatClampNeg = v := ⟨_, rfl⟩
  obtain ⟨v4, e4⟩ : ∃ v, xs (nI i + nI 4).toNatClampNeg = v := ⟨_, rfl⟩
  obtain ⟨v5, e5⟩ : ∃ v, xs (nI i + nI 5).toNatClampNeg = v := ⟨_, rfl⟩
  refine g_aload_n C (i := 1) dL_law_320 rfl rfl ?_
  refine g_aload_n C (i := 0) dL_law_321 rfl rfl ?_
  refine g_iload_n C (i := 3) dL_law_322 rfl rfl ?_
  refine g_iconst_1 C dL_law_323 ?_
  refine g_iadd C dL_law_324 ?_
  refine g_sld C hX (v := v1) (in_k (k := 1) hi hL (by decide)) e1 dL_law_325 ?_
  refine g_aload_n C (i := 0) dL_law_326 rfl rfl ?_
  refine g_iload_n C (i := 3) dL_law_327 rfl rfl ?_
  refine g_iconst_2 C dL_law_328 ?_
  refine g_iadd C dL_law_329 ?_
  refine g_sld C hX (v := v2) (in_k (k := 2) hi hL (by decide)) e2 dL_law_330 ?_
  refine g_aload_n C (i := 0) dL_law_331 rfl rfl ?_
  refine g_iload_n C (i := 3) dL_law_332 rfl rfl ?_
  refine g_iconst_3 C dL_law_333 ?_
  refine g_iadd C dL_law_334 ?_
  refine g_sld C hX (v := v3) (in_k (k := 3) hi hL (by decide)) e3 dL_law_335 ?_
  refine g_aload_n C (i := 0) dL_law_336 rfl rfl ?_
  refine g_iload_n C (i := 3) dL_law_337 rfl rfl ?_
  refine g_iconst_4 C dL_law_338 ?_
  refine g_iadd C dL_law_339 ?_
  refine g_sld C hX (v := v4) (in_k (k := 4) hi hL (by decide)) e4 dL_law_340 ?_
  refine g_aload_n C (i := 0) dL_law_341 rfl rfl ?_
  refine g_iload_n C (i := 3) dL_law_342 rfl rfl ?_
  refine g_iconst_5 C dL_law_343 ?_
  refine g_iadd C dL_law_344 ?_
  refine g_sld C hX (v := v5) (in_k (k := 5) hi hL (by decide)) e5 dL_law_345 ?_
  refine x_callV C (ct_frameL (wX11_k_copy (D := D) (ca := ca) (o := oX) v1 v2 v3 v4 v5 X Y R L S _ (pc_copy h v1 v2 v3 v4 v5)) (cM ca oM I J)) (gSite.of (tb_in (List.mem_of_getElem? (i := 350) (by decide +kernel)) (by decide +kernel)) (tb_in (List.mem_of_getElem? (i := 351) (by decide +kernel)) (by decide +kernel)) (tb_in (List.mem_of_getElem? (i := 352) (by decide +kernel)) (by decide +kernel)) (tb_in (List.mem_of_getElem? (i := 78) (by decide +kernel)) (by decide +kernel)) (tb_in (List.mem_of_getElem? (i := 353) (by decide +kernel)) (by decide +kernel)) (by decide +kernel)) rcvX (rm_law0 (by decide) (by decide) (by omega) (by omega)) rfl (Nat.le_of_ble_eq_true rfl) (n := 5) (st := []) _ rfl dL_law_346 (fun v ws hv => ?_)
  obtain ⟨w, ⟨r, X1, Y1, R1, rfl, rfl, hQ⟩, rfl⟩ := hv
  refine g_eqs (st' := [.int r]) (ws' := cX ca oX X1 Y1 R1 L S ++ cM ca oM I J) rfl rfl ?_
  refine g_aload_n C (i := 2) dL_law_349 rfl rfl ?_
  refine g_aload_n C (i := 0) dL_law_350 rfl rfl ?_
  refine g_iload_n C (i := 3) dL_law_351 rfl rfl ?_
  refine g_iconst_1 C dL_law_352 ?_
  refine g_iadd C dL_law_353 ?_
  refine g_sld C hX (v := v1) (in_k (k := 1) hi hL (by decide)) e1 dL_law_354 ?_
  refine g_aload_n C (i := 0) dL_law_355 rfl rfl ?_
  refine g_iload_n C (i := 3) dL_law_356 rfl rfl ?_
  refine g_iconst_2 C dL_law_357 ?_
  refine g_iadd C dL_law_358 ?_
  refine g_sld C hX (v := v2) (in_k (k := 2) hi hL (by decide)) e2 dL_law_359 ?_
  refine g_aload_n C (i := 0) dL_law_360 rfl rfl ?_
  refine g_iload_n C (i := 3) dL_law_361 rfl rfl ?_
  refine g_iconst_3 C dL_law_362 ?_
  refine g_iadd C dL_law_363 ?_
  refine g_sld C hX (v := v3) (in_k (k := 3) hi hL (by decide)) e3 dL_law_364 ?_
  refine g_aload_n C (i := 0) dL_law_365 rfl rfl ?_
  refine g_iload_n C (i := 3) dL_law_366 rfl rfl ?_
  refine g_iconst_4 C dL_law_367 ?_
  refine g_iadd C dL_law_368 ?_
  refine g_sld C hX (v := v4) (in_k (k := 4) hi hL (by decide)) e4 dL_law_369 ?_
  refine g_aload_n C (i := 0) dL_law_370 rfl rfl ?_
  refine g_iload_n C (i := 3) dL_law_371 rfl rfl ?_
  refine g_iconst_5 C dL_law_372 ?_
  refine g_iadd C dL_law_373 ?_
  refine g_sld C hX (v := v5) (in_k (k := 5) hi hL (by decide)) e5 dL_law_374 ?_
  refine x_callV C (ct_frameR (wM_k_copy (D := D) (ca := ca) (o := oM) v1 v2 v3 v4 v5 I J _ hQ) (cX ca oX X1 Y1 R1 L S)) (gSite.of (tb_in (List.mem_of_getElem? (i := 1489) (by decide +kernel)) (by decide +kernel)) (tb_in (List.mem_of_getElem? (i := 1490) (by decide +kernel)) (by decide +kernel)) (tb_in (List.mem_of_getElem? (i := 1491) (by decide +kernel)) (by decide +kernel)) (tb_in (List.mem_of_getElem? (i := 87) (by decide +kernel)) (by decide +kernel)) (tb_in (List.mem_of_getElem? (i := 1492) (by decide +kernel)) (by decide +kernel)) (by decide +kernel)) rcvM (rm_law0 (by decide) (by decide) (by omega) (by omega)) rfl (Nat.le_of_ble_eq_true rfl) (n := 5) (st := [.int r]) _ rfl dL_law_375 (fun v ws hv => ?_)
  obtain ⟨w, ⟨r2, I1, J1, rfl, rfl, er, n1, T1, h1⟩, rfl⟩ := hv
  refine g_eqs (st' := [.int r2, .int r]) (ws' := cX ca oX X1 Y1 R1 L S ++ cM ca oM I1 J1) rfl rfl ?_
  exact g_icmp_eq C 1716 dL_law_378 rfl (fun _ => g_wide (by omega) (by omega) (kk _ _ _ _ _ _ _ _ _ h1)) (fun e => absurd er e)
set_option maxRecDepth 100000 in
theorem lw_c3 {Γ : gT} {D : gD} {ca : Nat → ClassId} {oX oM : Nat → Nat} {b Ls : Nat} {xs : Nat → Int32} {Post : Option Value → va_W → Prop} {n : Nat} {T : Nat → gP} {I X : gI} {J Y : gJ} {R : gR} {L : List Nat} {S : gS} (h : Rl n T I J X Y R L S) (C : Cx Γ cL_law RL 4 D (tyW ca) room_1 (some .boolean) 600000 7302250 Post) (hX : LX Γ b Ls xs) {i : Nat} (hi : i + 7 ≤ Ls) (hL : Ls ≤ 3584) {cn sn : Nat} (hc : cn + 161 ≤ 600000) (hs : sn + 966 ≤ 7302250) (kk : lwK Γ ca oX oM b i cn sn) : G Γ cn sn 383 (lwL oX oM b i) [] (cX ca oX X Y R L S ++ cM ca oM I J) := by
  obtain ⟨v1, e1⟩ : ∃ v, xs (nI i + nI 1).toNatClampNeg = v := ⟨_, rfl⟩
  obtain ⟨v2, e2⟩ : ∃ v, xs (nI i + nI 2).toNatClampNeg = v := ⟨_, rfl⟩
  refine g_aload_n C (i := 1) dL_law_383 rfl rfl ?_
  refine g_aload_n C (i := 0) dL_law_384 rfl rfl ?_
  refine g_iload_n C (i := 3) dL_law_385 rfl rfl ?_
  refine g_iconst_1 C dL_law_386 ?_
  refine g_iadd C dL_law_387 ?_
  refine g_sld C hX (v := v1) (in_k (k := 1) hi hL (by decide)) e1 dL_law_388 ?_
  refine g_aload_n C (i := 0) dL_law_389 rfl rfl ?_
  refine g_iload_n C (i := 3) dL_law_390 rfl rfl ?_
  refine g_iconst_2 C dL_law_391 ?_
  refine g_iadd C dL_law_392 ?_
  refine g_sld C hX (v := v2) (in_k (k := 2) hi hL (by decide)) e2 dL_law_393 ?_
  refine x_callV C (ct_frameL (wX11_k_element (D := D) (ca := ca) (o := oX) v1 v2 X Y R L S _ (pc_element h v1 v2)) (cM ca oM I J)) (gSite.of (tb_in (List.mem_of_getElem? (i := 361) (by decide +kernel)) (by decide +kernel)) (tb_in (List.mem_of_getElem? (i := 362) (by decide +kernel)) (by decide +kernel)) (tb_in (List.mem_of_getElem? (i := 363) (by decide +kernel)) (by decide +kernel)) (tb_in (List.mem_of_getElem? (i := 78) (by decide +kernel)) (by decide +kernel)) (tb_in (List.mem_of_getElem? (i := 364) (by decide +kernel)) (by decide +kernel)) (by decide +kernel)) rcvX (rm_law0 (by decide) (by decide) (by omega) (by omega)) rfl (Nat.le_of_ble_eq_true rfl) (n := 2) (st := []) _ rfl dL_law_394 (fun v ws hv => ?_)
  obtain ⟨w, ⟨r, rfl, rfl, hQ⟩, rfl⟩ := hv
  refine g_eqs (st' := [.long r]) (ws' := cX ca oX X Y R L S ++ cM ca oM I J) rfl rfl ?_
  refine g_aload_n C (i := 2) dL_law_397 rfl rfl ?_
  refine g_aload_n C (i := 0) dL_law_398 rfl rfl ?_
  refine g_iload_n C (i := 3) dL_law_399 rfl rfl ?_
  refine g_iconst_1 C dL_law_400 ?_
  refine g_iadd C dL_law_401 ?_
  refine g_sld C hX (v := v1) (in_k (k := 1) hi hL (by decide)) e1 dL_law_402 ?_
  refine g_aload_n C (i := 0) dL_law_403 rfl rfl ?_
  refine g_iload_n C (i := 3) dL_law_404 rfl rfl ?_
  refine g_iconst_2 C dL_law_405 ?_
  refine g_iadd C dL_law_406 ?_
  refine g_sld C hX (v := v2) (in_k (k := 2) hi hL (by decide)) e2 dL_law_407 ?_
  refine x_callV C (ct_frameR (wM_k_element (D := D) (ca := ca) (o := oM) v1 v2 I J _ hQ) (cX ca oX X Y R L S)) (gSite.of (tb_in (List.mem_of_getElem? (i := 1493) (by decide +kernel)) (by decide +kernel)) (tb_in (List.mem_of_getElem? (i := 1494) (by decide +kernel)) (by decide +kernel)) (tb_in (List.mem_of_getElem? (i := 1495) (by decide +kernel)) (by decide +kernel)) (tb_in (List.mem_of_getElem? (i := 87) (by decide +kernel)) (by decide +kernel)) (tb_in (List.mem_of_getElem? (i := 1496) (by decide +kernel)) (by decide +kernel)) (by decide +kernel)) rcvM (rm_law0 (by decide) (by decide) (by omega) (by omega)) rfl (Nat.le_of_ble_eq_true rfl) (n := 2) (st := [.long r]) _ rfl dL_law_408 (fun v ws hv => ?_)
  obtain ⟨w, ⟨r2, rfl, rfl, er⟩, rfl⟩ := hv
  refine g_eqs (st' := [.long r2, .long r]) (ws' := cX ca oX X Y R L S ++ cM ca oM I J) rfl rfl ?_
  exact g_leq C 1716 dL_law_411 dL_law_412 rfl (fun _ => g_wide (by omega) (by omega) (kk _ _ _ _ _ _ _ _ _ h)) (fun e => absurd er e)
set_option maxRecDepth 100000 in
theorem lw_c4 {Γ : gT} {D : gD} {ca : Nat → ClassId} {oX oM : Nat → Nat} {b Ls : Nat} {xs : Nat → Int32} {Post : Option Value → va_W → Prop} {n : Nat} {T : Nat → gP} {I X : gI} {J Y : gJ} {R : gR} {L : List Nat} {S : gS} (h : Rl n T I J X Y R L S) (C : Cx Γ cL_law RL 4 D (tyW ca) room_1 (some .boolean) 600000 7302250 Post) (hX : LX Γ b Ls xs) {i : Nat} (hi : i + 7 ≤ Ls) (hL : Ls ≤ 3584) {cn sn : Nat} (hc : cn + 161 ≤ 600000) (hs : sn + 966 ≤ 7302250) (kk : lwK Γ ca oX oM b i cn sn) : G Γ cn sn 417 (lwL oX oM b i) [] (cX ca oX X Y R L S ++ cM ca oM I J) := by
  obtain ⟨v1, e1⟩ : ∃ v, xs (nI i + nI 1).toNatClampNeg = v := ⟨_, rfl⟩
  obtain ⟨v2, e2⟩ : ∃ v, xs (nI i + nI 2).toNatClampNeg = v := ⟨_, rfl⟩
  refine g_aload_n C (i := 1) dL_law_417 rfl rfl ?_
  refine g_aload_n C (i := 0) dL_law_418 rfl rfl ?_
  refine g_iload_n C (i := 3) dL_law_419 rfl rfl ?_
  refine g_iconst_1 C dL_law_420 ?_
  refine g_iadd C dL_law_421 ?_
  refine g_sld C hX (v := v1) (in_k (k := 1) hi hL (by decide)) e1 dL_law_422 ?_
  refine g_aload_n C (i := 0) dL_law_423 rfl rfl ?_
  refine g_iload_n C (i := 3) dL_law_424 rfl rfl ?_
  refine g_iconst_2 C dL_law_425 ?_
  refine g_iadd C dL_law_426 ?_
  refine g_sld C hX (v := v2) (in_k (k := 2) hi hL (by decide)) e2 dL_law_427 ?_
  refine x_callV C (ct_frameL (wX11_k_show (D := D) (ca := ca) (o := oX) v1 v2 X Y R L S _ (pc_show h v1 v2)) (cM ca oM I J)) (gSite.of (tb_in (List.mem_of_getElem? (i := 365) (by decide +kernel)) (by decide +kernel)) (tb_in (List.mem_of_getElem? (i := 366) (by decide +kernel)) (by decide +kernel)) (tb_in (List.mem_of_getElem? (i := 367) (by decide +kernel)) (by decide +kernel)) (tb_in (List.mem_of_getElem? (i := 78) (by decide +kernel)) (by decide +kernel)) (tb_in (List.mem_of_getElem? (i := 368) (by decide +kernel)) (by decide +kernel)) (by decide +kernel)) rcvX (rm_law0 (by decide) (by decide) (by omega) (by omega)) rfl (Nat.le_of_ble_eq_true rfl) (n := 2) (st := []) _ rfl dL_law_428 (fun v ws hv => ?_)
  obtain ⟨w, ⟨r, X1, Y1, R1, rfl, rfl, hQ⟩, rfl⟩ := hv
  refine g_eqs (st' := [.int r]) (ws' := cX ca oX X1 Y1 R1 L S ++ cM ca oM I J) rfl rfl ?_
  refine g_aload_n C (i := 2) dL_law_431 rfl rfl ?_
  refine g_aload_n C (i := 0) dL_law_432 rfl rfl ?_
  refine g_iload_n C (i := 3) dL_law_433 rfl rfl ?_
  refine g_iconst_1 C dL_law_434 ?_
  refine g_iadd C dL_law_435 ?_
  refine g_sld C hX (v := v1) (in_k (k := 1) hi hL (by decide)) e1 dL_law_436 ?_
  refine g_aload_n C (i := 0) dL_law_437 rfl rfl ?_
  refine g_iload_n C (i := 3) dL_law_438 rfl rfl ?_
  refine g_iconst_2 C dL_law_439 ?_
  refine g_iadd C dL_law_440 ?_
  refine g_sld C hX (v := v2) (in_k (k := 2) hi hL (by decide)) e2 dL_law_441 ?_
  refine x_callV C (ct_frameR (wM_k_show (D := D) (ca := ca) (o := oM) v1 v2 I J _ hQ) (cX ca oX X1 Y1 R1 L S)) (gSite.of (tb_in (List.mem_of_getElem? (i := 1497) (by decide +kernel)) (by decide +kernel)) (tb_in (List.mem_of_getElem? (i := 1498) (by decide +kernel)) (by decide +kernel)) (tb_in (List.mem_of_getElem? (i := 1499) (by decide +kernel)) (by decide +kernel)) (tb_in (List.mem_of_getElem? (i := 87) (by decide +kernel)) (by decide +kernel)) (tb_in (List.mem_of_getElem? (i := 1500) (by decide +kernel)) (by decide +kernel)) (by decide +kernel)) rcvM (rm_law0 (by decide) (by decide) (by omega) (by omega)) rfl (Nat.le_of_ble_eq_true rfl) (n := 2) (st := [.int r]) _ rfl dL_law_442 (fun v ws hv => ?_)
  obtain ⟨w, ⟨r2, I1, J1, rfl, rfl, er, n1, T1, h1⟩, rfl⟩ := hv
  refine g_eqs (st' := [.int r2, .int r]) (ws' := cX ca oX X1 Y1 R1 L S ++ cM ca oM I1 J1) rfl rfl ?_
  exact g_icmp_eq C 1716 dL_law_445 rfl (fun _ => g_wide (by omega) (by omega) (kk _ _ _ _ _ _ _ _ _ h1)) (fun e => absurd er e)
set_option maxRecDepth 100000 in
theorem lw_c5 {Γ : gT} {D : gD} {ca : Nat → ClassId} {oX oM : Nat → Nat} {b Ls : Nat} {xs : Nat → Int32} {Post : Option Value → va_W → Prop} {n : Nat} {T : Nat → gP} {I X : gI} {J Y : gJ} {R : gR} {L : List Nat} {S : gS} (h : Rl n T I J X Y R L S) (C : Cx Γ cL_law RL 4 D (tyW ca) room_1 (some .boolean) 600000 7302250 Post) (hX : LX Γ b Ls xs) {i : Nat} (hi : i + 7 ≤ Ls) (hL : Ls ≤ 3584) {cn sn : Nat} (hc : cn + 161 ≤ 600000) (hs : sn + 966 ≤ 7302250) (kk : lwK Γ ca oX oM b i cn sn) : G Γ cn sn 450 (lwL oX oM b i) [] (cX ca oX X Y R L S ++ cM ca oM I J) := by
  obtain ⟨v1, e1⟩ : ∃ v, xs (nI i + nI 1).toNatClampNeg = v := ⟨_, rfl⟩
  refine g_aload_n C (i := 1) dL_law_450 rfl rfl ?_
  refine g_aload_n C (i := 0) dL_law_451 rfl rfl ?_
  refine g_iload_n C (i := 3) dL_law_452 rfl rfl ?_
  refine g_iconst_1 C dL_law_453 ?_
  refine g_iadd C dL_law_454 ?_
  refine g_sld C hX (v := v1) (in_k (k := 1) hi hL (by decide)) e1 dL_law_455 ?_
  refine x_callV C (ct_frameL (wX11_k_holds (D := D) (ca := ca) (o := oX) v1 X Y R L S _ (pc_holds h v1)) (cM ca oM I J)) (gSite.of (tb_in (List.mem_of_getElem? (i := 377) (by decide +kernel)) (by decide +kernel)) (tb_in (List.mem_of_getElem? (i := 378) (by decide +kernel)) (by decide +kernel)) (tb_in (List.mem_of_getElem? (i := 379) (by decide +kernel)) (by decide +kernel)) (tb_in (List.mem_of_getElem? (i := 78) (by decide +kernel)) (by decide +kernel)) (tb_in (List.mem_of_getElem? (i := 380) (by decide +kernel)) (by decide +kernel)) (by decide +kernel)) rcvX (rm_law0 (by decide) (by decide) (by omega) (by omega)) rfl (Nat.le_of_ble_eq_true rfl) (n := 1) (st := []) _ rfl dL_law_456 (fun v ws hv => ?_)
  obtain ⟨w, ⟨r, rfl, rfl, hQ⟩, rfl⟩ := hv
  refine g_eqs (st' := [.int r]) (ws' := cX ca oX X Y R L S ++ cM ca oM I J) rfl rfl ?_
  refine g_aload_n C (i := 2) dL_law_459 rfl rfl ?_
  refine g_aload_n C (i := 0) dL_law_460 rfl rfl ?_
  refine g_iload_n C (i := 3) dL_law_461 rfl rfl ?_
  refine g_iconst_1 C dL_law_462 ?_
  refine g_iadd C dL_law_463 ?_
  refine g_sld C hX (v := v1) (in_k (k := 1) hi hL (by decide)) e1 dL_law_464 ?_
  refine x_callV C (ct_frameR (wM_k_holds (D := D) (ca := ca) (o := oM) v1 I J _ hQ) (cX ca oX X Y R L S)) (gSite.of (tb_in (List.mem_of_getElem? (i := 1505) (by decide +kernel)) (by decide +kernel)) (tb_in (List.mem_of_getElem? (i := 1506) (by decide +kernel)) (by decide +kernel)) (tb_in (List.mem_of_getElem? (i := 1507) (by decide +kernel)) (by decide +kernel)) (tb_in (List.mem_of_getElem? (i := 87) (by decide +kernel)) (by decide +kernel)) (tb_in (List.mem_of_getElem? (i := 1508) (by decide +kernel)) (by decide +kernel)) (by decide +kernel)) rcvM (rm_law0 (by decide) (by decide) (by omega) (by omega)) rfl (Nat.le_of_ble_eq_true rfl) (n := 1) (st := [.int r]) _ rfl dL_law_465 (fun v ws hv => ?_)
  obtain ⟨w, ⟨r2, rfl, rfl, er⟩, rfl⟩ := hv
  refine g_eqs (st' := [.int r2, .int r]) (ws' := cX ca oX X Y R L S ++ cM ca oM I J) rfl rfl ?_
  exact g_icmp_eq C 1716 dL_law_468 rfl (fun _ => g_wide (by omega) (by omega) (kk _ _ _ _ _ _ _ _ _ h)) (fun e => absurd er e)
set_option maxRecDepth 100000 in
theorem lw_c6 {Γ : gT} {D : gD} {ca : Nat → ClassId} {oX oM : Nat → Nat} {b Ls : Nat} {xs : Nat → Int32} {Post : Option Value → va_W → Prop} {n : Nat} {T : Nat → gP} {I X : gI} {J Y : gJ} {R : gR} {L : List Nat} {S : gS} (h : Rl n T I J X Y R L S) (C : Cx Γ cL_law RL 4 D (tyW ca) room_1 (some .boolean) 600000 7302250 Post) (hX : LX Γ b Ls xs) {i : Nat} (hi : i + 7 ≤ Ls) (hL : Ls ≤ 3584) {cn sn : Nat} (hc : cn + 161 ≤ 600000) (hs : sn + 966 ≤ 7302250) (kk : lwK Γ ca oX oM b i cn sn) : G Γ cn sn 473 (lwL oX oM b i) [] (cX ca oX X Y R L S ++ cM ca oM I J) := by
  obtain ⟨v1, e1⟩ : ∃ v, xs (nI i + nI 1).toNatClampNeg = v := ⟨_, rfl⟩
  obtain ⟨v2, e2⟩ : ∃ v, xs (nI i + nI 2).toNatClampNeg = v := ⟨_, rfl⟩
  refine g_aload_n C (i := 1) dL_law_473 rfl rfl ?_
  refine g_aload_n C (i := 0) dL_law_474 rfl rfl ?_
  refine g_iload_n C (i := 3) dL_law_475 rfl rfl ?_
  refine g_iconst_1 C dL_law_476 ?_
  refine g_iadd C dL_law_477 ?_
  refine g_sld C hX (v := v1) (in_k (k := 1) hi hL (by decide)) e1 dL_law_478 ?_
  refine g_aload_n C (i := 0) dL_law_479 rfl rfl ?_
  refine g_iload_n C (i := 3) dL_law_480 rfl rfl ?_
  refine g_iconst_2 C dL_law_481 ?_
  refine g_iadd C dL_law_482 ?_
  refine g_sld C hX (v := v2) (in_k (k := 2) hi hL (by decide)) e2 dL_law_483 ?_
  refine x_callV C (ct_frameL (wX11_k_says (D := D) (ca := ca) (o := oX) v1 v2 X Y R L S _ (pc_says h v1 v2)) (cM ca oM I J)) (gSite.of (tb_in (List.mem_of_getElem? (i := 381) (by decide +kernel)) (by decide +kernel)) (tb_in (List.mem_of_getElem? (i := 382) (by decide +kernel)) (by decide +kernel)) (tb_in (List.mem_of_getElem? (i := 383) (by decide +kernel)) (by decide +kernel)) (tb_in (List.mem_of_getElem? (i := 78) (by decide +kernel)) (by decide +kernel)) (tb_in (List.mem_of_getElem? (i := 384) (by decide +kernel)) (by decide +kernel)) (by decide +kernel)) rcvX (rm_law0 (by decide) (by decide) (by omega) (by omega)) rfl (Nat.le_of_ble_eq_true rfl) (n := 2) (st := []) _ rfl dL_law_484 (fun v ws hv => ?_)
  obtain ⟨w, ⟨r, X1, Y1, R1, rfl, rfl, hQ⟩, rfl⟩ := hv
  refine g_eqs (st' := [.int r]) (ws' := cX ca oX X1 Y1 R1 L S ++ cM ca oM I J) rfl rfl ?_
  refine g_aload_n C (i := 2) dL_law_487 rfl rfl ?_
  refine g_aload_n C (i := 0) dL_law_488 rfl rfl ?_
  refine g_iload_n C (i := 3) dL_law_489 rfl rfl ?_
  refine g_iconst_1 C dL_law_490 ?_
  refine g_iadd C dL_law_491 ?_
  refine g_sld C hX (v := v1) (in_k (k := 1) hi hL (by decide)) e1 dL_law_492 ?_
  refine g_aload_n C (i := 0) dL_law_493 rfl rfl ?_
  refine g_iload_n C (i := 3) dL_law_494 rfl rfl ?_
  refine g_iconst_2 C dL_law_495 ?_
  refine g_iadd C dL_law_496 ?_
  refine g_sld C hX (v := v2) (in_k (k := 2) hi hL (by decide)) e2 dL_law_497 ?_
  refine x_callV C (ct_frameR (wM_k_says (D := D) (ca := ca) (o := oM) v1 v2 I J _ hQ) (cX ca oX X1 Y1 R1 L S)) (gSite.of (tb_in (List.mem_of_getElem? (i := 1509) (by decide +kernel)) (by decide +kernel)) (tb_in (List.mem_of_getElem? (i := 1510) (by decide +kernel)) (by decide +kernel)) (tb_in (List.mem_of_getElem? (i := 1511) (by decide +kernel)) (by decide +kernel)) (tb_in (List.mem_of_getElem? (i := 87) (by decide +kernel)) (by decide +kernel)) (tb_in (List.mem_of_getElem? (i := 1512) (by decide +kernel)) (by decide +kernel)) (by decide +kernel)) rcvM (rm_law0 (by decide) (by decide) (by omega) (by omega)) rfl (Nat.le_of_ble_eq_true rfl) (n := 2) (st := [.int r]) _ rfl dL_law_498 (fun v ws hv => ?_)
  obtain ⟨w, ⟨r2, I1, J1, rfl, rfl, er, n1, T1, h1⟩, rfl⟩ := hv
  refine g_eqs (st' := [.int r2, .int r]) (ws' := cX ca oX X1 Y1 R1 L S ++ cM ca oM I1 J1) rfl rfl ?_
  exact g_icmp_eq C 1716 dL_law_501 rfl (fun _ => g_wide (by omega) (by omega) (kk _ _ _ _ _ _ _ _ _ h1)) (fun e => absurd er e)
set_option maxRecDepth 100000 in
theorem lw_c7 {Γ : gT} {D : gD} {ca : Nat → ClassId} {oX oM : Nat → Nat} {b Ls : Nat} {xs : Nat → Int32} {Post : Option Value → va_W → Prop} {n : Nat} {T : Nat → gP} {I X : gI} {J Y : gJ} {R : gR} {L : List Nat} {S : gS} (h : Rl n T I J X Y R L S) (C : Cx Γ cL_law RL 4 D (tyW ca) room_1 (some .boolean) 600000 7302250 Post) (hX : LX Γ b Ls xs) {i : Nat} (hi : i + 7 ≤ Ls) (hL : Ls ≤ 3584) {cn sn : Nat} (hc : cn + 161 ≤ 600000) (hs : sn + 966 ≤ 7302250) (kk : lwK Γ ca oX oM b i cn sn) : G Γ cn sn 506 (lwL oX oM b i) [] (cX ca oX X Y R L S ++ cM ca oM I J) := by
  obtain ⟨v1, e1⟩ : ∃ v, xs (nI i + nI 1).toNatClampNeg = v := ⟨_, rfl⟩
  obtain ⟨v2, e2⟩ : ∃ v, xs (nI i + nI 2).toNatClampNeg = v := ⟨_, rfl⟩
  obtain ⟨v3, e3⟩ : ∃ v, xs (nI i + nI 3).toNatClampNeg = v := ⟨_, rfl⟩
  obtain ⟨v4, e4⟩ : ∃ v, xs (nI i + nI 4).toNatClampNeg = v := ⟨_, rfl⟩
  refine g_aload_n C (i := 1) dL_law_506 rfl rfl ?_
  refine g_aload_n C (i := 0) dL_law_507 rfl rfl ?_
  refine g_iload_n C (i := 3) dL_law_508 rfl rfl ?_
  refine g_iconst_1 C dL_law_509 ?_
  refine g_iadd C dL_law_510 ?_
  refine g_sld C hX (v := v1) (in_k (k := 1) hi hL (by decide)) e1 dL_law_511 ?_
  refine g_aload_n C (i := 0) dL_law_512 rfl rfl ?_
  refine g_iload_n C (i := 3) dL_law_513 rfl rfl ?_
  refine g_iconst_2 C dL_law_514 ?_
  refine g_iadd C dL_law_515 ?_
  refine g_sld C hX (v := v2) (in_k (k := 2) hi hL (by decide)) e2 dL_law_516 ?_
  refine g_aload_n C (i := 0) dL_law_517 rfl rfl ?_
  refine g_iload_n C (i := 3) dL_law_518 rfl rfl ?_
  refine g_iconst_3 C dL_law_519 ?_
  refine g_iadd C dL_law_520 ?_
  refine g_sld C hX (v := v3) (in_k (k := 3) hi hL (by decide)) e3 dL_law_521 ?_
  refine g_aload_n C (i := 0) dL_law_522 rfl rfl ?_
  refine g_iload_n C (i := 3) dL_law_523 rfl rfl ?_
  refine g_iconst_4 C dL_law_524 ?_
  refine g_iadd C dL_law_525 ?_
  refine g_sld C hX (v := v4) (in_k (k := 4) hi hL (by decide)) e4 dL_law_526 ?_
  refine x_callV C (ct_frameL (wX11_k_strip (D := D) (ca := ca) (o := oX) v1 v2 v3 v4 X Y R L S _ (pc_strip h v1 v2 v3 v4)) (cM ca oM I J)) (gSite.of (tb_in (List.mem_of_getElem? (i := 483) (by decide +kernel)) (by decide +kernel)) (tb_in (List.mem_of_getElem? (i := 484) (by decide +kernel)) (by decide +kernel)) (tb_in (List.mem_of_getElem? (i := 485) (by decide +kernel)) (by decide +kernel)) (tb_in (List.mem_of_getElem? (i := 78) (by decide +kernel)) (by decide +kernel)) (tb_in (List.mem_of_getElem? (i := 486) (by decide +kernel)) (by decide +kernel)) (by decide +kernel)) rcvX (rm_law (by decide) (by decide) (by omega) (by omega)) rfl (Nat.le_of_ble_eq_true rfl) (n := 4) (st := []) _ rfl dL_law_527 (fun v ws hv => ?_)
  obtain ⟨w, ⟨r, X1, Y1, R1, L1, S1, rfl, rfl, hQ⟩, rfl⟩ := hv
  refine g_eqs (st' := [.int r]) (ws' := cX ca oX X1 Y1 R1 L1 S1 ++ cM ca oM I J) rfl rfl ?_
  refine g_aload_n C (i := 2) dL_law_530 rfl rfl ?_
  refine g_aload_n C (i := 0) dL_law_531 rfl rfl ?_
  refine g_iload_n C (i := 3) dL_law_532 rfl rfl ?_
  refine g_iconst_1 C dL_law_533 ?_
  refine g_iadd C dL_law_534 ?_
  refine g_sld C hX (v := v1) (in_k (k := 1) hi hL (by decide)) e1 dL_law_535 ?_
  refine g_aload_n C (i := 0) dL_law_536 rfl rfl ?_
  refine g_iload_n C (i := 3) dL_law_537 rfl rfl ?_
  refine g_iconst_2 C dL_law_538 ?_
  refine g_iadd C dL_law_539 ?_
  refine g_sld C hX (v := v2) (in_k (k := 2) hi hL (by decide)) e2 dL_law_540 ?_
  refine g_aload_n C (i := 0) dL_law_541 rfl rfl ?_
  refine g_iload_n C (i := 3) dL_law_542 rfl rfl ?_
  refine g_iconst_3 C dL_law_543 ?_
  refine g_iadd C dL_law_544 ?_
  refine g_sld C hX (v := v3) (in_k (k := 3) hi hL (by decide)) e3 dL_law_545 ?_
  refine g_aload_n C (i := 0) dL_law_546 rfl rfl ?_
  refine g_iload_n C (i := 3) dL_law_547 rfl rfl ?_
  refine g_iconst_4 C dL_law_548 ?_
  refine g_iadd C dL_law_549 ?_
  refine g_sld C hX (v := v4) (in_k (k := 4) hi hL (by decide)) e4 dL_law_550 ?_
  refine x_callV C (ct_frameR (wM_k_strip (D := D) (ca := ca) (o := oM) v1 v2 v3 v4 I J _ hQ) (cX ca oX X1 Y1 R1 L1 S1)) (gSite.of (tb_in (List.mem_of_getElem? (i := 1548) (by decide +kernel)) (by decide +kernel)) (tb_in (List.mem_of_getElem? (i := 1549) (by decide +kernel)) (by decide +kernel)) (tb_in (List.mem_of_getElem? (i := 1550) (by decide +kernel)) (by decide +kernel)) (tb_in (List.mem_of_getElem? (i := 87) (by decide +kernel)) (by decide +kernel)) (tb_in (List.mem_of_getElem? (i := 1551) (by decide +kernel)) (by decide +kernel)) (by decide +kernel)) rcvM (rm_law0 (by decide) (by decide) (by omega) (by omega)) rfl (Nat.le_of_ble_eq_true rfl) (n := 4) (st := [.int r]) _ rfl dL_law_551 (fun v ws hv => ?_)
  obtain ⟨w, ⟨r2, I1, J1, rfl, rfl, er, n1, T1, h1⟩, rfl⟩ := hv
  refine g_eqs (st' := [.int r2, .int r]) (ws' := cX ca oX X1 Y1 R1 L1 S1 ++ cM ca oM I1 J1) rfl rfl ?_
  exact g_icmp_eq C 1716 dL_law_554 rfl (fun _ => g_wide (by omega) (by omega) (kk _ _ _ _ _ _ _ _ _ h1)) (fun e => absurd er e)
set_option maxRecDepth 100000 in
theorem lw_c8 {Γ : gT} {D : gD} {ca : Nat → ClassId} {oX oM : Nat → Nat} {b Ls : Nat} {xs : Nat → Int32} {Post : Option Value → va_W → Prop} {n : Nat} {T : Nat → gP} {I X : gI} {J Y : gJ} {R : gR} {L : List Nat} {S : gS} (h : Rl n T I J X Y R L S) (C : Cx Γ cL_law RL 4 D (tyW ca) room_1 (some .boolean) 600000 7302250 Post) (hX : LX Γ b Ls xs) {i : Nat} (hi : i + 7 ≤ Ls) (hL : Ls ≤ 3584) {cn sn : Nat} (hc : cn + 161 ≤ 600000) (hs : sn + 966 ≤ 7302250) (kk : lwK Γ ca oX oM b i cn sn) : G Γ cn sn 559 (lwL oX oM b i) [] (cX ca oX X Y R L S ++ cM ca oM I J) := by
  obtain ⟨v1, e1⟩ : ∃ v, xs (nI i + nI 1).toNatClampNeg = v := ⟨_, rfl⟩
  obtain ⟨v2, e2⟩ : ∃ v, xs (nI i + nI 2).toNatClampNeg = v := ⟨_, rfl⟩
  refine g_aload_n C (i := 1) dL_law_559 rfl rfl ?_
  refine g_aload_n C (i := 0) dL_law_560 rfl rfl ?_
  refine g_iload_n C (i := 3) dL_law_561 rfl rfl ?_
  refine g_iconst_1 C dL_law_562 ?_
  refine g_iadd C dL_law_563 ?_
  refine g_sld C hX (v := v1) (in_k (k := 1) hi hL (by decide)) e1 dL_law_564 ?_
  refine g_aload_n C (i := 0) dL_law_565 rfl rfl ?_
  refine g_iload_n C (i := 3) dL_law_566 rfl rfl ?_
  refine g_iconst_2 C dL_law_567 ?_
  refine g_iadd C dL_law_568 ?_
  refine g_sld C hX (v := v2) (in_k (k := 2) hi hL (by decide)) e2 dL_law_569 ?_
  refine x_callV C (ct_frameL (wX11_k_stripOf (D := D) (ca := ca) (o := oX) v1 v2 X Y R L S _ (pc_stripOf h v1 v2)) (cM ca oM I J)) (gSite.of (tb_in (List.mem_of_getElem? (i := 618) (by decide +kernel)) (by decide +kernel)) (tb_in (List.mem_of_getElem? (i := 619) (by decide +kernel)) (by decide +kernel)) (tb_in (List.mem_of_getElem? (i := 620) (by decide +kernel)) (by decide +kernel)) (tb_in (List.mem_of_getElem? (i := 78) (by decide +kernel)) (by decide +kernel)) (tb_in (List.mem_of_getElem? (i := 621) (by decide +kernel)) (by decide +kernel)) (by decide +kernel)) rcvX (rm_law0 (by decide) (by decide) (by omega) (by omega)) rfl (Nat.le_of_ble_eq_true rfl) (n := 2) (st := []) _ rfl dL_law_570 (fun v ws hv => ?_)
  obtain ⟨w, ⟨r, X1, Y1, R1, rfl, rfl, hQ⟩, rfl⟩ := hv
  refine g_eqs (st' := [.int r]) (ws' := cX ca oX X1 Y1 R1 L S ++ cM ca oM I J) rfl rfl ?_
  refine g_aload_n C (i := 2) dL_law_573 rfl rfl ?_
  refine g_aload_n C (i := 0) dL_law_574 rfl rfl ?_
  refine g_iload_n C (i := 3) dL_law_575 rfl rfl ?_
  refine g_iconst_1 C dL_law_576 ?_
  refine g_iadd C dL_law_577 ?_
  refine g_sld C hX (v := v1) (in_k (k := 1) hi hL (by decide)) e1 dL_law_578 ?_
  refine g_aload_n C (i := 0) dL_law_579 rfl rfl ?_
  refine g_iload_n C (i := 3) dL_law_580 rfl rfl ?_
  refine g_iconst_2 C dL_law_581 ?_
  refine g_iadd C dL_law_582 ?_
  refine g_sld C hX (v := v2) (in_k (k := 2) hi hL (by decide)) e2 dL_law_583 ?_
  refine x_callV C (ct_frameR (wM_k_stripOf (D := D) (ca := ca) (o := oM) v1 v2 I J _ hQ) (cX ca oX X1 Y1 R1 L S)) (gSite.of (tb_in (List.mem_of_getElem? (i := 1565) (by decide +kernel)) (by decide +kernel)) (tb_in (List.mem_of_getElem? (i := 1566) (by decide +kernel)) (by decide +kernel)) (tb_in (List.mem_of_getElem? (i := 1567) (by decide +kernel)) (by decide +kernel)) (tb_in (List.mem_of_getElem? (i := 87) (by decide +kernel)) (by decide +kernel)) (tb_in (List.mem_of_getElem? (i := 1568) (by decide +kernel)) (by decide +kernel)) (by decide +kernel)) rcvM (rm_law0 (by decide) (by decide) (by omega) (by omega)) rfl (Nat.le_of_ble_eq_true rfl) (n := 2) (st := [.int r]) _ rfl dL_law_584 (fun v ws hv => ?_)
  obtain ⟨w, ⟨r2, I1, J1, rfl, rfl, er, n1, T1, h1⟩, rfl⟩ := hv
  refine g_eqs (st' := [.int r2, .int r]) (ws' := cX ca oX X1 Y1 R1 L S ++ cM ca oM I1 J1) rfl rfl ?_
  exact g_icmp_eq C 1716 dL_law_587 rfl (fun _ => g_wide (by omega) (by omega) (kk _ _ _ _ _ _ _ _ _ h1)) (fun e => absurd er e)
set_option maxRecDepth 100000 in
theorem lw_c9 {Γ : gT} {D : gD} {ca : Nat → ClassId} {oX oM : Nat → Nat} {b Ls : Nat} {xs : Nat → Int32} {Post : Option Value → va_W → Prop} {n : Nat} {T : Nat → gP} {I X : gI} {J Y : gJ} {R : gR} {L : List Nat} {S : gS} (h : Rl n T I J X Y R L S) (C : Cx Γ cL_law RL 4 D (tyW ca) room_1 (some .boolean) 600000 7302250 Post) (hX : LX Γ b Ls xs) {i : Nat} (hi : i + 7 ≤ Ls) (hL : Ls ≤ 3584) {cn sn : Nat} (hc : cn + 161 ≤ 600000) (hs : sn + 966 ≤ 7302250) (kk : lwK Γ ca oX oM b i cn sn) : G Γ cn sn 592 (lwL oX oM b i) [] (cX ca oX X Y R L S ++ cM ca oM I J) := by
  obtain ⟨v1, e1⟩ : ∃ v, xs (nI i + nI 1).toNatClampNeg = v := ⟨_, rfl⟩
  obtain ⟨v2, e2⟩ : ∃ v, xs (nI i + nI 2).toNatClampNeg = v := ⟨_, rfl⟩
  refine g_aload_n C (i := 1) dL_law_592 rfl rfl ?_
  refine g_aload_n C (i := 0) dL_law_593 rfl rfl ?_
  refine g_iload_n C (i := 3) dL_law_594 rfl rfl ?_
  refine g_iconst_1 C dL_law_595 ?_
  refine g_iadd C dL_law_596 ?_
  refine g_sld C hX (v := v1) (in_k (k := 1) hi hL (by decide)) e1 dL_law_597 ?_
  refine g_aload_n C (i := 0) dL_law_598 rfl rfl ?_
  refine g_iload_n C (i := 3) dL_law_599 rfl rfl ?_
  refine g_iconst_2 C dL_law_600 ?_
  refine g_iadd C dL_law_601 ?_
  refine g_sld C hX (v := v2) (in_k (k := 2) hi hL (by decide)) e2 dL_law_602 ?_
  refine x_callV C (ct_frameL (wX11_k_turn (D := D) (ca := ca) (o := oX) v1 v2 X Y R L S _ (pc_turn h v1 v2)) (cM ca oM I J)) (gSite.of (tb_in (List.mem_of_getElem? (i := 623) (by decide +kernel)) (by decide +kernel)) (tb_in (List.mem_of_getElem? (i := 624) (by decide +kernel)) (by decide +kernel)) (tb_in (List.mem_of_getElem? (i := 625) (by decide +kernel)) (by decide +kernel)) (tb_in (List.mem_of_getElem? (i := 78) (by decide +kernel)) (by decide +kernel)) (tb_in (List.mem_of_getElem? (i := 626) (by decide +kernel)) (by decide +kernel)) (by decide +kernel)) rcvX (rm_law (by decide) (by decide) (by omega) (by omega)) rfl (Nat.le_of_ble_eq_true rfl) (n := 2) (st := []) _ rfl dL_law_603 (fun v ws hv => ?_)
  obtain ⟨w, ⟨r, X1, Y1, R1, L1, S1, rfl, rfl, hQ⟩, rfl⟩ := hv
  refine g_eqs (st' := [.int r]) (ws' := cX ca oX X1 Y1 R1 L1 S1 ++ cM ca oM I J) rfl rfl ?_
  refine g_aload_n C (i := 2) dL_law_606 rfl rfl ?_
  refine g_aload_n C (i := 0) dL_law_607 rfl rfl ?_
  refine g_iload_n C (i := 3) dL_law_608 rfl rfl ?_
  refine g_iconst_1 C dL_law_609 ?_
  refine g_iadd C dL_law_610 ?_
  refine g_sld C hX (v := v1) (in_k (k := 1) hi hL (by decide)) e1 dL_law_611 ?_
  refine g_aload_n C (i := 0) dL_law_612 rfl rfl ?_
  refine g_iload_n C (i := 3) dL_law_613 rfl rfl ?_
  refine g_iconst_2 C dL_law_614 ?_
  refine g_iadd C dL_law_615 ?_
  refine g_sld C hX (v := v2) (in_k (k := 2) hi hL (by decide)) e2 dL_law_616 ?_
  refine x_callV C (ct_frameR (wM_k_turn (D := D) (ca := ca) (o := oM) v1 v2 I J _ hQ) (cX ca oX X1 Y1 R1 L1 S1)) (gSite.of (tb_in (List.mem_of_getElem? (i := 1569) (by decide +kernel)) (by decide +kernel)) (tb_in (List.mem_of_getElem? (i := 1570) (by decide +kernel)) (by decide +kernel)) (tb_in (List.mem_of_getElem? (i := 1571) (by decide +kernel)) (by decide +kernel)) (tb_in (List.mem_of_getElem? (i := 87) (by decide +kernel)) (by decide +kernel)) (tb_in (List.mem_of_getElem? (i := 1572) (by decide +kernel)) (by decide +kernel)) (by decide +kernel)) rcvM (rm_law0 (by decide) (by decide) (by omega) (by omega)) rfl (Nat.le_of_ble_eq_true rfl) (n := 2) (st := [.int r]) _ rfl dL_law_617 (fun v ws hv => ?_)
  obtain ⟨w, ⟨r2, I1, J1, rfl, rfl, er, n1, T1, h1⟩, rfl⟩ := hv
  refine g_eqs (st' := [.int r2, .int r]) (ws' := cX ca oX X1 Y1 R1 L1 S1 ++ cM ca oM I1 J1) rfl rfl ?_
  exact g_icmp_eq C 1716 dL_law_620 rfl (fun _ => g_wide (by omega) (by omega) (kk _ _ _ _ _ _ _ _ _ h1)) (fun e => absurd er e)
set_option maxRecDepth 100000 in
theorem lw_c10 {Γ : gT} {D : gD} {ca : Nat → ClassId} {oX oM : Nat → Nat} {b Ls : Nat} {xs : Nat → Int32} {Post : Option Value → va_W → Prop} {n : Nat} {T : Nat → gP} {I X : gI} {J Y : gJ} {R : gR} {L : List Nat} {S : gS} (h : Rl n T I J X Y R L S) (C : Cx Γ cL_law RL 4 D (tyW ca) room_1 (some .boolean) 600000 7302250 Post) (hX : LX Γ b Ls xs) {i : Nat} (hi : i + 7 ≤ Ls) (hL : Ls ≤ 3584) {cn sn : Nat} (hc : cn + 161 ≤ 600000) (hs : sn + 966 ≤ 7302250) (kk : lwK Γ ca oX oM b i cn sn) : G Γ cn sn 625 (lwL oX oM b i) [] (cX ca oX X Y R L S ++ cM ca oM I J) := by
  obtain ⟨v1, e1⟩ : ∃ v, xs (nI i + nI 1).toNatClampNeg = v := ⟨_, rfl⟩
  refine g_aload_n C (i := 1) dL_law_625 rfl rfl ?_
  refine g_aload_n C (i := 0) dL_law_626 rfl rfl ?_
  refine g_iload_n C (i := 3) dL_law_627 rfl rfl ?_
  refine g_iconst_1 C dL_law_628 ?_
  refine g_iadd C dL_law_629 ?_
  refine g_sld C hX (v := v1) (in_k (k := 1) hi hL (by decide)) e1 dL_law_630 ?_
  refine x_callV C (ct_frameL (wX11_k_read (D := D) (ca := ca) (o := oX) v1 X Y R L S _ (pc_read h v1)) (cM ca oM I J)) (gSite.of (tb_in (List.mem_of_getElem? (i := 627) (by decide +kernel)) (by decide +kernel)) (tb_in (List.mem_of_getElem? (i := 628) (by decide +kernel)) (by decide +kernel)) (tb_in (List.mem_of_getElem? (i := 629) (by decide +kernel)) (by decide +kernel)) (tb_in (List.mem_of_getElem? (i := 78) (by decide +kernel)) (by decide +kernel)) (tb_in (List.mem_of_getElem? (i := 630) (by decide +kernel)) (by decide +kernel)) (by decide +kernel)) rcvX (rm_law (by decide) (by decide) (by omega) (by omega)) rfl (Nat.le_of_ble_eq_true rfl) (n := 1) (st := []) _ rfl dL_law_631 (fun v ws hv => ?_)
  obtain ⟨w, ⟨r, X1, Y1, R1, L1, S1, rfl, rfl, hQ⟩, rfl⟩ := hv
  refine g_eqs (st' := [.int r]) (ws' := cX ca oX X1 Y1 R1 L1 S1 ++ cM ca oM I J) rfl rfl ?_
  refine g_aload_n C (i := 2) dL_law_634 rfl rfl ?_
  refine g_aload_n C (i := 0) dL_law_635 rfl rfl ?_
  refine g_iload_n C (i := 3) dL_law_636 rfl rfl ?_
  refine g_iconst_1 C dL_law_637 ?_
  refine g_iadd C dL_law_638 ?_
  refine g_sld C hX (v := v1) (in_k (k := 1) hi hL (by decide)) e1 dL_law_639 ?_
  refine x_callV C (ct_frameR (wM_k_read (D := D) (ca := ca) (o := oM) v1 I J _ hQ) (cX ca oX X1 Y1 R1 L1 S1)) (gSite.of (tb_in (List.mem_of_getElem? (i := 1573) (by decide +kernel)) (by decide +kernel)) (tb_in (List.mem_of_getElem? (i := 1574) (by decide +kernel)) (by decide +kernel)) (tb_in (List.mem_of_getElem? (i := 1575) (by decide +kernel)) (by decide +kernel)) (tb_in (List.mem_of_getElem? (i := 87) (by decide +kernel)) (by decide +kernel)) (tb_in (List.mem_of_getElem? (i := 1576) (by decide +kernel)) (by decide +kernel)) (by decide +kernel)) rcvM (rm_law0 (by decide) (by decide) (by omega) (by omega)) rfl (Nat.le_of_ble_eq_true rfl) (n := 1) (st := [.int r]) _ rfl dL_law_640 (fun v ws hv => ?_)
  obtain ⟨w, ⟨r2, I1, J1, rfl, rfl, er, n1, T1, h1⟩, rfl⟩ := hv
  refine g_eqs (st' := [.int r2, .int r]) (ws' := cX ca oX X1 Y1 R1 L1 S1 ++ cM ca oM I1 J1) rfl rfl ?_
  exact g_icmp_eq C 1716 dL_law_643 rfl (fun _ => g_wide (by omega) (by omega) (kk _ _ _ _ _ _ _ _ _ h1)) (fun e => absurd er e)
set_option maxRecDepth 100000 in
theorem lw_c11 {Γ : gT} {D : gD} {ca : Nat → ClassId} {oX oM : Nat → Nat} {b Ls : Nat} {xs : Nat → Int32} {Post : Option Value → va_W → Prop} {n : Nat} {T : Nat → gP} {I X : gI} {J Y : gJ} {R : gR} {L : List Nat} {S : gS} (h : Rl n T I J X Y R L S) (C : Cx Γ cL_law RL 4 D (tyW ca) room_1 (some .boolean) 600000 7302250 Post) (hX : LX Γ b Ls xs) {i : Nat} (hi : i + 7 ≤ Ls) (hL : Ls ≤ 3584) {cn sn : Nat} (hc : cn + 161 ≤ 600000) (hs : sn + 966 ≤ 7302250) (kk : lwK Γ ca oX oM b i cn sn) : G Γ cn sn 648 (lwL oX oM b i) [] (cX ca oX X Y R L S ++ cM ca oM I J) := by
  refine g_aload_n C (i := 1) dL_law_648 rfl rfl ?_
  refine x_callV C (ct_frameL (wX11_k_fault (D := D) (ca := ca) (o := oX)  X Y R L S _ (pc_fault h )) (cM ca oM I J)) (gSite.of (tb_in (List.mem_of_getElem? (i := 736) (by decide +kernel)) (by decide +kernel)) (tb_in (List.mem_of_getElem? (i := 737) (by decide +kernel)) (by decide +kernel)) (tb_in (List.mem_of_getElem? (i := 738) (by decide +kernel)) (by decide +kernel)) (tb_in (List.mem_of_getElem? (i := 78) (by decide +kernel)) (by decide +kernel)) (tb_in (List.mem_of_getElem? (i := 739) (by decide +kernel)) (by decide +kernel)) (by decide +kernel)) rcvX (rm_law0 (by decide) (by decide) (by omega) (by omega)) rfl (Nat.le_of_ble_eq_true rfl) (n := 0) (st := []) _ rfl dL_law_649 (fun v ws hv => ?_)
  obtain ⟨w, ⟨r, rfl, rfl, hQ⟩, rfl⟩ := hv
  refine g_eqs (st' := [.int r]) (ws' := cX ca oX X Y R L S ++ cM ca oM I J) rfl rfl ?_
  refine g_aload_n C (i := 2) dL_law_652 rfl rfl ?_
  refine x_callV C (ct_frameR (wM_k_fault (D := D) (ca := ca) (o := oM)  I J _ hQ) (cX ca oX X Y R L S)) (gSite.of (tb_in (List.mem_of_getElem? (i := 1613) (by decide +kernel)) (by decide +kernel)) (tb_in (List.mem_of_getElem? (i := 1614) (by decide +kernel)) (by decide +kernel)) (tb_in (List.mem_of_getElem? (i := 1615) (by decide +kernel)) (by decide +kernel)) (tb_in (List.mem_of_getElem? (i := 87) (by decide +kernel)) (by decide +kernel)) (tb_in (List.mem_of_getElem? (i := 1616) (by decide +kernel)) (by decide +kernel)) (by decide +kernel)) rcvM (rm_law0 (by decide) (by decide) (by omega) (by omega)) rfl (Nat.le_of_ble_eq_true rfl) (n := 0) (st := [.int r]) _ rfl dL_law_653 (fun v ws hv => ?_)
  obtain ⟨w, ⟨r2, rfl, rfl, er⟩, rfl⟩ := hv
  refine g_eqs (st' := [.int r2, .int r]) (ws' := cX ca oX X Y R L S ++ cM ca oM I J) rfl rfl ?_
  exact g_icmp_eq C 1716 dL_law_656 rfl (fun _ => g_wide (by omega) (by omega) (kk _ _ _ _ _ _ _ _ _ h)) (fun e => absurd er e)
set_option maxRecDepth 100000 in
theorem lw_c12 {Γ : gT} {D : gD} {ca : Nat → ClassId} {oX oM : Nat → Nat} {b Ls : Nat} {xs : Nat → Int32} {Post : Option Value → va_W → Prop} {n : Nat} {T : Nat → gP} {I X : gI} {J Y : gJ} {R : gR} {L : List Nat} {S : gS} (h : Rl n T I J X Y R L S) (C : Cx Γ cL_law RL 4 D (tyW ca) room_1 (some .boolean) 600000 7302250 Post) (hX : LX Γ b Ls xs) {i : Nat} (hi : i + 7 ≤ Ls) (hL : Ls ≤ 3584) {cn sn : Nat} (hc : cn + 161 ≤ 600000) (hs : sn + 966 ≤ 7302250) (kk : lwK Γ ca oX oM b i cn sn) : G Γ cn sn 661 (lwL oX oM b i) [] (cX ca oX X Y R L S ++ cM ca oM I J) := by
  obtain ⟨v1, e1⟩ : ∃ v, xs (nI i + nI 1).toNatClampNeg = v := ⟨_, rfl⟩
  refine g_aload_n C (i := 1) dL_law_661 rfl rfl ?_
  refine g_aload_n C (i := 0) dL_law_662 rfl rfl ?_
  refine g_iload_n C (i := 3) dL_law_663 rfl rfl ?_
  refine g_iconst_1 C dL_law_664 ?_
  refine g_iadd C dL_law_665 ?_
  refine g_sld C hX (v := v1) (in_k (k := 1) hi hL (by decide)) e1 dL_law_666 ?_
  refine x_callV C (ct_frameL (wX11_k_creases (D := D) (ca := ca) (o := oX) v1 X Y R L S _ (pc_creases h v1)) (cM ca oM I J)) (gSite.of (tb_in (List.mem_of_getElem? (i := 740) (by decide +kernel)) (by decide +kernel)) (tb_in (List.mem_of_getElem? (i := 741) (by decide +kernel)) (by decide +kernel)) (tb_in (List.mem_of_getElem? (i := 742) (by decide +kernel)) (by decide +kernel)) (tb_in (List.mem_of_getElem? (i := 78) (by decide +kernel)) (by decide +kernel)) (tb_in (List.mem_of_getElem? (i := 743) (by decide +kernel)) (by decide +kernel)) (by decide +kernel)) rcvX (rm_law0 (by decide) (by decide) (by omega) (by omega)) rfl (Nat.le_of_ble_eq_true rfl) (n := 1) (st := []) _ rfl dL_law_667 (fun v ws hv => ?_)
  obtain ⟨w, ⟨r, X1, Y1, R1, rfl, rfl, hQ⟩, rfl⟩ := hv
  refine g_eqs (st' := [.long r]) (ws' := cX ca oX X1 Y1 R1 L S ++ cM ca oM I J) rfl rfl ?_
  refine g_aload_n C (i := 2) dL_law_670 rfl rfl ?_
  refine g_aload_n C (i := 0) dL_law_671 rfl rfl ?_
  refine g_iload_n C (i := 3) dL_law_672 rfl rfl ?_
  refine g_iconst_1 C dL_law_673 ?_
  refine g_iadd C dL_law_674 ?_
  refine g_sld C hX (v := v1) (in_k (k := 1) hi hL (by decide)) e1 dL_law_675 ?_
  refine x_callV C (ct_frameR (wM_k_creases (D := D) (ca := ca) (o := oM) v1 I J _ hQ) (cX ca oX X1 Y1 R1 L S)) (gSite.of (tb_in (List.mem_of_getElem? (i := 1617) (by decide +kernel)) (by decide +kernel)) (tb_in (List.mem_of_getElem? (i := 1618) (by decide +kernel)) (by decide +kernel)) (tb_in (List.mem_of_getElem? (i := 1619) (by decide +kernel)) (by decide +kernel)) (tb_in (List.mem_of_getElem? (i := 87) (by decide +kernel)) (by decide +kernel)) (tb_in (List.mem_of_getElem? (i := 1620) (by decide +kernel)) (by decide +kernel)) (by decide +kernel)) rcvM (rm_law0 (by decide) (by decide) (by omega) (by omega)) rfl (Nat.le_of_ble_eq_true rfl) (n := 1) (st := [.long r]) _ rfl dL_law_676 (fun v ws hv => ?_)
  obtain ⟨w, ⟨r2, I1, J1, rfl, rfl, er, n1, T1, h1⟩, rfl⟩ := hv
  refine g_eqs (st' := [.long r2, .long r]) (ws' := cX ca oX X1 Y1 R1 L S ++ cM ca oM I1 J1) rfl rfl ?_
  exact g_leq C 1716 dL_law_679 dL_law_680 rfl (fun _ => g_wide (by omega) (by omega) (kk _ _ _ _ _ _ _ _ _ h1)) (fun e => absurd er e)
