theorem sX9_64_1 : gSiteU RX9 "FoldedInHalf$Same" "FoldedInHalf$Strip" ⟨"FoldedInHalf$Strip", "leftOver", "(JI)I"⟩ yX9_leftOver cX9_leftOver 6 (some .int) 64 2 := gSiteU.inh (tb_in (List.mem_of_getElem? (i := 800) (by decide +kernel)) (by decide +kernel)) (tb_in (List.mem_of_getElem? (i := 1849) (by decide +kernel)) (by decide +kernel)) (tb_in (List.mem_of_getElem? (i := 1854) (by decide +kernel)) (by decide +kernel)) (tb_in (List.mem_of_getElem? (i := 777) (by decide +kernel)) (by decide +kernel)) (tb_in (List.mem_of_getElem? (i := 90) (by decide +kernel)) (by decide +kernel)) (tb_in (List.mem_of_getElem? (i := 778) (by decide +kernel)) (by decide +kernel)) rfl (by decide +kernel)
theorem sX9_64_2 : gSiteU RX9 "FoldedInHalf$Third" "FoldedInHalf$Strip" ⟨"FoldedInHalf$Strip", "leftOver", "(JI)I"⟩ yX9_leftOver cX9_leftOver 6 (some .int) 64 2 := gSiteU.inh (tb_in (List.mem_of_getElem? (i := 800) (by decide +kernel)) (by decide +kernel)) (tb_in (List.mem_of_getElem? (i := 1849) (by decide +kernel)) (by decide +kernel)) (tb_in (List.mem_of_getElem? (i := 1856) (by decide +kernel)) (by decide +kernel)) (tb_in (List.mem_of_getElem? (i := 777) (by decide +kernel)) (by decide +kernel)) (tb_in (List.mem_of_getElem? (i := 90) (by decide +kernel)) (by decide +kernel)) (tb_in (List.mem_of_getElem? (i := 778) (by decide +kernel)) (by decide +kernel)) rfl (by decide +kernel)
theorem sX9_64_3 : gSiteU RX9 "FoldedInHalf$Cut" "FoldedInHalf$Strip" ⟨"FoldedInHalf$Strip", "leftOver", "(JI)I"⟩ yX9_leftOver cX9_leftOver 6 (some .int) 64 2 := gSiteU.inh (tb_in (List.mem_of_getElem? (i := 800) (by decide +kernel)) (by decide +kernel)) (tb_in (List.mem_of_getElem? (i := 1849) (by decide +kernel)) (by decide +kernel)) (tb_in (List.mem_of_getElem? (i := 1851) (by decide +kernel)) (by decide +kernel)) (tb_in (List.mem_of_getElem? (i := 777) (by decide +kernel)) (by decide +kernel)) (tb_in (List.mem_of_getElem? (i := 90) (by decide +kernel)) (by decide +kernel)) (tb_in (List.mem_of_getElem? (i := 778) (by decide +kernel)) (by decide +kernel)) rfl (by decide +kernel)
theorem sX9_64_4 : gSiteU RX9 "FoldedInHalf$Back" "FoldedInHalf$Strip" ⟨"FoldedInHalf$Strip", "leftOver", "(JI)I"⟩ yX9_leftOver cX9_leftOver 6 (some .int) 64 2 := gSiteU.inh (tb_in (List.mem_of_getElem? (i := 800) (by decide +kernel)) (by decide +kernel)) (tb_in (List.mem_of_getElem? (i := 1849) (by decide +kernel)) (by decide +kernel)) (tb_in (List.mem_of_getElem? (i := 1850) (by decide +kernel)) (by decide +kernel)) (tb_in (List.mem_of_getElem? (i := 777) (by decide +kernel)) (by decide +kernel)) (tb_in (List.mem_of_getElem? (i := 90) (by decide +kernel)) (by decide +kernel)) (tb_in (List.mem_of_getElem? (i := 778) (by decide +kernel)) (by decide +kernel)) rfl (by decide +kernel)
theorem sX9_64_5 : gSiteU RX9 "FoldedInHalf$Glass" "FoldedInHalf$Strip" ⟨"FoldedInHalf$Strip", "leftOver", "(JI)I"⟩ yX9_leftOver cX9_leftOver 6 (some .int) 64 2 := gSiteU.inh (tb_in (List.mem_of_getElem? (i := 800) (by decide +kernel)) (by decide +kernel)) (tb_in (List.mem_of_getElem? (i := 1849) (by decide +kernel)) (by decide +kernel)) (tb_in (List.mem_of_getElem? (i := 1852) (by decide +kernel)) (by decide +kernel)) (tb_in (List.mem_of_getElem? (i := 777) (by decide +kernel)) (by decide +kernel)) (tb_in (List.mem_of_getElem? (i := 90) (by decide +kernel)) (by decide +kernel)) (tb_in (List.mem_of_getElem? (i := 778) (by decide +kernel)) (by decide +kernel)) rfl (by decide +kernel)
theorem sX9_64_6 : gSiteU RX9 "FoldedInHalf$Left" "FoldedInHalf$Strip" ⟨"FoldedInHalf$Strip", "leftOver", "(JI)I"⟩ yX9_leftOver cX9_leftOver 6 (some .int) 64 2 := gSiteU.inh (tb_in (List.mem_of_getElem? (i := 800) (by decide +kernel)) (by decide +kernel)) (tb_in (List.mem_of_getElem? (i := 1849) (by decide +kernel)) (by decide +kernel)) (tb_in (List.mem_of_getElem? (i := 1853) (by decide +kernel)) (by decide +kernel)) (tb_in (List.mem_of_getElem? (i := 777) (by decide +kernel)) (by decide +kernel)) (tb_in (List.mem_of_getElem? (i := 90) (by decide +kernel)) (by decide +kernel)) (tb_in (List.mem_of_getElem? (i := 778) (by decide +kernel)) (by decide +kernel)) rfl (by decide +kernel)
theorem sX9_64_0 : gSite RX9 yX9_leftOver cX9_leftOver 6 (some .int) 64 2 := gSite.of (tb_in (List.mem_of_getElem? (i := 800) (by decide +kernel)) (by decide +kernel)) (tb_in (List.mem_of_getElem? (i := 777) (by decide +kernel)) (by decide +kernel)) (tb_in (List.mem_of_getElem? (i := 1855) (by decide +kernel)) (by decide +kernel)) (tb_in (List.mem_of_getElem? (i := 90) (by decide +kernel)) (by decide +kernel)) (tb_in (List.mem_of_getElem? (i := 778) (by decide +kernel)) (by decide +kernel)) (by decide +kernel)
theorem xv_X9_64 {Γ : gT} {cc : ByteArray} {nL : Nat} {D : gD} {ca : Nat → ClassId} {rm : Room} {ret : Option FieldType} {mc ms : Nat} {Post : Option Value → va_W → Prop} {cn sn pc : Nat} {lv : List (Nat × Value)} {st : List Value} {o : Nat → Nat} {L : List Nat} {S : gS} (C0 : Cx Γ cc RX9 nL D (tyW ca) rm ret mc ms Post) {q0 : Nat} (hq0 : q0 ∈ L) (v1 : Int64) (v3 : Int32) (I : gI) (J : gJ) (R : gR) (L0 : List Nat) (S0 : gS) (Q : Int32 → Prop) (h : wv_leftOver q0 v1 v3 I J R L S Q) (hroom : ∀ l maxL : Nat, l ≤ 2 → maxL ≤ 81 → gRm (rl l) rm maxL 0 0 cn sn) (hst : (st.map fun v => v.category).sum ≤ 8) (st0 : List Value) (hs0 : st0 = ([.long v1, .int v3] : List Value).reverse ++ .ref q0 :: st) (hd : decode cc pc = .ok (.invokevirtual 64, 3)) (k : ∀ (r : Int32) , Q r  → G Γ cn sn (pc + 3) lv (.int r :: st) (cX ca o I J R L S)) : G Γ cn sn pc lv st0 (cX ca o I J R L S) := by
  unfold wv_leftOver at h
  by_cases h1 : sC (S q0) = 1
  · exact x_callU C0 (wX9_k_leftOver hq0  v1 v3 I J R L S Q (h.1 h1)) sX9_64_1 (rcv_1 hq0 h1) (hroom _ _ (by decide) (by decide)) rfl hst st0 hs0 hd (py_i k)
  replace h := h.2 h1
  by_cases h2 : sC (S q0) = 2
  · exact x_callU C0 (wX9_k_leftOver hq0  v1 v3 I J R L S Q (h.1 h2)) sX9_64_2 (rcv_2 hq0 h2) (hroom _ _ (by decide) (by decide)) rfl hst st0 hs0 hd (py_i k)
  replace h := h.2 h2
  by_cases h3 : sC (S q0) = 3
  · exact x_callU C0 (wX9_k_leftOver hq0  v1 v3 I J R L S Q (h.1 h3)) sX9_64_3 (rcv_3 hq0 h3) (hroom _ _ (by decide) (by decide)) rfl hst st0 hs0 hd (py_i k)
  replace h := h.2 h3
  by_cases h4 : sC (S q0) = 4
  · exact x_callU C0 (wX9_k_leftOver hq0  v1 v3 I J R L S Q (h.1 h4)) sX9_64_4 (rcv_4 hq0 h4) (hroom _ _ (by decide) (by decide)) rfl hst st0 hs0 hd (py_i k)
  replace h := h.2 h4
  by_cases h5 : sC (S q0) = 5
  · exact x_callU C0 (wX9_k_leftOver hq0  v1 v3 I J R L S Q (h.1 h5)) sX9_64_5 (rcv_5 hq0 h5) (hroom _ _ (by decide) (by decide)) rfl hst st0 hs0 hd (py_i k)
  replace h := h.2 h5
  by_cases h6 : sC (S q0) = 6
  · exact x_callU C0 (wX9_k_leftOver hq0  v1 v3 I J R L S Q (h.1 h6)) sX9_64_6 (rcv_6 hq0 h6) (hroom _ _ (by decide) (by decide)) rfl hst st0 hs0 hd (py_i k)
  replace h := h.2 h6
  exact x_callV C0 (wX9_k_leftOver hq0  v1 v3 I J R L S Q h) sX9_64_0 (rcv_0 hq0 h1 h2 h3 h4 h5 h6) (hroom _ _ (by decide) (by decide)) rfl hst st0 hs0 hd (py_i k)
set_option maxRecDepth 100000 in
theorem wX9_wayBehind_gb5 {Γ : gT} {D : gD} {ca : Nat → ClassId} {o : Nat → Nat} {Q : Int32 → Prop} {I : gI} {J : gJ} {R : gR} {L : List Nat} {S : gS} {q0 : Nat} (hq0 : q0 ∈ L) (C : Cx Γ cX9_wayBehind RX9 5 D (tyW ca) (rl 3) (some .int) 0 0 (PYi ca o I J R L S Q)) {B5 : Int64 → Int32 → Int32 → Prop} (hB5 : ∀ (v1 : Int64) (v3 : Int32) (v4 : Int32) , B5 v1 v3 v4 → G Γ 0 0 5 [(0, .ref q0), (1, .long v1), (3, .int v3), (4, .int v4)] [] (cX ca o I J R L S)) (v1 : Int64) (v3 : Int32) (v4 : Int32) (h : wX9_wayBehind_b5 q0 I J R L S B5 v1 v3 v4 Q) : G Γ 0 0 5 [(0, .ref q0), (1, .long v1), (3, .int v3), (4, .int v4)] [] (cX ca o I J R L S) := by
  unfold wX9_wayBehind_b5 at h
  refine g_iload C (i := 4) dX9_wayBehind_5 rfl ?_
  refine g_aload_n C (i := 0) dX9_wayBehind_7 rfl rfl ?_
  refine x_get_X9_21 C hq0 dX9_wayBehind_8 ?_
  refine g_icmp_ge C 30 dX9_wayBehind_11 rfl (fun c1 => ?_) (fun c1 => ?_)
  · replace h := h.1 c1
    refine g_iload_n C (i := 3) dX9_wayBehind_30 rfl rfl ?_
    refine g_iconst_3 C dX9_wayBehind_31 ?_
    refine g_iand C dX9_wayBehind_32 ?_
    exact g_ret_i C dX9_wayBehind_33 (Nat.le_refl _) (Nat.le_refl _) ⟨_, rfl, rfl, h⟩
  · replace h := h.2 c1
    refine g_iload_n C (i := 3) dX9_wayBehind_14 rfl rfl ?_
    refine g_aload_n C (i := 0) dX9_wayBehind_15 rfl rfl ?_
    refine g_lload_n C (i := 1) dX9_wayBehind_16 rfl rfl ?_
    refine g_iload C (i := 4) dX9_wayBehind_17 rfl ?_
    refine xv_X9_64 C hq0 v1 v4 I J R L S _ h (fun l m h1 h2 => rl_ok (by omega) h2) (Nat.le_of_ble_eq_true rfl) (st := [.int v3]) _ rfl dX9_wayBehind_19 (fun r2 h => ?_)
    refine g_iadd C dX9_wayBehind_22 ?_
    refine g_istore_n C (i := 3) [(0, .ref q0), (1, .long v1), (3, .int (v3 + r2)), (4, .int v4)] dX9_wayBehind_23 rfl (by decide) rfl ?_
    refine g_iinc C 1 [(0, .ref q0), (1, .long v1), (3, .int (v3 + r2)), (4, .int (v4 + 1))] dX9_wayBehind_24 rfl (by decide) (by decide) rfl ?_
    refine g_goto C 5 dX9_wayBehind_27 rfl ?_
    exact g_weak [0, 1, 2, 3] rfl (Nat.le_refl _) (Nat.le_refl _) (hB5 v1 (v3 + r2) (v4 + 1)  h)
theorem wX9_wayBehind_gl5 {Γ : gT} {D : gD} {ca : Nat → ClassId} {o : Nat → Nat} {Q : Int32 → Prop} {I : gI} {J : gJ} {R : gR} {L : List Nat} {S : gS} {q0 : Nat} (hq0 : q0 ∈ L) (C : Cx Γ cX9_wayBehind RX9 5 D (tyW ca) (rl 3) (some .int) 0 0 (PYi ca o I J R L S Q)) : ∀ (n : Nat) (v1 : Int64) (v3 : Int32) (v4 : Int32) (_ : wX9_wayBehind_l5 q0 I J R L S Q n v1 v3 v4 ), G Γ 0 0 5 [(0, .ref q0), (1, .long v1), (3, .int v3), (4, .int v4)] [] (cX ca o I J R L S) := by
  intro n
  induction n with
  | zero => intro v1 v3 v4  h; exact h.elim
  | succ n ih => intro v1 v3 v4  h; exact wX9_wayBehind_gb5 hq0 C ih v1 v3 v4 h
set_option maxRecDepth 100000 in
theorem wX9_wayBehind_g {Γ : gT} {D : gD} {ca : Nat → ClassId} {o : Nat → Nat} {I : gI} {J : gJ} {R : gR} {L : List Nat} {S : gS} {Q : Int32 → Prop} {q0 : Nat} (hq0 : q0 ∈ L) (v1 : Int64) (C : Cx Γ cX9_wayBehind RX9 5 D (tyW ca) (rl 3) (some .int) 0 0 (PYi ca o I J R L S Q)) (h : wX9_wayBehind q0 v1 I J R L S Q) : G Γ 0 0 0 [(0, .ref q0), (1, .long v1)] [] (cX ca o I J R L S) := by
  unfold wX9_wayBehind at h
  refine g_iconst_0 C dX9_wayBehind_0 ?_
  refine g_istore_n C (i := 3) [(0, .ref q0), (1, .long v1), (3, .int 0)] dX9_wayBehind_1 rfl (by decide) rfl ?_
  refine g_iconst_0 C dX9_wayBehind_2 ?_
  refine g_istore C (i := 4) [(0, .ref q0), (1, .long v1), (3, .int 0), (4, .int 0)] dX9_wayBehind_3 (by decide) rfl ?_
  obtain ⟨n, h⟩ := h
  exact g_weak [0, 1, 2, 3] rfl (Nat.le_refl _) (Nat.le_refl _) (wX9_wayBehind_gl5 hq0 C  n v1 0 0  h)
theorem wX9_k_wayBehind {D : gD} {ca : Nat → ClassId} {o : Nat → Nat} {L : List Nat} {S : gS} {q0 : Nat} (hq0 : q0 ∈ L) (v1 : Int64) (I : gI) (J : gJ) (R : gR) (L0 : List Nat) (S0 : gS) (Q : Int32 → Prop) (h : wX9_wayBehind q0 v1 I J R L S Q) : Ct yX9_wayBehind cX9_wayBehind 5 (some .int) (rl 3) D (tyW ca) 0 0 [.ref q0, .long v1] (cX ca o I J R L S) (PYi ca o I J R L S Q) := ct_of (rm := (rl 3)) (by decide +kernel) (Nat.le_of_ble_eq_true rfl) (fun Γ C => wX9_wayBehind_g hq0 v1 C h)
theorem sX9_68 : gSite RX9 yX1_standAt cX1_standAt 5 none 68 2 := gSite.of (tb_in (List.mem_of_getElem? (i := 864) (by decide +kernel)) (by decide +kernel)) (tb_in (List.mem_of_getElem? (i := 819) (by decide +kernel)) (by decide +kernel)) (tb_in (List.mem_of_getElem? (i := 820) (by decide +kernel)) (by decide +kernel)) (tb_in (List.mem_of_getElem? (i := 84) (by decide +kernel)) (by decide +kernel)) (tb_in (List.mem_of_getElem? (i := 821) (by decide +kernel)) (by decide +kernel)) (by decide +kernel)
theorem sX9_76 : gSite RX9 yX1_stretch cX1_stretch 3 none 76 2 := gSite.of (tb_in (List.mem_of_getElem? (i := 866) (by decide +kernel)) (by decide +kernel)) (tb_in (List.mem_of_getElem? (i := 859) (by decide +kernel)) (by decide +kernel)) (tb_in (List.mem_of_getElem? (i := 860) (by decide +kernel)) (by decide +kernel)) (tb_in (List.mem_of_getElem? (i := 84) (by decide +kernel)) (by decide +kernel)) (tb_in (List.mem_of_getElem? (i := 861) (by decide +kernel)) (by decide +kernel)) (by decide +kernel)
theorem sX9_80 : gSite RX9 yX1_goOn cX1_goOn 2 none 80 1 := gSite.of (tb_in (List.mem_of_getElem? (i := 867) (by decide +kernel)) (by decide +kernel)) (tb_in (List.mem_of_getElem? (i := 846) (by decide +kernel)) (by decide +kernel)) (tb_in (List.mem_of_getElem? (i := 847) (by decide +kernel)) (by decide +kernel)) (tb_in (List.mem_of_getElem? (i := 84) (by decide +kernel)) (by decide +kernel)) (tb_in (List.mem_of_getElem? (i := 848) (by decide +kernel)) (by decide +kernel)) (by decide +kernel)
set_option maxRecDepth 100000 in
theorem wX9_lead_gc83 {Γ : gT} {D : gD} {ca : Nat → ClassId} {o : Nat → Nat} {Q : gI → gJ → gR → Prop} {L : List Nat} {S : gS} {q0 : Nat} (hq0 : q0 ∈ L) {n1 : Nat} (hn1 : n1 < 2) (C : Cx Γ cX9_lead RX9 8 D (tyW ca) (rl 3) none 0 0 (PXv ca o L S Q)) {B22 : Int64 → Int32 → Int32 → gI → gJ → gR → Prop} (hB22 : ∀ (v2 : Int64) (v4 : Int32) (v5 : Int32) (I : gI) (J : gJ) (R : gR), B22 v2 v4 v5 I J R → G Γ 0 0 22 [(0, .ref q0), (1, .ref (o (10 + n1))), (2, .long v2), (4, .int v4), (5, .int v5)] [] (cX ca o I J R L S)) (v2 : Int64) (v4 : Int32) (v5 : Int32) (I : gI) (J : gJ) (R : gR) (h : wX9_lead_c83 q0 n1 L S B22 v2 v4 v5 I J R Q) : G Γ 0 0 83 [(0, .ref q0), (1, .ref (o (10 + n1))), (2, .long v2), (4, .int v4), (5, .int v5)] [] (cX ca o I J R L S) := by
  unfold wX9_lead_c83 at h
  refine g_iload C (i := 4) dX9_lead_83 rfl ?_
  refine g_aload_n C (i := 0) dX9_lead_85 rfl rfl ?_
  refine g_lload_n C (i := 2) dX9_lead_86 rfl rfl ?_
  refine g_iload C (i := 5) dX9_lead_87 rfl ?_
  refine xv_X9_64 C hq0 v2 v5 I J R L S _ h (fun l m h1 h2 => rl_ok (by omega) h2) (Nat.le_of_ble_eq_true rfl) (st := [.int v4]) _ rfl dX9_lead_89 (fun r1 h => ?_)
  refine g_iadd C dX9_lead_92 ?_
  refine g_istore C (i := 4) [(0, .ref q0), (1, .ref (o (10 + n1))), (2, .long v2), (4, .int (v4 + r1)), (5, .int v5)] dX9_lead_93 (by decide) rfl ?_
  refine g_iinc C (-1) [(0, .ref q0), (1, .ref (o (10 + n1))), (2, .long v2), (4, .int (v4 + r1)), (5, .int (v5 + (-1)))] dX9_lead_95 rfl (by decide) (by decide) rfl ?_
  refine g_goto C 22 dX9_lead_98 rfl ?_
  exact g_weak [0, 1, 2, 3, 4] rfl (Nat.le_refl _) (Nat.le_refl _) (hB22 v2 (v4 + r1) (v5 + (-1)) I J R h)
set_option maxRecDepth 100000 in
theorem wX9_lead_gb22 {Γ : gT} {D : gD} {ca : Nat → ClassId} {o : Nat → Nat} {Q : gI → gJ → gR → Prop} {L : List Nat} {S : gS} {q0 : Nat} (hq0 : q0 ∈ L) {n1 : Nat} (hn1 : n1 < 2) (C : Cx Γ cX9_lead RX9 8 D (tyW ca) (rl 3) none 0 0 (PXv ca o L S Q)) {B22 : Int64 → Int32 → Int32 → gI → gJ → gR → Prop} (hB22 : ∀ (v2 : Int64) (v4 : Int32) (v5 : Int32) (I : gI) (J : gJ) (R : gR), B22 v2 v4 v5 I J R → G Γ 0 0 22 [(0, .ref q0), (1, .ref (o (10 + n1))), (2, .long v2), (4, .int v4), (5, .int v5)] [] (cX ca o I J R L S)) (v2 : Int64) (v4 : Int32) (v5 : Int32) (I : gI) (J : gJ) (R : gR) (h : wX9_lead_b22 q0 n1 L S B22 v2 v4 v5 I J R Q) : G Γ 0 0 22 [(0, .ref q0), (1, .ref (o (10 + n1))), (2, .long v2), (4, .int v4), (5, .int v5)] [] (cX ca o I J R L S) := by
  unfold wX9_lead_b22 at h
  refine g_iload C (i := 5) dX9_lead_22 rfl ?_
  refine g_if_lt C 101 dX9_lead_24 rfl (fun c1 => ?_) (fun c1 => ?_)
  · replace h := h.1 c1
    exact g_ret_v C dX9_lead_101 (Nat.le_refl _) (Nat.le_refl _) ⟨_, _, _, rfl, rfl, h⟩
  · replace h := h.2 c1
    refine g_aload_n C (i := 0) dX9_lead_27 rfl rfl ?_
    refine g_iload C (i := 5) dX9_lead_28 rfl ?_
    refine xv_X9_60 C hq0 v5 I J R L S _ h (fun l m h1 h2 => rl_ok (by omega) h2) (Nat.le_of_ble_eq_true rfl) (st := []) _ rfl dX9_lead_30 (fun r2 h => ?_)
    refine g_istore C (i := 6) [(0, .ref q0), (1, .ref (o (10 + n1))), (2, .long v2), (4, .int v4), (5, .int v5), (6, .int r2)] dX9_lead_33 (by decide) rfl ?_
    refine g_lload_n C (i := 2) dX9_lead_35 rfl rfl ?_
    refine g_iload C (i := 5) dX9_lead_36 rfl ?_
    refine g_lshr C dX9_lead_38 ?_
    refine g_ldc2 C (v := 3) (tb_in (List.mem_of_getElem? (i := 865) (by decide +kernel)) (by decide +kernel)) dX9_lead_39 ?_
    refine g_land C dX9_lead_42 ?_
    refine g_l2i C dX9_lead_43 ?_
    refine g_istore C (i := 7) [(0, .ref q0), (1, .ref (o (10 + n1))), (2, .long v2), (4, .int v4), (5, .int v5), (6, .int r2), (7, .int (((v2 >>> (v5.toInt64 &&& 63)) &&& 3).toInt32))] dX9_lead_44 (by decide) rfl ?_
    refine g_aload_n C (i := 1) dX9_lead_46 rfl rfl ?_
    refine g_iconst_1 C dX9_lead_47 ?_
    refine g_iload C (i := 6) dX9_lead_48 rfl ?_
    refine x_callV C (wX1_k_stretch hn1 1 r2 I J R L S _ h) sX9_76 (rcv_bug (b := n1) hn1) (rl_ok (by decide) (by decide)) rfl (Nat.le_of_ble_eq_true rfl) (st := []) _ rfl dX9_lead_50 (px_v (fun I4 J5 R6 h => ?_))
    refine g_iload C (i := 7) dX9_lead_53 rfl ?_
    refine g_iconst_1 C dX9_lead_55 ?_
    refine g_icmp_ne C 68 dX9_lead_56 rfl (fun c7 => ?_) (fun c7 => ?_)
    · replace h := h.1 c7
      refine g_iload C (i := 7) dX9_lead_68 rfl ?_
      refine g_iconst_3 C dX9_lead_70 ?_
      refine g_icmp_ne C 83 dX9_lead_71 rfl (fun c8 => ?_) (fun c8 => ?_)
      · replace h := h.1 c8
        exact g_weak [0, 1, 2, 3, 4] rfl (Nat.le_refl _) (Nat.le_refl _) (wX9_lead_gc83 hq0 hn1 C hB22 v2 v4 v5 I4 J5 R6 h)
      · replace h := h.2 c8
        refine g_aload_n C (i := 1) dX9_lead_74 rfl rfl ?_
        refine g_iload C (i := 4) dX9_lead_75 rfl ?_
        refine g_iload C (i := 6) dX9_lead_77 rfl ?_
        refine g_iadd C dX9_lead_79 ?_
        refine x_callV C (wX1_k_goOn hn1 (v4 + r2) I4 J5 R6 L S _ h) sX9_80 (rcv_bug (b := n1) hn1) (rl_ok (by decide) (by decide)) rfl (Nat.le_of_ble_eq_true rfl) (st := []) _ rfl dX9_lead_80 (px_v (fun I10 J11 R12 h => ?_))
        exact g_weak [0, 1, 2, 3, 4] rfl (Nat.le_refl _) (Nat.le_refl _) (wX9_lead_gc83 hq0 hn1 C hB22 v2 v4 v5 I10 J11 R12 h)
    · replace h := h.2 c7
      refine g_aload_n C (i := 1) dX9_lead_59 rfl rfl ?_
      refine g_iload C (i := 4) dX9_lead_60 rfl ?_
      refine x_callV C (wX1_k_goOn hn1 v4 I4 J5 R6 L S _ h) sX9_80 (rcv_bug (b := n1) hn1) (rl_ok (by decide) (by decide)) rfl (Nat.le_of_ble_eq_true rfl) (st := []) _ rfl dX9_lead_62 (px_v (fun I14 J15 R16 h => ?_))
      refine g_goto C 83 dX9_lead_65 rfl ?_
      exact g_weak [0, 1, 2, 3, 4] rfl (Nat.le_refl _) (Nat.le_refl _) (wX9_lead_gc83 hq0 hn1 C hB22 v2 v4 v5 I14 J15 R16 h)
theorem wX9_lead_gl22 {Γ : gT} {D : gD} {ca : Nat → ClassId} {o : Nat → Nat} {Q : gI → gJ → gR → Prop} {L : List Nat} {S : gS} {q0 : Nat} (hq0 : q0 ∈ L) {n1 : Nat} (hn1 : n1 < 2) (C : Cx Γ cX9_lead RX9 8 D (tyW ca) (rl 3) none 0 0 (PXv ca o L S Q)) : ∀ (n : Nat) (v2 : Int64) (v4 : Int32) (v5 : Int32) (I : gI) (J : gJ) (R : gR) (_ : wX9_lead_l22 q0 n1 L S Q n v2 v4 v5 I J R), G Γ 0 0 22 [(0, .ref q0), (1, .ref (o (10 + n1))), (2, .long v2), (4, .int v4), (5, .int v5)] [] (cX ca o I J R L S) := by
  intro n
  induction n with
  | zero => intro v2 v4 v5 I J R h; exact h.elim
  | succ n ih => intro v2 v4 v5 I J R h; exact wX9_lead_gb22 hq0 hn1 C ih v2 v4 v5 I J R h
set_option maxRecDepth 100000 in
theorem wX9_lead_g {Γ : gT} {D : gD} {ca : Nat → ClassId} {o : Nat → Nat} {I : gI} {J : gJ} {R : gR} {L : List Nat} {S : gS} {Q : gI → gJ → gR → Prop} {q0 : Nat} (hq0 : q0 ∈ L) {n1 : Nat} (hn1 : n1 < 2) (v2 : Int64) (C : Cx Γ cX9_lead RX9 8 D (tyW ca) (rl 3) none 0 0 (PXv ca o L S Q)) (h : wX9_lead q0 n1 v2 I J R L S Q) : G Γ 0 0 0 [(0, .ref q0), (1, .ref (o (10 + n1))), (2, .long v2)] [] (cX ca o I J R L S) := by
  unfold wX9_lead at h
  refine g_aload_n C (i := 1) dX9_lead_0 rfl rfl ?_
  refine g_lload_n C (i := 2) dX9_lead_1 rfl rfl ?_
  refine g_aload_n C (i := 0) dX9_lead_2 rfl rfl ?_
  refine x_get_X9_21 C hq0 dX9_lead_3 ?_
  refine g_lshr C dX9_lead_6 ?_
  refine g_lconst_0 C dX9_lead_7 ?_
  refine x_callV C (wX1_k_standAt hn1 (v2 >>> ((sL (S q0)).toInt64 &&& 63)) 0 I J R L S _ h) sX9_68 (rcv_bug (b := n1) hn1) (rl_ok (by decide) (by decide)) rfl (Nat.le_of_ble_eq_true rfl) (st := []) _ rfl dX9_lead_8 (px_v (fun I2 J3 R4 h => ?_))
  refine g_iconst_0 C dX9_lead_11 ?_
  refine g_istore C (i := 4) [(0, .ref q0), (1, .ref (o (10 + n1))), (2, .long v2), (4, .int 0)] dX9_lead_12 (by decide) rfl ?_
  refine g_aload_n C (i := 0) dX9_lead_14 rfl rfl ?_
  refine x_get_X9_21 C hq0 dX9_lead_15 ?_
  refine g_iconst_1 C dX9_lead_18 ?_
  refine g_isub C dX9_lead_19 ?_
  refine g_istore C (i := 5) [(0, .ref q0), (1, .ref (o (10 + n1))), (2, .long v2), (4, .int 0), (5, .int ((sL (S q0)) - 1))] dX9_lead_20 (by decide) rfl ?_
  obtain ⟨n, h⟩ := h
  exact g_weak [0, 1, 2, 3, 4] rfl (Nat.le_refl _) (Nat.le_refl _) (wX9_lead_gl22 hq0 hn1 C  n v2 0 ((sL (S q0)) - 1) I2 J3 R4 h)
theorem wX9_k_lead {D : gD} {ca : Nat → ClassId} {o : Nat → Nat} {L : List Nat} {S : gS} {q0 : Nat} (hq0 : q0 ∈ L) {n1 : Nat} (hn1 : n1 < 2) (v2 : Int64) (I : gI) (J : gJ) (R : gR) (L0 : List Nat) (S0 : gS) (Q : gI → gJ → gR → Prop) (h : wX9_lead q0 n1 v2 I J R L S Q) : Ct yX9_lead cX9_lead 8 none (rl 3) D (tyW ca) 0 0 [.ref q0, .ref (o (10 + n1)), .long v2] (cX ca o I J R L S) (PXv ca o L S Q) := ct_of (rm := (rl 3)) (by decide +kernel) (Nat.le_of_ble_eq_true rfl) (fun Γ C => wX9_lead_g hq0 hn1 v2 C h)
theorem sX9_84 : gSite RX9 yJ4_append_cf468 cJ4_append_cf468 2 (some (.object "java/lang/StringBuilder")) 84 1 := gSite.of (tb_in (List.mem_of_getElem? (i := 1204) (by decide +kernel)) (by decide +kernel)) (tb_in (List.mem_of_getElem? (i := 1152) (by decide +kernel)) (by decide +kernel)) (tb_in (List.mem_of_getElem? (i := 1153) (by decide +kernel)) (by decide +kernel)) (tb_in (List.mem_of_getElem? (i := 80) (by decide +kernel)) (by decide +kernel)) (tb_in (List.mem_of_getElem? (i := 1154) (by decide +kernel)) (by decide +kernel)) (by decide +kernel)
set_option maxRecDepth 100000 in
theorem wX9_folds_g {Γ : gT} {D : gD} {ca : Nat → ClassId} {o : Nat → Nat} {I : gI} {J : gJ} {R : gR} {L : List Nat} {S : gS} {Q : Int32 → gI → gJ → gR → Prop} {q0 : Nat} (hq0 : q0 ∈ L) (v2 : Int32) (C : Cx Γ cX9_folds RX9 3 D (tyW ca) (rl 3) (some .int) 0 0 (PXi ca o L S Q)) (h : wX9_folds q0 v2 I J R L S Q) : G Γ 0 0 0 [(0, .ref q0), (1, .ref (o 1)), (2, .int v2)] [] (cX ca o I J R L S) := by
  unfold wX9_folds at h
  refine g_aload_n C (i := 1) dX9_folds_0 rfl rfl ?_
  refine g_bipush C (v := 10) dX9_folds_1 (by decide) ?_
  refine x_callV C (wJ4_k_append_cf468 10 I J R L S _ h) sX9_84 rcv_sb (rl_ok (by decide) (by decide)) rfl (Nat.le_of_ble_eq_true rfl) (st := []) _ rfl dX9_folds_3 (px_b (fun I2 J3 R4 h => ?_))
  refine g_pop C dX9_folds_6 rfl ?_
  refine g_iload_n C (i := 2) dX9_folds_7 rfl rfl ?_
  refine g_aload_n C (i := 0) dX9_folds_8 rfl rfl ?_
  refine x_get_X9_15 C hq0 dX9_folds_9 ?_
  refine g_iadd C dX9_folds_12 ?_
  exact g_ret_i C dX9_folds_13 (Nat.le_refl _) (Nat.le_refl _) ⟨_, _, _, _, rfl, rfl, h⟩
theorem wX9_k_folds {D : gD} {ca : Nat → ClassId} {o : Nat → Nat} {L : List Nat} {S : gS} {q0 : Nat} (hq0 : q0 ∈ L) (v2 : Int32) (I : gI) (J : gJ) (R : gR) (L0 : List Nat) (S0 : gS) (Q : Int32 → gI → gJ → gR → Prop) (h : wX9_folds q0 v2 I J R L S Q) : Ct yX9_folds cX9_folds 3 (some .int) (rl 3) D (tyW ca) 0 0 [.ref q0, .ref (o 1), .int v2] (cX ca o I J R L S) (PXi ca o L S Q) := ct_of (rm := (rl 3)) (by decide +kernel) (Nat.le_of_ble_eq_true rfl) (fun Γ C => wX9_folds_g hq0 v2 C h)
theorem sX10_24_2 : gSite RX10 yX10_creaseCount cX10_creaseCount 4 (some .long) 24 0 := gSite.of (tb_in (List.mem_of_getElem? (i := 853) (by decide +kernel)) (by decide +kernel)) (tb_in (List.mem_of_getElem? (i := 407) (by decide +kernel)) (by decide +kernel)) (tb_in (List.mem_of_getElem? (i := 1858) (by decide +kernel)) (by decide +kernel)) (tb_in (List.mem_of_getElem? (i := 92) (by decide +kernel)) (by decide +kernel)) (tb_in (List.mem_of_getElem? (i := 408) (by decide +kernel)) (by decide +kernel)) (by decide +kernel)
theorem sX10_28 : gSite RX10 yX1_standAt cX1_standAt 5 none 28 2 := gSite.of (tb_in (List.mem_of_getElem? (i := 854) (by decide +kernel)) (by decide +kernel)) (tb_in (List.mem_of_getElem? (i := 819) (by decide +kernel)) (by decide +kernel)) (tb_in (List.mem_of_getElem? (i := 820) (by decide +kernel)) (by decide +kernel)) (tb_in (List.mem_of_getElem? (i := 84) (by decide +kernel)) (by decide +kernel)) (tb_in (List.mem_of_getElem? (i := 821) (by decide +kernel)) (by decide +kernel)) (by decide +kernel)
theorem sX10_34_2 : gSiteU RX10 "FoldedInHalf$Third" "FoldedInHalf$Strip" ⟨"FoldedInHalf$Third", "sides", "()J"⟩ yX9_sides cX9_sides 1 (some .long) 34 0 := gSiteU.inh (tb_in (List.mem_of_getElem? (i := 855) (by decide +kernel)) (by decide +kernel)) (tb_in (List.mem_of_getElem? (i := 856) (by decide +kernel)) (by decide +kernel)) (tb_in (List.mem_of_getElem? (i := 857) (by decide +kernel)) (by decide +kernel)) (tb_in (List.mem_of_getElem? (i := 436) (by decide +kernel)) (by decide +kernel)) (tb_in (List.mem_of_getElem? (i := 90) (by decide +kernel)) (by decide +kernel)) (tb_in (List.mem_of_getElem? (i := 437) (by decide +kernel)) (by decide +kernel)) rfl (by decide +kernel)
theorem sX10_37 : gSite RX10 yX1_stretch cX1_stretch 3 none 37 2 := gSite.of (tb_in (List.mem_of_getElem? (i := 858) (by decide +kernel)) (by decide +kernel)) (tb_in (List.mem_of_getElem? (i := 859) (by decide +kernel)) (by decide +kernel)) (tb_in (List.mem_of_getElem? (i := 860) (by decide +kernel)) (by decide +kernel)) (tb_in (List.mem_of_getElem? (i := 84) (by decide +kernel)) (by decide +kernel)) (tb_in (List.mem_of_getElem? (i := 861) (by decide +kernel)) (by decide +kernel)) (by decide +kernel)
theorem sX10_41 : gSite RX10 yX1_goOn cX1_goOn 2 none 41 1 := gSite.of (tb_in (List.mem_of_getElem? (i := 862) (by decide +kernel)) (by decide +kernel)) (tb_in (List.mem_of_getElem? (i := 846) (by decide +kernel)) (by decide +kernel)) (tb_in (List.mem_of_getElem? (i := 847) (by decide +kernel)) (by decide +kernel)) (tb_in (List.mem_of_getElem? (i := 84) (by decide +kernel)) (by decide +kernel)) (tb_in (List.mem_of_getElem? (i := 848) (by decide +kernel)) (by decide +kernel)) (by decide +kernel)
set_option maxRecDepth 100000 in
theorem wX10_lead_gc106 {Γ : gT} {D : gD} {ca : Nat → ClassId} {o : Nat → Nat} {Q : gI → gJ → gR → Prop} {L : List Nat} {S : gS} {q0 : Nat} (hq0 : q0 ∈ L) (hc0 : sC (S q0) = 2) {n1 : Nat} (hn1 : n1 < 2) (C : Cx Γ cX10_lead RX10 11 D (tyW ca) (rl 3) none 0 0 (PXv ca o L S Q)) {B40 : Int64 → Int32 → Int32 → Int64 → gI → gJ → gR → Prop} (hB40 : ∀ (v2 : Int64) (v4 : Int32) (v5 : Int32) (v6 : Int64) (I : gI) (J : gJ) (R : gR), B40 v2 v4 v5 v6 I J R → G Γ 0 0 40 [(0, .ref q0), (1, .ref (o (10 + n1))), (2, .long v2), (4, .int v4), (5, .int v5), (6, .long v6)] [] (cX ca o I J R L S)) (v2 : Int64) (v4 : Int32) (v5 : Int32) (v6 : Int64) (v8 : Int32) (v9 : Int64) (I : gI) (J : gJ) (R : gR) (h : wX10_lead_c106 q0 n1 L S B40 v2 v4 v5 v6 v8 v9 I J R Q) : G Γ 0 0 106 [(0, .ref q0), (1, .ref (o (10 + n1))), (2, .long v2), (4, .int v4), (5, .int v5), (6, .long v6), (8, .int v8), (9, .long v9)] [] (cX ca o I J R L S) := by
  unfold wX10_lead_c106 at h
  refine g_lload C (i := 9) dX10_lead_106 rfl ?_
  refine g_lconst_1 C dX10_lead_108 ?_
  refine g_lne C 120 dX10_lead_109 dX10_lead_110 rfl (fun c1 => ?_) (fun c1 => ?_)
  · replace h := h.1 c1
    refine g_iinc C (-1) [(0, .ref q0), (1, .ref (o (10 + n1))), (2, .long v2), (4, .int v4), (5, .int (v5 + (-1))), (6, .long v6), (8, .int v8), (9, .long v9)] dX10_lead_120 rfl (by decide) (by decide) rfl ?_
    refine g_lload C (i := 6) dX10_lead_123 rfl ?_
    refine g_ldc2 C (v := 3) (tb_in (List.mem_of_getElem? (i := 409) (by decide +kernel)) (by decide +kernel)) dX10_lead_125 ?_
    refine g_ldiv C dX10_lead_128 (by decide) ?_
    refine g_lstore C (i := 6) [(0, .ref q0), (1, .ref (o (10 + n1))), (2, .long v2), (4, .int v4), (5, .int (v5 + (-1))), (6, .long (v6 / 3)), (8, .int v8), (9, .long v9)] dX10_lead_129 (by decide) rfl ?_
    refine g_goto C 40 dX10_lead_131 rfl ?_
    exact g_weak [0, 1, 2, 3, 4, 5] rfl (Nat.le_refl _) (Nat.le_refl _) (hB40 v2 v4 (v5 + (-1)) (v6 / 3) I J R h)
  · replace h := h.2 c1
    refine g_iload C (i := 4) dX10_lead_113 rfl ?_
    refine g_iload C (i := 8) dX10_lead_115 rfl ?_
    refine g_iadd C dX10_lead_117 ?_
    refine g_istore C (i := 4) [(0, .ref q0), (1, .ref (o (10 + n1))), (2, .long v2), (4, .int (v4 + v8)), (5, .int v5), (6, .long v6), (8, .int v8), (9, .long v9)] dX10_lead_118 (by decide) rfl ?_
    refine g_iinc C (-1) [(0, .ref q0), (1, .ref (o (10 + n1))), (2, .long v2), (4, .int (v4 + v8)), (5, .int (v5 + (-1))), (6, .long v6), (8, .int v8), (9, .long v9)] dX10_lead_120 rfl (by decide) (by decide) rfl ?_
    refine g_lload C (i := 6) dX10_lead_123 rfl ?_
    refine g_ldc2 C (v := 3) (tb_in (List.mem_of_getElem? (i := 409) (by decide +kernel)) (by decide +kernel)) dX10_lead_125 ?_
    refine g_ldiv C dX10_lead_128 (by decide) ?_
    refine g_lstore C (i := 6) [(0, .ref q0), (1, .ref (o (10 + n1))), (2, .long v2), (4, .int (v4 + v8)), (5, .int (v5 + (-1))), (6, .long (v6 / 3)), (8, .int v8), (9, .long v9)] dX10_lead_129 (by decide) rfl ?_
    refine g_goto C 40 dX10_lead_131 rfl ?_
    exact g_weak [0, 1, 2, 3, 4, 5] rfl (Nat.le_refl _) (Nat.le_refl _) (hB40 v2 (v4 + v8) (v5 + (-1)) (v6 / 3) I J R h)
set_option maxRecDepth 100000 in
theorem wX10_lead_gc90 {Γ : gT} {D : gD} {ca : Nat → ClassId} {o : Nat → Nat} {Q : gI → gJ → gR → Prop} {L : List Nat} {S : gS} {q0 : Nat} (hq0 : q0 ∈ L) (hc0 : sC (S q0) = 2) {n1 : Nat} (hn1 : n1 < 2) (C : Cx Γ cX10_lead RX10 11 D (tyW ca) (rl 3) none 0 0 (PXv ca o L S Q)) {B40 : Int64 → Int32 → Int32 → Int64 → gI → gJ → gR → Prop} (hB40 : ∀ (v2 : Int64) (v4 : Int32) (v5 : Int32) (v6 : Int64) (I : gI) (J : gJ) (R : gR), B40 v2 v4 v5 v6 I J R → G Γ 0 0 40 [(0, .ref q0), (1, .ref (o (10 + n1))), (2, .long v2), (4, .int v4), (5, .int v5), (6, .long v6)] [] (cX ca o I J R L S)) (v2 : Int64) (v4 : Int32) (v5 : Int32) (v6 : Int64) (v8 : Int32) (v9 : Int64) (I : gI) (J : gJ) (R : gR) (h : wX10_lead_c90 q0 n1 L S B40 v2 v4 v5 v6 v8 v9 I J R Q) : G Γ 0 0 90 [(0, .ref q0), (1, .ref (o (10 + n1))), (2, .long v2), (4, .int v4), (5, .int v5), (6, .long v6), (8, .int v8), (9, .long v9)] [] (cX ca o I J R L S) := by
  unfold wX10_lead_c90 at h
  refine g_lload C (i := 9) dX10_lead_90 rfl ?_
  refine g_lconst_1 C dX10_lead_92 ?_
  refine g_lle C 106 dX10_lead_93 dX10_lead_94 rfl (fun c1 => ?_) (fun c1 => ?_)
  · replace h := h.1 c1
    exact g_weak [0, 1, 2, 3, 4, 5, 6, 7] rfl (Nat.le_refl _) (Nat.le_refl _) (wX10_lead_gc106 hq0 hc0 hn1 C hB40 v2 v4 v5 v6 v8 v9 I J R h)
  · replace h := h.2 c1
    refine g_aload_n C (i := 1) dX10_lead_97 rfl rfl ?_
    refine g_iload C (i := 4) dX10_lead_98 rfl ?_
    refine g_iload C (i := 8) dX10_lead_100 rfl ?_
    refine g_iadd C dX10_lead_102 ?_
    refine x_callV C (wX1_k_goOn hn1 (v4 + v8) I J R L S _ h) sX10_41 (rcv_bug (b := n1) hn1) (rl_ok (by decide) (by decide)) rfl (Nat.le_of_ble_eq_true rfl) (st := []) _ rfl dX10_lead_103 (px_v (fun I3 J4 R5 h => ?_))
    exact g_weak [0, 1, 2, 3, 4, 5, 6, 7] rfl (Nat.le_refl _) (Nat.le_refl _) (wX10_lead_gc106 hq0 hc0 hn1 C hB40 v2 v4 v5 v6 v8 v9 I3 J4 R5 h)
set_option maxRecDepth 100000 in
theorem wX10_lead_gb40 {Γ : gT} {D : gD} {ca : Nat → ClassId} {o : Nat → Nat} {Q : gI → gJ → gR → Prop} {L : List Nat} {S : gS} {q0 : Nat} (hq0 : q0 ∈ L) (hc0 : sC (S q0) = 2) {n1 : Nat} (hn1 : n1 < 2) (C : Cx Γ cX10_lead RX10 11 D (tyW ca) (rl 3) none 0 0 (PXv ca o L S Q)) {B40 : Int64 → Int32 → Int32 → Int64 → gI → gJ → gR → Prop} (hB40 : ∀ (v2 : Int64) (v4 : Int32) (v5 : Int32) (v6 : Int64) (I : gI) (J : gJ) (R : gR), B40 v2 v4 v5 v6 I J R → G Γ 0 0 40 [(0, .ref q0), (1, .ref (o (10 + n1))), (2, .long v2), (4, .int v4), (5, .int v5), (6, .long v6)] [] (cX ca o I J R L S)) (v2 : Int64) (v4 : Int32) (v5 : Int32) (v6 : Int64) (I : gI) (J : gJ) (R : gR) (h : wX10_lead_b40 q0 n1 L S B40 v2 v4 v5 v6 I J R Q) : G Γ 0 0 40 [(0, .ref q0), (1, .ref (o (10 + n1))), (2, .long v2), (4, .int v4), (5, .int v5), (6, .long v6)] [] (cX ca o I J R L S) := by
  unfold wX10_lead_b40 at h
  refine g_lload C (i := 6) dX10_lead_40 rfl ?_
  refine g_lconst_0 C dX10_lead_42 ?_
  refine g_lle C 134 dX10_lead_43 dX10_lead_44 rfl (fun c1 => ?_) (fun c1 => ?_)
  · replace h := h.1 c1
    exact g_ret_v C dX10_lead_134 (Nat.le_refl _) (Nat.le_refl _) ⟨_, _, _, rfl, rfl, h⟩
  · replace h := h.2 c1
    refine g_iload C (i := 5) dX10_lead_47 rfl ?_
    refine g_if_lt C 134 dX10_lead_49 rfl (fun c2 => ?_) (fun c2 => ?_)
    · replace h := h.1 c2
      exact g_ret_v C dX10_lead_134 (Nat.le_refl _) (Nat.le_refl _) ⟨_, _, _, rfl, rfl, h⟩
    · replace h := h.2 c2
      refine g_aload_n C (i := 0) dX10_lead_52 rfl rfl ?_
      refine g_iload C (i := 5) dX10_lead_53 rfl ?_
      refine x_callU C (wX9_k_toward hq0 v5 I J R L S _ h) sX10_21_2 (rcv_2 hq0 hc0) (rl_ok (by decide) (by decide)) rfl (Nat.le_of_ble_eq_true rfl) (st := []) _ rfl dX10_lead_55 (py_i (fun r3 h => ?_))
      refine g_istore C (i := 8) [(0, .ref q0), (1, .ref (o (10 + n1))), (2, .long v2), (4, .int v4), (5, .int v5), (6, .long v6), (8, .int r3)] dX10_lead_58 (by decide) rfl ?_
      refine g_lload_n C (i := 2) dX10_lead_60 rfl rfl ?_
      refine g_lload C (i := 6) dX10_lead_61 rfl ?_
      obtain ⟨h4, h⟩ := h
      refine g_ldiv C dX10_lead_63 h4 ?_
      refine g_ldc2 C (v := 3) (tb_in (List.mem_of_getElem? (i := 409) (by decide +kernel)) (by decide +kernel)) dX10_lead_64 ?_
      refine g_lrem C dX10_lead_67 (by decide) ?_
      refine g_lstore C (i := 9) [(0, .ref q0), (1, .ref (o (10 + n1))), (2, .long v2), (4, .int v4), (5, .int v5), (6, .long v6), (8, .int r3), (9, .long ((v2 / v6) % 3))] dX10_lead_68 (by decide) rfl ?_
      refine g_aload_n C (i := 1) dX10_lead_70 rfl rfl ?_
      refine g_iconst_2 C dX10_lead_71 ?_
      refine g_iload C (i := 8) dX10_lead_72 rfl ?_
      refine x_callV C (wX1_k_stretch hn1 2 r3 I J R L S _ h) sX10_37 (rcv_bug (b := n1) hn1) (rl_ok (by decide) (by decide)) rfl (Nat.le_of_ble_eq_true rfl) (st := []) _ rfl dX10_lead_74 (px_v (fun I6 J7 R8 h => ?_))
      refine g_lload C (i := 9) dX10_lead_77 rfl ?_
      refine g_lconst_0 C dX10_lead_79 ?_
      refine g_lle C 90 dX10_lead_80 dX10_lead_81 rfl (fun c9 => ?_) (fun c9 => ?_)
      · replace h := h.1 c9
        exact g_weak [0, 1, 2, 3, 4, 5, 6, 7] rfl (Nat.le_refl _) (Nat.le_refl _) (wX10_lead_gc90 hq0 hc0 hn1 C hB40 v2 v4 v5 v6 r3 ((v2 / v6) % 3) I6 J7 R8 h)
      · replace h := h.2 c9
        refine g_aload_n C (i := 1) dX10_lead_84 rfl rfl ?_
        refine g_iload C (i := 4) dX10_lead_85 rfl ?_
        refine x_callV C (wX1_k_goOn hn1 v4 I6 J7 R8 L S _ h) sX10_41 (rcv_bug (b := n1) hn1) (rl_ok (by decide) (by decide)) rfl (Nat.le_of_ble_eq_true rfl) (st := []) _ rfl dX10_lead_87 (px_v (fun I11 J12 R13 h => ?_))
        exact g_weak [0, 1, 2, 3, 4, 5, 6, 7] rfl (Nat.le_refl _) (Nat.le_refl _) (wX10_lead_gc90 hq0 hc0 hn1 C hB40 v2 v4 v5 v6 r3 ((v2 / v6) % 3) I11 J12 R13 h)
theorem wX10_lead_gl40 {Γ : gT} {D : gD} {ca : Nat → ClassId} {o : Nat → Nat} {Q : gI → gJ → gR → Prop} {L : List Nat} {S : gS} {q0 : Nat} (hq0 : q0 ∈ L) (hc0 : sC (S q0) = 2) {n1 : Nat} (hn1 : n1 < 2) (C : Cx Γ cX10_lead RX10 11 D (tyW ca) (rl 3) none 0 0 (PXv ca o L S Q)) : ∀ (n : Nat) (v2 : Int64) (v4 : Int32) (v5 : Int32) (v6 : Int64) (I : gI) (J : gJ) (R : gR) (_ : wX10_lead_l40 q0 n1 L S Q n v2 v4 v5 v6 I J R), G Γ 0 0 40 [(0, .ref q0), (1, .ref (o (10 + n1))), (2, .long v2), (4, .int v4), (5, .int v5), (6, .long v6)] [] (cX ca o I J R L S) := by
  intro n
  induction n with
  | zero => intro v2 v4 v5 v6 I J R h; exact h.elim
  | succ n ih => intro v2 v4 v5 v6 I J R h; exact wX10_lead_gb40 hq0 hc0 hn1 C ih v2 v4 v5 v6 I J R h
set_option maxRecDepth 100000 in
theorem wX10_lead_gc15 {Γ : gT} {D : gD} {ca : Nat → ClassId} {o : Nat → Nat} {Q : gI → gJ → gR → Prop} {L : List Nat} {S : gS} {q0 : Nat} (hq0 : q0 ∈ L) (hc0 : sC (S q0) = 2) {n1 : Nat} (hn1 : n1 < 2) (C : Cx Γ cX10_lead RX10 11 D (tyW ca) (rl 3) none 0 0 (PXv ca o L S Q)) (v2 : Int64) (s1 : Int64) (I : gI) (J : gJ) (R : gR) (h : wX10_lead_c15 q0 n1 L S v2 s1 I J R Q) : G Γ 0 0 15 [(0, .ref q0), (1, .ref (o (10 + n1))), (2, .long v2)] [.long s1, .ref (o (10 + n1))] (cX ca o I J R L S) := by
  unfold wX10_lead_c15 at h
  refine g_lconst_0 C dX10_lead_15 ?_
  refine x_callV C (wX1_k_standAt hn1 s1 0 I J R L S _ h) sX10_28 (rcv_bug (b := n1) hn1) (rl_ok (by decide) (by decide)) rfl (Nat.le_of_ble_eq_true rfl) (st := []) _ rfl dX10_lead_16 (px_v (fun I2 J3 R4 h => ?_))
  refine g_iconst_0 C dX10_lead_19 ?_
  refine g_istore C (i := 4) [(0, .ref q0), (1, .ref (o (10 + n1))), (2, .long v2), (4, .int 0)] dX10_lead_20 (by decide) rfl ?_
  refine g_aload_n C (i := 0) dX10_lead_22 rfl rfl ?_
  refine x_get_X10_9 C hq0 hc0 dX10_lead_23 ?_
  refine g_iconst_1 C dX10_lead_26 ?_
  refine g_isub C dX10_lead_27 ?_
  refine g_istore C (i := 5) [(0, .ref q0), (1, .ref (o (10 + n1))), (2, .long v2), (4, .int 0), (5, .int ((sL (S q0)) - 1))] dX10_lead_28 (by decide) rfl ?_
  refine g_aload_n C (i := 0) dX10_lead_30 rfl rfl ?_
  refine x_callU C (wX9_k_sides hq0 I2 J3 R4 L S _ h) sX10_34_2 (rcv_2 hq0 hc0) (rl_ok (by decide) (by decide)) rfl (Nat.le_of_ble_eq_true rfl) (st := []) _ rfl dX10_lead_31 (py_l (fun r5 h => ?_))
  refine g_ldc2 C (v := 3) (tb_in (List.mem_of_getElem? (i := 409) (by decide +kernel)) (by decide +kernel)) dX10_lead_34 ?_
  refine g_ldiv C dX10_lead_37 (by decide) ?_
  refine g_lstore C (i := 6) [(0, .ref q0), (1, .ref (o (10 + n1))), (2, .long v2), (4, .int 0), (5, .int ((sL (S q0)) - 1)), (6, .long (r5 / 3))] dX10_lead_38 (by decide) rfl ?_
  obtain ⟨n, h⟩ := h
  exact g_weak [0, 1, 2, 3, 4, 5] rfl (Nat.le_refl _) (Nat.le_refl _) (wX10_lead_gl40 hq0 hc0 hn1 C  n v2 0 ((sL (S q0)) - 1) (r5 / 3) I2 J3 R4 h)
set_option maxRecDepth 100000 in
theorem wX10_lead_g {Γ : gT} {D : gD} {ca : Nat → ClassId} {o : Nat → Nat} {I : gI} {J : gJ} {R : gR} {L : List Nat} {S : gS} {Q : gI → gJ → gR → Prop} {q0 : Nat} (hq0 : q0 ∈ L) (hc0 : sC (S q0) = 2) {n1 : Nat} (hn1 : n1 < 2) (v2 : Int64) (C : Cx Γ cX10_lead RX10 11 D (tyW ca) (rl 3) none 0 0 (PXv ca o L S Q)) (h : wX10_lead q0 n1 v2 I J R L S Q) : G Γ 0 0 0 [(0, .ref q0), (1, .ref (o (10 + n1))), (2, .long v2)] [] (cX ca o I J R L S) := by
  unfold wX10_lead at h
  refine g_aload_n C (i := 1) dX10_lead_0 rfl rfl ?_
  refine g_lload_n C (i := 2) dX10_lead_1 rfl rfl ?_
  refine g_aload_n C (i := 0) dX10_lead_2 rfl rfl ?_
  refine x_callV C (wX10_k_creaseCount hq0 hc0 I J R L S _ h) sX10_24_2 (rcv_2 hq0 hc0) (rl_ok (by decide) (by decide)) rfl (Nat.le_of_ble_eq_true rfl) (st := [.long v2, .ref (o (10 + n1))]) _ rfl dX10_lead_3 (py_l (fun r1 h => ?_))
  refine g_lle C 14 dX10_lead_6 dX10_lead_7 rfl (fun c2 => ?_) (fun c2 => ?_)
  · replace h := h.1 c2
    refine g_lconst_0 C dX10_lead_14 ?_
    exact g_weak [0, 1, 2] rfl (Nat.le_refl _) (Nat.le_refl _) (wX10_lead_gc15 hq0 hc0 hn1 C  v2 0 I J R h)
  · replace h := h.2 c2
    refine g_lconst_1 C dX10_lead_10 ?_
    refine g_goto C 15 dX10_lead_11 rfl ?_
    exact g_weak [0, 1, 2] rfl (Nat.le_refl _) (Nat.le_refl _) (wX10_lead_gc15 hq0 hc0 hn1 C  v2 1 I J R h)
theorem wX10_k_lead {D : gD} {ca : Nat → ClassId} {o : Nat → Nat} {L : List Nat} {S : gS} {q0 : Nat} (hq0 : q0 ∈ L) (hc0 : sC (S q0) = 2) {n1 : Nat} (hn1 : n1 < 2) (v2 : Int64) (I : gI) (J : gJ) (R : gR) (L0 : List Nat) (S0 : gS) (Q : gI → gJ → gR → Prop) (h : wX10_lead q0 n1 v2 I J R L S Q) : Ct yX10_lead cX10_lead 11 none (rl 3) D (tyW ca) 0 0 [.ref q0, .ref (o (10 + n1)), .long v2] (cX ca o I J R L S) (PXv ca o L S Q) := ct_of (rm := (rl 3)) (by decide +kernel) (Nat.le_of_ble_eq_true rfl) (fun Γ C => wX10_lead_g hq0 hc0 hn1 v2 C h)
theorem sJ4_329 : gSiteP RJ4 yJ5_charAt_5068e cJ5_charAt_5068e 5 (some .char) 329 1 := gSiteP.of (tb_in (List.mem_of_getElem? (i := 1266) (by decide +kernel)) (by decide +kernel)) (tb_in (List.mem_of_getElem? (i := 1865) (by decide +kernel)) (by decide +kernel)) (tb_in (List.mem_of_getElem? (i := 145) (by decide +kernel)) (by decide +kernel)) (tb_in (List.mem_of_getElem? (i := 1267) (by decide +kernel)) (by decide +kernel)) (tb_in (List.mem_of_getElem? (i := 79) (by decide +kernel)) (by decide +kernel)) (tb_in (List.mem_of_getElem? (i := 1268) (by decide +kernel)) (by decide +kernel)) (by decide +kernel)
set_option maxRecDepth 100000 in
theorem wJ4_charAt_5068e_g {Γ : gT} {D : gD} {ca : Nat → ClassId} {o : Nat → Nat} {I : gI} {J : gJ} {R : gR} {L : List Nat} {S : gS} {Q : Int32 → Prop} (v1 : Int32) (C : Cx Γ cJ4_charAt_5068e RJ4 2 D (tyW ca) (rl 3) (some .char) 0 0 (PYi ca o I J R L S Q)) (h : wJ4_charAt_5068e v1 I J R L S Q) : G Γ 0 0 0 [(0, .ref (o 1)), (1, .int v1)] [] (cX ca o I J R L S) := by
  unfold wJ4_charAt_5068e at h
  refine g_aload_n C (i := 0) dJ4_charAt_5068e_0 rfl rfl ?_
  refine g_iload_n C (i := 1) dJ4_charAt_5068e_1 rfl rfl ?_
  refine x_callP C (wJ5_k_charAt_5068e v1 I J R L S _ h) sJ4_329 ⟨_, rcv_sb⟩ (rl_ok (by decide) (by decide)) rfl (Nat.le_of_ble_eq_true rfl) (st := []) _ rfl dJ4_charAt_5068e_2 (py_i (fun r1 h => ?_))
  obtain ⟨h2, h⟩ := h
  exact g_ret_n C h2 dJ4_charAt_5068e_5 (Nat.le_refl _) (Nat.le_refl _) ⟨_, rfl, rfl, h⟩
theorem wJ4_k_charAt_5068e {D : gD} {ca : Nat → ClassId} {o : Nat → Nat} {L : List Nat} {S : gS} (v1 : Int32) (I : gI) (J : gJ) (R : gR) (L0 : List Nat) (S0 : gS) (Q : Int32 → Prop) (h : wJ4_charAt_5068e v1 I J R L S Q) : Ct yJ4_charAt_5068e cJ4_charAt_5068e 2 (some .char) (rl 3) D (tyW ca) 0 0 [.ref (o 1), .int v1] (cX ca o I J R L S) (PYi ca o I J R L S Q) := ct_of (rm := (rl 3)) (by decide +kernel) (Nat.le_of_ble_eq_true rfl) (fun Γ C => wJ4_charAt_5068e_g v1 C h)
theorem sJ0_492 : gSite RJ0 yJ0_isLatin1_aae02 cJ0_isLatin1_aae02 1 (some .boolean) 492 0 := gSite.of (tb_in (List.mem_of_getElem? (i := 670) (by decide +kernel)) (by decide +kernel)) (tb_in (List.mem_of_getElem? (i := 671) (by decide +kernel)) (by decide +kernel)) (tb_in (List.mem_of_getElem? (i := 672) (by decide +kernel)) (by decide +kernel)) (tb_in (List.mem_of_getElem? (i := 81) (by decide +kernel)) (by decide +kernel)) (tb_in (List.mem_of_getElem? (i := 673) (by decide +kernel)) (by decide +kernel)) (by decide +kernel)
theorem sJ0_495 : gSiteS RJ0 yJ1_charAt_3b067 cJ1_charAt_3b067 2 (some .char) 495 2 := gSiteS.of (tb_in (List.mem_of_getElem? (i := 674) (by decide +kernel)) (by decide +kernel)) (tb_in (List.mem_of_getElem? (i := 675) (by decide +kernel)) (by decide +kernel)) (tb_in (List.mem_of_getElem? (i := 97) (by decide +kernel)) (by decide +kernel)) (tb_in (List.mem_of_getElem? (i := 676) (by decide +kernel)) (by decide +kernel)) (by decide +kernel)
set_option maxRecDepth 100000 in
theorem wJ0_charAt_5068e_g {Γ : gT} {D : gD} {ca : Nat → ClassId} {o : Nat → Nat} {I : gI} {J : gJ} {R : gR} {L : List Nat} {S : gS} {Q : Int32 → Prop} {n0 : Nat} (hn0 : n0 < 5) (v1 : Int32) (C : Cx Γ cJ0_charAt_5068e RJ0 2 D (tyW ca) (rl 3) (some .char) 0 0 (PYi ca o I J R L S Q)) (h : wJ0_charAt_5068e n0 v1 I J R L S Q) : G Γ 0 0 0 [(0, .ref (D.2.2.1 n0)), (1, .int v1)] [] (cX ca o I J R L S) := by
  unfold wJ0_charAt_5068e at h
  refine g_aload_n C (i := 0) dJ0_charAt_5068e_0 rfl rfl ?_
  refine x_callT C (wJ0_k_isLatin1_aae02 hn0 I J R L S _ h) sJ0_492 rfl hn0 (rl_ok (by decide) (by decide)) rfl (Nat.le_of_ble_eq_true rfl) (st := []) _ rfl dJ0_charAt_5068e_1 (py_z (fun r1 h => ?_))
  refine g_zeq C 16 dJ0_charAt_5068e_4 rfl (fun c2 => ?_) (fun c2 => ?_)
  · replace h := h.1 c2
    refine g_aload_n C (i := 0) dJ0_charAt_5068e_16 rfl rfl ?_
    refine x_tvalue C hn0 (tb_in (List.mem_of_getElem? (i := 1872) (by decide +kernel)) (by decide +kernel)) dJ0_charAt_5068e_17 ?_
    refine g_iload_n C (i := 1) dJ0_charAt_5068e_20 rfl rfl ?_
    exact h.elim
  · replace h := h.2 c2
    refine g_aload_n C (i := 0) dJ0_charAt_5068e_7 rfl rfl ?_
    refine x_tvalue C hn0 (tb_in (List.mem_of_getElem? (i := 1872) (by decide +kernel)) (by decide +kernel)) dJ0_charAt_5068e_8 ?_
    refine g_iload_n C (i := 1) dJ0_charAt_5068e_11 rfl rfl ?_
    refine x_callS C (wJ1_k_charAt_3b067 hn0 v1 I J R L S _ h) sJ0_495 (rl_ok (by decide) (by decide)) rfl (Nat.le_of_ble_eq_true rfl) (st := []) _ rfl dJ0_charAt_5068e_12 (py_i (fun r3 h => ?_))
    obtain ⟨h4, h⟩ := h
    exact g_ret_n C h4 dJ0_charAt_5068e_15 (Nat.le_refl _) (Nat.le_refl _) ⟨_, rfl, rfl, h⟩
theorem wJ0_k_charAt_5068e {D : gD} {ca : Nat → ClassId} {o : Nat → Nat} {L : List Nat} {S : gS} {n0 : Nat} (hn0 : n0 < 5) (v1 : Int32) (I : gI) (J : gJ) (R : gR) (L0 : List Nat) (S0 : gS) (Q : Int32 → Prop) (h : wJ0_charAt_5068e n0 v1 I J R L S Q) : Ct yJ0_charAt_5068e cJ0_charAt_5068e 2 (some .char) (rl 3) D (tyW ca) 0 0 [.ref (D.2.2.1 n0), .int v1] (cX ca o I J R L S) (PYi ca o I J R L S Q) := ct_of (rm := (rl 3)) (by decide +kernel) (Nat.le_of_ble_eq_true rfl) (fun Γ C => wJ0_charAt_5068e_g hn0 v1 C h)
theorem sX11_150_1 : gSiteU RX11 "FoldedInHalf$Same" "FoldedInHalf$Strip" ⟨"FoldedInHalf$Strip", "creaseAt", "(J)I"⟩ yX9_creaseAt cX9_creaseAt 6 (some .int) 150 1 := gSiteU.inh (tb_in (List.mem_of_getElem? (i := 425) (by decide +kernel)) (by decide +kernel)) (tb_in (List.mem_of_getElem? (i := 428) (by decide +kernel)) (by decide +kernel)) (tb_in (List.mem_of_getElem? (i := 455) (by decide +kernel)) (by decide +kernel)) (tb_in (List.mem_of_getElem? (i := 426) (by decide +kernel)) (by decide +kernel)) (tb_in (List.mem_of_getElem? (i := 90) (by decide +kernel)) (by decide +kernel)) (tb_in (List.mem_of_getElem? (i := 465) (by decide +kernel)) (by decide +kernel)) rfl (by decide +kernel)
theorem sX11_150_2 : gSiteU RX11 "FoldedInHalf$Third" "FoldedInHalf$Strip" ⟨"FoldedInHalf$Strip", "creaseAt", "(J)I"⟩ yX10_creaseAt cX10_creaseAt 6 (some .int) 150 1 := gSiteU.ovr (b0 := cX9_creaseAt) (m0 := 6) (r0 := (some .int)) (tb_in (List.mem_of_getElem? (i := 425) (by decide +kernel)) (by decide +kernel)) (tb_in (List.mem_of_getElem? (i := 428) (by decide +kernel)) (by decide +kernel)) (tb_in (List.mem_of_getElem? (i := 426) (by decide +kernel)) (by decide +kernel)) (tb_in (List.mem_of_getElem? (i := 456) (by decide +kernel)) (by decide +kernel)) (tb_in (List.mem_of_getElem? (i := 457) (by decide +kernel)) (by decide +kernel)) (tb_in (List.mem_of_getElem? (i := 92) (by decide +kernel)) (by decide +kernel)) (tb_in (List.mem_of_getElem? (i := 458) (by decide +kernel)) (by decide +kernel)) (tb_in (List.mem_of_getElem? (i := 465) (by decide +kernel)) (by decide +kernel)) (by decide +kernel)
theorem sX11_150_3 : gSiteU RX11 "FoldedInHalf$Cut" "FoldedInHalf$Strip" ⟨"FoldedInHalf$Strip", "creaseAt", "(J)I"⟩ yX2_creaseAt cX2_creaseAt 3 (some .int) 150 1 := gSiteU.ovr (b0 := cX9_creaseAt) (m0 := 6) (r0 := (some .int)) (tb_in (List.mem_of_getElem? (i := 425) (by decide +kernel)) (by decide +kernel)) (tb_in (List.mem_of_getElem? (i := 428) (by decide +kernel)) (by decide +kernel)) (tb_in (List.mem_of_getElem? (i := 426) (by decide +kernel)) (by decide +kernel)) (tb_in (List.mem_of_getElem? (i := 444) (by decide +kernel)) (by decide +kernel)) (tb_in (List.mem_of_getElem? (i := 441) (by decide +kernel)) (by decide +kernel)) (tb_in (List.mem_of_getElem? (i := 93) (by decide +kernel)) (by decide +kernel)) (tb_in (List.mem_of_getElem? (i := 442) (by decide +kernel)) (by decide +kernel)) (tb_in (List.mem_of_getElem? (i := 465) (by decide +kernel)) (by decide +kernel)) (by decide +kernel)
theorem sX11_150_4 : gSiteU RX11 "FoldedInHalf$Back" "FoldedInHalf$Strip" ⟨"FoldedInHalf$Strip", "creaseAt", "(J)I"⟩ yX0_creaseAt cX0_creaseAt 3 (some .int) 150 1 := gSiteU.ovr (b0 := cX9_creaseAt) (m0 := 6) (r0 := (some .int)) (tb_in (List.mem_of_getElem? (i := 425) (by decide +kernel)) (by decide +kernel)) (tb_in (List.mem_of_getElem? (i := 428) (by decide +kernel)) (by decide +kernel)) (tb_in (List.mem_of_getElem? (i := 426) (by decide +kernel)) (by decide +kernel)) (tb_in (List.mem_of_getElem? (i := 429) (by decide +kernel)) (by decide +kernel)) (tb_in (List.mem_of_getElem? (i := 430) (by decide +kernel)) (by decide +kernel)) (tb_in (List.mem_of_getElem? (i := 94) (by decide +kernel)) (by decide +kernel)) (tb_in (List.mem_of_getElem? (i := 431) (by decide +kernel)) (by decide +kernel)) (tb_in (List.mem_of_getElem? (i := 465) (by decide +kernel)) (by decide +kernel)) (by decide +kernel)
theorem sX11_150_5 : gSiteU RX11 "FoldedInHalf$Glass" "FoldedInHalf$Strip" ⟨"FoldedInHalf$Strip", "creaseAt", "(J)I"⟩ yX9_creaseAt cX9_creaseAt 6 (some .int) 150 1 := gSiteU.inh (tb_in (List.mem_of_getElem? (i := 425) (by decide +kernel)) (by decide +kernel)) (tb_in (List.mem_of_getElem? (i := 428) (by decide +kernel)) (by decide +kernel)) (tb_in (List.mem_of_getElem? (i := 445) (by decide +kernel)) (by decide +kernel)) (tb_in (List.mem_of_getElem? (i := 426) (by decide +kernel)) (by decide +kernel)) (tb_in (List.mem_of_getElem? (i := 90) (by decide +kernel)) (by decide +kernel)) (tb_in (List.mem_of_getElem? (i := 465) (by decide +kernel)) (by decide +kernel)) rfl (by decide +kernel)
theorem sX11_150_6 : gSiteU RX11 "FoldedInHalf$Left" "FoldedInHalf$Strip" ⟨"FoldedInHalf$Strip", "creaseAt", "(J)I"⟩ yX5_creaseAt cX5_creaseAt 3 (some .int) 150 1 := gSiteU.ovr (b0 := cX9_creaseAt) (m0 := 6) (r0 := (some .int)) (tb_in (List.mem_of_getElem? (i := 425) (by decide +kernel)) (by decide +kernel)) (tb_in (List.mem_of_getElem? (i := 428) (by decide +kernel)) (by decide +kernel)) (tb_in (List.mem_of_getElem? (i := 426) (by decide +kernel)) (by decide +kernel)) (tb_in (List.mem_of_getElem? (i := 446) (by decide +kernel)) (by decide +kernel)) (tb_in (List.mem_of_getElem? (i := 447) (by decide +kernel)) (by decide +kernel)) (tb_in (List.mem_of_getElem? (i := 96) (by decide +kernel)) (by decide +kernel)) (tb_in (List.mem_of_getElem? (i := 448) (by decide +kernel)) (by decide +kernel)) (tb_in (List.mem_of_getElem? (i := 465) (by decide +kernel)) (by decide +kernel)) (by decide +kernel)
theorem sX11_150_0 : gSite RX11 yX9_creaseAt cX9_creaseAt 6 (some .int) 150 1 := gSite.of (tb_in (List.mem_of_getElem? (i := 425) (by decide +kernel)) (by decide +kernel)) (tb_in (List.mem_of_getElem? (i := 426) (by decide +kernel)) (by decide +kernel)) (tb_in (List.mem_of_getElem? (i := 427) (by decide +kernel)) (by decide +kernel)) (tb_in (List.mem_of_getElem? (i := 90) (by decide +kernel)) (by decide +kernel)) (tb_in (List.mem_of_getElem? (i := 465) (by decide +kernel)) (by decide +kernel)) (by decide +kernel)
theorem xv_X11_150 {Γ : gT} {cc : ByteArray} {nL : Nat} {D : gD} {ca : Nat → ClassId} {rm : Room} {ret : Option FieldType} {mc ms : Nat} {Post : Option Value → va_W → Prop} {cn sn pc : Nat} {lv : List (Nat × Value)} {st : List Value} {o : Nat → Nat} {L : List Nat} {S : gS} (C0 : Cx Γ cc RX11 nL D (tyW ca) rm ret mc ms Post) {q0 : Nat} (hq0 : q0 ∈ L) (v1 : Int64) (I : gI) (J : gJ) (R : gR) (L0 : List Nat) (S0 : gS) (Q : Int32 → Prop) (h : wv_creaseAt q0 v1 I J R L S Q) (hroom : ∀ l maxL : Nat, l ≤ 3 → maxL ≤ 81 → gRm (rl l) rm maxL 0 0 cn sn) (hst : (st.map fun v => v.category).sum ≤ 8) (st0 : List Value) (hs0 : st0 = ([.long v1] : List Value).reverse ++ .ref q0 :: st) (hd : decode cc pc = .ok (.invokevirtual 150, 3)) (k : ∀ (r : Int32) , Q r  → G Γ cn sn (pc + 3) lv (.int r :: st) (cX ca o I J R L S)) : G Γ cn sn pc lv st0 (cX ca o I J R L S) := by
  unfold wv_creaseAt at h
  by_cases h1 : sC (S q0) = 1
  · exact x_callU C0 (wX9_k_creaseAt hq0  v1 I J R L S Q (h.1 h1)) sX11_150_1 (rcv_1 hq0 h1) (hroom _ _ (by decide) (by decide)) rfl hst st0 hs0 hd (py_i k)
  replace h := h.2 h1
  by_cases h2 : sC (S q0) = 2
  · exact x_callU C0 (wX10_k_creaseAt hq0 h2  v1 I J R L S Q (h.1 h2)) sX11_150_2 (rcv_2 hq0 h2) (hroom _ _ (by decide) (by decide)) rfl hst st0 hs0 hd (py_i k)
  replace h := h.2 h2
  by_cases h3 : sC (S q0) = 3
  · exact x_callU C0 (wX2_k_creaseAt hq0 (Or.inl h3)  v1 I J R L S Q (h.1 h3)) sX11_150_3 (rcv_3 hq0 h3) (hroom _ _ (by decide) (by decide)) rfl hst st0 hs0 hd (py_i k)
  replace h := h.2 h3
  by_cases h4 : sC (S q0) = 4
  · exact x_callU C0 (wX0_k_creaseAt hq0 h4  v1 I J R L S Q (h.1 h4)) sX11_150_4 (rcv_4 hq0 h4) (hroom _ _ (by decide) (by decide)) rfl hst st0 hs0 hd (py_i k)
  replace h := h.2 h4
  by_cases h5 : sC (S q0) = 5
  · exact x_callU C0 (wX9_k_creaseAt hq0  v1 I J R L S Q (h.1 h5)) sX11_150_5 (rcv_5 hq0 h5) (hroom _ _ (by decide) (by decide)) rfl hst st0 hs0 hd (py_i k)
  replace h := h.2 h5
  by_cases h6 : sC (S q0) = 6
  · exact x_callU C0 (wX5_k_creaseAt hq0 h6  v1 I J R L S Q (h.1 h6)) sX11_150_6 (rcv_6 hq0 h6) (hroom _ _ (by decide) (by decide)) rfl hst st0 hs0 hd (py_i k)
  replace h := h.2 h6
  exact x_callV C0 (wX9_k_creaseAt hq0  v1 I J R L S Q h) sX11_150_0 (rcv_0 hq0 h1 h2 h3 h4 h5 h6) (hroom _ _ (by decide) (by decide)) rfl hst st0 hs0 hd (py_i k)
theorem sX11_147_1 : gSiteU RX11 "FoldedInHalf$Same" "FoldedInHalf$Strip" ⟨"FoldedInHalf$Strip", "cutOff", "()J"⟩ yX9_cutOff cX9_cutOff 1 (some .long) 147 0 := gSiteU.inh (tb_in (List.mem_of_getElem? (i := 412) (by decide +kernel)) (by decide +kernel)) (tb_in (List.mem_of_getElem? (i := 415) (by decide +kernel)) (by decide +kernel)) (tb_in (List.mem_of_getElem? (i := 422) (by decide +kernel)) (by decide +kernel)) (tb_in (List.mem_of_getElem? (i := 413) (by decide +kernel)) (by decide +kernel)) (tb_in (List.mem_of_getElem? (i := 90) (by decide +kernel)) (by decide +kernel)) (tb_in (List.mem_of_getElem? (i := 424) (by decide +kernel)) (by decide +kernel)) rfl (by decide +kernel)
theorem sX11_147_2 : gSiteU RX11 "FoldedInHalf$Third" "FoldedInHalf$Strip" ⟨"FoldedInHalf$Strip", "cutOff", "()J"⟩ yX9_cutOff cX9_cutOff 1 (some .long) 147 0 := gSiteU.inh (tb_in (List.mem_of_getElem? (i := 412) (by decide +kernel)) (by decide +kernel)) (tb_in (List.mem_of_getElem? (i := 415) (by decide +kernel)) (by decide +kernel)) (tb_in (List.mem_of_getElem? (i := 423) (by decide +kernel)) (by decide +kernel)) (tb_in (List.mem_of_getElem? (i := 413) (by decide +kernel)) (by decide +kernel)) (tb_in (List.mem_of_getElem? (i := 90) (by decide +kernel)) (by decide +kernel)) (tb_in (List.mem_of_getElem? (i := 424) (by decide +kernel)) (by decide +kernel)) rfl (by decide +kernel)
theorem sX11_147_3 : gSiteU RX11 "FoldedInHalf$Cut" "FoldedInHalf$Strip" ⟨"FoldedInHalf$Strip", "cutOff", "()J"⟩ yX2_cutOff cX2_cutOff 1 (some .long) 147 0 := gSiteU.ovr (b0 := cX9_cutOff) (m0 := 1) (r0 := (some .long)) (tb_in (List.mem_of_getElem? (i := 412) (by decide +kernel)) (by decide +kernel)) (tb_in (List.mem_of_getElem? (i := 415) (by decide +kernel)) (by decide +kernel)) (tb_in (List.mem_of_getElem? (i := 413) (by decide +kernel)) (by decide +kernel)) (tb_in (List.mem_of_getElem? (i := 419) (by decide +kernel)) (by decide +kernel)) (tb_in (List.mem_of_getElem? (i := 417) (by decide +kernel)) (by decide +kernel)) (tb_in (List.mem_of_getElem? (i := 93) (by decide +kernel)) (by decide +kernel)) (tb_in (List.mem_of_getElem? (i := 418) (by decide +kernel)) (by decide +kernel)) (tb_in (List.mem_of_getElem? (i := 424) (by decide +kernel)) (by decide +kernel)) (by decide +kernel)
theorem sX11_147_4 : gSiteU RX11 "FoldedInHalf$Back" "FoldedInHalf$Strip" ⟨"FoldedInHalf$Strip", "cutOff", "()J"⟩ yX2_cutOff cX2_cutOff 1 (some .long) 147 0 := gSiteU.ovr (b0 := cX9_cutOff) (m0 := 1) (r0 := (some .long)) (tb_in (List.mem_of_getElem? (i := 412) (by decide +kernel)) (by decide +kernel)) (tb_in (List.mem_of_getElem? (i := 415) (by decide +kernel)) (by decide +kernel)) (tb_in (List.mem_of_getElem? (i := 413) (by decide +kernel)) (by decide +kernel)) (tb_in (List.mem_of_getElem? (i := 416) (by decide +kernel)) (by decide +kernel)) (tb_in (List.mem_of_getElem? (i := 417) (by decide +kernel)) (by decide +kernel)) (tb_in (List.mem_of_getElem? (i := 93) (by decide +kernel)) (by decide +kernel)) (tb_in (List.mem_of_getElem? (i := 418) (by decide +kernel)) (by decide +kernel)) (tb_in (List.mem_of_getElem? (i := 424) (by decide +kernel)) (by decide +kernel)) (by decide +kernel)
theorem sX11_147_5 : gSiteU RX11 "FoldedInHalf$Glass" "FoldedInHalf$Strip" ⟨"FoldedInHalf$Strip", "cutOff", "()J"⟩ yX9_cutOff cX9_cutOff 1 (some .long) 147 0 := gSiteU.inh (tb_in (List.mem_of_getElem? (i := 412) (by decide +kernel)) (by decide +kernel)) (tb_in (List.mem_of_getElem? (i := 415) (by decide +kernel)) (by decide +kernel)) (tb_in (List.mem_of_getElem? (i := 420) (by decide +kernel)) (by decide +kernel)) (tb_in (List.mem_of_getElem? (i := 413) (by decide +kernel)) (by decide +kernel)) (tb_in (List.mem_of_getElem? (i := 90) (by decide +kernel)) (by decide +kernel)) (tb_in (List.mem_of_getElem? (i := 424) (by decide +kernel)) (by decide +kernel)) rfl (by decide +kernel)
theorem sX11_147_6 : gSiteU RX11 "FoldedInHalf$Left" "FoldedInHalf$Strip" ⟨"FoldedInHalf$Strip", "cutOff", "()J"⟩ yX9_cutOff cX9_cutOff 1 (some .long) 147 0 := gSiteU.inh (tb_in (List.mem_of_getElem? (i := 412) (by decide +kernel)) (by decide +kernel)) (tb_in (List.mem_of_getElem? (i := 415) (by decide +kernel)) (by decide +kernel)) (tb_in (List.mem_of_getElem? (i := 421) (by decide +kernel)) (by decide +kernel)) (tb_in (List.mem_of_getElem? (i := 413) (by decide +kernel)) (by decide +kernel)) (tb_in (List.mem_of_getElem? (i := 90) (by decide +kernel)) (by decide +kernel)) (tb_in (List.mem_of_getElem? (i := 424) (by decide +kernel)) (by decide +kernel)) rfl (by decide +kernel)
theorem sX11_147_0 : gSite RX11 yX9_cutOff cX9_cutOff 1 (some .long) 147 0 := gSite.of (tb_in (List.mem_of_getElem? (i := 412) (by decide +kernel)) (by decide +kernel)) (tb_in (List.mem_of_getElem? (i := 413) (by decide +kernel)) (by decide +kernel)) (tb_in (List.mem_of_getElem? (i := 414) (by decide +kernel)) (by decide +kernel)) (tb_in (List.mem_of_getElem? (i := 90) (by decide +kernel)) (by decide +kernel)) (tb_in (List.mem_of_getElem? (i := 424) (by decide +kernel)) (by decide +kernel)) (by decide +kernel)
theorem xv_X11_147 {Γ : gT} {cc : ByteArray} {nL : Nat} {D : gD} {ca : Nat → ClassId} {rm : Room} {ret : Option FieldType} {mc ms : Nat} {Post : Option Value → va_W → Prop} {cn sn pc : Nat} {lv : List (Nat × Value)} {st : List Value} {o : Nat → Nat} {L : List Nat} {S : gS} (C0 : Cx Γ cc RX11 nL D (tyW ca) rm ret mc ms Post) {q0 : Nat} (hq0 : q0 ∈ L)  (I : gI) (J : gJ) (R : gR) (L0 : List Nat) (S0 : gS) (Q : Int64 → Prop) (h : wv_cutOff q0  I J R L S Q) (hroom : ∀ l maxL : Nat, l ≤ 0 → maxL ≤ 81 → gRm (rl l) rm maxL 0 0 cn sn) (hst : (st.map fun v => v.category).sum ≤ 8) (st0 : List Value) (hs0 : st0 = ([] : List Value).reverse ++ .ref q0 :: st) (hd : decode cc pc = .ok (.invokevirtual 147, 3)) (k : ∀ (r : Int64) , Q r  → G Γ cn sn (pc + 3) lv (.long r :: st) (cX ca o I J R L S)) : G Γ cn sn pc lv st0 (cX ca o I J R L S) := by
  unfold wv_cutOff at h
  by_cases h1 : sC (S q0) = 1
  · exact x_callU C0 (wX9_k_cutOff hq0   I J R L S Q (h.1 h1)) sX11_147_1 (rcv_1 hq0 h1) (hroom _ _ (by decide) (by decide)) rfl hst st0 hs0 hd (py_l k)
  replace h := h.2 h1
  by_cases h2 : sC (S q0) = 2
  · exact x_callU C0 (wX9_k_cutOff hq0   I J R L S Q (h.1 h2)) sX11_147_2 (rcv_2 hq0 h2) (hroom _ _ (by decide) (by decide)) rfl hst st0 hs0 hd (py_l k)
  replace h := h.2 h2
  by_cases h3 : sC (S q0) = 3
  · exact x_callU C0 (wX2_k_cutOff hq0 (Or.inl h3)   I J R L S Q (h.1 h3)) sX11_147_3 (rcv_3 hq0 h3) (hroom _ _ (by decide) (by decide)) rfl hst st0 hs0 hd (py_l k)
  replace h := h.2 h3
  by_cases h4 : sC (S q0) = 4
  · exact x_callU C0 (wX2_k_cutOff hq0 (Or.inr h4)   I J R L S Q (h.1 h4)) sX11_147_4 (rcv_4 hq0 h4) (hroom _ _ (by decide) (by decide)) rfl hst st0 hs0 hd (py_l k)
  replace h := h.2 h4
  by_cases h5 : sC (S q0) = 5
  · exact x_callU C0 (wX9_k_cutOff hq0   I J R L S Q (h.1 h5)) sX11_147_5 (rcv_5 hq0 h5) (hroom _ _ (by decide) (by decide)) rfl hst st0 hs0 hd (py_l k)
  replace h := h.2 h5
  by_cases h6 : sC (S q0) = 6
  · exact x_callU C0 (wX9_k_cutOff hq0   I J R L S Q (h.1 h6)) sX11_147_6 (rcv_6 hq0 h6) (hroom _ _ (by decide) (by decide)) rfl hst st0 hs0 hd (py_l k)
  replace h := h.2 h6
  exact x_callV C0 (wX9_k_cutOff hq0   I J R L S Q h) sX11_147_0 (rcv_0 hq0 h1 h2 h3 h4 h5 h6) (hroom _ _ (by decide) (by decide)) rfl hst st0 hs0 hd (py_l k)
set_option maxRecDepth 100000 in
theorem wX11_saysAs_gc58 {Γ : gT} {D : gD} {ca : Nat → ClassId} {o : Nat → Nat} {Q : Int32 → Prop} {I : gI} {J : gJ} {R : gR} {L : List Nat} {S : gS} {q0 : Nat} (hq0 : q0 ∈ L) (C : Cx Γ cX11_saysAs RX11 2 D (tyW ca) (rl 4) (some .int) 0 0 (PYi ca o I J R L S Q)) (h : wX11_saysAs_c58 q0 I J R L S Q) : G Γ 0 0 58 [(0, .ref q0)] [] (cX ca o I J R L S) := by
  unfold wX11_saysAs_c58 at h
  refine g_aload_n C (i := 0) dX11_saysAs_58 rfl rfl ?_
  refine xv_X11_147 C hq0 I J R L S _ h (fun l m h1 h2 => rl_ok (by omega) h2) (Nat.le_of_ble_eq_true rfl) (st := []) _ rfl dX11_saysAs_59 (fun r1 h => ?_)
  refine g_ldc2 C (v := 1000) (tb_in (List.mem_of_getElem? (i := 411) (by decide +kernel)) (by decide +kernel)) dX11_saysAs_62 ?_
  refine g_lrem C dX11_saysAs_65 (by decide) ?_
  refine g_l2i C dX11_saysAs_66 ?_
  exact g_ret_i C dX11_saysAs_67 (Nat.le_refl _) (Nat.le_refl _) ⟨_, rfl, rfl, h⟩
set_option maxRecDepth 100000 in
theorem wX11_saysAs_g {Γ : gT} {D : gD} {ca : Nat → ClassId} {o : Nat → Nat} {I : gI} {J : gJ} {R : gR} {L : List Nat} {S : gS} {Q : Int32 → Prop} {q0 : Nat} (hq0 : q0 ∈ L) (v1 : Int32) (C : Cx Γ cX11_saysAs RX11 2 D (tyW ca) (rl 4) (some .int) 0 0 (PYi ca o I J R L S Q)) (h : wX11_saysAs q0 v1 I J R L S Q) : G Γ 0 0 0 [(0, .ref q0), (1, .int v1)] [] (cX ca o I J R L S) := by
  unfold wX11_saysAs at h
  refine g_iload_n C (i := 1) dX11_saysAs_0 rfl rfl ?_
  by_cases c1 : v1 = 0
  · replace h := h.1 c1
    refine g_tin C 36 0 c1 (by decide) (by decide) rfl rfl dX11_saysAs_1 ?_
    refine g_aload_n C (i := 0) dX11_saysAs_36 rfl rfl ?_
    refine x_get_X11_135 C hq0 dX11_saysAs_37 ?_
    exact g_ret_i C dX11_saysAs_40 (Nat.le_refl _) (Nat.le_refl _) ⟨_, rfl, rfl, h⟩
  replace h := h.2 c1
  by_cases c2 : v1 = 1
  · replace h := h.1 c2
    refine g_tin C 41 1 c2 (by decide) (by decide) rfl rfl dX11_saysAs_1 ?_
    refine g_aload_n C (i := 0) dX11_saysAs_41 rfl rfl ?_
    refine x_get_X11_138 C hq0 dX11_saysAs_42 ?_
    refine g_iconst_2 C dX11_saysAs_45 ?_
    refine g_irem C dX11_saysAs_46 (by decide) ?_
    exact g_ret_i C dX11_saysAs_47 (Nat.le_refl _) (Nat.le_refl _) ⟨_, rfl, rfl, h⟩
  replace h := h.2 c2
  by_cases c3 : v1 = 2
  · replace h := h.1 c3
    refine g_tin C 48 2 c3 (by decide) (by decide) rfl rfl dX11_saysAs_1 ?_
    refine g_aload_n C (i := 0) dX11_saysAs_48 rfl rfl ?_
    refine xv_X11_141 C hq0 I J R L S _ h (fun l m h1 h2 => rl_ok (by omega) h2) (Nat.le_of_ble_eq_true rfl) (st := []) _ rfl dX11_saysAs_49 (fun r4 h => ?_)
    refine g_ldc2 C (v := 1000) (tb_in (List.mem_of_getElem? (i := 411) (by decide +kernel)) (by decide +kernel)) dX11_saysAs_52 ?_
    refine g_lrem C dX11_saysAs_55 (by decide) ?_
    refine g_l2i C dX11_saysAs_56 ?_
    exact g_ret_i C dX11_saysAs_57 (Nat.le_refl _) (Nat.le_refl _) ⟨_, rfl, rfl, h⟩
  replace h := h.2 c3
  by_cases c5 : v1 = 3
  · replace h := h.1 c5
    refine g_tin C 58 3 c5 (by decide) (by decide) rfl rfl dX11_saysAs_1 ?_
    exact g_weak [0] rfl (Nat.le_refl _) (Nat.le_refl _) (wX11_saysAs_gc58 hq0 C    h)
  replace h := h.2 c5
  by_cases c6 : v1 = 4
  · replace h := h.1 c6
    refine g_tin C 58 4 c6 (by decide) (by decide) rfl rfl dX11_saysAs_1 ?_
    exact g_weak [0] rfl (Nat.le_refl _) (Nat.le_refl _) (wX11_saysAs_gc58 hq0 C    h)
  replace h := h.2 c6
  refine g_tout C 68 (by have := g_ne (v := 0) (n := 0) c1 (by decide); have := g_ne (v := 1) (n := 1) c2 (by decide); have := g_ne (v := 2) (n := 2) c3 (by decide); have := g_ne (v := 3) (n := 3) c5 (by decide); have := g_ne (v := 4) (n := 4) c6 (by decide); omega) rfl dX11_saysAs_1 ?_
  refine g_aload_n C (i := 0) dX11_saysAs_68 rfl rfl ?_
  refine g_lconst_1 C dX11_saysAs_69 ?_
  refine xv_X11_150 C hq0 1 I J R L S _ h (fun l m h1 h2 => rl_ok (by omega) h2) (Nat.le_of_ble_eq_true rfl) (st := []) _ rfl dX11_saysAs_70 (fun r7 h => ?_)
  exact g_ret_i C dX11_saysAs_73 (Nat.le_refl _) (Nat.le_refl _) ⟨_, rfl, rfl, h⟩
theorem wX11_k_saysAs {D : gD} {ca : Nat → ClassId} {o : Nat → Nat} {L : List Nat} {S : gS} {q0 : Nat} (hq0 : q0 ∈ L) (v1 : Int32) (I : gI) (J : gJ) (R : gR) (L0 : List Nat) (S0 : gS) (Q : Int32 → Prop) (h : wX11_saysAs q0 v1 I J R L S Q) : Ct yX11_saysAs cX11_saysAs 2 (some .int) (rl 4) D (tyW ca) 0 0 [.ref q0, .int v1] (cX ca o I J R L S) (PYi ca o I J R L S Q) := ct_of (rm := (rl 4)) (by decide +kernel) (Nat.le_of_ble_eq_true rfl) (fun Γ C => wX11_saysAs_g hq0 v1 C h)
set_option maxRecDepth 100000 in
theorem wX11_crease_gc34 {Γ : gT} {D : gD} {ca : Nat → ClassId} {o : Nat → Nat} {Q : Int32 → gI → gJ → gR → Prop} {L : List Nat} {S : gS} (C : Cx Γ cX11_crease RX11 4 D (tyW ca) (rl 4) (some .int) 0 0 (PXi ca o L S Q)) (I : gI) (J : gJ) (R : gR) (h : wX11_crease_c34 L S I J R Q) : G Γ 0 0 34 [(0, .ref (o 0))] [] (cX ca o I J R L S) := by
  unfold wX11_crease_c34 at h
  refine g_aload_n C (i := 0) dX11_crease_34 rfl rfl ?_
  refine g_bipush C (v := (-5)) dX11_crease_35 (by decide) ?_
  refine x_callV C (wX11_k_refuse (-5) I J R L S _ h) sX11_73 rcv_main (rl_ok (by decide) (by decide)) rfl (Nat.le_of_ble_eq_true rfl) (st := []) _ rfl dX11_crease_37 (px_i (fun r1 I2 J3 R4 h => ?_))
  exact g_ret_i C dX11_crease_40 (Nat.le_refl _) (Nat.le_refl _) ⟨_, _, _, _, rfl, rfl, h⟩
set_option maxRecDepth 100000 in
theorem wX11_crease_g {Γ : gT} {D : gD} {ca : Nat → ClassId} {o : Nat → Nat} {I : gI} {J : gJ} {R : gR} {L : List Nat} {S : gS} {Q : Int32 → gI → gJ → gR → Prop} (v1 : Int32) (v2 : Int64) (C : Cx Γ cX11_crease RX11 4 D (tyW ca) (rl 4) (some .int) 0 0 (PXi ca o L S Q)) (h : wX11_crease v1 v2 I J R L S Q) : G Γ 0 0 0 [(0, .ref (o 0)), (1, .int v1), (2, .long v2)] [] (cX ca o I J R L S) := by
  unfold wX11_crease at h
  refine g_aload_n C (i := 0) dX11_crease_0 rfl rfl ?_
  refine g_iload_n C (i := 1) dX11_crease_1 rfl rfl ?_
  refine x_callV C (wX11_k_isStrip v1 I J R L S _ h) sX11_118 rcv_main (rl_ok (by decide) (by decide)) rfl (Nat.le_of_ble_eq_true rfl) (st := []) _ rfl dX11_crease_2 (py_z (fun r1 h => ?_))
  refine g_zne C 14 dX11_crease_5 rfl (fun c2 => ?_) (fun c2 => ?_)
  · replace h := h.1 c2
    refine g_lload_n C (i := 2) dX11_crease_14 rfl rfl ?_
    refine g_lconst_1 C dX11_crease_15 ?_
    refine g_llt C 34 dX11_crease_16 dX11_crease_17 rfl (fun c3 => ?_) (fun c3 => ?_)
    · replace h := h.1 c3
      exact g_weak [0] rfl (Nat.le_refl _) (Nat.le_refl _) (wX11_crease_gc34  C   I J R h)
    · replace h := h.2 c3
      refine g_lload_n C (i := 2) dX11_crease_20 rfl rfl ?_
      refine g_aload_n C (i := 0) dX11_crease_21 rfl rfl ?_
      refine x_get_X11_11 C dX11_crease_22 ?_
      refine g_iload_n C (i := 1) dX11_crease_25 rfl rfl ?_
      obtain ⟨h4, h⟩ := h
      refine x_aald C (k := 0) (by decide) h4 dX11_crease_26 ?_
      obtain ⟨z5, h6, h7, h⟩ := h
      refine g_eqs (st' := [.ref z5, .long v2]) (by rw [h6]; rfl) rfl ?_
      refine xv_X11_141 C h7 I J R L S _ h (fun l m h1 h2 => rl_ok (by omega) h2) (Nat.le_of_ble_eq_true rfl) (st := [.long v2]) _ rfl dX11_crease_27 (fun r8 h => ?_)
      refine g_lle C 41 dX11_crease_30 dX11_crease_31 rfl (fun c9 => ?_) (fun c9 => ?_)
      · replace h := h.1 c9
        refine g_aload_n C (i := 0) dX11_crease_41 rfl rfl ?_
        refine x_get_X11_11 C dX11_crease_42 ?_
        refine g_iload_n C (i := 1) dX11_crease_45 rfl rfl ?_
        refine x_aald C (k := 0) (by decide) h4 dX11_crease_46 ?_
        refine g_lload_n C (i := 2) dX11_crease_47 rfl rfl ?_
        refine g_eqs (st' := [.long v2, .ref z5]) (by rw [h6]; rfl) rfl ?_
        refine xv_X11_150 C h7 v2 I J R L S _ h (fun l m h1 h2 => rl_ok (by omega) h2) (Nat.le_of_ble_eq_true rfl) (st := []) _ rfl dX11_crease_48 (fun r10 h => ?_)
        exact g_ret_i C dX11_crease_51 (Nat.le_refl _) (Nat.le_refl _) ⟨_, _, _, _, rfl, rfl, h⟩
      · replace h := h.2 c9
        exact g_weak [0] rfl (Nat.le_refl _) (Nat.le_refl _) (wX11_crease_gc34  C   I J R h)
  · replace h := h.2 c2
    refine g_aload_n C (i := 0) dX11_crease_8 rfl rfl ?_
    refine g_iconst_m1 C dX11_crease_9 ?_
    refine x_callV C (wX11_k_refuse (-1) I J R L S _ h) sX11_73 rcv_main (rl_ok (by decide) (by decide)) rfl (Nat.le_of_ble_eq_true rfl) (st := []) _ rfl dX11_crease_10 (px_i (fun r11 I12 J13 R14 h => ?_))
    exact g_ret_i C dX11_crease_13 (Nat.le_refl _) (Nat.le_refl _) ⟨_, _, _, _, rfl, rfl, h⟩
theorem wX11_k_crease {D : gD} {ca : Nat → ClassId} {o : Nat → Nat} {L : List Nat} {S : gS} (v1 : Int32) (v2 : Int64) (I : gI) (J : gJ) (R : gR) (L0 : List Nat) (S0 : gS) (Q : Int32 → gI → gJ → gR → Prop) (h : wX11_crease v1 v2 I J R L S Q) : Ct yX11_crease cX11_crease 4 (some .int) (rl 4) D (tyW ca) 0 0 [.ref (o 0), .int v1, .long v2] (cX ca o I J R L S) (PXi ca o L S Q) := ct_of (rm := (rl 4)) (by decide +kernel) (Nat.le_of_ble_eq_true rfl) (fun Γ C => wX11_crease_g v1 v2 C h)
theorem sX11_221 : gSite RX11 yX11_noWalk cX11_noWalk 4 (some .int) 221 3 := gSite.of (tb_in (List.mem_of_getElem? (i := 872) (by decide +kernel)) (by decide +kernel)) (tb_in (List.mem_of_getElem? (i := 874) (by decide +kernel)) (by decide +kernel)) (tb_in (List.mem_of_getElem? (i := 17) (by decide +kernel)) (by decide +kernel)) (tb_in (List.mem_of_getElem? (i := 78) (by decide +kernel)) (by decide +kernel)) (tb_in (List.mem_of_getElem? (i := 875) (by decide +kernel)) (by decide +kernel)) (by decide +kernel)
theorem sX11_269 : gSiteS RX11 yX11_isFarOff cX11_isFarOff 1 (some .boolean) 269 1 := gSiteS.of (tb_in (List.mem_of_getElem? (i := 940) (by decide +kernel)) (by decide +kernel)) (tb_in (List.mem_of_getElem? (i := 941) (by decide +kernel)) (by decide +kernel)) (tb_in (List.mem_of_getElem? (i := 78) (by decide +kernel)) (by decide +kernel)) (tb_in (List.mem_of_getElem? (i := 942) (by decide +kernel)) (by decide +kernel)) (by decide +kernel)
set_option maxRecDepth 100000 in
theorem wX11_noNear_gc92 {Γ : gT} {D : gD} {ca : Nat → ClassId} {o : Nat → Nat} {Q : Int32 → Prop} {I : gI} {J : gJ} {R : gR} {L : List Nat} {S : gS} (C : Cx Γ cX11_noNear RX11 10 D (tyW ca) (rl 4) (some .int) 0 0 (PYi ca o I J R L S Q)) (s0 : Int32) (h : wX11_noNear_c92 I J R L S s0 Q) : G Γ 0 0 92 [] [.int s0] (cX ca o I J R L S) := by
  unfold wX11_noNear_c92 at h
  refine g_istore C (i := 9) [(9, .int s0)] dX11_noNear_92 (by decide) rfl ?_
  refine g_iload C (i := 9) dX11_noNear_94 rfl ?_
  refine g_if_eq C 104 dX11_noNear_96 rfl (fun c1 => ?_) (fun c1 => ?_)
  · replace h := h.1 c1
    refine g_iconst_0 C dX11_noNear_104 ?_
    exact g_ret_i C dX11_noNear_105 (Nat.le_refl _) (Nat.le_refl _) ⟨_, rfl, rfl, h⟩
  · replace h := h.2 c1
    refine g_bipush C (v := (-6)) dX11_noNear_99 (by decide) ?_
    refine g_goto C 105 dX11_noNear_101 rfl ?_
    exact g_ret_i C dX11_noNear_105 (Nat.le_refl _) (Nat.le_refl _) ⟨_, rfl, rfl, h⟩
set_option maxRecDepth 100000 in
theorem wX11_noNear_gc87 {Γ : gT} {D : gD} {ca : Nat → ClassId} {o : Nat → Nat} {Q : Int32 → Prop} {I : gI} {J : gJ} {R : gR} {L : List Nat} {S : gS} (C : Cx Γ cX11_noNear RX11 10 D (tyW ca) (rl 4) (some .int) 0 0 (PYi ca o I J R L S Q)) (h : wX11_noNear_c87 I J R L S Q) : G Γ 0 0 87 [] [] (cX ca o I J R L S) := by
  unfold wX11_noNear_c87 at h
  refine g_iconst_1 C dX11_noNear_87 ?_
  refine g_goto C 92 dX11_noNear_88 rfl ?_
  exact g_weak [] rfl (Nat.le_refl _) (Nat.le_refl _) (wX11_noNear_gc92  C  1  h)
set_option maxRecDepth 100000 in
theorem wX11_noNear_gc64 {Γ : gT} {D : gD} {ca : Nat → ClassId} {o : Nat → Nat} {Q : Int32 → Prop} {I : gI} {J : gJ} {R : gR} {L : List Nat} {S : gS} (C : Cx Γ cX11_noNear RX11 10 D (tyW ca) (rl 4) (some .int) 0 0 (PYi ca o I J R L S Q)) (v4 : Int32) (v5 : Int32) (v7 : Int32) (h : wX11_noNear_c64 I J R L S v4 v5 v7 Q) : G Γ 0 0 64 [(4, .int v4), (5, .int v5), (7, .int v7)] [] (cX ca o I J R L S) := by
  unfold wX11_noNear_c64 at h
  refine g_iload C (i := 7) dX11_noNear_64 rfl ?_
  refine g_bipush C (v := (-6)) dX11_noNear_66 (by decide) ?_
  refine g_icmp_eq C 87 dX11_noNear_68 rfl (fun c1 => ?_) (fun c1 => ?_)
  · replace h := h.1 c1
    exact g_weak [] rfl (Nat.le_refl _) (Nat.le_refl _) (wX11_noNear_gc87  C    h)
  · replace h := h.2 c1
    refine g_iload C (i := 4) dX11_noNear_71 rfl ?_
    refine x_callS C (wX11_k_isFarOff v4 I J R L S _ h) sX11_269 (rl_ok (by decide) (by decide)) rfl (Nat.le_of_ble_eq_true rfl) (st := []) _ rfl dX11_noNear_73 (py_z (fun r2 h => ?_))
    refine g_zne C 87 dX11_noNear_76 rfl (fun c3 => ?_) (fun c3 => ?_)
    · replace h := h.1 c3
      exact g_weak [] rfl (Nat.le_refl _) (Nat.le_refl _) (wX11_noNear_gc87  C    h)
    · replace h := h.2 c3
      refine g_iload C (i := 5) dX11_noNear_79 rfl ?_
      refine x_callS C (wX11_k_isFarOff v5 I J R L S _ h) sX11_269 (rl_ok (by decide) (by decide)) rfl (Nat.le_of_ble_eq_true rfl) (st := []) _ rfl dX11_noNear_81 (py_z (fun r4 h => ?_))
      refine g_zeq C 91 dX11_noNear_84 rfl (fun c5 => ?_) (fun c5 => ?_)
      · replace h := h.1 c5
        refine g_iconst_0 C dX11_noNear_91 ?_
        exact g_weak [] rfl (Nat.le_refl _) (Nat.le_refl _) (wX11_noNear_gc92  C  0  h)
      · replace h := h.2 c5
        exact g_weak [] rfl (Nat.le_refl _) (Nat.le_refl _) (wX11_noNear_gc87  C    h)
set_option maxRecDepth 100000 in
theorem wX11_noNear_g {Γ : gT} {D : gD} {ca : Nat → ClassId} {o : Nat → Nat} {I : gI} {J : gJ} {R : gR} {L : List Nat} {S : gS} {Q : Int32 → Prop} (v1 : Int32) (v2 : Int32) (v3 : Int32) (v4 : Int32) (v5 : Int32) (v6 : Int32) (C : Cx Γ cX11_noNear RX11 10 D (tyW ca) (rl 4) (some .int) 0 0 (PYi ca o I J R L S Q)) (h : wX11_noNear v1 v2 v3 v4 v5 v6 I J R L S Q) : G Γ 0 0 0 [(0, .ref (o 0)), (1, .int v1), (2, .int v2), (3, .int v3), (4, .int v4), (5, .int v5), (6, .int v6)] [] (cX ca o I J R L S) := by
  unfold wX11_noNear at h
  refine g_aload_n C (i := 0) dX11_noNear_0 rfl rfl ?_
  refine g_iload_n C (i := 1) dX11_noNear_1 rfl rfl ?_
  refine g_iload_n C (i := 3) dX11_noNear_2 rfl rfl ?_
  refine g_sipush C (v := 4000) dX11_noNear_3 (by decide) ?_
  refine x_callV C (wX11_k_noWalk v1 v3 4000 I J R L S _ h) sX11_221 rcv_main (rl_ok (by decide) (by decide)) rfl (Nat.le_of_ble_eq_true rfl) (st := []) _ rfl dX11_noNear_6 (py_i (fun r1 h => ?_))
  refine g_istore C (i := 7) [(0, .ref (o 0)), (1, .int v1), (2, .int v2), (3, .int v3), (4, .int v4), (5, .int v5), (6, .int v6), (7, .int r1)] dX11_noNear_9 (by decide) rfl ?_
  refine g_aload_n C (i := 0) dX11_noNear_11 rfl rfl ?_
  refine g_iload_n C (i := 2) dX11_noNear_12 rfl rfl ?_
  refine g_iload_n C (i := 3) dX11_noNear_13 rfl rfl ?_
  refine g_sipush C (v := 4000) dX11_noNear_14 (by decide) ?_
  refine x_callV C (wX11_k_noWalk v2 v3 4000 I J R L S _ h) sX11_221 rcv_main (rl_ok (by decide) (by decide)) rfl (Nat.le_of_ble_eq_true rfl) (st := []) _ rfl dX11_noNear_17 (py_i (fun r2 h => ?_))
  refine g_istore C (i := 8) [(0, .ref (o 0)), (1, .int v1), (2, .int v2), (3, .int v3), (4, .int v4), (5, .int v5), (6, .int v6), (7, .int r1), (8, .int r2)] dX11_noNear_20 (by decide) rfl ?_
  refine g_iload C (i := 7) dX11_noNear_22 rfl ?_
  refine g_iconst_m1 C dX11_noNear_24 ?_
  refine g_icmp_eq C 34 dX11_noNear_25 rfl (fun c3 => ?_) (fun c3 => ?_)
  · replace h := h.1 c3
    refine g_iconst_m1 C dX11_noNear_34 ?_
    exact g_ret_i C dX11_noNear_35 (Nat.le_refl _) (Nat.le_refl _) ⟨_, rfl, rfl, h⟩
  · replace h := h.2 c3
    refine g_iload C (i := 8) dX11_noNear_28 rfl ?_
    refine g_iconst_m1 C dX11_noNear_30 ?_
    refine g_icmp_ne C 36 dX11_noNear_31 rfl (fun c4 => ?_) (fun c4 => ?_)
    · replace h := h.1 c4
      refine g_iload C (i := 7) dX11_noNear_36 rfl ?_
      refine g_bipush C (v := (-5)) dX11_noNear_38 (by decide) ?_
      refine g_icmp_eq C 61 dX11_noNear_40 rfl (fun c5 => ?_) (fun c5 => ?_)
      · replace h := h.1 c5
        refine g_bipush C (v := (-5)) dX11_noNear_61 (by decide) ?_
        exact g_ret_i C dX11_noNear_63 (Nat.le_refl _) (Nat.le_refl _) ⟨_, rfl, rfl, h⟩
      · replace h := h.2 c5
        refine g_iload C (i := 8) dX11_noNear_43 rfl ?_
        refine g_bipush C (v := (-5)) dX11_noNear_45 (by decide) ?_
        refine g_icmp_eq C 61 dX11_noNear_47 rfl (fun c6 => ?_) (fun c6 => ?_)
        · replace h := h.1 c6
          refine g_bipush C (v := (-5)) dX11_noNear_61 (by decide) ?_
          exact g_ret_i C dX11_noNear_63 (Nat.le_refl _) (Nat.le_refl _) ⟨_, rfl, rfl, h⟩
        · replace h := h.2 c6
          refine g_iload C (i := 6) dX11_noNear_50 rfl ?_
          refine g_if_eq C 64 dX11_noNear_52 rfl (fun c7 => ?_) (fun c7 => ?_)
          · replace h := h.1 c7
            exact g_weak [4, 5, 7] rfl (Nat.le_refl _) (Nat.le_refl _) (wX11_noNear_gc64  C  v4 v5 r1  h)
          · replace h := h.2 c7
            refine g_iload C (i := 6) dX11_noNear_55 rfl ?_
            refine g_iconst_1 C dX11_noNear_57 ?_
            refine g_icmp_eq C 64 dX11_noNear_58 rfl (fun c8 => ?_) (fun c8 => ?_)
            · replace h := h.1 c8
              exact g_weak [4, 5, 7] rfl (Nat.le_refl _) (Nat.le_refl _) (wX11_noNear_gc64  C  v4 v5 r1  h)
            · replace h := h.2 c8
              refine g_bipush C (v := (-5)) dX11_noNear_61 (by decide) ?_
              exact g_ret_i C dX11_noNear_63 (Nat.le_refl _) (Nat.le_refl _) ⟨_, rfl, rfl, h⟩
    · replace h := h.2 c4
      refine g_iconst_m1 C dX11_noNear_34 ?_
      exact g_ret_i C dX11_noNear_35 (Nat.le_refl _) (Nat.le_refl _) ⟨_, rfl, rfl, h⟩
theorem wX11_k_noNear {D : gD} {ca : Nat → ClassId} {o : Nat → Nat} {L : List Nat} {S : gS} (v1 : Int32) (v2 : Int32) (v3 : Int32) (v4 : Int32) (v5 : Int32) (v6 : Int32) (I : gI) (J : gJ) (R : gR) (L0 : List Nat) (S0 : gS) (Q : Int32 → Prop) (h : wX11_noNear v1 v2 v3 v4 v5 v6 I J R L S Q) : Ct yX11_noNear cX11_noNear 10 (some .int) (rl 4) D (tyW ca) 0 0 [.ref (o 0), .int v1, .int v2, .int v3, .int v4, .int v5, .int v6] (cX ca o I J R L S) (PYi ca o I J R L S Q) := ct_of (rm := (rl 4)) (by decide +kernel) (Nat.le_of_ble_eq_true rfl) (fun Γ C => wX11_noNear_g v1 v2 v3 v4 v5 v6 C h)
theorem sX11_275 : gSite RX11 yX11_noTold cX11_noTold 4 (some .int) 275 2 := gSite.of (tb_in (List.mem_of_getElem? (i := 964) (by decide +kernel)) (by decide +kernel)) (tb_in (List.mem_of_getElem? (i := 966) (by decide +kernel)) (by decide +kernel)) (tb_in (List.mem_of_getElem? (i := 21) (by decide +kernel)) (by decide +kernel)) (tb_in (List.mem_of_getElem? (i := 78) (by decide +kernel)) (by decide +kernel)) (tb_in (List.mem_of_getElem? (i := 967) (by decide +kernel)) (by decide +kernel)) (by decide +kernel)
theorem sX11_278 : gSiteS RX11 yX11_levelsReached cX11_levelsReached 1 (some .int) 278 1 := gSiteS.of (tb_in (List.mem_of_getElem? (i := 968) (by decide +kernel)) (by decide +kernel)) (tb_in (List.mem_of_getElem? (i := 969) (by decide +kernel)) (by decide +kernel)) (tb_in (List.mem_of_getElem? (i := 78) (by decide +kernel)) (by decide +kernel)) (tb_in (List.mem_of_getElem? (i := 970) (by decide +kernel)) (by decide +kernel)) (by decide +kernel)
theorem sX11_281 : gSiteS RX11 yX11_levelsAsked cX11_levelsAsked 5 (some .int) 281 3 := gSiteS.of (tb_in (List.mem_of_getElem? (i := 975) (by decide +kernel)) (by decide +kernel)) (tb_in (List.mem_of_getElem? (i := 976) (by decide +kernel)) (by decide +kernel)) (tb_in (List.mem_of_getElem? (i := 78) (by decide +kernel)) (by decide +kernel)) (tb_in (List.mem_of_getElem? (i := 977) (by decide +kernel)) (by decide +kernel)) (by decide +kernel)
set_option maxRecDepth 100000 in
theorem wX11_words_gc84 {Γ : gT} {D : gD} {ca : Nat → ClassId} {o : Nat → Nat} {Q : Int32 → gI → gJ → gR → Prop} {L : List Nat} {S : gS} (C : Cx Γ cX11_words RX11 8 D (tyW ca) (rl 4) (some .int) 0 0 (PXi ca o L S Q)) (v2 : Int32) (v3 : Int32) (v5 : Int32) (v6 : Int32) (s0 : Int32) (I : gI) (J : gJ) (R : gR) (h : wX11_words_c84 L S v2 v3 v5 v6 s0 I J R Q) : G Γ 0 0 84 [(0, .ref (o 0)), (2, .int v2), (3, .int v3), (5, .int v5), (6, .int v6)] [.int s0] (cX ca o I J R L S) := by
  unfold wX11_words_c84 at h
  refine g_istore C (i := 7) [(0, .ref (o 0)), (2, .int v2), (3, .int v3), (5, .int v5), (6, .int v6), (7, .int s0)] dX11_words_84 (by decide) rfl ?_
  refine g_iload_n C (i := 3) dX11_words_86 rfl rfl ?_
  refine g_iconst_m1 C dX11_words_87 ?_
  refine g_icmp_ne C 114 dX11_words_88 rfl (fun c1 => ?_) (fun c1 => ?_)
  · replace h := h.1 c1
    refine g_iload C (i := 7) dX11_words_114 rfl ?_
    refine g_if_ne C 129 dX11_words_116 rfl (fun c2 => ?_) (fun c2 => ?_)
    · replace h := h.1 c2
      refine g_iload C (i := 5) dX11_words_129 rfl ?_
      refine g_iload_n C (i := 3) dX11_words_131 rfl rfl ?_
      refine g_ishr C dX11_words_132 ?_
      refine g_iconst_1 C dX11_words_133 ?_
      refine g_iand C dX11_words_134 ?_
      exact g_ret_i C dX11_words_135 (Nat.le_refl _) (Nat.le_refl _) ⟨_, _, _, _, rfl, rfl, h⟩
    · replace h := h.2 c2
      refine g_aload_n C (i := 0) dX11_words_119 rfl rfl ?_
      refine g_bipush C (v := (-5)) dX11_words_120 (by decide) ?_
      refine x_callV C (wX11_k_refuse (-5) I J R L S _ h) sX11_73 rcv_main (rl_ok (by decide) (by decide)) rfl (Nat.le_of_ble_eq_true rfl) (st := []) _ rfl dX11_words_122 (px_i (fun r3 I4 J5 R6 h => ?_))
      refine g_bipush C (v := (-10)) dX11_words_125 (by decide) ?_
      refine g_iadd C dX11_words_127 ?_
      exact g_ret_i C dX11_words_128 (Nat.le_refl _) (Nat.le_refl _) ⟨_, _, _, _, rfl, rfl, h⟩
  · replace h := h.2 c1
    refine g_iload C (i := 7) dX11_words_91 rfl ?_
    refine g_if_eq C 112 dX11_words_93 rfl (fun c7 => ?_) (fun c7 => ?_)
    · replace h := h.1 c7
      refine g_iconst_m1 C dX11_words_112 ?_
      exact g_ret_i C dX11_words_113 (Nat.le_refl _) (Nat.le_refl _) ⟨_, _, _, _, rfl, rfl, h⟩
    · replace h := h.2 c7
      refine g_iload_n C (i := 2) dX11_words_96 rfl rfl ?_
      refine x_callS C (wX11_k_levelsReached v2 I J R L S _ h) sX11_278 (rl_ok (by decide) (by decide)) rfl (Nat.le_of_ble_eq_true rfl) (st := []) _ rfl dX11_words_97 (py_i (fun r8 h => ?_))
      refine g_iload C (i := 5) dX11_words_100 rfl ?_
      refine g_iload C (i := 6) dX11_words_102 rfl ?_
      refine g_ior C dX11_words_104 ?_
      refine x_callS C (wJ6_k_bitCount_0f7a4 (v5 ||| v6) I J R L S _ h) sX11_285 (rl_ok (by decide) (by decide)) rfl (Nat.le_of_ble_eq_true rfl) (st := [.int r8]) _ rfl dX11_words_105 (py_i (fun r9 h => ?_))
      refine g_isub C dX11_words_108 ?_
      refine g_goto C 113 dX11_words_109 rfl ?_
      exact g_ret_i C dX11_words_113 (Nat.le_refl _) (Nat.le_refl _) ⟨_, _, _, _, rfl, rfl, h⟩
set_option maxRecDepth 100000 in
theorem wX11_words_gc30 {Γ : gT} {D : gD} {ca : Nat → ClassId} {o : Nat → Nat} {Q : Int32 → gI → gJ → gR → Prop} {L : List Nat} {S : gS} (C : Cx Γ cX11_words RX11 8 D (tyW ca) (rl 4) (some .int) 0 0 (PXi ca o L S Q)) (v1 : Int32) (v2 : Int32) (v3 : Int32) (v4 : Int32) (I : gI) (J : gJ) (R : gR) (h : wX11_words_c30 L S v1 v2 v3 v4 I J R Q) : G Γ 0 0 30 [(0, .ref (o 0)), (1, .int v1), (2, .int v2), (3, .int v3), (4, .int v4)] [] (cX ca o I J R L S) := by
  unfold wX11_words_c30 at h
  refine g_iload C (i := 4) dX11_words_30 rfl ?_
  refine g_if_eq C 45 dX11_words_32 rfl (fun c1 => ?_) (fun c1 => ?_)
  · replace h := h.1 c1
    refine g_aload_n C (i := 0) dX11_words_45 rfl rfl ?_
    refine x_get_X11_24 C dX11_words_46 ?_
    refine g_iload_n C (i := 1) dX11_words_49 rfl rfl ?_
    obtain ⟨h2, h⟩ := h
    refine x_shelf C h2 dX11_words_50 ?_
    refine g_iload_n C (i := 2) dX11_words_51 rfl rfl ?_
    refine g_iconst_1 C dX11_words_52 ?_
    refine x_callS C (wX11_k_levelsAsked (vp_lt h2) v2 1 I J R L S _ h) sX11_281 (rl_ok (by decide) (by decide)) rfl (Nat.le_of_ble_eq_true rfl) (st := []) _ rfl dX11_words_53 (py_i (fun r3 h => ?_))
    refine g_istore C (i := 5) [(0, .ref (o 0)), (1, .int v1), (2, .int v2), (3, .int v3), (4, .int v4), (5, .int r3)] dX11_words_56 (by decide) rfl ?_
    refine g_aload_n C (i := 0) dX11_words_58 rfl rfl ?_
    refine x_get_X11_24 C dX11_words_59 ?_
    refine g_iload_n C (i := 1) dX11_words_62 rfl rfl ?_
    refine x_shelf C h2 dX11_words_63 ?_
    refine g_iload_n C (i := 2) dX11_words_64 rfl rfl ?_
    refine g_iconst_0 C dX11_words_65 ?_
    refine x_callS C (wX11_k_levelsAsked (vp_lt h2) v2 0 I J R L S _ h) sX11_281 (rl_ok (by decide) (by decide)) rfl (Nat.le_of_ble_eq_true rfl) (st := []) _ rfl dX11_words_66 (py_i (fun r4 h => ?_))
    refine g_istore C (i := 6) [(0, .ref (o 0)), (1, .int v1), (2, .int v2), (3, .int v3), (4, .int v4), (5, .int r3), (6, .int r4)] dX11_words_69 (by decide) rfl ?_
    refine g_iload C (i := 5) dX11_words_71 rfl ?_
    refine g_iload C (i := 6) dX11_words_73 rfl ?_
    refine g_iand C dX11_words_75 ?_
    refine g_if_ne C 83 dX11_words_76 rfl (fun c5 => ?_) (fun c5 => ?_)
    · replace h := h.1 c5
      refine g_iconst_0 C dX11_words_83 ?_
      exact g_weak [0, 2, 3, 5, 6] rfl (Nat.le_refl _) (Nat.le_refl _) (wX11_words_gc84  C  v2 v3 r3 r4 0 I J R h)
    · replace h := h.2 c5
      refine g_iconst_1 C dX11_words_79 ?_
      refine g_goto C 84 dX11_words_80 rfl ?_
      exact g_weak [0, 2, 3, 5, 6] rfl (Nat.le_refl _) (Nat.le_refl _) (wX11_words_gc84  C  v2 v3 r3 r4 1 I J R h)
  · replace h := h.2 c1
    refine g_aload_n C (i := 0) dX11_words_35 rfl rfl ?_
    refine g_iload C (i := 4) dX11_words_36 rfl ?_
    refine x_callV C (wX11_k_refuse v4 I J R L S _ h) sX11_73 rcv_main (rl_ok (by decide) (by decide)) rfl (Nat.le_of_ble_eq_true rfl) (st := []) _ rfl dX11_words_38 (px_i (fun r6 I7 J8 R9 h => ?_))
    refine g_bipush C (v := (-10)) dX11_words_41 (by decide) ?_
    refine g_iadd C dX11_words_43 ?_
    exact g_ret_i C dX11_words_44 (Nat.le_refl _) (Nat.le_refl _) ⟨_, _, _, _, rfl, rfl, h⟩
set_option maxRecDepth 100000 in
theorem wX11_words_gc26 {Γ : gT} {D : gD} {ca : Nat → ClassId} {o : Nat → Nat} {Q : Int32 → gI → gJ → gR → Prop} {L : List Nat} {S : gS} (C : Cx Γ cX11_words RX11 8 D (tyW ca) (rl 4) (some .int) 0 0 (PXi ca o L S Q)) (v1 : Int32) (v2 : Int32) (v3 : Int32) (I : gI) (J : gJ) (R : gR) (h : wX11_words_c26 L S v1 v2 v3 I J R Q) : G Γ 0 0 26 [(0, .ref (o 0)), (1, .int v1), (2, .int v2), (3, .int v3)] [] (cX ca o I J R L S) := by
  unfold wX11_words_c26 at h
  refine g_bipush C (v := (-5)) dX11_words_26 (by decide) ?_
  refine g_istore C (i := 4) [(0, .ref (o 0)), (1, .int v1), (2, .int v2), (3, .int v3), (4, .int (-5))] dX11_words_28 (by decide) rfl ?_
  exact g_weak [0, 1, 2, 3, 4] rfl (Nat.le_refl _) (Nat.le_refl _) (wX11_words_gc30  C  v1 v2 v3 (-5) I J R h)
set_option maxRecDepth 100000 in
theorem wX11_words_g {Γ : gT} {D : gD} {ca : Nat → ClassId} {o : Nat → Nat} {I : gI} {J : gJ} {R : gR} {L : List Nat} {S : gS} {Q : Int32 → gI → gJ → gR → Prop} (v1 : Int32) (v2 : Int32) (v3 : Int32) (C : Cx Γ cX11_words RX11 8 D (tyW ca) (rl 4) (some .int) 0 0 (PXi ca o L S Q)) (h : wX11_words v1 v2 v3 I J R L S Q) : G Γ 0 0 0 [(0, .ref (o 0)), (1, .int v1), (2, .int v2), (3, .int v3)] [] (cX ca o I J R L S) := by
  unfold wX11_words at h
  refine g_aload_n C (i := 0) dX11_words_0 rfl rfl ?_
  refine g_iload_n C (i := 1) dX11_words_1 rfl rfl ?_
  refine g_iload_n C (i := 2) dX11_words_2 rfl rfl ?_
  refine x_callV C (wX11_k_noTold v1 v2 I J R L S _ h) sX11_275 rcv_main (rl_ok (by decide) (by decide)) rfl (Nat.le_of_ble_eq_true rfl) (st := []) _ rfl dX11_words_3 (py_i (fun r1 h => ?_))
  refine g_istore C (i := 4) [(0, .ref (o 0)), (1, .int v1), (2, .int v2), (3, .int v3), (4, .int r1)] dX11_words_6 (by decide) rfl ?_
  refine g_iload C (i := 4) dX11_words_8 rfl ?_
  refine g_if_ne C 30 dX11_words_10 rfl (fun c2 => ?_) (fun c2 => ?_)
  · replace h := h.1 c2
    exact g_weak [0, 1, 2, 3, 4] rfl (Nat.le_refl _) (Nat.le_refl _) (wX11_words_gc30  C  v1 v2 v3 r1 I J R h)
  · replace h := h.2 c2
    refine g_iload_n C (i := 3) dX11_words_13 rfl rfl ?_
    refine g_iconst_m1 C dX11_words_14 ?_
    refine g_icmp_lt C 26 dX11_words_15 rfl (fun c3 => ?_) (fun c3 => ?_)
    · replace h := h.1 c3
      exact g_weak [0, 1, 2, 3] rfl (Nat.le_refl _) (Nat.le_refl _) (wX11_words_gc26  C  v1 v2 v3 I J R h)
    · replace h := h.2 c3
      refine g_iload_n C (i := 3) dX11_words_18 rfl rfl ?_
      refine g_iload_n C (i := 2) dX11_words_19 rfl rfl ?_
      refine x_callS C (wX11_k_levelsReached v2 I J R L S _ h) sX11_278 (rl_ok (by decide) (by decide)) rfl (Nat.le_of_ble_eq_true rfl) (st := [.int v3]) _ rfl dX11_words_20 (py_i (fun r4 h => ?_))
      refine g_icmp_lt C 30 dX11_words_23 rfl (fun c5 => ?_) (fun c5 => ?_)
      · replace h := h.1 c5
        exact g_weak [0, 1, 2, 3, 4] rfl (Nat.le_refl _) (Nat.le_refl _) (wX11_words_gc30  C  v1 v2 v3 r1 I J R h)
      · replace h := h.2 c5
        exact g_weak [0, 1, 2, 3] rfl (Nat.le_refl _) (Nat.le_refl _) (wX11_words_gc26  C  v1 v2 v3 I J R h)
theorem wX11_k_words {D : gD} {ca : Nat → ClassId} {o : Nat → Nat} {L : List Nat} {S : gS} (v1 : Int32) (v2 : Int32) (v3 : Int32) (I : gI) (J : gJ) (R : gR) (L0 : List Nat) (S0 : gS) (Q : Int32 → gI → gJ → gR → Prop) (h : wX11_words v1 v2 v3 I J R L S Q) : Ct yX11_words cX11_words 8 (some .int) (rl 4) D (tyW ca) 0 0 [.ref (o 0), .int v1, .int v2, .int v3] (cX ca o I J R L S) (PXi ca o L S Q) := ct_of (rm := (rl 4)) (by decide +kernel) (Nat.le_of_ble_eq_true rfl) (fun Γ C => wX11_words_g v1 v2 v3 C h)
set_option maxRecDepth 100000 in
theorem wX11_wrong_gb23 {Γ : gT} {D : gD} {ca : Nat → ClassId} {o : Nat → Nat} {Q : Int32 → gI → gJ → gR → Prop} {L : List Nat} {S : gS} (C : Cx Γ cX11_wrong RX11 5 D (tyW ca) (rl 4) (some .int) 0 0 (PXi ca o L S Q)) {B23 : Int32 → Int32 → Int32 → gI → gJ → gR → Prop} (hB23 : ∀ (v1 : Int32) (v2 : Int32) (v4 : Int32) (I : gI) (J : gJ) (R : gR), B23 v1 v2 v4 I J R → G Γ 0 0 23 [(0, .ref (o 0)), (1, .int v1), (2, .int v2), (4, .int v4)] [] (cX ca o I J R L S)) (v1 : Int32) (v2 : Int32) (v4 : Int32) (I : gI) (J : gJ) (R : gR) (h : wX11_wrong_b23 L S B23 v1 v2 v4 I J R Q) : G Γ 0 0 23 [(0, .ref (o 0)), (1, .int v1), (2, .int v2), (4, .int v4)] [] (cX ca o I J R L S) := by
  unfold wX11_wrong_b23 at h
  refine g_iload C (i := 4) dX11_wrong_23 rfl ?_
  refine g_iload_n C (i := 2) dX11_wrong_25 rfl rfl ?_
  refine g_icmp_gt C 66 dX11_wrong_26 rfl (fun c1 => ?_) (fun c1 => ?_)
  · replace h := h.1 c1
    refine g_iconst_m1 C dX11_wrong_66 ?_
    exact g_ret_i C dX11_wrong_67 (Nat.le_refl _) (Nat.le_refl _) ⟨_, _, _, _, rfl, rfl, h⟩
  · replace h := h.2 c1
    refine g_aload_n C (i := 0) dX11_wrong_29 rfl rfl ?_
    refine x_get_X11_24 C dX11_wrong_30 ?_
    refine g_iload_n C (i := 1) dX11_wrong_33 rfl rfl ?_
    obtain ⟨h2, h⟩ := h
    refine x_shelf C h2 dX11_wrong_34 ?_
    refine g_iload C (i := 4) dX11_wrong_35 rfl ?_
    refine g_iconst_1 C dX11_wrong_37 ?_
    refine x_callS C (wX11_k_levelsAsked (vp_lt h2) v4 1 I J R L S _ h) sX11_281 (rl_ok (by decide) (by decide)) rfl (Nat.le_of_ble_eq_true rfl) (st := []) _ rfl dX11_wrong_38 (py_i (fun r3 h => ?_))
    refine g_aload_n C (i := 0) dX11_wrong_41 rfl rfl ?_
    refine x_get_X11_24 C dX11_wrong_42 ?_
    refine g_iload_n C (i := 1) dX11_wrong_45 rfl rfl ?_
    refine x_shelf C h2 dX11_wrong_46 ?_
    refine g_iload C (i := 4) dX11_wrong_47 rfl ?_
    refine g_iconst_0 C dX11_wrong_49 ?_
    refine x_callS C (wX11_k_levelsAsked (vp_lt h2) v4 0 I J R L S _ h) sX11_281 (rl_ok (by decide) (by decide)) rfl (Nat.le_of_ble_eq_true rfl) (st := [.int r3]) _ rfl dX11_wrong_50 (py_i (fun r4 h => ?_))
    refine g_iand C dX11_wrong_53 ?_
    refine g_if_eq C 60 dX11_wrong_54 rfl (fun c5 => ?_) (fun c5 => ?_)
    · replace h := h.1 c5
      refine g_iinc C 1 [(0, .ref (o 0)), (1, .int v1), (2, .int v2), (4, .int (v4 + 1))] dX11_wrong_60 rfl (by decide) (by decide) rfl ?_
      refine g_goto C 23 dX11_wrong_63 rfl ?_
      exact g_weak [0, 1, 2, 3] rfl (Nat.le_refl _) (Nat.le_refl _) (hB23 v1 v2 (v4 + 1) I J R h)
    · replace h := h.2 c5
      refine g_iload C (i := 4) dX11_wrong_57 rfl ?_
      exact g_ret_i C dX11_wrong_59 (Nat.le_refl _) (Nat.le_refl _) ⟨_, _, _, _, rfl, rfl, h⟩
theorem wX11_wrong_gl23 {Γ : gT} {D : gD} {ca : Nat → ClassId} {o : Nat → Nat} {Q : Int32 → gI → gJ → gR → Prop} {L : List Nat} {S : gS} (C : Cx Γ cX11_wrong RX11 5 D (tyW ca) (rl 4) (some .int) 0 0 (PXi ca o L S Q)) : ∀ (n : Nat) (v1 : Int32) (v2 : Int32) (v4 : Int32) (I : gI) (J : gJ) (R : gR) (_ : wX11_wrong_l23 L S Q n v1 v2 v4 I J R), G Γ 0 0 23 [(0, .ref (o 0)), (1, .int v1), (2, .int v2), (4, .int v4)] [] (cX ca o I J R L S) := by
  intro n
  induction n with
  | zero => intro v1 v2 v4 I J R h; exact h.elim
  | succ n ih => intro v1 v2 v4 I J R h; exact wX11_wrong_gb23 C ih v1 v2 v4 I J R h
set_option maxRecDepth 100000 in
theorem wX11_wrong_g {Γ : gT} {D : gD} {ca : Nat → ClassId} {o : Nat → Nat} {I : gI} {J : gJ} {R : gR} {L : List Nat} {S : gS} {Q : Int32 → gI → gJ → gR → Prop} (v1 : Int32) (v2 : Int32) (C : Cx Γ cX11_wrong RX11 5 D (tyW ca) (rl 4) (some .int) 0 0 (PXi ca o L S Q)) (h : wX11_wrong v1 v2 I J R L S Q) : G Γ 0 0 0 [(0, .ref (o 0)), (1, .int v1), (2, .int v2)] [] (cX ca o I J R L S) := by
  unfold wX11_wrong at h
  refine g_aload_n C (i := 0) dX11_wrong_0 rfl rfl ?_
  refine g_iload_n C (i := 1) dX11_wrong_1 rfl rfl ?_
  refine g_iload_n C (i := 2) dX11_wrong_2 rfl rfl ?_
  refine x_callV C (wX11_k_noTold v1 v2 I J R L S _ h) sX11_275 rcv_main (rl_ok (by decide) (by decide)) rfl (Nat.le_of_ble_eq_true rfl) (st := []) _ rfl dX11_wrong_3 (py_i (fun r1 h => ?_))
  refine g_istore_n C (i := 3) [(0, .ref (o 0)), (1, .int v1), (2, .int v2), (3, .int r1)] dX11_wrong_6 rfl (by decide) rfl ?_
  refine g_iload_n C (i := 3) dX11_wrong_7 rfl rfl ?_
  refine g_if_eq C 20 dX11_wrong_8 rfl (fun c2 => ?_) (fun c2 => ?_)
  · replace h := h.1 c2
    refine g_iconst_1 C dX11_wrong_20 ?_
    refine g_istore C (i := 4) [(0, .ref (o 0)), (1, .int v1), (2, .int v2), (3, .int r1), (4, .int 1)] dX11_wrong_21 (by decide) rfl ?_
    obtain ⟨n, h⟩ := h
    exact g_weak [0, 1, 2, 4] rfl (Nat.le_refl _) (Nat.le_refl _) (wX11_wrong_gl23  C  n v1 v2 1 I J R h)
  · replace h := h.2 c2
    refine g_aload_n C (i := 0) dX11_wrong_11 rfl rfl ?_
    refine g_iload_n C (i := 3) dX11_wrong_12 rfl rfl ?_
    refine x_callV C (wX11_k_refuse r1 I J R L S _ h) sX11_73 rcv_main (rl_ok (by decide) (by decide)) rfl (Nat.le_of_ble_eq_true rfl) (st := []) _ rfl dX11_wrong_13 (px_i (fun r3 I4 J5 R6 h => ?_))
    refine g_bipush C (v := (-10)) dX11_wrong_16 (by decide) ?_
    refine g_iadd C dX11_wrong_18 ?_
    exact g_ret_i C dX11_wrong_19 (Nat.le_refl _) (Nat.le_refl _) ⟨_, _, _, _, rfl, rfl, h⟩
theorem wX11_k_wrong {D : gD} {ca : Nat → ClassId} {o : Nat → Nat} {L : List Nat} {S : gS} (v1 : Int32) (v2 : Int32) (I : gI) (J : gJ) (R : gR) (L0 : List Nat) (S0 : gS) (Q : Int32 → gI → gJ → gR → Prop) (h : wX11_wrong v1 v2 I J R L S Q) : Ct yX11_wrong cX11_wrong 5 (some .int) (rl 4) D (tyW ca) 0 0 [.ref (o 0), .int v1, .int v2] (cX ca o I J R L S) (PXi ca o L S Q) := ct_of (rm := (rl 4)) (by decide +kernel) (Nat.le_of_ble_eq_true rfl) (fun Γ C => wX11_wrong_g v1 v2 C h)
theorem mmin_X11_294 : Cond.methodLink RX11 294 Lib.Math.min.name ∈ tb := (tb_in (List.mem_of_getElem? (i := 995) (by decide +kernel)) (by decide +kernel))
set_option maxRecDepth 100000 in
theorem wX11_mend_gc86 {Γ : gT} {D : gD} {ca : Nat → ClassId} {o : Nat → Nat} {Q : Int32 → gI → gJ → gR → Prop} {L : List Nat} {S : gS} (C : Cx Γ cX11_mend RX11 10 D (tyW ca) (rl 4) (some .int) 0 0 (PXi ca o L S Q)) {B23 : Int32 → Int32 → Int32 → Int32 → gI → gJ → gR → Prop} {B39 : Int32 → Int32 → Int32 → Int32 → Int32 → Int32 → Int32 → gI → gJ → gR → Prop} (hB23 : ∀ (v1 : Int32) (v2 : Int32) (v4 : Int32) (v5 : Int32) (I : gI) (J : gJ) (R : gR), B23 v1 v2 v4 v5 I J R → G Γ 0 0 23 [(0, .ref (o 0)), (1, .int v1), (2, .int v2), (4, .int v4), (5, .int v5)] [] (cX ca o I J R L S)) (hB39 : ∀ (v1 : Int32) (v2 : Int32) (v4 : Int32) (v5 : Int32) (v6 : Int32) (v7 : Int32) (v8 : Int32) (I : gI) (J : gJ) (R : gR), B39 v1 v2 v4 v5 v6 v7 v8 I J R → G Γ 0 0 39 [(0, .ref (o 0)), (1, .int v1), (2, .int v2), (4, .int v4), (5, .int v5), (6, .int v6), (7, .int v7), (8, .int v8)] [] (cX ca o I J R L S)) (v1 : Int32) (v2 : Int32) (v4 : Int32) (v5 : Int32) (v6 : Int32) (v8 : Int32) (s0 : Int32) (s1 : Int32) (I : gI) (J : gJ) (R : gR) (h : wX11_mend_c86 L S B23 B39 v1 v2 v4 v5 v6 v8 s0 s1 I J R Q) : G Γ 0 0 86 [(0, .ref (o 0)), (1, .int v1), (2, .int v2), (4, .int v4), (5, .int v5), (6, .int v6), (8, .int v8)] [.int s1, .int s0] (cX ca o I J R L S) := by
  unfold wX11_mend_c86 at h
  refine g_iadd C dX11_mend_86 ?_
  refine g_istore C (i := 7) [(0, .ref (o 0)), (1, .int v1), (2, .int v2), (4, .int v4), (5, .int v5), (6, .int v6), (7, .int (s0 + s1)), (8, .int v8)] dX11_mend_87 (by decide) rfl ?_
  refine g_iload C (i := 8) dX11_mend_89 rfl ?_
  refine g_iconst_2 C dX11_mend_91 ?_
  refine g_iload C (i := 5) dX11_mend_92 rfl ?_
  refine g_imul C dX11_mend_94 ?_
  refine g_iadd C dX11_mend_95 ?_
  refine g_istore C (i := 8) [(0, .ref (o 0)), (1, .int v1), (2, .int v2), (4, .int v4), (5, .int v5), (6, .int v6), (7, .int (s0 + s1)), (8, .int (v8 + (2 * v5)))] dX11_mend_96 (by decide) rfl ?_
  refine g_goto C 39 dX11_mend_98 rfl ?_
  exact g_weak [0, 1, 2, 3, 4, 5, 6, 7] rfl (Nat.le_refl _) (Nat.le_refl _) (hB39 v1 v2 v4 v5 v6 (s0 + s1) (v8 + (2 * v5)) I J R h)
set_option maxRecDepth 100000 in
theorem wX11_mend_gc71 {Γ : gT} {D : gD} {ca : Nat → ClassId} {o : Nat → Nat} {Q : Int32 → gI → gJ → gR → Prop} {L : List Nat} {S : gS} (C : Cx Γ cX11_mend RX11 10 D (tyW ca) (rl 4) (some .int) 0 0 (PXi ca o L S Q)) {B23 : Int32 → Int32 → Int32 → Int32 → gI → gJ → gR → Prop} {B39 : Int32 → Int32 → Int32 → Int32 → Int32 → Int32 → Int32 → gI → gJ → gR → Prop} (hB23 : ∀ (v1 : Int32) (v2 : Int32) (v4 : Int32) (v5 : Int32) (I : gI) (J : gJ) (R : gR), B23 v1 v2 v4 v5 I J R → G Γ 0 0 23 [(0, .ref (o 0)), (1, .int v1), (2, .int v2), (4, .int v4), (5, .int v5)] [] (cX ca o I J R L S)) (hB39 : ∀ (v1 : Int32) (v2 : Int32) (v4 : Int32) (v5 : Int32) (v6 : Int32) (v7 : Int32) (v8 : Int32) (I : gI) (J : gJ) (R : gR), B39 v1 v2 v4 v5 v6 v7 v8 I J R → G Γ 0 0 39 [(0, .ref (o 0)), (1, .int v1), (2, .int v2), (4, .int v4), (5, .int v5), (6, .int v6), (7, .int v7), (8, .int v8)] [] (cX ca o I J R L S)) (v1 : Int32) (v2 : Int32) (v4 : Int32) (v5 : Int32) (v7 : Int32) (v8 : Int32) (v9 : Int32) (s0 : Int32) (s1 : Int32) (I : gI) (J : gJ) (R : gR) (h : wX11_mend_c71 L S B23 B39 v1 v2 v4 v5 v7 v8 v9 s0 s1 I J R Q) : G Γ 0 0 71 [(0, .ref (o 0)), (1, .int v1), (2, .int v2), (4, .int v4), (5, .int v5), (7, .int v7), (8, .int v8), (9, .int v9)] [.int s1, .int s0] (cX ca o I J R L S) := by
  unfold wX11_mend_c71 at h
  refine g_iadd C dX11_mend_71 ?_
  refine g_istore C (i := 6) [(0, .ref (o 0)), (1, .int v1), (2, .int v2), (4, .int v4), (5, .int v5), (6, .int (s0 + s1)), (7, .int v7), (8, .int v8), (9, .int v9)] dX11_mend_72 (by decide) rfl ?_
  refine g_iload C (i := 7) dX11_mend_74 rfl ?_
  refine g_iload C (i := 9) dX11_mend_76 rfl ?_
  refine g_if_ne C 85 dX11_mend_78 rfl (fun c1 => ?_) (fun c1 => ?_)
  · replace h := h.1 c1
    refine g_iconst_0 C dX11_mend_85 ?_
    exact g_weak [0, 1, 2, 3, 4, 5, 7] rfl (Nat.le_refl _) (Nat.le_refl _) (wX11_mend_gc86  C hB23 hB39 v1 v2 v4 v5 (s0 + s1) v8 v7 0 I J R h)
  · replace h := h.2 c1
    refine g_iconst_1 C dX11_mend_81 ?_
    refine g_goto C 86 dX11_mend_82 rfl ?_
    exact g_weak [0, 1, 2, 3, 4, 5, 7] rfl (Nat.le_refl _) (Nat.le_refl _) (wX11_mend_gc86  C hB23 hB39 v1 v2 v4 v5 (s0 + s1) v8 v7 1 I J R h)
set_option maxRecDepth 100000 in
theorem wX11_mend_gb39 {Γ : gT} {D : gD} {ca : Nat → ClassId} {o : Nat → Nat} {Q : Int32 → gI → gJ → gR → Prop} {L : List Nat} {S : gS} (C : Cx Γ cX11_mend RX11 10 D (tyW ca) (rl 4) (some .int) 0 0 (PXi ca o L S Q)) {B23 : Int32 → Int32 → Int32 → Int32 → gI → gJ → gR → Prop} (hB23 : ∀ (v1 : Int32) (v2 : Int32) (v4 : Int32) (v5 : Int32) (I : gI) (J : gJ) (R : gR), B23 v1 v2 v4 v5 I J R → G Γ 0 0 23 [(0, .ref (o 0)), (1, .int v1), (2, .int v2), (4, .int v4), (5, .int v5)] [] (cX ca o I J R L S)) {B39 : Int32 → Int32 → Int32 → Int32 → Int32 → Int32 → Int32 → gI → gJ → gR → Prop} (hB39 : ∀ (v1 : Int32) (v2 : Int32) (v4 : Int32) (v5 : Int32) (v6 : Int32) (v7 : Int32) (v8 : Int32) (I : gI) (J : gJ) (R : gR), B39 v1 v2 v4 v5 v6 v7 v8 I J R → G Γ 0 0 39 [(0, .ref (o 0)), (1, .int v1), (2, .int v2), (4, .int v4), (5, .int v5), (6, .int v6), (7, .int v7), (8, .int v8)] [] (cX ca o I J R L S)) (v1 : Int32) (v2 : Int32) (v4 : Int32) (v5 : Int32) (v6 : Int32) (v7 : Int32) (v8 : Int32) (I : gI) (J : gJ) (R : gR) (h : wX11_mend_b39 L S B23 B39 v1 v2 v4 v5 v6 v7 v8 I J R Q) : G Γ 0 0 39 [(0, .ref (o 0)), (1, .int v1), (2, .int v2), (4, .int v4), (5, .int v5), (6, .int v6), (7, .int v7), (8, .int v8)] [] (cX ca o I J R L S) := by
  unfold wX11_mend_b39 at h
  refine g_iload C (i := 8) dX11_mend_39 rfl ?_
  refine g_iload_n C (i := 2) dX11_mend_41 rfl rfl ?_
  refine g_icmp_gt C 101 dX11_mend_42 rfl (fun c1 => ?_) (fun c1 => ?_)
  · replace h := h.1 c1
    refine g_iload C (i := 4) dX11_mend_101 rfl ?_
    refine g_iload C (i := 6) dX11_mend_103 rfl ?_
    refine g_iload C (i := 7) dX11_mend_105 rfl ?_
    refine x_mmin C mmin_X11_294 dX11_mend_107 (by decide) (by exact Nat.le_of_ble_eq_true rfl) (by decide) (by decide) ?_
    refine g_iadd C dX11_mend_110 ?_
    refine g_istore C (i := 4) [(0, .ref (o 0)), (1, .int v1), (2, .int v2), (4, .int (v4 + (if v7 < v6 then v7 else v6))), (5, .int v5), (6, .int v6), (7, .int v7), (8, .int v8)] dX11_mend_111 (by decide) rfl ?_
    refine g_iload C (i := 5) dX11_mend_113 rfl ?_
    refine g_iconst_2 C dX11_mend_115 ?_
    refine g_imul C dX11_mend_116 ?_
    refine g_istore C (i := 5) [(0, .ref (o 0)), (1, .int v1), (2, .int v2), (4, .int (v4 + (if v7 < v6 then v7 else v6))), (5, .int (v5 * 2)), (6, .int v6), (7, .int v7), (8, .int v8)] dX11_mend_117 (by decide) rfl ?_
    refine g_goto C 23 dX11_mend_119 rfl ?_
    exact g_weak [0, 1, 2, 3, 4] rfl (Nat.le_refl _) (Nat.le_refl _) (hB23 v1 v2 (v4 + (if v7 < v6 then v7 else v6)) (v5 * 2) I J R h)
  · replace h := h.2 c1
    refine g_aload_n C (i := 0) dX11_mend_45 rfl rfl ?_
    refine x_get_X11_24 C dX11_mend_46 ?_
    refine g_iload_n C (i := 1) dX11_mend_49 rfl rfl ?_
    obtain ⟨h2, h⟩ := h
    refine x_shelf C h2 dX11_mend_50 ?_
    refine g_iload C (i := 8) dX11_mend_51 rfl ?_
    refine x_callS C (wX11_k_letterAsked (vp_lt h2) v8 I J R L S _ h) sX11_290 (rl_ok (by decide) (by decide)) rfl (Nat.le_of_ble_eq_true rfl) (st := []) _ rfl dX11_mend_53 (py_i (fun r3 h => ?_))
    refine g_istore C (i := 9) [(0, .ref (o 0)), (1, .int v1), (2, .int v2), (4, .int v4), (5, .int v5), (6, .int v6), (7, .int v7), (8, .int v8), (9, .int r3)] dX11_mend_56 (by decide) rfl ?_
    refine g_iload C (i := 6) dX11_mend_58 rfl ?_
    refine g_iload C (i := 9) dX11_mend_60 rfl ?_
    refine g_iconst_1 C dX11_mend_62 ?_
    refine g_icmp_ne C 70 dX11_mend_63 rfl (fun c4 => ?_) (fun c4 => ?_)
    · replace h := h.1 c4
      refine g_iconst_0 C dX11_mend_70 ?_
      exact g_weak [0, 1, 2, 3, 4, 6, 7, 8] rfl (Nat.le_refl _) (Nat.le_refl _) (wX11_mend_gc71  C hB23 hB39 v1 v2 v4 v5 v7 v8 r3 v6 0 I J R h)
    · replace h := h.2 c4
      refine g_iconst_1 C dX11_mend_66 ?_
      refine g_goto C 71 dX11_mend_67 rfl ?_
      exact g_weak [0, 1, 2, 3, 4, 6, 7, 8] rfl (Nat.le_refl _) (Nat.le_refl _) (wX11_mend_gc71  C hB23 hB39 v1 v2 v4 v5 v7 v8 r3 v6 1 I J R h)
theorem wX11_mend_gl39 {Γ : gT} {D : gD} {ca : Nat → ClassId} {o : Nat → Nat} {Q : Int32 → gI → gJ → gR → Prop} {L : List Nat} {S : gS} (C : Cx Γ cX11_mend RX11 10 D (tyW ca) (rl 4) (some .int) 0 0 (PXi ca o L S Q)) {B23 : Int32 → Int32 → Int32 → Int32 → gI → gJ → gR → Prop} (hB23 : ∀ (v1 : Int32) (v2 : Int32) (v4 : Int32) (v5 : Int32) (I : gI) (J : gJ) (R : gR), B23 v1 v2 v4 v5 I J R → G Γ 0 0 23 [(0, .ref (o 0)), (1, .int v1), (2, .int v2), (4, .int v4), (5, .int v5)] [] (cX ca o I J R L S)) : ∀ (n : Nat) (v1 : Int32) (v2 : Int32) (v4 : Int32) (v5 : Int32) (v6 : Int32) (v7 : Int32) (v8 : Int32) (I : gI) (J : gJ) (R : gR) (_ : wX11_mend_l39 L S B23 Q n v1 v2 v4 v5 v6 v7 v8 I J R), G Γ 0 0 39 [(0, .ref (o 0)), (1, .int v1), (2, .int v2), (4, .int v4), (5, .int v5), (6, .int v6), (7, .int v7), (8, .int v8)] [] (cX ca o I J R L S) := by
  intro n
  induction n with
  | zero => intro v1 v2 v4 v5 v6 v7 v8 I J R h; exact h.elim
  | succ n ih => intro v1 v2 v4 v5 v6 v7 v8 I J R h; exact wX11_mend_gb39 C hB23 ih v1 v2 v4 v5 v6 v7 v8 I J R h
set_option maxRecDepth 100000 in
theorem wX11_mend_gb23 {Γ : gT} {D : gD} {ca : Nat → ClassId} {o : Nat → Nat} {Q : Int32 → gI → gJ → gR → Prop} {L : List Nat} {S : gS} (C : Cx Γ cX11_mend RX11 10 D (tyW ca) (rl 4) (some .int) 0 0 (PXi ca o L S Q)) {B23 : Int32 → Int32 → Int32 → Int32 → gI → gJ → gR → Prop} (hB23 : ∀ (v1 : Int32) (v2 : Int32) (v4 : Int32) (v5 : Int32) (I : gI) (J : gJ) (R : gR), B23 v1 v2 v4 v5 I J R → G Γ 0 0 23 [(0, .ref (o 0)), (1, .int v1), (2, .int v2), (4, .int v4), (5, .int v5)] [] (cX ca o I J R L S)) (v1 : Int32) (v2 : Int32) (v4 : Int32) (v5 : Int32) (I : gI) (J : gJ) (R : gR) (h : wX11_mend_b23 L S B23 v1 v2 v4 v5 I J R Q) : G Γ 0 0 23 [(0, .ref (o 0)), (1, .int v1), (2, .int v2), (4, .int v4), (5, .int v5)] [] (cX ca o I J R L S) := by
  unfold wX11_mend_b23 at h
  refine g_iload C (i := 5) dX11_mend_23 rfl ?_
  refine g_iload_n C (i := 2) dX11_mend_25 rfl rfl ?_
  refine g_icmp_gt C 122 dX11_mend_26 rfl (fun c1 => ?_) (fun c1 => ?_)
  · replace h := h.1 c1
    refine g_iload C (i := 4) dX11_mend_122 rfl ?_
    exact g_ret_i C dX11_mend_124 (Nat.le_refl _) (Nat.le_refl _) ⟨_, _, _, _, rfl, rfl, h⟩
  · replace h := h.2 c1
    refine g_iconst_0 C dX11_mend_29 ?_
    refine g_istore C (i := 6) [(0, .ref (o 0)), (1, .int v1), (2, .int v2), (4, .int v4), (5, .int v5), (6, .int 0)] dX11_mend_30 (by decide) rfl ?_
    refine g_iconst_0 C dX11_mend_32 ?_
    refine g_istore C (i := 7) [(0, .ref (o 0)), (1, .int v1), (2, .int v2), (4, .int v4), (5, .int v5), (6, .int 0), (7, .int 0)] dX11_mend_33 (by decide) rfl ?_
    refine g_iload C (i := 5) dX11_mend_35 rfl ?_
    refine g_istore C (i := 8) [(0, .ref (o 0)), (1, .int v1), (2, .int v2), (4, .int v4), (5, .int v5), (6, .int 0), (7, .int 0), (8, .int v5)] dX11_mend_37 (by decide) rfl ?_
    obtain ⟨n, h⟩ := h
    exact g_weak [0, 1, 2, 3, 4, 5, 6, 7] rfl (Nat.le_refl _) (Nat.le_refl _) (wX11_mend_gl39  C hB23 n v1 v2 v4 v5 0 0 v5 I J R h)
theorem wX11_mend_gl23 {Γ : gT} {D : gD} {ca : Nat → ClassId} {o : Nat → Nat} {Q : Int32 → gI → gJ → gR → Prop} {L : List Nat} {S : gS} (C : Cx Γ cX11_mend RX11 10 D (tyW ca) (rl 4) (some .int) 0 0 (PXi ca o L S Q)) : ∀ (n : Nat) (v1 : Int32) (v2 : Int32) (v4 : Int32) (v5 : Int32) (I : gI) (J : gJ) (R : gR) (_ : wX11_mend_l23 L S Q n v1 v2 v4 v5 I J R), G Γ 0 0 23 [(0, .ref (o 0)), (1, .int v1), (2, .int v2), (4, .int v4), (5, .int v5)] [] (cX ca o I J R L S) := by
  intro n
  induction n with
  | zero => intro v1 v2 v4 v5 I J R h; exact h.elim
  | succ n ih => intro v1 v2 v4 v5 I J R h; exact wX11_mend_gb23 C ih v1 v2 v4 v5 I J R h
set_option maxRecDepth 100000 in
theorem wX11_mend_g {Γ : gT} {D : gD} {ca : Nat → ClassId} {o : Nat → Nat} {I : gI} {J : gJ} {R : gR} {L : List Nat} {S : gS} {Q : Int32 → gI → gJ → gR → Prop} (v1 : Int32) (v2 : Int32) (C : Cx Γ cX11_mend RX11 10 D (tyW ca) (rl 4) (some .int) 0 0 (PXi ca o L S Q)) (h : wX11_mend v1 v2 I J R L S Q) : G Γ 0 0 0 [(0, .ref (o 0)), (1, .int v1), (2, .int v2)] [] (cX ca o I J R L S) := by
  unfold wX11_mend at h
  refine g_aload_n C (i := 0) dX11_mend_0 rfl rfl ?_
  refine g_iload_n C (i := 1) dX11_mend_1 rfl rfl ?_
  refine g_iload_n C (i := 2) dX11_mend_2 rfl rfl ?_
  refine x_callV C (wX11_k_noTold v1 v2 I J R L S _ h) sX11_275 rcv_main (rl_ok (by decide) (by decide)) rfl (Nat.le_of_ble_eq_true rfl) (st := []) _ rfl dX11_mend_3 (py_i (fun r1 h => ?_))
  refine g_istore_n C (i := 3) [(0, .ref (o 0)), (1, .int v1), (2, .int v2), (3, .int r1)] dX11_mend_6 rfl (by decide) rfl ?_
  refine g_iload_n C (i := 3) dX11_mend_7 rfl rfl ?_
  refine g_if_eq C 17 dX11_mend_8 rfl (fun c2 => ?_) (fun c2 => ?_)
  · replace h := h.1 c2
    refine g_iconst_0 C dX11_mend_17 ?_
    refine g_istore C (i := 4) [(0, .ref (o 0)), (1, .int v1), (2, .int v2), (3, .int r1), (4, .int 0)] dX11_mend_18 (by decide) rfl ?_
    refine g_iconst_1 C dX11_mend_20 ?_
    refine g_istore C (i := 5) [(0, .ref (o 0)), (1, .int v1), (2, .int v2), (3, .int r1), (4, .int 0), (5, .int 1)] dX11_mend_21 (by decide) rfl ?_
    obtain ⟨n, h⟩ := h
    exact g_weak [0, 1, 2, 4, 5] rfl (Nat.le_refl _) (Nat.le_refl _) (wX11_mend_gl23  C  n v1 v2 0 1 I J R h)
  · replace h := h.2 c2
    refine g_aload_n C (i := 0) dX11_mend_11 rfl rfl ?_
    refine g_iload_n C (i := 3) dX11_mend_12 rfl rfl ?_
    refine x_callV C (wX11_k_refuse r1 I J R L S _ h) sX11_73 rcv_main (rl_ok (by decide) (by decide)) rfl (Nat.le_of_ble_eq_true rfl) (st := []) _ rfl dX11_mend_13 (px_i (fun r3 I4 J5 R6 h => ?_))
    exact g_ret_i C dX11_mend_16 (Nat.le_refl _) (Nat.le_refl _) ⟨_, _, _, _, rfl, rfl, h⟩
theorem wX11_k_mend {D : gD} {ca : Nat → ClassId} {o : Nat → Nat} {L : List Nat} {S : gS} (v1 : Int32) (v2 : Int32) (I : gI) (J : gJ) (R : gR) (L0 : List Nat) (S0 : gS) (Q : Int32 → gI → gJ → gR → Prop) (h : wX11_mend v1 v2 I J R L S Q) : Ct yX11_mend cX11_mend 10 (some .int) (rl 4) D (tyW ca) 0 0 [.ref (o 0), .int v1, .int v2] (cX ca o I J R L S) (PXi ca o L S Q) := ct_of (rm := (rl 4)) (by decide +kernel) (Nat.le_of_ble_eq_true rfl) (fun Γ C => wX11_mend_g v1 v2 C h)
theorem sX11_296 : gSite RX11 yX8_tells cX8_tells 4 (some .boolean) 296 2 := gSite.of (tb_in (List.mem_of_getElem? (i := 1002) (by decide +kernel)) (by decide +kernel)) (tb_in (List.mem_of_getElem? (i := 1003) (by decide +kernel)) (by decide +kernel)) (tb_in (List.mem_of_getElem? (i := 1004) (by decide +kernel)) (by decide +kernel)) (tb_in (List.mem_of_getElem? (i := 86) (by decide +kernel)) (by decide +kernel)) (tb_in (List.mem_of_getElem? (i := 1005) (by decide +kernel)) (by decide +kernel)) (by decide +kernel)
set_option maxRecDepth 100000 in
theorem wX11_judge_gb77 {Γ : gT} {D : gD} {ca : Nat → ClassId} {o : Nat → Nat} {Q : Int32 → gI → gJ → gR → Prop} {L : List Nat} {S : gS} (C : Cx Γ cX11_judge RX11 6 D (tyW ca) (rl 4) (some .int) 0 0 (PXi ca o L S Q)) {B77 : Int32 → Int32 → Int32 → Int32 → gI → gJ → gR → Prop} (hB77 : ∀ (v1 : Int32) (v2 : Int32) (v3 : Int32) (v5 : Int32) (I : gI) (J : gJ) (R : gR), B77 v1 v2 v3 v5 I J R → G Γ 0 0 77 [(0, .ref (o 0)), (1, .int v1), (2, .int v2), (3, .int v3), (5, .int v5)] [] (cX ca o I J R L S)) (v1 : Int32) (v2 : Int32) (v3 : Int32) (v5 : Int32) (I : gI) (J : gJ) (R : gR) (h : wX11_judge_b77 L S B77 v1 v2 v3 v5 I J R Q) : G Γ 0 0 77 [(0, .ref (o 0)), (1, .int v1), (2, .int v2), (3, .int v3), (5, .int v5)] [] (cX ca o I J R L S) := by
  unfold wX11_judge_b77 at h
  refine g_iload C (i := 5) dX11_judge_77 rfl ?_
  refine g_iload_n C (i := 3) dX11_judge_79 rfl rfl ?_
  refine g_icmp_gt C 120 dX11_judge_80 rfl (fun c1 => ?_) (fun c1 => ?_)
  · replace h := h.1 c1
    refine g_iconst_m1 C dX11_judge_120 ?_
    exact g_ret_i C dX11_judge_121 (Nat.le_refl _) (Nat.le_refl _) ⟨_, _, _, _, rfl, rfl, h⟩
  · replace h := h.2 c1
    refine g_aload_n C (i := 0) dX11_judge_83 rfl rfl ?_
    refine x_get_X11_24 C dX11_judge_84 ?_
    refine g_iload_n C (i := 2) dX11_judge_87 rfl rfl ?_
    obtain ⟨h2, h⟩ := h
    refine x_shelf C h2 dX11_judge_88 ?_
    refine g_iload C (i := 5) dX11_judge_89 rfl ?_
    refine g_iconst_1 C dX11_judge_91 ?_
    refine g_isub C dX11_judge_92 ?_
    refine g_aload_n C (i := 0) dX11_judge_93 rfl rfl ?_
    refine x_get_X11_11 C dX11_judge_94 ?_
    refine g_iload_n C (i := 1) dX11_judge_97 rfl rfl ?_
    obtain ⟨h3, h⟩ := h
    refine x_aald C (k := 0) (by decide) h3 dX11_judge_98 ?_
    refine g_iload C (i := 5) dX11_judge_99 rfl ?_
    refine g_i2l C dX11_judge_101 ?_
    obtain ⟨z4, h5, h6, h⟩ := h
    refine g_eqs (st' := [.long v5.toInt64, .ref z4, .int (v5 - 1), .ref (o (20 + v2.toNatClampNeg))]) (by rw [h5]; rfl) rfl ?_
    refine xv_X11_150 C h6 v5.toInt64 I J R L S _ h (fun l m h1 h2 => rl_ok (by omega) h2) (Nat.le_of_ble_eq_true rfl) (st := [.int (v5 - 1), .ref (o (20 + v2.toNatClampNeg))]) _ rfl dX11_judge_102 (fun r7 h => ?_)
    refine x_callV C (wX8_k_tells (vp_lt h2) (v5 - 1) r7 I J R L S _ h) sX11_296 (rcv_shelf (s := v2.toNatClampNeg) (vp_lt h2)) (rl_ok (by decide) (by decide)) rfl (Nat.le_of_ble_eq_true rfl) (st := []) _ rfl dX11_judge_105 (py_z (fun r8 h => ?_))
    refine g_zne C 114 dX11_judge_108 rfl (fun c9 => ?_) (fun c9 => ?_)
    · replace h := h.1 c9
      refine g_iinc C 1 [(0, .ref (o 0)), (1, .int v1), (2, .int v2), (3, .int v3), (5, .int (v5 + 1))] dX11_judge_114 rfl (by decide) (by decide) rfl ?_
      refine g_goto C 77 dX11_judge_117 rfl ?_
      exact g_weak [0, 1, 2, 3, 4] rfl (Nat.le_refl _) (Nat.le_refl _) (hB77 v1 v2 v3 (v5 + 1) I J R h)
    · replace h := h.2 c9
      refine g_iload C (i := 5) dX11_judge_111 rfl ?_
      exact g_ret_i C dX11_judge_113 (Nat.le_refl _) (Nat.le_refl _) ⟨_, _, _, _, rfl, rfl, h⟩
theorem wX11_judge_gl77 {Γ : gT} {D : gD} {ca : Nat → ClassId} {o : Nat → Nat} {Q : Int32 → gI → gJ → gR → Prop} {L : List Nat} {S : gS} (C : Cx Γ cX11_judge RX11 6 D (tyW ca) (rl 4) (some .int) 0 0 (PXi ca o L S Q)) : ∀ (n : Nat) (v1 : Int32) (v2 : Int32) (v3 : Int32) (v5 : Int32) (I : gI) (J : gJ) (R : gR) (_ : wX11_judge_l77 L S Q n v1 v2 v3 v5 I J R), G Γ 0 0 77 [(0, .ref (o 0)), (1, .int v1), (2, .int v2), (3, .int v3), (5, .int v5)] [] (cX ca o I J R L S) := by
  intro n
  induction n with
  | zero => intro v1 v2 v3 v5 I J R h; exact h.elim
  | succ n ih => intro v1 v2 v3 v5 I J R h; exact wX11_judge_gb77 C ih v1 v2 v3 v5 I J R h
set_option maxRecDepth 100000 in
theorem wX11_judge_gc59 {Γ : gT} {D : gD} {ca : Nat → ClassId} {o : Nat → Nat} {Q : Int32 → gI → gJ → gR → Prop} {L : List Nat} {S : gS} (C : Cx Γ cX11_judge RX11 6 D (tyW ca) (rl 4) (some .int) 0 0 (PXi ca o L S Q)) (v1 : Int32) (v2 : Int32) (v3 : Int32) (v4 : Int32) (I : gI) (J : gJ) (R : gR) (h : wX11_judge_c59 L S v1 v2 v3 v4 I J R Q) : G Γ 0 0 59 [(0, .ref (o 0)), (1, .int v1), (2, .int v2), (3, .int v3), (4, .int v4)] [] (cX ca o I J R L S) := by
  unfold wX11_judge_c59 at h
  refine g_iload C (i := 4) dX11_judge_59 rfl ?_
  refine g_if_eq C 74 dX11_judge_61 rfl (fun c1 => ?_) (fun c1 => ?_)
  · replace h := h.1 c1
    refine g_iconst_1 C dX11_judge_74 ?_
    refine g_istore C (i := 5) [(0, .ref (o 0)), (1, .int v1), (2, .int v2), (3, .int v3), (4, .int v4), (5, .int 1)] dX11_judge_75 (by decide) rfl ?_
    obtain ⟨n, h⟩ := h
    exact g_weak [0, 1, 2, 3, 5] rfl (Nat.le_refl _) (Nat.le_refl _) (wX11_judge_gl77  C  n v1 v2 v3 1 I J R h)
  · replace h := h.2 c1
    refine g_aload_n C (i := 0) dX11_judge_64 rfl rfl ?_
    refine g_iload C (i := 4) dX11_judge_65 rfl ?_
    refine x_callV C (wX11_k_refuse v4 I J R L S _ h) sX11_73 rcv_main (rl_ok (by decide) (by decide)) rfl (Nat.le_of_ble_eq_true rfl) (st := []) _ rfl dX11_judge_67 (px_i (fun r2 I3 J4 R5 h => ?_))
    refine g_bipush C (v := (-10)) dX11_judge_70 (by decide) ?_
    refine g_iadd C dX11_judge_72 ?_
    exact g_ret_i C dX11_judge_73 (Nat.le_refl _) (Nat.le_refl _) ⟨_, _, _, _, rfl, rfl, h⟩
set_option maxRecDepth 100000 in
theorem wX11_judge_gc44 {Γ : gT} {D : gD} {ca : Nat → ClassId} {o : Nat → Nat} {Q : Int32 → gI → gJ → gR → Prop} {L : List Nat} {S : gS} (C : Cx Γ cX11_judge RX11 6 D (tyW ca) (rl 4) (some .int) 0 0 (PXi ca o L S Q)) (v1 : Int32) (v2 : Int32) (v3 : Int32) (v4 : Int32) (I : gI) (J : gJ) (R : gR) (h : wX11_judge_c44 L S v1 v2 v3 v4 I J R Q) : G Γ 0 0 44 [(0, .ref (o 0)), (1, .int v1), (2, .int v2), (3, .int v3), (4, .int v4)] [] (cX ca o I J R L S) := by
  unfold wX11_judge_c44 at h
  refine g_iload C (i := 4) dX11_judge_44 rfl ?_
  refine g_if_ne C 59 dX11_judge_46 rfl (fun c1 => ?_) (fun c1 => ?_)
  · replace h := h.1 c1
    exact g_weak [0, 1, 2, 3, 4] rfl (Nat.le_refl _) (Nat.le_refl _) (wX11_judge_gc59  C  v1 v2 v3 v4 I J R h)
  · replace h := h.2 c1
    refine g_iload_n C (i := 3) dX11_judge_49 rfl rfl ?_
    refine g_bipush C (v := 63) dX11_judge_50 (by decide) ?_
    refine g_icmp_le C 59 dX11_judge_52 rfl (fun c2 => ?_) (fun c2 => ?_)
    · replace h := h.1 c2
      exact g_weak [0, 1, 2, 3, 4] rfl (Nat.le_refl _) (Nat.le_refl _) (wX11_judge_gc59  C  v1 v2 v3 v4 I J R h)
    · replace h := h.2 c2
      refine g_bipush C (v := (-6)) dX11_judge_55 (by decide) ?_
      refine g_istore C (i := 4) [(0, .ref (o 0)), (1, .int v1), (2, .int v2), (3, .int v3), (4, .int (-6))] dX11_judge_57 (by decide) rfl ?_
      exact g_weak [0, 1, 2, 3, 4] rfl (Nat.le_refl _) (Nat.le_refl _) (wX11_judge_gc59  C  v1 v2 v3 (-6) I J R h)
set_option maxRecDepth 100000 in
theorem wX11_judge_gc18 {Γ : gT} {D : gD} {ca : Nat → ClassId} {o : Nat → Nat} {Q : Int32 → gI → gJ → gR → Prop} {L : List Nat} {S : gS} (C : Cx Γ cX11_judge RX11 6 D (tyW ca) (rl 4) (some .int) 0 0 (PXi ca o L S Q)) (v1 : Int32) (v2 : Int32) (v3 : Int32) (s0 : Int32) (I : gI) (J : gJ) (R : gR) (h : wX11_judge_c18 L S v1 v2 v3 s0 I J R Q) : G Γ 0 0 18 [(0, .ref (o 0)), (1, .int v1), (2, .int v2), (3, .int v3)] [.int s0] (cX ca o I J R L S) := by
  unfold wX11_judge_c18 at h
  refine g_istore C (i := 4) [(0, .ref (o 0)), (1, .int v1), (2, .int v2), (3, .int v3), (4, .int s0)] dX11_judge_18 (by decide) rfl ?_
  refine g_iload C (i := 4) dX11_judge_20 rfl ?_
  refine g_if_ne C 44 dX11_judge_22 rfl (fun c1 => ?_) (fun c1 => ?_)
  · replace h := h.1 c1
    exact g_weak [0, 1, 2, 3, 4] rfl (Nat.le_refl _) (Nat.le_refl _) (wX11_judge_gc44  C  v1 v2 v3 s0 I J R h)
  · replace h := h.2 c1
    refine g_iload_n C (i := 3) dX11_judge_25 rfl rfl ?_
    refine g_i2l C dX11_judge_26 ?_
    refine g_aload_n C (i := 0) dX11_judge_27 rfl rfl ?_
    refine x_get_X11_11 C dX11_judge_28 ?_
    refine g_iload_n C (i := 1) dX11_judge_31 rfl rfl ?_
    obtain ⟨h2, h⟩ := h
    refine x_aald C (k := 0) (by decide) h2 dX11_judge_32 ?_
    obtain ⟨z3, h4, h5, h⟩ := h
    refine g_eqs (st' := [.ref z3, .long v3.toInt64]) (by rw [h4]; rfl) rfl ?_
    refine xv_X11_141 C h5 I J R L S _ h (fun l m h1 h2 => rl_ok (by omega) h2) (Nat.le_of_ble_eq_true rfl) (st := [.long v3.toInt64]) _ rfl dX11_judge_33 (fun r6 h => ?_)
    refine g_lle C 44 dX11_judge_36 dX11_judge_37 rfl (fun c7 => ?_) (fun c7 => ?_)
    · replace h := h.1 c7
      exact g_weak [0, 1, 2, 3, 4] rfl (Nat.le_refl _) (Nat.le_refl _) (wX11_judge_gc44  C  v1 v2 v3 s0 I J R h)
    · replace h := h.2 c7
      refine g_bipush C (v := (-5)) dX11_judge_40 (by decide) ?_
      refine g_istore C (i := 4) [(0, .ref (o 0)), (1, .int v1), (2, .int v2), (3, .int v3), (4, .int (-5))] dX11_judge_42 (by decide) rfl ?_
      exact g_weak [0, 1, 2, 3, 4] rfl (Nat.le_refl _) (Nat.le_refl _) (wX11_judge_gc44  C  v1 v2 v3 (-5) I J R h)
set_option maxRecDepth 100000 in
theorem wX11_judge_g {Γ : gT} {D : gD} {ca : Nat → ClassId} {o : Nat → Nat} {I : gI} {J : gJ} {R : gR} {L : List Nat} {S : gS} {Q : Int32 → gI → gJ → gR → Prop} (v1 : Int32) (v2 : Int32) (v3 : Int32) (C : Cx Γ cX11_judge RX11 6 D (tyW ca) (rl 4) (some .int) 0 0 (PXi ca o L S Q)) (h : wX11_judge v1 v2 v3 I J R L S Q) : G Γ 0 0 0 [(0, .ref (o 0)), (1, .int v1), (2, .int v2), (3, .int v3)] [] (cX ca o I J R L S) := by
  unfold wX11_judge at h
  refine g_aload_n C (i := 0) dX11_judge_0 rfl rfl ?_
  refine g_iload_n C (i := 1) dX11_judge_1 rfl rfl ?_
  refine x_callV C (wX11_k_isStrip v1 I J R L S _ h) sX11_118 rcv_main (rl_ok (by decide) (by decide)) rfl (Nat.le_of_ble_eq_true rfl) (st := []) _ rfl dX11_judge_2 (py_z (fun r1 h => ?_))
  refine g_zeq C 17 dX11_judge_5 rfl (fun c2 => ?_) (fun c2 => ?_)
  · replace h := h.1 c2
    refine g_iconst_m1 C dX11_judge_17 ?_
    exact g_weak [0, 1, 2, 3] rfl (Nat.le_refl _) (Nat.le_refl _) (wX11_judge_gc18  C  v1 v2 v3 (-1) I J R h)
  · replace h := h.2 c2
    refine g_aload_n C (i := 0) dX11_judge_8 rfl rfl ?_
    refine g_iload_n C (i := 2) dX11_judge_9 rfl rfl ?_
    refine g_iload_n C (i := 3) dX11_judge_10 rfl rfl ?_
    refine x_callV C (wX11_k_noFirstElements v2 v3 I J R L S _ h) sX11_171 rcv_main (rl_ok (by decide) (by decide)) rfl (Nat.le_of_ble_eq_true rfl) (st := []) _ rfl dX11_judge_11 (py_i (fun r3 h => ?_))
    refine g_goto C 18 dX11_judge_14 rfl ?_
    exact g_weak [0, 1, 2, 3] rfl (Nat.le_refl _) (Nat.le_refl _) (wX11_judge_gc18  C  v1 v2 v3 r3 I J R h)
theorem wX11_k_judge {D : gD} {ca : Nat → ClassId} {o : Nat → Nat} {L : List Nat} {S : gS} (v1 : Int32) (v2 : Int32) (v3 : Int32) (I : gI) (J : gJ) (R : gR) (L0 : List Nat) (S0 : gS) (Q : Int32 → gI → gJ → gR → Prop) (h : wX11_judge v1 v2 v3 I J R L S Q) : Ct yX11_judge cX11_judge 6 (some .int) (rl 4) D (tyW ca) 0 0 [.ref (o 0), .int v1, .int v2, .int v3] (cX ca o I J R L S) (PXi ca o L S Q) := ct_of (rm := (rl 4)) (by decide +kernel) (Nat.le_of_ble_eq_true rfl) (fun Γ C => wX11_judge_g v1 v2 v3 C h)
set_option maxRecDepth 100000 in
theorem wX11_standsFrom_gb3 {Γ : gT} {D : gD} {ca : Nat → ClassId} {o : Nat → Nat} {Q : Bool → Prop} {I : gI} {J : gJ} {R : gR} {L : List Nat} {S : gS} {q0 : Nat} (hq0 : q0 ∈ L) {n1 : Nat} (hn1 : n1 < 8) (C : Cx Γ cX11_standsFrom RX11 5 D (tyW ca) (rl 4) (some .boolean) 0 0 (PYz ca o I J R L S Q)) {B3 : Int32 → Int32 → Int32 → Prop} (hB3 : ∀ (v2 : Int32) (v3 : Int32) (v4 : Int32) , B3 v2 v3 v4 → G Γ 0 0 3 [(0, .ref q0), (1, .ref (o (20 + n1))), (2, .int v2), (3, .int v3), (4, .int v4)] [] (cX ca o I J R L S)) (v2 : Int32) (v3 : Int32) (v4 : Int32) (h : wX11_standsFrom_b3 q0 n1 I J R L S B3 v2 v3 v4 Q) : G Γ 0 0 3 [(0, .ref q0), (1, .ref (o (20 + n1))), (2, .int v2), (3, .int v3), (4, .int v4)] [] (cX ca o I J R L S) := by
  unfold wX11_standsFrom_b3 at h
  refine g_iload C (i := 4) dX11_standsFrom_3 rfl ?_
  refine g_iload_n C (i := 2) dX11_standsFrom_5 rfl rfl ?_
  refine g_icmp_ge C 35 dX11_standsFrom_6 rfl (fun c1 => ?_) (fun c1 => ?_)
  · replace h := h.1 c1
    refine g_iconst_1 C dX11_standsFrom_35 ?_
    exact g_ret_z C true rfl dX11_standsFrom_36 (Nat.le_refl _) (Nat.le_refl _) ⟨_, rfl, rfl, h⟩
  · replace h := h.2 c1
    refine g_aload_n C (i := 1) dX11_standsFrom_9 rfl rfl ?_
    refine g_iload C (i := 4) dX11_standsFrom_10 rfl ?_
    refine g_aload_n C (i := 0) dX11_standsFrom_12 rfl rfl ?_
    refine g_iload_n C (i := 3) dX11_standsFrom_13 rfl rfl ?_
    refine g_iload C (i := 4) dX11_standsFrom_14 rfl ?_
    refine g_iadd C dX11_standsFrom_16 ?_
    refine g_i2l C dX11_standsFrom_17 ?_
    refine xv_X11_150 C hq0 ((v3 + v4).toInt64) I J R L S _ h (fun l m h1 h2 => rl_ok (by omega) h2) (Nat.le_of_ble_eq_true rfl) (st := [.int v4, .ref (o (20 + n1))]) _ rfl dX11_standsFrom_18 (fun r2 h => ?_)
    refine x_callV C (wX8_k_tells hn1 v4 r2 I J R L S _ h) sX11_296 (rcv_shelf (s := n1) hn1) (rl_ok (by decide) (by decide)) rfl (Nat.le_of_ble_eq_true rfl) (st := []) _ rfl dX11_standsFrom_21 (py_z (fun r3 h => ?_))
    refine g_zne C 29 dX11_standsFrom_24 rfl (fun c4 => ?_) (fun c4 => ?_)
    · replace h := h.1 c4
      refine g_iinc C 1 [(0, .ref q0), (1, .ref (o (20 + n1))), (2, .int v2), (3, .int v3), (4, .int (v4 + 1))] dX11_standsFrom_29 rfl (by decide) (by decide) rfl ?_
      refine g_goto C 3 dX11_standsFrom_32 rfl ?_
      exact g_weak [0, 1, 2, 3, 4] rfl (Nat.le_refl _) (Nat.le_refl _) (hB3 v2 v3 (v4 + 1)  h)
    · replace h := h.2 c4
      refine g_iconst_0 C dX11_standsFrom_27 ?_
      exact g_ret_z C false rfl dX11_standsFrom_28 (Nat.le_refl _) (Nat.le_refl _) ⟨_, rfl, rfl, h⟩
theorem wX11_standsFrom_gl3 {Γ : gT} {D : gD} {ca : Nat → ClassId} {o : Nat → Nat} {Q : Bool → Prop} {I : gI} {J : gJ} {R : gR} {L : List Nat} {S : gS} {q0 : Nat} (hq0 : q0 ∈ L) {n1 : Nat} (hn1 : n1 < 8) (C : Cx Γ cX11_standsFrom RX11 5 D (tyW ca) (rl 4) (some .boolean) 0 0 (PYz ca o I J R L S Q)) : ∀ (n : Nat) (v2 : Int32) (v3 : Int32) (v4 : Int32) (_ : wX11_standsFrom_l3 q0 n1 I J R L S Q n v2 v3 v4 ), G Γ 0 0 3 [(0, .ref q0), (1, .ref (o (20 + n1))), (2, .int v2), (3, .int v3), (4, .int v4)] [] (cX ca o I J R L S) := by
  intro n
  induction n with
  | zero => intro v2 v3 v4  h; exact h.elim
  | succ n ih => intro v2 v3 v4  h; exact wX11_standsFrom_gb3 hq0 hn1 C ih v2 v3 v4 h
set_option maxRecDepth 100000 in
theorem wX11_standsFrom_g {Γ : gT} {D : gD} {ca : Nat → ClassId} {o : Nat → Nat} {I : gI} {J : gJ} {R : gR} {L : List Nat} {S : gS} {Q : Bool → Prop} {q0 : Nat} (hq0 : q0 ∈ L) {n1 : Nat} (hn1 : n1 < 8) (v2 : Int32) (v3 : Int32) (C : Cx Γ cX11_standsFrom RX11 5 D (tyW ca) (rl 4) (some .boolean) 0 0 (PYz ca o I J R L S Q)) (h : wX11_standsFrom q0 n1 v2 v3 I J R L S Q) : G Γ 0 0 0 [(0, .ref q0), (1, .ref (o (20 + n1))), (2, .int v2), (3, .int v3)] [] (cX ca o I J R L S) := by
  unfold wX11_standsFrom at h
  refine g_iconst_0 C dX11_standsFrom_0 ?_
  refine g_istore C (i := 4) [(0, .ref q0), (1, .ref (o (20 + n1))), (2, .int v2), (3, .int v3), (4, .int 0)] dX11_standsFrom_1 (by decide) rfl ?_
  obtain ⟨n, h⟩ := h
  exact g_weak [0, 1, 2, 3, 4] rfl (Nat.le_refl _) (Nat.le_refl _) (wX11_standsFrom_gl3 hq0 hn1 C  n v2 v3 0  h)
theorem wX11_k_standsFrom {D : gD} {ca : Nat → ClassId} {o : Nat → Nat} {L : List Nat} {S : gS} {q0 : Nat} (hq0 : q0 ∈ L) {n1 : Nat} (hn1 : n1 < 8) (v2 : Int32) (v3 : Int32) (I : gI) (J : gJ) (R : gR) (L0 : List Nat) (S0 : gS) (Q : Bool → Prop) (h : wX11_standsFrom q0 n1 v2 v3 I J R L S Q) : Ct yX11_standsFrom cX11_standsFrom 5 (some .boolean) (rl 4) D (tyW ca) 0 0 [.ref q0, .ref (o (20 + n1)), .int v2, .int v3] (cX ca o I J R L S) (PYz ca o I J R L S Q) := ct_of (rm := (rl 4)) (by decide +kernel) (Nat.le_of_ble_eq_true rfl) (fun Γ C => wX11_standsFrom_g hq0 hn1 v2 v3 C h)
theorem sX11_310 : gSite RX11 yX4_areOrder cX4_areOrder 6 (some .boolean) 310 2 := gSite.of (tb_in (List.mem_of_getElem? (i := 1025) (by decide +kernel)) (by decide +kernel)) (tb_in (List.mem_of_getElem? (i := 1026) (by decide +kernel)) (by decide +kernel)) (tb_in (List.mem_of_getElem? (i := 1027) (by decide +kernel)) (by decide +kernel)) (tb_in (List.mem_of_getElem? (i := 85) (by decide +kernel)) (by decide +kernel)) (tb_in (List.mem_of_getElem? (i := 1028) (by decide +kernel)) (by decide +kernel)) (by decide +kernel)
theorem sX11_314 : gSite RX11 yX4_canLie cX4_canLie 4 (some .boolean) 314 2 := gSite.of (tb_in (List.mem_of_getElem? (i := 1030) (by decide +kernel)) (by decide +kernel)) (tb_in (List.mem_of_getElem? (i := 1031) (by decide +kernel)) (by decide +kernel)) (tb_in (List.mem_of_getElem? (i := 1032) (by decide +kernel)) (by decide +kernel)) (tb_in (List.mem_of_getElem? (i := 85) (by decide +kernel)) (by decide +kernel)) (tb_in (List.mem_of_getElem? (i := 1033) (by decide +kernel)) (by decide +kernel)) (by decide +kernel)
set_option maxRecDepth 100000 in
theorem wX11_can_gc42 {Γ : gT} {D : gD} {ca : Nat → ClassId} {o : Nat → Nat} {Q : Int32 → gI → gJ → gR → Prop} {L : List Nat} {S : gS} (C : Cx Γ cX11_can RX11 4 D (tyW ca) (rl 4) (some .int) 0 0 (PXi ca o L S Q)) (v1 : Int32) (v2 : Int32) (v3 : Int32) (I : gI) (J : gJ) (R : gR) (h : wX11_can_c42 L S v1 v2 v3 I J R Q) : G Γ 0 0 42 [(0, .ref (o 0)), (1, .int v1), (2, .int v2), (3, .int v3)] [] (cX ca o I J R L S) := by
  unfold wX11_can_c42 at h
  refine g_iload_n C (i := 3) dX11_can_42 rfl rfl ?_
  refine g_if_eq C 52 dX11_can_43 rfl (fun c1 => ?_) (fun c1 => ?_)
  · replace h := h.1 c1
    refine g_aload_n C (i := 0) dX11_can_52 rfl rfl ?_
    refine x_get_X11_64 C dX11_can_53 ?_
    refine g_aload_n C (i := 0) dX11_can_56 rfl rfl ?_
    refine x_get_X11_24 C dX11_can_57 ?_
    refine g_iload_n C (i := 1) dX11_can_60 rfl rfl ?_
    obtain ⟨h2, h⟩ := h
    refine x_shelf C h2 dX11_can_61 ?_
    refine g_iload_n C (i := 2) dX11_can_62 rfl rfl ?_
    refine x_callV C (wX4_k_canLie (vp_lt h2) v2 I J R L S _ h) sX11_314 rcv_leaves (rl_ok (by decide) (by decide)) rfl (Nat.le_of_ble_eq_true rfl) (st := []) _ rfl dX11_can_63 (px_z (fun r3 I4 J5 R6 h => ?_))
    refine g_zeq C 73 dX11_can_66 rfl (fun c7 => ?_) (fun c7 => ?_)
    · replace h := h.1 c7
      refine g_iconst_0 C dX11_can_73 ?_
      exact g_ret_i C dX11_can_74 (Nat.le_refl _) (Nat.le_refl _) ⟨_, _, _, _, rfl, rfl, h⟩
    · replace h := h.2 c7
      refine g_iconst_1 C dX11_can_69 ?_
      refine g_goto C 74 dX11_can_70 rfl ?_
      exact g_ret_i C dX11_can_74 (Nat.le_refl _) (Nat.le_refl _) ⟨_, _, _, _, rfl, rfl, h⟩
  · replace h := h.2 c1
    refine g_aload_n C (i := 0) dX11_can_46 rfl rfl ?_
    refine g_iload_n C (i := 3) dX11_can_47 rfl rfl ?_
    refine x_callV C (wX11_k_refuse v3 I J R L S _ h) sX11_73 rcv_main (rl_ok (by decide) (by decide)) rfl (Nat.le_of_ble_eq_true rfl) (st := []) _ rfl dX11_can_48 (px_i (fun r8 I9 J10 R11 h => ?_))
    exact g_ret_i C dX11_can_51 (Nat.le_refl _) (Nat.le_refl _) ⟨_, _, _, _, rfl, rfl, h⟩
set_option maxRecDepth 100000 in
theorem wX11_can_gc39 {Γ : gT} {D : gD} {ca : Nat → ClassId} {o : Nat → Nat} {Q : Int32 → gI → gJ → gR → Prop} {L : List Nat} {S : gS} (C : Cx Γ cX11_can RX11 4 D (tyW ca) (rl 4) (some .int) 0 0 (PXi ca o L S Q)) (v1 : Int32) (v2 : Int32) (I : gI) (J : gJ) (R : gR) (h : wX11_can_c39 L S v1 v2 I J R Q) : G Γ 0 0 39 [(0, .ref (o 0)), (1, .int v1), (2, .int v2)] [] (cX ca o I J R L S) := by
  unfold wX11_can_c39 at h
  refine g_bipush C (v := (-6)) dX11_can_39 (by decide) ?_
  refine g_istore_n C (i := 3) [(0, .ref (o 0)), (1, .int v1), (2, .int v2), (3, .int (-6))] dX11_can_41 rfl (by decide) rfl ?_
  exact g_weak [0, 1, 2, 3] rfl (Nat.le_refl _) (Nat.le_refl _) (wX11_can_gc42  C  v1 v2 (-6) I J R h)
set_option maxRecDepth 100000 in
theorem wX11_can_g {Γ : gT} {D : gD} {ca : Nat → ClassId} {o : Nat → Nat} {I : gI} {J : gJ} {R : gR} {L : List Nat} {S : gS} {Q : Int32 → gI → gJ → gR → Prop} (v1 : Int32) (v2 : Int32) (C : Cx Γ cX11_can RX11 4 D (tyW ca) (rl 4) (some .int) 0 0 (PXi ca o L S Q)) (h : wX11_can v1 v2 I J R L S Q) : G Γ 0 0 0 [(0, .ref (o 0)), (1, .int v1), (2, .int v2)] [] (cX ca o I J R L S) := by
  unfold wX11_can at h
  refine g_aload_n C (i := 0) dX11_can_0 rfl rfl ?_
  refine g_iload_n C (i := 1) dX11_can_1 rfl rfl ?_
  refine g_iload_n C (i := 2) dX11_can_2 rfl rfl ?_
  refine x_callV C (wX11_k_noFirstElements v1 v2 I J R L S _ h) sX11_171 rcv_main (rl_ok (by decide) (by decide)) rfl (Nat.le_of_ble_eq_true rfl) (st := []) _ rfl dX11_can_3 (py_i (fun r1 h => ?_))
  refine g_istore_n C (i := 3) [(0, .ref (o 0)), (1, .int v1), (2, .int v2), (3, .int r1)] dX11_can_6 rfl (by decide) rfl ?_
  refine g_iload_n C (i := 3) dX11_can_7 rfl rfl ?_
  refine g_if_ne C 42 dX11_can_8 rfl (fun c2 => ?_) (fun c2 => ?_)
  · replace h := h.1 c2
    exact g_weak [0, 1, 2, 3] rfl (Nat.le_refl _) (Nat.le_refl _) (wX11_can_gc42  C  v1 v2 r1 I J R h)
  · replace h := h.2 c2
    refine g_iload_n C (i := 2) dX11_can_11 rfl rfl ?_
    refine g_iconst_1 C dX11_can_12 ?_
    refine g_icmp_lt C 39 dX11_can_13 rfl (fun c3 => ?_) (fun c3 => ?_)
    · replace h := h.1 c3
      exact g_weak [0, 1, 2] rfl (Nat.le_refl _) (Nat.le_refl _) (wX11_can_gc39  C  v1 v2 I J R h)
    · replace h := h.2 c3
      refine g_iload_n C (i := 2) dX11_can_16 rfl rfl ?_
      refine g_bipush C (v := 8) dX11_can_17 (by decide) ?_
      refine g_icmp_gt C 39 dX11_can_19 rfl (fun c4 => ?_) (fun c4 => ?_)
      · replace h := h.1 c4
        exact g_weak [0, 1, 2] rfl (Nat.le_refl _) (Nat.le_refl _) (wX11_can_gc39  C  v1 v2 I J R h)
      · replace h := h.2 c4
        refine g_aload_n C (i := 0) dX11_can_22 rfl rfl ?_
        refine x_get_X11_64 C dX11_can_23 ?_
        refine g_aload_n C (i := 0) dX11_can_26 rfl rfl ?_
        refine x_get_X11_24 C dX11_can_27 ?_
        refine g_iload_n C (i := 1) dX11_can_30 rfl rfl ?_
        obtain ⟨h5, h⟩ := h
        refine x_shelf C h5 dX11_can_31 ?_
        refine g_iload_n C (i := 2) dX11_can_32 rfl rfl ?_
        refine x_callV C (wX4_k_areOrder (vp_lt h5) v2 I J R L S _ h) sX11_310 rcv_leaves (rl_ok (by decide) (by decide)) rfl (Nat.le_of_ble_eq_true rfl) (st := []) _ rfl dX11_can_33 (py_z (fun r6 h => ?_))
        refine g_zne C 42 dX11_can_36 rfl (fun c7 => ?_) (fun c7 => ?_)
        · replace h := h.1 c7
          exact g_weak [0, 1, 2, 3] rfl (Nat.le_refl _) (Nat.le_refl _) (wX11_can_gc42  C  v1 v2 r1 I J R h)
        · replace h := h.2 c7
          exact g_weak [0, 1, 2] rfl (Nat.le_refl _) (Nat.le_refl _) (wX11_can_gc39  C  v1 v2 I J R h)
theorem wX11_k_can {D : gD} {ca : Nat → ClassId} {o : Nat → Nat} {L : List Nat} {S : gS} (v1 : Int32) (v2 : Int32) (I : gI) (J : gJ) (R : gR) (L0 : List Nat) (S0 : gS) (Q : Int32 → gI → gJ → gR → Prop) (h : wX11_can v1 v2 I J R L S Q) : Ct yX11_can cX11_can 4 (some .int) (rl 4) D (tyW ca) 0 0 [.ref (o 0), .int v1, .int v2] (cX ca o I J R L S) (PXi ca o L S Q) := ct_of (rm := (rl 4)) (by decide +kernel) (Nat.le_of_ble_eq_true rfl) (fun Γ C => wX11_can_g v1 v2 C h)
theorem sX11_342 : gSite RX11 yJ4_charAt_5068e cJ4_charAt_5068e 2 (some .char) 342 1 := gSite.of (tb_in (List.mem_of_getElem? (i := 1262) (by decide +kernel)) (by decide +kernel)) (tb_in (List.mem_of_getElem? (i := 1263) (by decide +kernel)) (by decide +kernel)) (tb_in (List.mem_of_getElem? (i := 1264) (by decide +kernel)) (by decide +kernel)) (tb_in (List.mem_of_getElem? (i := 80) (by decide +kernel)) (by decide +kernel)) (tb_in (List.mem_of_getElem? (i := 1265) (by decide +kernel)) (by decide +kernel)) (by decide +kernel)
set_option maxRecDepth 100000 in
theorem wX11_trace_g {Γ : gT} {D : gD} {ca : Nat → ClassId} {o : Nat → Nat} {I : gI} {J : gJ} {R : gR} {L : List Nat} {S : gS} {Q : Int32 → Prop} (v1 : Int32) (C : Cx Γ cX11_trace RX11 2 D (tyW ca) (rl 4) (some .int) 0 0 (PYi ca o I J R L S Q)) (h : wX11_trace v1 I J R L S Q) : G Γ 0 0 0 [(0, .ref (o 0)), (1, .int v1)] [] (cX ca o I J R L S) := by
  unfold wX11_trace at h
  refine g_iload_n C (i := 1) dX11_trace_0 rfl rfl ?_
  refine g_if_lt C 21 dX11_trace_1 rfl (fun c1 => ?_) (fun c1 => ?_)
  · replace h := h.1 c1
    refine g_iconst_m1 C dX11_trace_21 ?_
    exact g_ret_i C dX11_trace_22 (Nat.le_refl _) (Nat.le_refl _) ⟨_, rfl, rfl, h⟩
  · replace h := h.2 c1
    refine g_iload_n C (i := 1) dX11_trace_4 rfl rfl ?_
    refine g_bipush C (v := 20) dX11_trace_5 (by decide) ?_
    refine g_icmp_ge C 21 dX11_trace_7 rfl (fun c2 => ?_) (fun c2 => ?_)
    · replace h := h.1 c2
      refine g_iconst_m1 C dX11_trace_21 ?_
      exact g_ret_i C dX11_trace_22 (Nat.le_refl _) (Nat.le_refl _) ⟨_, rfl, rfl, h⟩
    · replace h := h.2 c2
      refine g_iload_n C (i := 1) dX11_trace_10 rfl rfl ?_
      refine g_aload_n C (i := 0) dX11_trace_11 rfl rfl ?_
      refine x_get_X11_38 C dX11_trace_12 ?_
      refine x_callV C (wJ4_k_length_8abf5 I J R L S _ h) sX11_339 rcv_sb (rl_ok (by decide) (by decide)) rfl (Nat.le_of_ble_eq_true rfl) (st := [.int v1]) _ rfl dX11_trace_15 (py_i (fun r3 h => ?_))
      refine g_icmp_lt C 23 dX11_trace_18 rfl (fun c4 => ?_) (fun c4 => ?_)
      · replace h := h.1 c4
        refine g_aload_n C (i := 0) dX11_trace_23 rfl rfl ?_
        refine x_get_X11_38 C dX11_trace_24 ?_
        refine g_iload_n C (i := 1) dX11_trace_27 rfl rfl ?_
        refine x_callV C (wJ4_k_charAt_5068e v1 I J R L S _ h) sX11_342 rcv_sb (rl_ok (by decide) (by decide)) rfl (Nat.le_of_ble_eq_true rfl) (st := []) _ rfl dX11_trace_28 (py_i (fun r5 h => ?_))
        exact g_ret_i C dX11_trace_31 (Nat.le_refl _) (Nat.le_refl _) ⟨_, rfl, rfl, h⟩
      · replace h := h.2 c4
        refine g_iconst_m1 C dX11_trace_21 ?_
        exact g_ret_i C dX11_trace_22 (Nat.le_refl _) (Nat.le_refl _) ⟨_, rfl, rfl, h⟩
theorem wX11_k_trace {D : gD} {ca : Nat → ClassId} {o : Nat → Nat} {L : List Nat} {S : gS} (v1 : Int32) (I : gI) (J : gJ) (R : gR) (L0 : List Nat) (S0 : gS) (Q : Int32 → Prop) (h : wX11_trace v1 I J R L S Q) : Ct yX11_trace cX11_trace 2 (some .int) (rl 4) D (tyW ca) 0 0 [.ref (o 0), .int v1] (cX ca o I J R L S) (PYi ca o I J R L S Q) := ct_of (rm := (rl 4)) (by decide +kernel) (Nat.le_of_ble_eq_true rfl) (fun Γ C => wX11_trace_g v1 C h)
theorem sX0_46 : gSite RX0 yJ4_append_cf468 cJ4_append_cf468 2 (some (.object "java/lang/StringBuilder")) 46 1 := gSite.of (tb_in (List.mem_of_getElem? (i := 1151) (by decide +kernel)) (by decide +kernel)) (tb_in (List.mem_of_getElem? (i := 1152) (by decide +kernel)) (by decide +kernel)) (tb_in (List.mem_of_getElem? (i := 1153) (by decide +kernel)) (by decide +kernel)) (tb_in (List.mem_of_getElem? (i := 80) (by decide +kernel)) (by decide +kernel)) (tb_in (List.mem_of_getElem? (i := 1154) (by decide +kernel)) (by decide +kernel)) (by decide +kernel)
theorem sX0_56 : gSiteQ RX0 "FoldedInHalf$Strip" ⟨"FoldedInHalf$Cut", "folds", "(Ljava/lang/StringBuilder;I)I"⟩ yX9_folds cX9_folds 3 (some .int) 56 2 := gSiteQ.of (tb_in (List.mem_of_getElem? (i := 1186) (by decide +kernel)) (by decide +kernel)) (tb_in (List.mem_of_getElem? (i := 1187) (by decide +kernel)) (by decide +kernel)) (tb_in (List.mem_of_getElem? (i := 440) (by decide +kernel)) (by decide +kernel)) (tb_in (List.mem_of_getElem? (i := 401) (by decide +kernel)) (by decide +kernel)) (tb_in (List.mem_of_getElem? (i := 1145) (by decide +kernel)) (by decide +kernel)) (tb_in (List.mem_of_getElem? (i := 90) (by decide +kernel)) (by decide +kernel)) (tb_in (List.mem_of_getElem? (i := 1203) (by decide +kernel)) (by decide +kernel)) rfl (by decide +kernel)
set_option maxRecDepth 100000 in
theorem wX0_folds_g {Γ : gT} {D : gD} {ca : Nat → ClassId} {o : Nat → Nat} {I : gI} {J : gJ} {R : gR} {L : List Nat} {S : gS} {Q : Int32 → gI → gJ → gR → Prop} {q0 : Nat} (hq0 : q0 ∈ L) (hc0 : sC (S q0) = 4) (v2 : Int32) (C : Cx Γ cX0_folds RX0 3 D (tyW ca) (rl 4) (some .int) 0 0 (PXi ca o L S Q)) (h : wX0_folds q0 v2 I J R L S Q) : G Γ 0 0 0 [(0, .ref q0), (1, .ref (o 1)), (2, .int v2)] [] (cX ca o I J R L S) := by
  unfold wX0_folds at h
  refine g_aload_n C (i := 1) dX0_folds_0 rfl rfl ?_
  refine g_bipush C (v := 51) dX0_folds_1 (by decide) ?_
  refine x_callV C (wJ4_k_append_cf468 51 I J R L S _ h) sX0_46 rcv_sb (rl_ok (by decide) (by decide)) rfl (Nat.le_of_ble_eq_true rfl) (st := []) _ rfl dX0_folds_3 (px_b (fun I2 J3 R4 h => ?_))
  refine g_pop C dX0_folds_6 rfl ?_
  refine g_aload_n C (i := 0) dX0_folds_7 rfl rfl ?_
  refine g_aload_n C (i := 1) dX0_folds_8 rfl rfl ?_
  refine g_iload_n C (i := 2) dX0_folds_9 rfl rfl ?_
  refine x_callP2 C (wX9_k_folds hq0 v2 I2 J3 R4 L S _ h) sX0_56 (rcv_any hq0) (rl_ok (by decide) (by decide)) rfl (Nat.le_of_ble_eq_true rfl) (st := []) _ rfl dX0_folds_10 (px_i (fun r5 I6 J7 R8 h => ?_))
  refine g_aload_n C (i := 0) dX0_folds_13 rfl rfl ?_
  refine x_get_X0_59 C hq0 hc0 dX0_folds_14 ?_
  refine g_isub C dX0_folds_17 ?_
  exact g_ret_i C dX0_folds_18 (Nat.le_refl _) (Nat.le_refl _) ⟨_, _, _, _, rfl, rfl, h⟩
theorem wX0_k_folds {D : gD} {ca : Nat → ClassId} {o : Nat → Nat} {L : List Nat} {S : gS} {q0 : Nat} (hq0 : q0 ∈ L) (hc0 : sC (S q0) = 4) (v2 : Int32) (I : gI) (J : gJ) (R : gR) (L0 : List Nat) (S0 : gS) (Q : Int32 → gI → gJ → gR → Prop) (h : wX0_folds q0 v2 I J R L S Q) : Ct yX0_folds cX0_folds 3 (some .int) (rl 4) D (tyW ca) 0 0 [.ref q0, .ref (o 1), .int v2] (cX ca o I J R L S) (PXi ca o L S Q) := ct_of (rm := (rl 4)) (by decide +kernel) (Nat.le_of_ble_eq_true rfl) (fun Γ C => wX0_folds_g hq0 hc0 v2 C h)
theorem sX1_33_1 : gSiteU RX1 "FoldedInHalf$Same" "FoldedInHalf$Strip" ⟨"FoldedInHalf$Strip", "sides", "()J"⟩ yX9_sides cX9_sides 1 (some .long) 33 0 := gSiteU.inh (tb_in (List.mem_of_getElem? (i := 843) (by decide +kernel)) (by decide +kernel)) (tb_in (List.mem_of_getElem? (i := 1840) (by decide +kernel)) (by decide +kernel)) (tb_in (List.mem_of_getElem? (i := 1845) (by decide +kernel)) (by decide +kernel)) (tb_in (List.mem_of_getElem? (i := 436) (by decide +kernel)) (by decide +kernel)) (tb_in (List.mem_of_getElem? (i := 90) (by decide +kernel)) (by decide +kernel)) (tb_in (List.mem_of_getElem? (i := 437) (by decide +kernel)) (by decide +kernel)) rfl (by decide +kernel)
theorem sX1_33_2 : gSiteU RX1 "FoldedInHalf$Third" "FoldedInHalf$Strip" ⟨"FoldedInHalf$Strip", "sides", "()J"⟩ yX9_sides cX9_sides 1 (some .long) 33 0 := gSiteU.inh (tb_in (List.mem_of_getElem? (i := 843) (by decide +kernel)) (by decide +kernel)) (tb_in (List.mem_of_getElem? (i := 1840) (by decide +kernel)) (by decide +kernel)) (tb_in (List.mem_of_getElem? (i := 1847) (by decide +kernel)) (by decide +kernel)) (tb_in (List.mem_of_getElem? (i := 436) (by decide +kernel)) (by decide +kernel)) (tb_in (List.mem_of_getElem? (i := 90) (by decide +kernel)) (by decide +kernel)) (tb_in (List.mem_of_getElem? (i := 437) (by decide +kernel)) (by decide +kernel)) rfl (by decide +kernel)
theorem sX1_33_3 : gSiteU RX1 "FoldedInHalf$Cut" "FoldedInHalf$Strip" ⟨"FoldedInHalf$Strip", "sides", "()J"⟩ yX9_sides cX9_sides 1 (some .long) 33 0 := gSiteU.inh (tb_in (List.mem_of_getElem? (i := 843) (by decide +kernel)) (by decide +kernel)) (tb_in (List.mem_of_getElem? (i := 1840) (by decide +kernel)) (by decide +kernel)) (tb_in (List.mem_of_getElem? (i := 1842) (by decide +kernel)) (by decide +kernel)) (tb_in (List.mem_of_getElem? (i := 436) (by decide +kernel)) (by decide +kernel)) (tb_in (List.mem_of_getElem? (i := 90) (by decide +kernel)) (by decide +kernel)) (tb_in (List.mem_of_getElem? (i := 437) (by decide +kernel)) (by decide +kernel)) rfl (by decide +kernel)
theorem sX1_33_4 : gSiteU RX1 "FoldedInHalf$Back" "FoldedInHalf$Strip" ⟨"FoldedInHalf$Strip", "sides", "()J"⟩ yX9_sides cX9_sides 1 (some .long) 33 0 := gSiteU.inh (tb_in (List.mem_of_getElem? (i := 843) (by decide +kernel)) (by decide +kernel)) (tb_in (List.mem_of_getElem? (i := 1840) (by decide +kernel)) (by decide +kernel)) (tb_in (List.mem_of_getElem? (i := 1841) (by decide +kernel)) (by decide +kernel)) (tb_in (List.mem_of_getElem? (i := 436) (by decide +kernel)) (by decide +kernel)) (tb_in (List.mem_of_getElem? (i := 90) (by decide +kernel)) (by decide +kernel)) (tb_in (List.mem_of_getElem? (i := 437) (by decide +kernel)) (by decide +kernel)) rfl (by decide +kernel)
theorem sX1_33_5 : gSiteU RX1 "FoldedInHalf$Glass" "FoldedInHalf$Strip" ⟨"FoldedInHalf$Strip", "sides", "()J"⟩ yX9_sides cX9_sides 1 (some .long) 33 0 := gSiteU.inh (tb_in (List.mem_of_getElem? (i := 843) (by decide +kernel)) (by decide +kernel)) (tb_in (List.mem_of_getElem? (i := 1840) (by decide +kernel)) (by decide +kernel)) (tb_in (List.mem_of_getElem? (i := 1843) (by decide +kernel)) (by decide +kernel)) (tb_in (List.mem_of_getElem? (i := 436) (by decide +kernel)) (by decide +kernel)) (tb_in (List.mem_of_getElem? (i := 90) (by decide +kernel)) (by decide +kernel)) (tb_in (List.mem_of_getElem? (i := 437) (by decide +kernel)) (by decide +kernel)) rfl (by decide +kernel)
theorem sX1_33_6 : gSiteU RX1 "FoldedInHalf$Left" "FoldedInHalf$Strip" ⟨"FoldedInHalf$Strip", "sides", "()J"⟩ yX9_sides cX9_sides 1 (some .long) 33 0 := gSiteU.inh (tb_in (List.mem_of_getElem? (i := 843) (by decide +kernel)) (by decide +kernel)) (tb_in (List.mem_of_getElem? (i := 1840) (by decide +kernel)) (by decide +kernel)) (tb_in (List.mem_of_getElem? (i := 1844) (by decide +kernel)) (by decide +kernel)) (tb_in (List.mem_of_getElem? (i := 436) (by decide +kernel)) (by decide +kernel)) (tb_in (List.mem_of_getElem? (i := 90) (by decide +kernel)) (by decide +kernel)) (tb_in (List.mem_of_getElem? (i := 437) (by decide +kernel)) (by decide +kernel)) rfl (by decide +kernel)
theorem sX1_33_0 : gSite RX1 yX9_sides cX9_sides 1 (some .long) 33 0 := gSite.of (tb_in (List.mem_of_getElem? (i := 843) (by decide +kernel)) (by decide +kernel)) (tb_in (List.mem_of_getElem? (i := 436) (by decide +kernel)) (by decide +kernel)) (tb_in (List.mem_of_getElem? (i := 1846) (by decide +kernel)) (by decide +kernel)) (tb_in (List.mem_of_getElem? (i := 90) (by decide +kernel)) (by decide +kernel)) (tb_in (List.mem_of_getElem? (i := 437) (by decide +kernel)) (by decide +kernel)) (by decide +kernel)
theorem xv_X1_33 {Γ : gT} {cc : ByteArray} {nL : Nat} {D : gD} {ca : Nat → ClassId} {rm : Room} {ret : Option FieldType} {mc ms : Nat} {Post : Option Value → va_W → Prop} {cn sn pc : Nat} {lv : List (Nat × Value)} {st : List Value} {o : Nat → Nat} {L : List Nat} {S : gS} (C0 : Cx Γ cc RX1 nL D (tyW ca) rm ret mc ms Post) {q0 : Nat} (hq0 : q0 ∈ L)  (I : gI) (J : gJ) (R : gR) (L0 : List Nat) (S0 : gS) (Q : Int64 → Prop) (h : wv_sides q0  I J R L S Q) (hroom : ∀ l maxL : Nat, l ≤ 2 → maxL ≤ 81 → gRm (rl l) rm maxL 0 0 cn sn) (hst : (st.map fun v => v.category).sum ≤ 8) (st0 : List Value) (hs0 : st0 = ([] : List Value).reverse ++ .ref q0 :: st) (hd : decode cc pc = .ok (.invokevirtual 33, 3)) (k : ∀ (r : Int64) , Q r  → G Γ cn sn (pc + 3) lv (.long r :: st) (cX ca o I J R L S)) : G Γ cn sn pc lv st0 (cX ca o I J R L S) := by
  unfold wv_sides at h
  by_cases h1 : sC (S q0) = 1
  · exact x_callU C0 (wX9_k_sides hq0   I J R L S Q (h.1 h1)) sX1_33_1 (rcv_1 hq0 h1) (hroom _ _ (by decide) (by decide)) rfl hst st0 hs0 hd (py_l k)
  replace h := h.2 h1
  by_cases h2 : sC (S q0) = 2
  · exact x_callU C0 (wX9_k_sides hq0   I J R L S Q (h.1 h2)) sX1_33_2 (rcv_2 hq0 h2) (hroom _ _ (by decide) (by decide)) rfl hst st0 hs0 hd (py_l k)
  replace h := h.2 h2
  by_cases h3 : sC (S q0) = 3
  · exact x_callU C0 (wX9_k_sides hq0   I J R L S Q (h.1 h3)) sX1_33_3 (rcv_3 hq0 h3) (hroom _ _ (by decide) (by decide)) rfl hst st0 hs0 hd (py_l k)
  replace h := h.2 h3
  by_cases h4 : sC (S q0) = 4
  · exact x_callU C0 (wX9_k_sides hq0   I J R L S Q (h.1 h4)) sX1_33_4 (rcv_4 hq0 h4) (hroom _ _ (by decide) (by decide)) rfl hst st0 hs0 hd (py_l k)
  replace h := h.2 h4
  by_cases h5 : sC (S q0) = 5
  · exact x_callU C0 (wX9_k_sides hq0   I J R L S Q (h.1 h5)) sX1_33_5 (rcv_5 hq0 h5) (hroom _ _ (by decide) (by decide)) rfl hst st0 hs0 hd (py_l k)
  replace h := h.2 h5
  by_cases h6 : sC (S q0) = 6
  · exact x_callU C0 (wX9_k_sides hq0   I J R L S Q (h.1 h6)) sX1_33_6 (rcv_6 hq0 h6) (hroom _ _ (by decide) (by decide)) rfl hst st0 hs0 hd (py_l k)
  replace h := h.2 h6
  exact x_callV C0 (wX9_k_sides hq0   I J R L S Q h) sX1_33_0 (rcv_0 hq0 h1 h2 h3 h4 h5 h6) (hroom _ _ (by decide) (by decide)) rfl hst st0 hs0 hd (py_l k)
theorem sX1_39_1 : gSiteU RX1 "FoldedInHalf$Same" "FoldedInHalf$Strip" ⟨"FoldedInHalf$Strip", "creaseAt", "(J)I"⟩ yX9_creaseAt cX9_creaseAt 6 (some .int) 39 1 := gSiteU.inh (tb_in (List.mem_of_getElem? (i := 844) (by decide +kernel)) (by decide +kernel)) (tb_in (List.mem_of_getElem? (i := 428) (by decide +kernel)) (by decide +kernel)) (tb_in (List.mem_of_getElem? (i := 455) (by decide +kernel)) (by decide +kernel)) (tb_in (List.mem_of_getElem? (i := 426) (by decide +kernel)) (by decide +kernel)) (tb_in (List.mem_of_getElem? (i := 90) (by decide +kernel)) (by decide +kernel)) (tb_in (List.mem_of_getElem? (i := 465) (by decide +kernel)) (by decide +kernel)) rfl (by decide +kernel)
theorem sX1_39_2 : gSiteU RX1 "FoldedInHalf$Third" "FoldedInHalf$Strip" ⟨"FoldedInHalf$Strip", "creaseAt", "(J)I"⟩ yX10_creaseAt cX10_creaseAt 6 (some .int) 39 1 := gSiteU.ovr (b0 := cX9_creaseAt) (m0 := 6) (r0 := (some .int)) (tb_in (List.mem_of_getElem? (i := 844) (by decide +kernel)) (by decide +kernel)) (tb_in (List.mem_of_getElem? (i := 428) (by decide +kernel)) (by decide +kernel)) (tb_in (List.mem_of_getElem? (i := 426) (by decide +kernel)) (by decide +kernel)) (tb_in (List.mem_of_getElem? (i := 456) (by decide +kernel)) (by decide +kernel)) (tb_in (List.mem_of_getElem? (i := 457) (by decide +kernel)) (by decide +kernel)) (tb_in (List.mem_of_getElem? (i := 92) (by decide +kernel)) (by decide +kernel)) (tb_in (List.mem_of_getElem? (i := 458) (by decide +kernel)) (by decide +kernel)) (tb_in (List.mem_of_getElem? (i := 465) (by decide +kernel)) (by decide +kernel)) (by decide +kernel)
theorem sX1_39_3 : gSiteU RX1 "FoldedInHalf$Cut" "FoldedInHalf$Strip" ⟨"FoldedInHalf$Strip", "creaseAt", "(J)I"⟩ yX2_creaseAt cX2_creaseAt 3 (some .int) 39 1 := gSiteU.ovr (b0 := cX9_creaseAt) (m0 := 6) (r0 := (some .int)) (tb_in (List.mem_of_getElem? (i := 844) (by decide +kernel)) (by decide +kernel)) (tb_in (List.mem_of_getElem? (i := 428) (by decide +kernel)) (by decide +kernel)) (tb_in (List.mem_of_getElem? (i := 426) (by decide +kernel)) (by decide +kernel)) (tb_in (List.mem_of_getElem? (i := 444) (by decide +kernel)) (by decide +kernel)) (tb_in (List.mem_of_getElem? (i := 441) (by decide +kernel)) (by decide +kernel)) (tb_in (List.mem_of_getElem? (i := 93) (by decide +kernel)) (by decide +kernel)) (tb_in (List.mem_of_getElem? (i := 442) (by decide +kernel)) (by decide +kernel)) (tb_in (List.mem_of_getElem? (i := 465) (by decide +kernel)) (by decide +kernel)) (by decide +kernel)
theorem sX1_39_4 : gSiteU RX1 "FoldedInHalf$Back" "FoldedInHalf$Strip" ⟨"FoldedInHalf$Strip", "creaseAt", "(J)I"⟩ yX0_creaseAt cX0_creaseAt 3 (some .int) 39 1 := gSiteU.ovr (b0 := cX9_creaseAt) (m0 := 6) (r0 := (some .int)) (tb_in (List.mem_of_getElem? (i := 844) (by decide +kernel)) (by decide +kernel)) (tb_in (List.mem_of_getElem? (i := 428) (by decide +kernel)) (by decide +kernel)) (tb_in (List.mem_of_getElem? (i := 426) (by decide +kernel)) (by decide +kernel)) (tb_in (List.mem_of_getElem? (i := 429) (by decide +kernel)) (by decide +kernel)) (tb_in (List.mem_of_getElem? (i := 430) (by decide +kernel)) (by decide +kernel)) (tb_in (List.mem_of_getElem? (i := 94) (by decide +kernel)) (by decide +kernel)) (tb_in (List.mem_of_getElem? (i := 431) (by decide +kernel)) (by decide +kernel)) (tb_in (List.mem_of_getElem? (i := 465) (by decide +kernel)) (by decide +kernel)) (by decide +kernel)
theorem sX1_39_5 : gSiteU RX1 "FoldedInHalf$Glass" "FoldedInHalf$Strip" ⟨"FoldedInHalf$Strip", "creaseAt", "(J)I"⟩ yX9_creaseAt cX9_creaseAt 6 (some .int) 39 1 := gSiteU.inh (tb_in (List.mem_of_getElem? (i := 844) (by decide +kernel)) (by decide +kernel)) (tb_in (List.mem_of_getElem? (i := 428) (by decide +kernel)) (by decide +kernel)) (tb_in (List.mem_of_getElem? (i := 445) (by decide +kernel)) (by decide +kernel)) (tb_in (List.mem_of_getElem? (i := 426) (by decide +kernel)) (by decide +kernel)) (tb_in (List.mem_of_getElem? (i := 90) (by decide +kernel)) (by decide +kernel)) (tb_in (List.mem_of_getElem? (i := 465) (by decide +kernel)) (by decide +kernel)) rfl (by decide +kernel)
theorem sX1_39_6 : gSiteU RX1 "FoldedInHalf$Left" "FoldedInHalf$Strip" ⟨"FoldedInHalf$Strip", "creaseAt", "(J)I"⟩ yX5_creaseAt cX5_creaseAt 3 (some .int) 39 1 := gSiteU.ovr (b0 := cX9_creaseAt) (m0 := 6) (r0 := (some .int)) (tb_in (List.mem_of_getElem? (i := 844) (by decide +kernel)) (by decide +kernel)) (tb_in (List.mem_of_getElem? (i := 428) (by decide +kernel)) (by decide +kernel)) (tb_in (List.mem_of_getElem? (i := 426) (by decide +kernel)) (by decide +kernel)) (tb_in (List.mem_of_getElem? (i := 446) (by decide +kernel)) (by decide +kernel)) (tb_in (List.mem_of_getElem? (i := 447) (by decide +kernel)) (by decide +kernel)) (tb_in (List.mem_of_getElem? (i := 96) (by decide +kernel)) (by decide +kernel)) (tb_in (List.mem_of_getElem? (i := 448) (by decide +kernel)) (by decide +kernel)) (tb_in (List.mem_of_getElem? (i := 465) (by decide +kernel)) (by decide +kernel)) (by decide +kernel)
theorem sX1_39_0 : gSite RX1 yX9_creaseAt cX9_creaseAt 6 (some .int) 39 1 := gSite.of (tb_in (List.mem_of_getElem? (i := 844) (by decide +kernel)) (by decide +kernel)) (tb_in (List.mem_of_getElem? (i := 426) (by decide +kernel)) (by decide +kernel)) (tb_in (List.mem_of_getElem? (i := 427) (by decide +kernel)) (by decide +kernel)) (tb_in (List.mem_of_getElem? (i := 90) (by decide +kernel)) (by decide +kernel)) (tb_in (List.mem_of_getElem? (i := 465) (by decide +kernel)) (by decide +kernel)) (by decide +kernel)
theorem xv_X1_39 {Γ : gT} {cc : ByteArray} {nL : Nat} {D : gD} {ca : Nat → ClassId} {rm : Room} {ret : Option FieldType} {mc ms : Nat} {Post : Option Value → va_W → Prop} {cn sn pc : Nat} {lv : List (Nat × Value)} {st : List Value} {o : Nat → Nat} {L : List Nat} {S : gS} (C0 : Cx Γ cc RX1 nL D (tyW ca) rm ret mc ms Post) {q0 : Nat} (hq0 : q0 ∈ L) (v1 : Int64) (I : gI) (J : gJ) (R : gR) (L0 : List Nat) (S0 : gS) (Q : Int32 → Prop) (h : wv_creaseAt q0 v1 I J R L S Q) (hroom : ∀ l maxL : Nat, l ≤ 3 → maxL ≤ 81 → gRm (rl l) rm maxL 0 0 cn sn) (hst : (st.map fun v => v.category).sum ≤ 8) (st0 : List Value) (hs0 : st0 = ([.long v1] : List Value).reverse ++ .ref q0 :: st) (hd : decode cc pc = .ok (.invokevirtual 39, 3)) (k : ∀ (r : Int32) , Q r  → G Γ cn sn (pc + 3) lv (.int r :: st) (cX ca o I J R L S)) : G Γ cn sn pc lv st0 (cX ca o I J R L S) := by
  unfold wv_creaseAt at h
  by_cases h1 : sC (S q0) = 1
  · exact x_callU C0 (wX9_k_creaseAt hq0  v1 I J R L S Q (h.1 h1)) sX1_39_1 (rcv_1 hq0 h1) (hroom _ _ (by decide) (by decide)) rfl hst st0 hs0 hd (py_i k)
  replace h := h.2 h1
  by_cases h2 : sC (S q0) = 2
  · exact x_callU C0 (wX10_k_creaseAt hq0 h2  v1 I J R L S Q (h.1 h2)) sX1_39_2 (rcv_2 hq0 h2) (hroom _ _ (by decide) (by decide)) rfl hst st0 hs0 hd (py_i k)
  replace h := h.2 h2
  by_cases h3 : sC (S q0) = 3
  · exact x_callU C0 (wX2_k_creaseAt hq0 (Or.inl h3)  v1 I J R L S Q (h.1 h3)) sX1_39_3 (rcv_3 hq0 h3) (hroom _ _ (by decide) (by decide)) rfl hst st0 hs0 hd (py_i k)
  replace h := h.2 h3
  by_cases h4 : sC (S q0) = 4
  · exact x_callU C0 (wX0_k_creaseAt hq0 h4  v1 I J R L S Q (h.1 h4)) sX1_39_4 (rcv_4 hq0 h4) (hroom _ _ (by decide) (by decide)) rfl hst st0 hs0 hd (py_i k)
  replace h := h.2 h4
  by_cases h5 : sC (S q0) = 5
  · exact x_callU C0 (wX9_k_creaseAt hq0  v1 I J R L S Q (h.1 h5)) sX1_39_5 (rcv_5 hq0 h5) (hroom _ _ (by decide) (by decide)) rfl hst st0 hs0 hd (py_i k)
  replace h := h.2 h5
  by_cases h6 : sC (S q0) = 6
  · exact x_callU C0 (wX5_k_creaseAt hq0 h6  v1 I J R L S Q (h.1 h6)) sX1_39_6 (rcv_6 hq0 h6) (hroom _ _ (by decide) (by decide)) rfl hst st0 hs0 hd (py_i k)
  replace h := h.2 h6
  exact x_callV C0 (wX9_k_creaseAt hq0  v1 I J R L S Q h) sX1_39_0 (rcv_0 hq0 h1 h2 h3 h4 h5 h6) (hroom _ _ (by decide) (by decide)) rfl hst st0 hs0 hd (py_i k)
theorem sX1_43 : gSite RX1 yX1_goOn cX1_goOn 2 none 43 1 := gSite.of (tb_in (List.mem_of_getElem? (i := 845) (by decide +kernel)) (by decide +kernel)) (tb_in (List.mem_of_getElem? (i := 846) (by decide +kernel)) (by decide +kernel)) (tb_in (List.mem_of_getElem? (i := 847) (by decide +kernel)) (by decide +kernel)) (tb_in (List.mem_of_getElem? (i := 84) (by decide +kernel)) (by decide +kernel)) (tb_in (List.mem_of_getElem? (i := 848) (by decide +kernel)) (by decide +kernel)) (by decide +kernel)
set_option maxRecDepth 100000 in
theorem wX1_step_gc61 {Γ : gT} {D : gD} {ca : Nat → ClassId} {o : Nat → Nat} {Q : gI → gJ → gR → Prop} {L : List Nat} {S : gS} {n0 : Nat} (hn0 : n0 < 2) (C : Cx Γ cX1_step RX1 1 D (tyW ca) (rl 4) none 0 0 (PXv ca o L S Q)) (I : gI) (J : gJ) (R : gR) (h : wX1_step_c61 n0 L S I J R Q) : G Γ 0 0 61 [(0, .ref (o (10 + n0)))] [] (cX ca o I J R L S) := by
  unfold wX1_step_c61 at h
  refine g_aload_n C (i := 0) dX1_step_61 rfl rfl ?_
  refine g_dup C dX1_step_62 rfl ?_
  refine x_get_X1_22 C (b := n0) hn0 dX1_step_63 ?_
  refine g_iconst_1 C dX1_step_66 ?_
  refine g_iadd C dX1_step_67 ?_
  refine x_put_X1_22 C (b := n0) hn0 dX1_step_68 ?_
  refine x_nmI _ (fun I1 e2 => ?_)
  replace h := h I1 e2
  refine g_aload_n C (i := 0) dX1_step_71 rfl rfl ?_
  refine g_aload_n C (i := 0) dX1_step_72 rfl rfl ?_
  refine x_get_X1_26 C (b := n0) hn0 dX1_step_73 ?_
  refine x_callV C (wX1_k_goOn hn0 (I1 2 n0) I1 J R L S _ h) sX1_43 (rcv_bug (b := n0) hn0) (rl_ok (by decide) (by decide)) rfl (Nat.le_of_ble_eq_true rfl) (st := []) _ rfl dX1_step_76 (px_v (fun I4 J5 R6 h => ?_))
  exact g_ret_v C dX1_step_79 (Nat.le_refl _) (Nat.le_refl _) ⟨_, _, _, rfl, rfl, h⟩
set_option maxRecDepth 100000 in
theorem wX1_step_gc57 {Γ : gT} {D : gD} {ca : Nat → ClassId} {o : Nat → Nat} {Q : gI → gJ → gR → Prop} {L : List Nat} {S : gS} {n0 : Nat} (hn0 : n0 < 2) (C : Cx Γ cX1_step RX1 1 D (tyW ca) (rl 4) none 0 0 (PXv ca o L S Q)) (s1 : Int32) (s2 : Int32) (I : gI) (J : gJ) (R : gR) (h : wX1_step_c57 n0 L S s1 s2 I J R Q) : G Γ 0 0 57 [(0, .ref (o (10 + n0)))] [.int s2, .int s1, .ref (o (10 + n0))] (cX ca o I J R L S) := by
  unfold wX1_step_c57 at h
  refine g_iadd C dX1_step_57 ?_
  refine x_put_X1_26 C (b := n0) hn0 dX1_step_58 ?_
  refine x_nmI _ (fun I1 e2 => ?_)
  replace h := h I1 e2
  exact g_weak [0] rfl (Nat.le_refl _) (Nat.le_refl _) (wX1_step_gc61 hn0 C   I1 J R h)
set_option maxRecDepth 100000 in
theorem wX1_step_g {Γ : gT} {D : gD} {ca : Nat → ClassId} {o : Nat → Nat} {I : gI} {J : gJ} {R : gR} {L : List Nat} {S : gS} {Q : gI → gJ → gR → Prop} {n0 : Nat} (hn0 : n0 < 2) (C : Cx Γ cX1_step RX1 1 D (tyW ca) (rl 4) none 0 0 (PXv ca o L S Q)) (h : wX1_step n0 I J R L S Q) : G Γ 0 0 0 [(0, .ref (o (10 + n0)))] [] (cX ca o I J R L S) := by
  unfold wX1_step at h
  refine g_aload_n C (i := 0) dX1_step_0 rfl rfl ?_
  refine x_get_X1_18 C (b := n0) hn0 dX1_step_1 ?_
  refine g_ifnull C 23 dX1_step_4 rfl (fun c1 => ?_) (fun c1 => ?_)
  · replace h := h.1 c1
    exact g_ret_v C dX1_step_23 (Nat.le_refl _) (Nat.le_refl _) ⟨_, _, _, rfl, rfl, h⟩
  · replace h := h.2 c1
    refine g_aload_n C (i := 0) dX1_step_7 rfl rfl ?_
    refine x_get_X1_22 C (b := n0) hn0 dX1_step_8 ?_
    refine g_i2l C dX1_step_11 ?_
    refine g_aload_n C (i := 0) dX1_step_12 rfl rfl ?_
    refine x_get_X1_18 C (b := n0) hn0 dX1_step_13 ?_
    obtain ⟨z2, h3, h4, h⟩ := h
    refine g_eqs (st' := [.ref z2, .long ((I 1 n0).toInt64)]) (by rw [h3]; rfl) rfl ?_
    refine xv_X1_33 C h4 I J R L S _ h (fun l m h1 h2 => rl_ok (by omega) h2) (Nat.le_of_ble_eq_true rfl) (st := [.long ((I 1 n0).toInt64)]) _ rfl dX1_step_16 (fun r5 h => ?_)
    refine g_llt C 24 dX1_step_19 dX1_step_20 rfl (fun c6 => ?_) (fun c6 => ?_)
    · replace h := h.1 c6
      refine g_aload_n C (i := 0) dX1_step_24 rfl rfl ?_
      refine x_get_X1_22 C (b := n0) hn0 dX1_step_25 ?_
      refine g_if_le C 61 dX1_step_28 rfl (fun c7 => ?_) (fun c7 => ?_)
      · replace h := h.1 c7
        exact g_weak [0] rfl (Nat.le_refl _) (Nat.le_refl _) (wX1_step_gc61 hn0 C   I J R h)
      · replace h := h.2 c7
        refine g_aload_n C (i := 0) dX1_step_31 rfl rfl ?_
        refine g_dup C dX1_step_32 rfl ?_
        refine x_get_X1_26 C (b := n0) hn0 dX1_step_33 ?_
        refine g_aload_n C (i := 0) dX1_step_36 rfl rfl ?_
        refine x_get_X1_18 C (b := n0) hn0 dX1_step_37 ?_
        refine g_aload_n C (i := 0) dX1_step_40 rfl rfl ?_
        refine x_get_X1_22 C (b := n0) hn0 dX1_step_41 ?_
        refine g_i2l C dX1_step_44 ?_
        refine g_eqs (st' := [.long ((I 1 n0).toInt64), .ref z2, .int (I 2 n0), .ref (o (10 + n0))]) (by rw [h3]; rfl) rfl ?_
        refine xv_X1_39 C h4 ((I 1 n0).toInt64) I J R L S _ h (fun l m h1 h2 => rl_ok (by omega) h2) (Nat.le_of_ble_eq_true rfl) (st := [.int (I 2 n0), .ref (o (10 + n0))]) _ rfl dX1_step_45 (fun r8 h => ?_)
        refine g_iconst_1 C dX1_step_48 ?_
        refine g_icmp_ne C 56 dX1_step_49 rfl (fun c9 => ?_) (fun c9 => ?_)
        · replace h := h.1 c9
          refine g_iconst_3 C dX1_step_56 ?_
          exact g_weak [0] rfl (Nat.le_refl _) (Nat.le_refl _) (wX1_step_gc57 hn0 C  (I 2 n0) 3 I J R h)
        · replace h := h.2 c9
          refine g_iconst_1 C dX1_step_52 ?_
          refine g_goto C 57 dX1_step_53 rfl ?_
          exact g_weak [0] rfl (Nat.le_refl _) (Nat.le_refl _) (wX1_step_gc57 hn0 C  (I 2 n0) 1 I J R h)
    · replace h := h.2 c6
      exact g_ret_v C dX1_step_23 (Nat.le_refl _) (Nat.le_refl _) ⟨_, _, _, rfl, rfl, h⟩
theorem wX1_k_step {D : gD} {ca : Nat → ClassId} {o : Nat → Nat} {L : List Nat} {S : gS} {n0 : Nat} (hn0 : n0 < 2) (I : gI) (J : gJ) (R : gR) (L0 : List Nat) (S0 : gS) (Q : gI → gJ → gR → Prop) (h : wX1_step n0 I J R L S Q) : Ct yX1_step cX1_step 1 none (rl 4) D (tyW ca) 0 0 [.ref (o (10 + n0))] (cX ca o I J R L S) (PXv ca o L S Q) := ct_of (rm := (rl 4)) (by decide +kernel) (Nat.le_of_ble_eq_true rfl) (fun Γ C => wX1_step_g hn0 C h)
theorem sX2_21 : gSiteP RX2 yX9_wayBehind cX9_wayBehind 5 (some .int) 21 1 := gSiteP.of (tb_in (List.mem_of_getElem? (i := 767) (by decide +kernel)) (by decide +kernel)) (tb_in (List.mem_of_getElem? (i := 756) (by decide +kernel)) (by decide +kernel)) (tb_in (List.mem_of_getElem? (i := 401) (by decide +kernel)) (by decide +kernel)) (tb_in (List.mem_of_getElem? (i := 754) (by decide +kernel)) (by decide +kernel)) (tb_in (List.mem_of_getElem? (i := 90) (by decide +kernel)) (by decide +kernel)) (tb_in (List.mem_of_getElem? (i := 799) (by decide +kernel)) (by decide +kernel)) (by decide +kernel)
set_option maxRecDepth 100000 in
theorem wX2_wayBehind_g {Γ : gT} {D : gD} {ca : Nat → ClassId} {o : Nat → Nat} {I : gI} {J : gJ} {R : gR} {L : List Nat} {S : gS} {Q : Int32 → Prop} {q0 : Nat} (hq0 : q0 ∈ L) (hc0 : sC (S q0) = 3 ∨ sC (S q0) = 4) (v1 : Int64) (C : Cx Γ cX2_wayBehind RX2 3 D (tyW ca) (rl 4) (some .int) 0 0 (PYi ca o I J R L S Q)) (h : wX2_wayBehind q0 v1 I J R L S Q) : G Γ 0 0 0 [(0, .ref q0), (1, .long v1)] [] (cX ca o I J R L S) := by
  unfold wX2_wayBehind at h
  refine g_aload_n C (i := 0) dX2_wayBehind_0 rfl rfl ?_
  refine g_lload_n C (i := 1) dX2_wayBehind_1 rfl rfl ?_
  refine g_aload_n C (i := 0) dX2_wayBehind_2 rfl rfl ?_
  refine x_get_X2_7 C hq0 hc0 dX2_wayBehind_3 ?_
  refine g_ladd C dX2_wayBehind_6 ?_
  refine x_callP C (wX9_k_wayBehind hq0 (v1 + (sF (S q0))) I J R L S _ h) sX2_21 (rcv_any hq0) (rl_ok (by decide) (by decide)) rfl (Nat.le_of_ble_eq_true rfl) (st := []) _ rfl dX2_wayBehind_7 (py_i (fun r1 h => ?_))
  refine g_aload_n C (i := 0) dX2_wayBehind_10 rfl rfl ?_
  refine g_aload_n C (i := 0) dX2_wayBehind_11 rfl rfl ?_
  refine x_get_X2_7 C hq0 hc0 dX2_wayBehind_12 ?_
  refine x_callP C (wX9_k_wayBehind hq0 (sF (S q0)) I J R L S _ h) sX2_21 (rcv_any hq0) (rl_ok (by decide) (by decide)) rfl (Nat.le_of_ble_eq_true rfl) (st := [.int r1]) _ rfl dX2_wayBehind_15 (py_i (fun r2 h => ?_))
  refine g_isub C dX2_wayBehind_18 ?_
  refine g_iconst_3 C dX2_wayBehind_19 ?_
  refine g_iand C dX2_wayBehind_20 ?_
  exact g_ret_i C dX2_wayBehind_21 (Nat.le_refl _) (Nat.le_refl _) ⟨_, rfl, rfl, h⟩
theorem wX2_k_wayBehind {D : gD} {ca : Nat → ClassId} {o : Nat → Nat} {L : List Nat} {S : gS} {q0 : Nat} (hq0 : q0 ∈ L) (hc0 : sC (S q0) = 3 ∨ sC (S q0) = 4) (v1 : Int64) (I : gI) (J : gJ) (R : gR) (L0 : List Nat) (S0 : gS) (Q : Int32 → Prop) (h : wX2_wayBehind q0 v1 I J R L S Q) : Ct yX2_wayBehind cX2_wayBehind 3 (some .int) (rl 4) D (tyW ca) 0 0 [.ref q0, .long v1] (cX ca o I J R L S) (PYi ca o I J R L S Q) := ct_of (rm := (rl 4)) (by decide +kernel) (Nat.le_of_ble_eq_true rfl) (fun Γ C => wX2_wayBehind_g hq0 hc0 v1 C h)
theorem sX2_24 : gSiteP RX2 yX9_lead cX9_lead 8 none 24 2 := gSiteP.of (tb_in (List.mem_of_getElem? (i := 817) (by decide +kernel)) (by decide +kernel)) (tb_in (List.mem_of_getElem? (i := 810) (by decide +kernel)) (by decide +kernel)) (tb_in (List.mem_of_getElem? (i := 401) (by decide +kernel)) (by decide +kernel)) (tb_in (List.mem_of_getElem? (i := 808) (by decide +kernel)) (by decide +kernel)) (tb_in (List.mem_of_getElem? (i := 90) (by decide +kernel)) (by decide +kernel)) (tb_in (List.mem_of_getElem? (i := 863) (by decide +kernel)) (by decide +kernel)) (by decide +kernel)
theorem sX2_36 : gSite RX2 yX1_standAt cX1_standAt 5 none 36 2 := gSite.of (tb_in (List.mem_of_getElem? (i := 818) (by decide +kernel)) (by decide +kernel)) (tb_in (List.mem_of_getElem? (i := 819) (by decide +kernel)) (by decide +kernel)) (tb_in (List.mem_of_getElem? (i := 820) (by decide +kernel)) (by decide +kernel)) (tb_in (List.mem_of_getElem? (i := 84) (by decide +kernel)) (by decide +kernel)) (tb_in (List.mem_of_getElem? (i := 821) (by decide +kernel)) (by decide +kernel)) (by decide +kernel)
theorem sX2_40 : gSite RX2 yX1_turnRound cX1_turnRound 3 none 40 1 := gSite.of (tb_in (List.mem_of_getElem? (i := 822) (by decide +kernel)) (by decide +kernel)) (tb_in (List.mem_of_getElem? (i := 823) (by decide +kernel)) (by decide +kernel)) (tb_in (List.mem_of_getElem? (i := 824) (by decide +kernel)) (by decide +kernel)) (tb_in (List.mem_of_getElem? (i := 84) (by decide +kernel)) (by decide +kernel)) (tb_in (List.mem_of_getElem? (i := 825) (by decide +kernel)) (by decide +kernel)) (by decide +kernel)
set_option maxRecDepth 100000 in
theorem wX2_lead_g {Γ : gT} {D : gD} {ca : Nat → ClassId} {o : Nat → Nat} {I : gI} {J : gJ} {R : gR} {L : List Nat} {S : gS} {Q : gI → gJ → gR → Prop} {q0 : Nat} (hq0 : q0 ∈ L) (hc0 : sC (S q0) = 3 ∨ sC (S q0) = 4) {n1 : Nat} (hn1 : n1 < 2) (v2 : Int64) (C : Cx Γ cX2_lead RX2 8 D (tyW ca) (rl 4) none 0 0 (PXv ca o L S Q)) (h : wX2_lead q0 n1 v2 I J R L S Q) : G Γ 0 0 0 [(0, .ref q0), (1, .ref (o (10 + n1))), (2, .long v2)] [] (cX ca o I J R L S) := by
  unfold wX2_lead at h
  refine g_aload_n C (i := 0) dX2_lead_0 rfl rfl ?_
  refine g_aload_n C (i := 1) dX2_lead_1 rfl rfl ?_
  refine g_aload_n C (i := 0) dX2_lead_2 rfl rfl ?_
  refine x_get_X2_7 C hq0 hc0 dX2_lead_3 ?_
  refine x_callP C (wX9_k_lead hq0 hn1 (sF (S q0)) I J R L S _ h) sX2_24 (rcv_any hq0) (rl_ok (by decide) (by decide)) rfl (Nat.le_of_ble_eq_true rfl) (st := []) _ rfl dX2_lead_6 (px_v (fun I2 J3 R4 h => ?_))
  refine g_aload_n C (i := 1) dX2_lead_9 rfl rfl ?_
  refine x_get_X2_28 C (b := n1) hn1 dX2_lead_10 ?_
  refine g_lstore C (i := 4) [(0, .ref q0), (1, .ref (o (10 + n1))), (2, .long v2), (4, .long (J3 1 n1))] dX2_lead_13 (by decide) rfl ?_
  refine g_aload_n C (i := 1) dX2_lead_15 rfl rfl ?_
  refine x_get_X2_33 C (b := n1) hn1 dX2_lead_16 ?_
  refine g_lstore C (i := 6) [(0, .ref q0), (1, .ref (o (10 + n1))), (2, .long v2), (4, .long (J3 1 n1)), (6, .long (J3 2 n1))] dX2_lead_19 (by decide) rfl ?_
  refine g_aload_n C (i := 0) dX2_lead_21 rfl rfl ?_
  refine g_aload_n C (i := 1) dX2_lead_22 rfl rfl ?_
  refine g_lload_n C (i := 2) dX2_lead_23 rfl rfl ?_
  refine g_aload_n C (i := 0) dX2_lead_24 rfl rfl ?_
  refine x_get_X2_7 C hq0 hc0 dX2_lead_25 ?_
  refine g_ladd C dX2_lead_28 ?_
  refine x_callP C (wX9_k_lead hq0 hn1 (v2 + (sF (S q0))) I2 J3 R4 L S _ h) sX2_24 (rcv_any hq0) (rl_ok (by decide) (by decide)) rfl (Nat.le_of_ble_eq_true rfl) (st := []) _ rfl dX2_lead_29 (px_v (fun I6 J7 R8 h => ?_))
  refine g_aload_n C (i := 1) dX2_lead_32 rfl rfl ?_
  refine g_aload_n C (i := 1) dX2_lead_33 rfl rfl ?_
  refine x_get_X2_28 C (b := n1) hn1 dX2_lead_34 ?_
  refine g_lload C (i := 4) dX2_lead_37 rfl ?_
  refine g_lsub C dX2_lead_39 ?_
  refine g_aload_n C (i := 1) dX2_lead_40 rfl rfl ?_
  refine x_get_X2_33 C (b := n1) hn1 dX2_lead_41 ?_
  refine g_lload C (i := 6) dX2_lead_44 rfl ?_
  refine g_lsub C dX2_lead_46 ?_
  refine x_callV C (wX1_k_standAt hn1 ((J7 1 n1) - (J3 1 n1)) ((J7 2 n1) - (J3 2 n1)) I6 J7 R8 L S _ h) sX2_36 (rcv_bug (b := n1) hn1) (rl_ok (by decide) (by decide)) rfl (Nat.le_of_ble_eq_true rfl) (st := []) _ rfl dX2_lead_47 (px_v (fun I10 J11 R12 h => ?_))
  refine g_aload_n C (i := 1) dX2_lead_50 rfl rfl ?_
  refine g_aload_n C (i := 0) dX2_lead_51 rfl rfl ?_
  refine g_aload_n C (i := 0) dX2_lead_52 rfl rfl ?_
  refine x_get_X2_7 C hq0 hc0 dX2_lead_53 ?_
  refine x_callP C (wX9_k_wayBehind hq0 (sF (S q0)) I10 J11 R12 L S _ h) sX2_21 (rcv_any hq0) (rl_ok (by decide) (by decide)) rfl (Nat.le_of_ble_eq_true rfl) (st := [.ref (o (10 + n1))]) _ rfl dX2_lead_56 (py_i (fun r13 h => ?_))
  refine g_ineg C dX2_lead_59 ?_
  refine x_callV C (wX1_k_turnRound hn1 (-r13) I10 J11 R12 L S _ h) sX2_40 (rcv_bug (b := n1) hn1) (rl_ok (by decide) (by decide)) rfl (Nat.le_of_ble_eq_true rfl) (st := []) _ rfl dX2_lead_60 (px_v (fun I15 J16 R17 h => ?_))
  exact g_ret_v C dX2_lead_63 (Nat.le_refl _) (Nat.le_refl _) ⟨_, _, _, rfl, rfl, h⟩
theorem wX2_k_lead {D : gD} {ca : Nat → ClassId} {o : Nat → Nat} {L : List Nat} {S : gS} {q0 : Nat} (hq0 : q0 ∈ L) (hc0 : sC (S q0) = 3 ∨ sC (S q0) = 4) {n1 : Nat} (hn1 : n1 < 2) (v2 : Int64) (I : gI) (J : gJ) (R : gR) (L0 : List Nat) (S0 : gS) (Q : gI → gJ → gR → Prop) (h : wX2_lead q0 n1 v2 I J R L S Q) : Ct yX2_lead cX2_lead 8 none (rl 4) D (tyW ca) 0 0 [.ref q0, .ref (o (10 + n1)), .long v2] (cX ca o I J R L S) (PXv ca o L S Q) := ct_of (rm := (rl 4)) (by decide +kernel) (Nat.le_of_ble_eq_true rfl) (fun Γ C => wX2_lead_g hq0 hc0 hn1 v2 C h)
theorem sX5_33 : gSite RX5 yJ4_append_cf468 cJ4_append_cf468 2 (some (.object "java/lang/StringBuilder")) 33 1 := gSite.of (tb_in (List.mem_of_getElem? (i := 1194) (by decide +kernel)) (by decide +kernel)) (tb_in (List.mem_of_getElem? (i := 1152) (by decide +kernel)) (by decide +kernel)) (tb_in (List.mem_of_getElem? (i := 1153) (by decide +kernel)) (by decide +kernel)) (tb_in (List.mem_of_getElem? (i := 80) (by decide +kernel)) (by decide +kernel)) (tb_in (List.mem_of_getElem? (i := 1154) (by decide +kernel)) (by decide +kernel)) (by decide +kernel)
theorem sX5_39 : gSiteQ RX5 "FoldedInHalf$Strip" ⟨"FoldedInHalf$Glass", "folds", "(Ljava/lang/StringBuilder;I)I"⟩ yX9_folds cX9_folds 3 (some .int) 39 2 := gSiteQ.of (tb_in (List.mem_of_getElem? (i := 1195) (by decide +kernel)) (by decide +kernel)) (tb_in (List.mem_of_getElem? (i := 1196) (by decide +kernel)) (by decide +kernel)) (tb_in (List.mem_of_getElem? (i := 453) (by decide +kernel)) (by decide +kernel)) (tb_in (List.mem_of_getElem? (i := 454) (by decide +kernel)) (by decide +kernel)) (tb_in (List.mem_of_getElem? (i := 1145) (by decide +kernel)) (by decide +kernel)) (tb_in (List.mem_of_getElem? (i := 90) (by decide +kernel)) (by decide +kernel)) (tb_in (List.mem_of_getElem? (i := 1203) (by decide +kernel)) (by decide +kernel)) rfl (by decide +kernel)
set_option maxRecDepth 100000 in
theorem wX5_folds_g {Γ : gT} {D : gD} {ca : Nat → ClassId} {o : Nat → Nat} {I : gI} {J : gJ} {R : gR} {L : List Nat} {S : gS} {Q : Int32 → gI → gJ → gR → Prop} {q0 : Nat} (hq0 : q0 ∈ L) (hc0 : sC (S q0) = 6) (v2 : Int32) (C : Cx Γ cX5_folds RX5 3 D (tyW ca) (rl 4) (some .int) 0 0 (PXi ca o L S Q)) (h : wX5_folds q0 v2 I J R L S Q) : G Γ 0 0 0 [(0, .ref q0), (1, .ref (o 1)), (2, .int v2)] [] (cX ca o I J R L S) := by
  unfold wX5_folds at h
  refine g_aload_n C (i := 1) dX5_folds_0 rfl rfl ?_
  refine g_bipush C (v := 70) dX5_folds_1 (by decide) ?_
  refine x_callV C (wJ4_k_append_cf468 70 I J R L S _ h) sX5_33 rcv_sb (rl_ok (by decide) (by decide)) rfl (Nat.le_of_ble_eq_true rfl) (st := []) _ rfl dX5_folds_3 (px_b (fun I2 J3 R4 h => ?_))
  refine g_pop C dX5_folds_6 rfl ?_
  refine g_aload_n C (i := 0) dX5_folds_7 rfl rfl ?_
  refine g_aload_n C (i := 1) dX5_folds_8 rfl rfl ?_
  refine g_iload_n C (i := 2) dX5_folds_9 rfl rfl ?_
  refine x_callP2 C (wX9_k_folds hq0 v2 I2 J3 R4 L S _ h) sX5_39 (rcv_any hq0) (rl_ok (by decide) (by decide)) rfl (Nat.le_of_ble_eq_true rfl) (st := []) _ rfl dX5_folds_10 (px_i (fun r5 I6 J7 R8 h => ?_))
  refine g_iconst_2 C dX5_folds_13 ?_
  refine g_imul C dX5_folds_14 ?_
  exact g_ret_i C dX5_folds_15 (Nat.le_refl _) (Nat.le_refl _) ⟨_, _, _, _, rfl, rfl, h⟩
theorem wX5_k_folds {D : gD} {ca : Nat → ClassId} {o : Nat → Nat} {L : List Nat} {S : gS} {q0 : Nat} (hq0 : q0 ∈ L) (hc0 : sC (S q0) = 6) (v2 : Int32) (I : gI) (J : gJ) (R : gR) (L0 : List Nat) (S0 : gS) (Q : Int32 → gI → gJ → gR → Prop) (h : wX5_folds q0 v2 I J R L S Q) : Ct yX5_folds cX5_folds 3 (some .int) (rl 4) D (tyW ca) 0 0 [.ref q0, .ref (o 1), .int v2] (cX ca o I J R L S) (PXi ca o L S Q) := ct_of (rm := (rl 4)) (by decide +kernel) (Nat.le_of_ble_eq_true rfl) (fun Γ C => wX5_folds_g hq0 hc0 v2 C h)
theorem sX6_68 : gSite RX6 yX6_numberUpTo cX6_numberUpTo 3 (some .boolean) 68 1 := gSite.of (tb_in (List.mem_of_getElem? (i := 709) (by decide +kernel)) (by decide +kernel)) (tb_in (List.mem_of_getElem? (i := 711) (by decide +kernel)) (by decide +kernel)) (tb_in (List.mem_of_getElem? (i := 12) (by decide +kernel)) (by decide +kernel)) (tb_in (List.mem_of_getElem? (i := 83) (by decide +kernel)) (by decide +kernel)) (tb_in (List.mem_of_getElem? (i := 712) (by decide +kernel)) (by decide +kernel)) (by decide +kernel)
set_option maxRecDepth 100000 in
theorem wX6_numberOfStrip_g {Γ : gT} {D : gD} {ca : Nat → ClassId} {o : Nat → Nat} {I : gI} {J : gJ} {R : gR} {L : List Nat} {S : gS} {Q : Bool → gI → gJ → gR → Prop} (C : Cx Γ cX6_numberOfStrip RX6 1 D (tyW ca) (rl 4) (some .boolean) 0 0 (PXz ca o L S Q)) (h : wX6_numberOfStrip I J R L S Q) : G Γ 0 0 0 [(0, .ref (o 3))] [] (cX ca o I J R L S) := by
  unfold wX6_numberOfStrip at h
  refine g_aload_n C (i := 0) dX6_numberOfStrip_0 rfl rfl ?_
  refine g_aload_n C (i := 0) dX6_numberOfStrip_1 rfl rfl ?_
  refine x_get_X6_21 C dX6_numberOfStrip_2 ?_
  refine g_iconst_1 C dX6_numberOfStrip_5 ?_
  refine g_isub C dX6_numberOfStrip_6 ?_
  refine x_callV C (wX6_k_numberUpTo ((I 0 5) - 1) I J R L S _ h) sX6_68 rcv_reader (rl_ok (by decide) (by decide)) rfl (Nat.le_of_ble_eq_true rfl) (st := []) _ rfl dX6_numberOfStrip_7 (px_z (fun r1 I2 J3 R4 h => ?_))
  exact g_ret_z C r1 rfl dX6_numberOfStrip_10 (Nat.le_refl _) (Nat.le_refl _) ⟨_, _, _, _, rfl, rfl, h⟩
theorem wX6_k_numberOfStrip {D : gD} {ca : Nat → ClassId} {o : Nat → Nat} {L : List Nat} {S : gS} (I : gI) (J : gJ) (R : gR) (L0 : List Nat) (S0 : gS) (Q : Bool → gI → gJ → gR → Prop) (h : wX6_numberOfStrip I J R L S Q) : Ct yX6_numberOfStrip cX6_numberOfStrip 1 (some .boolean) (rl 4) D (tyW ca) 0 0 [.ref (o 3)] (cX ca o I J R L S) (PXz ca o L S Q) := ct_of (rm := (rl 4)) (by decide +kernel) (Nat.le_of_ble_eq_true rfl) (fun Γ C => wX6_numberOfStrip_g C h)
theorem sX6_111 : gSite RX6 yJ0_length_8abf5 cJ0_length_8abf5 1 (some .int) 111 0 := gSite.of (tb_in (List.mem_of_getElem? (i := 657) (by decide +kernel)) (by decide +kernel)) (tb_in (List.mem_of_getElem? (i := 658) (by decide +kernel)) (by decide +kernel)) (tb_in (List.mem_of_getElem? (i := 659) (by decide +kernel)) (by decide +kernel)) (tb_in (List.mem_of_getElem? (i := 81) (by decide +kernel)) (by decide +kernel)) (tb_in (List.mem_of_getElem? (i := 660) (by decide +kernel)) (by decide +kernel)) (by decide +kernel)
theorem sX6_116 : gSite RX6 yJ0_charAt_5068e cJ0_charAt_5068e 2 (some .char) 116 1 := gSite.of (tb_in (List.mem_of_getElem? (i := 666) (by decide +kernel)) (by decide +kernel)) (tb_in (List.mem_of_getElem? (i := 667) (by decide +kernel)) (by decide +kernel)) (tb_in (List.mem_of_getElem? (i := 668) (by decide +kernel)) (by decide +kernel)) (tb_in (List.mem_of_getElem? (i := 81) (by decide +kernel)) (by decide +kernel)) (tb_in (List.mem_of_getElem? (i := 669) (by decide +kernel)) (by decide +kernel)) (by decide +kernel)
set_option maxRecDepth 100000 in
theorem wX6_letters_gb2 {Γ : gT} {D : gD} {ca : Nat → ClassId} {o : Nat → Nat} {Q : Bool → gI → gJ → gR → Prop} {L : List Nat} {S : gS} {n1 : Nat} (hn1 : n1 < 5) (C : Cx Γ cX6_letters RX6 3 D (tyW ca) (rl 4) (some .boolean) 0 0 (PXz ca o L S Q)) {B2 : Int32 → gI → gJ → gR → Prop} (hB2 : ∀ (v2 : Int32) (I : gI) (J : gJ) (R : gR), B2 v2 I J R → G Γ 0 0 2 [(0, .ref (o 3)), (1, .ref (D.2.2.1 n1)), (2, .int v2)] [] (cX ca o I J R L S)) (v2 : Int32) (I : gI) (J : gJ) (R : gR) (h : wX6_letters_b2 n1 L S B2 v2 I J R Q) : G Γ 0 0 2 [(0, .ref (o 3)), (1, .ref (D.2.2.1 n1)), (2, .int v2)] [] (cX ca o I J R L S) := by
  unfold wX6_letters_b2 at h
  refine g_iload_n C (i := 2) dX6_letters_2 rfl rfl ?_
  refine g_aload_n C (i := 1) dX6_letters_3 rfl rfl ?_
  refine x_callT C (wJ0_k_length_8abf5 hn1 I J R L S _ h) sX6_111 rfl hn1 (rl_ok (by decide) (by decide)) rfl (Nat.le_of_ble_eq_true rfl) (st := [.int v2]) _ rfl dX6_letters_4 (py_i (fun r1 h => ?_))
  refine g_icmp_ge C 47 dX6_letters_7 rfl (fun c2 => ?_) (fun c2 => ?_)
  · replace h := h.1 c2
    refine g_iconst_1 C dX6_letters_47 ?_
    exact g_ret_z C true rfl dX6_letters_48 (Nat.le_refl _) (Nat.le_refl _) ⟨_, _, _, _, rfl, rfl, h⟩
  · replace h := h.2 c2
    refine g_aload_n C (i := 0) dX6_letters_10 rfl rfl ?_
    refine x_callV C (wX6_k_here I J R L S _ h) sX6_35 rcv_reader (rl_ok (by decide) (by decide)) rfl (Nat.le_of_ble_eq_true rfl) (st := []) _ rfl dX6_letters_11 (py_i (fun r3 h => ?_))
    refine g_aload_n C (i := 1) dX6_letters_14 rfl rfl ?_
    refine g_iload_n C (i := 2) dX6_letters_15 rfl rfl ?_
    refine x_callT C (wJ0_k_charAt_5068e hn1 v2 I J R L S _ h) sX6_116 rfl hn1 (rl_ok (by decide) (by decide)) rfl (Nat.le_of_ble_eq_true rfl) (st := [.int r3]) _ rfl dX6_letters_16 (py_i (fun r4 h => ?_))
    refine g_icmp_eq C 31 dX6_letters_19 rfl (fun c5 => ?_) (fun c5 => ?_)
    · replace h := h.1 c5
      refine g_aload_n C (i := 0) dX6_letters_31 rfl rfl ?_
      refine g_dup C dX6_letters_32 rfl ?_
      refine x_get_X6_28 C dX6_letters_33 ?_
      refine g_iconst_1 C dX6_letters_36 ?_
      refine g_iadd C dX6_letters_37 ?_
      refine x_put_X6_28 C dX6_letters_38 ?_
      refine x_nmI _ (fun I6 e7 => ?_)
      replace h := h I6 e7
      refine g_iinc C 1 [(0, .ref (o 3)), (1, .ref (D.2.2.1 n1)), (2, .int (v2 + 1))] dX6_letters_41 rfl (by decide) (by decide) rfl ?_
      refine g_goto C 2 dX6_letters_44 rfl ?_
      exact g_weak [0, 1, 2] rfl (Nat.le_refl _) (Nat.le_refl _) (hB2 (v2 + 1) I6 J R h)
    · replace h := h.2 c5
      refine g_aload_n C (i := 0) dX6_letters_22 rfl rfl ?_
      refine g_aload_n C (i := 0) dX6_letters_23 rfl rfl ?_
      refine x_get_X6_28 C dX6_letters_24 ?_
      refine x_callV C (wX6_k_fail (I 0 7) I J R L S _ h) sX6_49 rcv_reader (rl_ok (by decide) (by decide)) rfl (Nat.le_of_ble_eq_true rfl) (st := []) _ rfl dX6_letters_27 (px_z (fun r8 I9 J10 R11 h => ?_))
      exact g_ret_z C r8 rfl dX6_letters_30 (Nat.le_refl _) (Nat.le_refl _) ⟨_, _, _, _, rfl, rfl, h⟩
theorem wX6_letters_gl2 {Γ : gT} {D : gD} {ca : Nat → ClassId} {o : Nat → Nat} {Q : Bool → gI → gJ → gR → Prop} {L : List Nat} {S : gS} {n1 : Nat} (hn1 : n1 < 5) (C : Cx Γ cX6_letters RX6 3 D (tyW ca) (rl 4) (some .boolean) 0 0 (PXz ca o L S Q)) : ∀ (n : Nat) (v2 : Int32) (I : gI) (J : gJ) (R : gR) (_ : wX6_letters_l2 n1 L S Q n v2 I J R), G Γ 0 0 2 [(0, .ref (o 3)), (1, .ref (D.2.2.1 n1)), (2, .int v2)] [] (cX ca o I J R L S) := by
  intro n
  induction n with
  | zero => intro v2 I J R h; exact h.elim
  | succ n ih => intro v2 I J R h; exact wX6_letters_gb2 hn1 C ih v2 I J R h
set_option maxRecDepth 100000 in
theorem wX6_letters_g {Γ : gT} {D : gD} {ca : Nat → ClassId} {o : Nat → Nat} {I : gI} {J : gJ} {R : gR} {L : List Nat} {S : gS} {Q : Bool → gI → gJ → gR → Prop} {n1 : Nat} (hn1 : n1 < 5) (C : Cx Γ cX6_letters RX6 3 D (tyW ca) (rl 4) (some .boolean) 0 0 (PXz ca o L S Q)) (h : wX6_letters n1 I J R L S Q) : G Γ 0 0 0 [(0, .ref (o 3)), (1, .ref (D.2.2.1 n1))] [] (cX ca o I J R L S) := by
  unfold wX6_letters at h
  refine g_iconst_0 C dX6_letters_0 ?_
  refine g_istore_n C (i := 2) [(0, .ref (o 3)), (1, .ref (D.2.2.1 n1)), (2, .int 0)] dX6_letters_1 rfl (by decide) rfl ?_
  obtain ⟨n, h⟩ := h
  exact g_weak [0, 1, 2] rfl (Nat.le_refl _) (Nat.le_refl _) (wX6_letters_gl2 hn1 C  n 0 I J R h)
theorem wX6_k_letters {D : gD} {ca : Nat → ClassId} {o : Nat → Nat} {L : List Nat} {S : gS} {n1 : Nat} (hn1 : n1 < 5) (I : gI) (J : gJ) (R : gR) (L0 : List Nat) (S0 : gS) (Q : Bool → gI → gJ → gR → Prop) (h : wX6_letters n1 I J R L S Q) : Ct yX6_letters cX6_letters 3 (some .boolean) (rl 4) D (tyW ca) 0 0 [.ref (o 3), .ref (D.2.2.1 n1)] (cX ca o I J R L S) (PXz ca o L S Q) := ct_of (rm := (rl 4)) (by decide +kernel) (Nat.le_of_ble_eq_true rfl) (fun Γ C => wX6_letters_g hn1 C h)
