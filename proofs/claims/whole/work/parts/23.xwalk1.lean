set_option maxRecDepth 100000 in
theorem wX11_isUnder_gb4 {Γ : gT} {D : gD} {ca : Nat → ClassId} {o : Nat → Nat} {Q : Bool → Prop} {I : gI} {J : gJ} {R : gR} {L : List Nat} {S : gS} (C : Cx Γ cX11_isUnder RX11 4 D (tyW ca) (rl 0) (some .boolean) 0 0 (PYz ca o I J R L S Q)) {B4 : Int32 → Int32 → Int32 → Prop} (hB4 : ∀ (v1 : Int32) (v2 : Int32) (v3 : Int32) , B4 v1 v2 v3 → G Γ 0 0 4 [(1, .int v1), (2, .int v2), (3, .int v3)] [] (cX ca o I J R L S)) (v1 : Int32) (v2 : Int32) (v3 : Int32) (h : wX11_isUnder_b4 I J R L S B4 v1 v2 v3 Q) : G Γ 0 0 4 [(1, .int v1), (2, .int v2), (3, .int v3)] [] (cX ca o I J R L S) := by
  unfold wX11_isUnder_b4 at h
  refine g_iload_n C (i := 3) dX11_isUnder_4 rfl rfl ?_
  refine g_bipush C (v := 7) dX11_isUnder_5 (by decide) ?_
  refine g_icmp_ge C 39 dX11_isUnder_7 rfl (fun c1 => ?_) (fun c1 => ?_)
  · replace h := h.1 c1
    refine g_iconst_0 C dX11_isUnder_39 ?_
    exact g_ret_z C false rfl dX11_isUnder_40 (Nat.le_refl _) (Nat.le_refl _) ⟨_, rfl, rfl, h⟩
  · replace h := h.2 c1
    refine g_iload_n C (i := 2) dX11_isUnder_10 rfl rfl ?_
    refine g_if_lt C 39 dX11_isUnder_11 rfl (fun c2 => ?_) (fun c2 => ?_)
    · replace h := h.1 c2
      refine g_iconst_0 C dX11_isUnder_39 ?_
      exact g_ret_z C false rfl dX11_isUnder_40 (Nat.le_refl _) (Nat.le_refl _) ⟨_, rfl, rfl, h⟩
    · replace h := h.2 c2
      refine g_iload_n C (i := 2) dX11_isUnder_14 rfl rfl ?_
      refine g_bipush C (v := 7) dX11_isUnder_15 (by decide) ?_
      refine g_icmp_ge C 39 dX11_isUnder_17 rfl (fun c3 => ?_) (fun c3 => ?_)
      · replace h := h.1 c3
        refine g_iconst_0 C dX11_isUnder_39 ?_
        exact g_ret_z C false rfl dX11_isUnder_40 (Nat.le_refl _) (Nat.le_refl _) ⟨_, rfl, rfl, h⟩
      · replace h := h.2 c3
        refine g_iload_n C (i := 2) dX11_isUnder_20 rfl rfl ?_
        refine g_iload_n C (i := 1) dX11_isUnder_21 rfl rfl ?_
        refine g_icmp_ne C 27 dX11_isUnder_22 rfl (fun c4 => ?_) (fun c4 => ?_)
        · replace h := h.1 c4
          refine x_above C (tb_in (List.mem_of_getElem? (i := 388) (by decide +kernel)) (by decide +kernel)) dX11_isUnder_27 ?_
          refine g_iload_n C (i := 2) dX11_isUnder_30 rfl rfl ?_
          obtain ⟨h5, h⟩ := h
          refine x_kind C h5 dX11_isUnder_31 ?_
          refine g_istore_n C (i := 2) [(1, .int v1), (2, .int (kaF v2.toNatClampNeg)), (3, .int v3)] dX11_isUnder_32 rfl (by decide) rfl ?_
          refine g_iinc C 1 [(1, .int v1), (2, .int (kaF v2.toNatClampNeg)), (3, .int (v3 + 1))] dX11_isUnder_33 rfl (by decide) (by decide) rfl ?_
          refine g_goto C 4 dX11_isUnder_36 rfl ?_
          exact g_weak [0, 1, 2] rfl (Nat.le_refl _) (Nat.le_refl _) (hB4 v1 (kaF v2.toNatClampNeg) (v3 + 1)  h)
        · replace h := h.2 c4
          refine g_iconst_1 C dX11_isUnder_25 ?_
          exact g_ret_z C true rfl dX11_isUnder_26 (Nat.le_refl _) (Nat.le_refl _) ⟨_, rfl, rfl, h⟩
theorem wX11_isUnder_gl4 {Γ : gT} {D : gD} {ca : Nat → ClassId} {o : Nat → Nat} {Q : Bool → Prop} {I : gI} {J : gJ} {R : gR} {L : List Nat} {S : gS} (C : Cx Γ cX11_isUnder RX11 4 D (tyW ca) (rl 0) (some .boolean) 0 0 (PYz ca o I J R L S Q)) : ∀ (n : Nat) (v1 : Int32) (v2 : Int32) (v3 : Int32) (_ : wX11_isUnder_l4 I J R L S Q n v1 v2 v3 ), G Γ 0 0 4 [(1, .int v1), (2, .int v2), (3, .int v3)] [] (cX ca o I J R L S) := by
  intro n
  induction n with
  | zero => intro v1 v2 v3  h; exact h.elim
  | succ n ih => intro v1 v2 v3  h; exact wX11_isUnder_gb4 C ih v1 v2 v3 h
set_option maxRecDepth 100000 in
theorem wX11_isUnder_g {Γ : gT} {D : gD} {ca : Nat → ClassId} {o : Nat → Nat} {I : gI} {J : gJ} {R : gR} {L : List Nat} {S : gS} {Q : Bool → Prop} (v0 : Int32) (v1 : Int32) (C : Cx Γ cX11_isUnder RX11 4 D (tyW ca) (rl 0) (some .boolean) 0 0 (PYz ca o I J R L S Q)) (h : wX11_isUnder v0 v1 I J R L S Q) : G Γ 0 0 0 [(0, .int v0), (1, .int v1)] [] (cX ca o I J R L S) := by
  unfold wX11_isUnder at h
  refine g_iload_n C (i := 0) dX11_isUnder_0 rfl rfl ?_
  refine g_istore_n C (i := 2) [(0, .int v0), (1, .int v1), (2, .int v0)] dX11_isUnder_1 rfl (by decide) rfl ?_
  refine g_iconst_0 C dX11_isUnder_2 ?_
  refine g_istore_n C (i := 3) [(0, .int v0), (1, .int v1), (2, .int v0), (3, .int 0)] dX11_isUnder_3 rfl (by decide) rfl ?_
  obtain ⟨n, h⟩ := h
  exact g_weak [1, 2, 3] rfl (Nat.le_refl _) (Nat.le_refl _) (wX11_isUnder_gl4  C  n v1 v0 0  h)
theorem wX11_k_isUnder {D : gD} {ca : Nat → ClassId} {o : Nat → Nat} {L : List Nat} {S : gS} (v0 : Int32) (v1 : Int32) (I : gI) (J : gJ) (R : gR) (L0 : List Nat) (S0 : gS) (Q : Bool → Prop) (h : wX11_isUnder v0 v1 I J R L S Q) : Ct yX11_isUnder cX11_isUnder 4 (some .boolean) (rl 0) D (tyW ca) 0 0 [.int v0, .int v1] (cX ca o I J R L S) (PYz ca o I J R L S Q) := ct_of (rm := (rl 0)) (by decide +kernel) (Nat.le_of_ble_eq_true rfl) (fun Γ C => wX11_isUnder_g v0 v1 C h)
set_option maxRecDepth 100000 in
theorem wX11_mostLevels_g {Γ : gT} {D : gD} {ca : Nat → ClassId} {o : Nat → Nat} {I : gI} {J : gJ} {R : gR} {L : List Nat} {S : gS} {Q : Int32 → Prop} (v0 : Int32) (C : Cx Γ cX11_mostLevels RX11 1 D (tyW ca) (rl 0) (some .int) 0 0 (PYi ca o I J R L S Q)) (h : wX11_mostLevels v0 I J R L S Q) : G Γ 0 0 0 [(0, .int v0)] [] (cX ca o I J R L S) := by
  unfold wX11_mostLevels at h
  refine g_iload_n C (i := 0) dX11_mostLevels_0 rfl rfl ?_
  refine g_iconst_2 C dX11_mostLevels_1 ?_
  refine g_icmp_ne C 10 dX11_mostLevels_2 rfl (fun c1 => ?_) (fun c1 => ?_)
  · replace h := h.1 c1
    refine g_bipush C (v := 40) dX11_mostLevels_10 (by decide) ?_
    exact g_ret_i C dX11_mostLevels_12 (Nat.le_refl _) (Nat.le_refl _) ⟨_, rfl, rfl, h⟩
  · replace h := h.2 c1
    refine g_bipush C (v := 25) dX11_mostLevels_5 (by decide) ?_
    refine g_goto C 12 dX11_mostLevels_7 rfl ?_
    exact g_ret_i C dX11_mostLevels_12 (Nat.le_refl _) (Nat.le_refl _) ⟨_, rfl, rfl, h⟩
theorem wX11_k_mostLevels {D : gD} {ca : Nat → ClassId} {o : Nat → Nat} {L : List Nat} {S : gS} (v0 : Int32) (I : gI) (J : gJ) (R : gR) (L0 : List Nat) (S0 : gS) (Q : Int32 → Prop) (h : wX11_mostLevels v0 I J R L S Q) : Ct yX11_mostLevels cX11_mostLevels 1 (some .int) (rl 0) D (tyW ca) 0 0 [.int v0] (cX ca o I J R L S) (PYi ca o I J R L S Q) := ct_of (rm := (rl 0)) (by decide +kernel) (Nat.le_of_ble_eq_true rfl) (fun Γ C => wX11_mostLevels_g v0 C h)
set_option maxRecDepth 100000 in
theorem wX11_fault_g {Γ : gT} {D : gD} {ca : Nat → ClassId} {o : Nat → Nat} {I : gI} {J : gJ} {R : gR} {L : List Nat} {S : gS} {Q : Int32 → Prop} (C : Cx Γ cX11_fault RX11 1 D (tyW ca) (rl 0) (some .int) 0 0 (PYi ca o I J R L S Q)) (h : wX11_fault I J R L S Q) : G Γ 0 0 0 [(0, .ref (o 0))] [] (cX ca o I J R L S) := by
  unfold wX11_fault at h
  refine g_aload_n C (i := 0) dX11_fault_0 rfl rfl ?_
  refine x_get_X11_32 C dX11_fault_1 ?_
  exact g_ret_i C dX11_fault_4 (Nat.le_refl _) (Nat.le_refl _) ⟨_, rfl, rfl, h⟩
theorem wX11_k_fault {D : gD} {ca : Nat → ClassId} {o : Nat → Nat} {L : List Nat} {S : gS} (I : gI) (J : gJ) (R : gR) (L0 : List Nat) (S0 : gS) (Q : Int32 → Prop) (h : wX11_fault I J R L S Q) : Ct yX11_fault cX11_fault 1 (some .int) (rl 0) D (tyW ca) 0 0 [.ref (o 0)] (cX ca o I J R L S) (PYi ca o I J R L S Q) := ct_of (rm := (rl 0)) (by decide +kernel) (Nat.le_of_ble_eq_true rfl) (fun Γ C => wX11_fault_g C h)
set_option maxRecDepth 100000 in
theorem wX11_isFarOff_g {Γ : gT} {D : gD} {ca : Nat → ClassId} {o : Nat → Nat} {I : gI} {J : gJ} {R : gR} {L : List Nat} {S : gS} {Q : Bool → Prop} (v0 : Int32) (C : Cx Γ cX11_isFarOff RX11 1 D (tyW ca) (rl 0) (some .boolean) 0 0 (PYz ca o I J R L S Q)) (h : wX11_isFarOff v0 I J R L S Q) : G Γ 0 0 0 [(0, .int v0)] [] (cX ca o I J R L S) := by
  unfold wX11_isFarOff at h
  refine g_iload_n C (i := 0) dX11_isFarOff_0 rfl rfl ?_
  refine g_bipush C (v := (-100)) dX11_isFarOff_1 (by decide) ?_
  refine g_icmp_lt C 12 dX11_isFarOff_3 rfl (fun c1 => ?_) (fun c1 => ?_)
  · replace h := h.1 c1
    refine g_iconst_1 C dX11_isFarOff_12 ?_
    refine g_goto C 17 dX11_isFarOff_13 rfl ?_
    exact g_ret_z C true rfl dX11_isFarOff_17 (Nat.le_refl _) (Nat.le_refl _) ⟨_, rfl, rfl, h⟩
  · replace h := h.2 c1
    refine g_iload_n C (i := 0) dX11_isFarOff_6 rfl rfl ?_
    refine g_bipush C (v := 100) dX11_isFarOff_7 (by decide) ?_
    refine g_icmp_le C 16 dX11_isFarOff_9 rfl (fun c2 => ?_) (fun c2 => ?_)
    · replace h := h.1 c2
      refine g_iconst_0 C dX11_isFarOff_16 ?_
      exact g_ret_z C false rfl dX11_isFarOff_17 (Nat.le_refl _) (Nat.le_refl _) ⟨_, rfl, rfl, h⟩
    · replace h := h.2 c2
      refine g_iconst_1 C dX11_isFarOff_12 ?_
      refine g_goto C 17 dX11_isFarOff_13 rfl ?_
      exact g_ret_z C true rfl dX11_isFarOff_17 (Nat.le_refl _) (Nat.le_refl _) ⟨_, rfl, rfl, h⟩
theorem wX11_k_isFarOff {D : gD} {ca : Nat → ClassId} {o : Nat → Nat} {L : List Nat} {S : gS} (v0 : Int32) (I : gI) (J : gJ) (R : gR) (L0 : List Nat) (S0 : gS) (Q : Bool → Prop) (h : wX11_isFarOff v0 I J R L S Q) : Ct yX11_isFarOff cX11_isFarOff 1 (some .boolean) (rl 0) D (tyW ca) 0 0 [.int v0] (cX ca o I J R L S) (PYz ca o I J R L S Q) := ct_of (rm := (rl 0)) (by decide +kernel) (Nat.le_of_ble_eq_true rfl) (fun Γ C => wX11_isFarOff_g v0 C h)
set_option maxRecDepth 100000 in
theorem wX11_endsAt_gc26 {Γ : gT} {D : gD} {ca : Nat → ClassId} {o : Nat → Nat} {Q : Bool → Prop} {I : gI} {J : gJ} {R : gR} {L : List Nat} {S : gS} (C : Cx Γ cX11_endsAt RX11 9 D (tyW ca) (rl 0) (some .boolean) 0 0 (PYz ca o I J R L S Q)) {B9 : Int32 → Int32 → Int32 → Int32 → Int32 → Int32 → Int32 → Prop} (hB9 : ∀ (v0 : Int32) (v1 : Int32) (v2 : Int32) (v3 : Int32) (v4 : Int32) (v5 : Int32) (v6 : Int32) , B9 v0 v1 v2 v3 v4 v5 v6 → G Γ 0 0 9 [(0, .int v0), (1, .int v1), (2, .int v2), (3, .int v3), (4, .int v4), (5, .int v5), (6, .int v6)] [] (cX ca o I J R L S)) (v0 : Int32) (v1 : Int32) (v2 : Int32) (v3 : Int32) (v4 : Int32) (v5 : Int32) (v6 : Int32) (s0 : Int32) (h : wX11_endsAt_c26 I J R L S B9 v0 v1 v2 v3 v4 v5 v6 s0 Q) : G Γ 0 0 26 [(0, .int v0), (1, .int v1), (2, .int v2), (3, .int v3), (4, .int v4), (5, .int v5), (6, .int v6)] [.int s0] (cX ca o I J R L S) := by
  unfold wX11_endsAt_c26 at h
  refine g_istore C (i := 7) [(0, .int v0), (1, .int v1), (2, .int v2), (3, .int v3), (4, .int v4), (5, .int v5), (6, .int v6), (7, .int s0)] dX11_endsAt_26 (by decide) rfl ?_
  refine g_iload C (i := 4) dX11_endsAt_28 rfl ?_
  refine g_iload C (i := 7) dX11_endsAt_30 rfl ?_
  refine g_iload C (i := 5) dX11_endsAt_32 rfl ?_
  refine g_imul C dX11_endsAt_34 ?_
  refine g_isub C dX11_endsAt_35 ?_
  refine g_istore C (i := 8) [(0, .int v0), (1, .int v1), (2, .int v2), (3, .int v3), (4, .int v4), (5, .int v5), (6, .int v6), (7, .int s0), (8, .int (v4 - (s0 * v5)))] dX11_endsAt_36 (by decide) rfl ?_
  refine g_iload C (i := 5) dX11_endsAt_38 rfl ?_
  refine g_iload C (i := 7) dX11_endsAt_40 rfl ?_
  refine g_iload C (i := 4) dX11_endsAt_42 rfl ?_
  refine g_imul C dX11_endsAt_44 ?_
  refine g_iadd C dX11_endsAt_45 ?_
  refine g_istore C (i := 5) [(0, .int v0), (1, .int v1), (2, .int v2), (3, .int v3), (4, .int v4), (5, .int (v5 + (s0 * v4))), (6, .int v6), (7, .int s0), (8, .int (v4 - (s0 * v5)))] dX11_endsAt_46 (by decide) rfl ?_
  refine g_iload C (i := 8) dX11_endsAt_48 rfl ?_
  refine g_istore C (i := 4) [(0, .int v0), (1, .int v1), (2, .int v2), (3, .int v3), (4, .int (v4 - (s0 * v5))), (5, .int (v5 + (s0 * v4))), (6, .int v6), (7, .int s0), (8, .int (v4 - (s0 * v5)))] dX11_endsAt_50 (by decide) rfl ?_
  refine g_iinc C 1 [(0, .int v0), (1, .int v1), (2, .int v2), (3, .int v3), (4, .int (v4 - (s0 * v5))), (5, .int (v5 + (s0 * v4))), (6, .int (v6 + 1)), (7, .int s0), (8, .int (v4 - (s0 * v5)))] dX11_endsAt_52 rfl (by decide) (by decide) rfl ?_
  refine g_goto C 9 dX11_endsAt_55 rfl ?_
  exact g_weak [0, 1, 2, 3, 4, 5, 6] rfl (Nat.le_refl _) (Nat.le_refl _) (hB9 v0 v1 v2 v3 (v4 - (s0 * v5)) (v5 + (s0 * v4)) (v6 + 1)  h)
set_option maxRecDepth 100000 in
theorem wX11_endsAt_gb9 {Γ : gT} {D : gD} {ca : Nat → ClassId} {o : Nat → Nat} {Q : Bool → Prop} {I : gI} {J : gJ} {R : gR} {L : List Nat} {S : gS} (C : Cx Γ cX11_endsAt RX11 9 D (tyW ca) (rl 0) (some .boolean) 0 0 (PYz ca o I J R L S Q)) {B9 : Int32 → Int32 → Int32 → Int32 → Int32 → Int32 → Int32 → Prop} (hB9 : ∀ (v0 : Int32) (v1 : Int32) (v2 : Int32) (v3 : Int32) (v4 : Int32) (v5 : Int32) (v6 : Int32) , B9 v0 v1 v2 v3 v4 v5 v6 → G Γ 0 0 9 [(0, .int v0), (1, .int v1), (2, .int v2), (3, .int v3), (4, .int v4), (5, .int v5), (6, .int v6)] [] (cX ca o I J R L S)) (v0 : Int32) (v1 : Int32) (v2 : Int32) (v3 : Int32) (v4 : Int32) (v5 : Int32) (v6 : Int32) (h : wX11_endsAt_b9 I J R L S B9 v0 v1 v2 v3 v4 v5 v6 Q) : G Γ 0 0 9 [(0, .int v0), (1, .int v1), (2, .int v2), (3, .int v3), (4, .int v4), (5, .int v5), (6, .int v6)] [] (cX ca o I J R L S) := by
  unfold wX11_endsAt_b9 at h
  refine g_iload C (i := 6) dX11_endsAt_9 rfl ?_
  refine g_iload_n C (i := 0) dX11_endsAt_11 rfl rfl ?_
  refine g_icmp_ge C 58 dX11_endsAt_12 rfl (fun c1 => ?_) (fun c1 => ?_)
  · replace h := h.1 c1
    refine g_iload C (i := 4) dX11_endsAt_58 rfl ?_
    refine g_iload_n C (i := 2) dX11_endsAt_60 rfl rfl ?_
    refine g_icmp_ne C 74 dX11_endsAt_61 rfl (fun c2 => ?_) (fun c2 => ?_)
    · replace h := h.1 c2
      refine g_iconst_0 C dX11_endsAt_74 ?_
      exact g_ret_z C false rfl dX11_endsAt_75 (Nat.le_refl _) (Nat.le_refl _) ⟨_, rfl, rfl, h⟩
    · replace h := h.2 c2
      refine g_iload C (i := 5) dX11_endsAt_64 rfl ?_
      refine g_iload_n C (i := 3) dX11_endsAt_66 rfl rfl ?_
      refine g_icmp_ne C 74 dX11_endsAt_67 rfl (fun c3 => ?_) (fun c3 => ?_)
      · replace h := h.1 c3
        refine g_iconst_0 C dX11_endsAt_74 ?_
        exact g_ret_z C false rfl dX11_endsAt_75 (Nat.le_refl _) (Nat.le_refl _) ⟨_, rfl, rfl, h⟩
      · replace h := h.2 c3
        refine g_iconst_1 C dX11_endsAt_70 ?_
        refine g_goto C 75 dX11_endsAt_71 rfl ?_
        exact g_ret_z C true rfl dX11_endsAt_75 (Nat.le_refl _) (Nat.le_refl _) ⟨_, rfl, rfl, h⟩
  · replace h := h.2 c1
    refine g_iload C (i := 6) dX11_endsAt_15 rfl ?_
    refine g_iload_n C (i := 1) dX11_endsAt_17 rfl rfl ?_
    refine g_icmp_ge C 25 dX11_endsAt_18 rfl (fun c4 => ?_) (fun c4 => ?_)
    · replace h := h.1 c4
      refine g_iconst_m1 C dX11_endsAt_25 ?_
      exact g_weak [0, 1, 2, 3, 4, 5, 6] rfl (Nat.le_refl _) (Nat.le_refl _) (wX11_endsAt_gc26  C hB9 v0 v1 v2 v3 v4 v5 v6 (-1)  h)
    · replace h := h.2 c4
      refine g_iconst_1 C dX11_endsAt_21 ?_
      refine g_goto C 26 dX11_endsAt_22 rfl ?_
      exact g_weak [0, 1, 2, 3, 4, 5, 6] rfl (Nat.le_refl _) (Nat.le_refl _) (wX11_endsAt_gc26  C hB9 v0 v1 v2 v3 v4 v5 v6 1  h)
theorem wX11_endsAt_gl9 {Γ : gT} {D : gD} {ca : Nat → ClassId} {o : Nat → Nat} {Q : Bool → Prop} {I : gI} {J : gJ} {R : gR} {L : List Nat} {S : gS} (C : Cx Γ cX11_endsAt RX11 9 D (tyW ca) (rl 0) (some .boolean) 0 0 (PYz ca o I J R L S Q)) : ∀ (n : Nat) (v0 : Int32) (v1 : Int32) (v2 : Int32) (v3 : Int32) (v4 : Int32) (v5 : Int32) (v6 : Int32) (_ : wX11_endsAt_l9 I J R L S Q n v0 v1 v2 v3 v4 v5 v6 ), G Γ 0 0 9 [(0, .int v0), (1, .int v1), (2, .int v2), (3, .int v3), (4, .int v4), (5, .int v5), (6, .int v6)] [] (cX ca o I J R L S) := by
  intro n
  induction n with
  | zero => intro v0 v1 v2 v3 v4 v5 v6  h; exact h.elim
  | succ n ih => intro v0 v1 v2 v3 v4 v5 v6  h; exact wX11_endsAt_gb9 C ih v0 v1 v2 v3 v4 v5 v6 h
set_option maxRecDepth 100000 in
theorem wX11_endsAt_g {Γ : gT} {D : gD} {ca : Nat → ClassId} {o : Nat → Nat} {I : gI} {J : gJ} {R : gR} {L : List Nat} {S : gS} {Q : Bool → Prop} (v0 : Int32) (v1 : Int32) (v2 : Int32) (v3 : Int32) (C : Cx Γ cX11_endsAt RX11 9 D (tyW ca) (rl 0) (some .boolean) 0 0 (PYz ca o I J R L S Q)) (h : wX11_endsAt v0 v1 v2 v3 I J R L S Q) : G Γ 0 0 0 [(0, .int v0), (1, .int v1), (2, .int v2), (3, .int v3)] [] (cX ca o I J R L S) := by
  unfold wX11_endsAt at h
  refine g_iconst_1 C dX11_endsAt_0 ?_
  refine g_istore C (i := 4) [(0, .int v0), (1, .int v1), (2, .int v2), (3, .int v3), (4, .int 1)] dX11_endsAt_1 (by decide) rfl ?_
  refine g_iconst_0 C dX11_endsAt_3 ?_
  refine g_istore C (i := 5) [(0, .int v0), (1, .int v1), (2, .int v2), (3, .int v3), (4, .int 1), (5, .int 0)] dX11_endsAt_4 (by decide) rfl ?_
  refine g_iconst_0 C dX11_endsAt_6 ?_
  refine g_istore C (i := 6) [(0, .int v0), (1, .int v1), (2, .int v2), (3, .int v3), (4, .int 1), (5, .int 0), (6, .int 0)] dX11_endsAt_7 (by decide) rfl ?_
  obtain ⟨n, h⟩ := h
  exact g_weak [0, 1, 2, 3, 4, 5, 6] rfl (Nat.le_refl _) (Nat.le_refl _) (wX11_endsAt_gl9  C  n v0 v1 v2 v3 1 0 0  h)
theorem wX11_k_endsAt {D : gD} {ca : Nat → ClassId} {o : Nat → Nat} {L : List Nat} {S : gS} (v0 : Int32) (v1 : Int32) (v2 : Int32) (v3 : Int32) (I : gI) (J : gJ) (R : gR) (L0 : List Nat) (S0 : gS) (Q : Bool → Prop) (h : wX11_endsAt v0 v1 v2 v3 I J R L S Q) : Ct yX11_endsAt cX11_endsAt 9 (some .boolean) (rl 0) D (tyW ca) 0 0 [.int v0, .int v1, .int v2, .int v3] (cX ca o I J R L S) (PYz ca o I J R L S Q) := ct_of (rm := (rl 0)) (by decide +kernel) (Nat.le_of_ble_eq_true rfl) (fun Γ C => wX11_endsAt_g v0 v1 v2 v3 C h)
set_option maxRecDepth 100000 in
theorem wX11_levelsOfAll_gb4 {Γ : gT} {D : gD} {ca : Nat → ClassId} {o : Nat → Nat} {Q : Int32 → Prop} {I : gI} {J : gJ} {R : gR} {L : List Nat} {S : gS} (C : Cx Γ cX11_levelsOfAll RX11 3 D (tyW ca) (rl 0) (some .int) 0 0 (PYi ca o I J R L S Q)) {B4 : Int32 → Int32 → Prop} (hB4 : ∀ (v1 : Int32) (v2 : Int32) , B4 v1 v2 → G Γ 0 0 4 [(0, .ref (o 0)), (1, .int v1), (2, .int v2)] [] (cX ca o I J R L S)) (v1 : Int32) (v2 : Int32) (h : wX11_levelsOfAll_b4 I J R L S B4 v1 v2 Q) : G Γ 0 0 4 [(0, .ref (o 0)), (1, .int v1), (2, .int v2)] [] (cX ca o I J R L S) := by
  unfold wX11_levelsOfAll_b4 at h
  refine g_iload_n C (i := 2) dX11_levelsOfAll_4 rfl rfl ?_
  refine g_aload_n C (i := 0) dX11_levelsOfAll_5 rfl rfl ?_
  refine x_get_X11_164 C dX11_levelsOfAll_6 ?_
  refine g_icmp_ge C 30 dX11_levelsOfAll_9 rfl (fun c1 => ?_) (fun c1 => ?_)
  · replace h := h.1 c1
    refine g_iload_n C (i := 1) dX11_levelsOfAll_30 rfl rfl ?_
    exact g_ret_i C dX11_levelsOfAll_31 (Nat.le_refl _) (Nat.le_refl _) ⟨_, rfl, rfl, h⟩
  · replace h := h.2 c1
    refine g_iload_n C (i := 1) dX11_levelsOfAll_12 rfl rfl ?_
    refine g_aload_n C (i := 0) dX11_levelsOfAll_13 rfl rfl ?_
    refine x_get_X11_11 C dX11_levelsOfAll_14 ?_
    refine g_iload_n C (i := 2) dX11_levelsOfAll_17 rfl rfl ?_
    obtain ⟨h2, h⟩ := h
    refine x_aald C (k := 0) (by decide) h2 dX11_levelsOfAll_18 ?_
    obtain ⟨z3, h4, h5, h⟩ := h
    refine g_eqs (st' := [.ref z3, .int v1]) (by rw [h4]; rfl) rfl ?_
    refine x_get_X11_135 C h5 dX11_levelsOfAll_19 ?_
    refine g_iadd C dX11_levelsOfAll_22 ?_
    refine g_istore_n C (i := 1) [(0, .ref (o 0)), (1, .int (v1 + (sL (S z3)))), (2, .int v2)] dX11_levelsOfAll_23 rfl (by decide) rfl ?_
    refine g_iinc C 1 [(0, .ref (o 0)), (1, .int (v1 + (sL (S z3)))), (2, .int (v2 + 1))] dX11_levelsOfAll_24 rfl (by decide) (by decide) rfl ?_
    refine g_goto C 4 dX11_levelsOfAll_27 rfl ?_
    exact g_weak [0, 1, 2] rfl (Nat.le_refl _) (Nat.le_refl _) (hB4 (v1 + (sL (S z3))) (v2 + 1)  h)
theorem wX11_levelsOfAll_gl4 {Γ : gT} {D : gD} {ca : Nat → ClassId} {o : Nat → Nat} {Q : Int32 → Prop} {I : gI} {J : gJ} {R : gR} {L : List Nat} {S : gS} (C : Cx Γ cX11_levelsOfAll RX11 3 D (tyW ca) (rl 0) (some .int) 0 0 (PYi ca o I J R L S Q)) : ∀ (n : Nat) (v1 : Int32) (v2 : Int32) (_ : wX11_levelsOfAll_l4 I J R L S Q n v1 v2 ), G Γ 0 0 4 [(0, .ref (o 0)), (1, .int v1), (2, .int v2)] [] (cX ca o I J R L S) := by
  intro n
  induction n with
  | zero => intro v1 v2  h; exact h.elim
  | succ n ih => intro v1 v2  h; exact wX11_levelsOfAll_gb4 C ih v1 v2 h
set_option maxRecDepth 100000 in
theorem wX11_levelsOfAll_g {Γ : gT} {D : gD} {ca : Nat → ClassId} {o : Nat → Nat} {I : gI} {J : gJ} {R : gR} {L : List Nat} {S : gS} {Q : Int32 → Prop} (C : Cx Γ cX11_levelsOfAll RX11 3 D (tyW ca) (rl 0) (some .int) 0 0 (PYi ca o I J R L S Q)) (h : wX11_levelsOfAll I J R L S Q) : G Γ 0 0 0 [(0, .ref (o 0))] [] (cX ca o I J R L S) := by
  unfold wX11_levelsOfAll at h
  refine g_iconst_0 C dX11_levelsOfAll_0 ?_
  refine g_istore_n C (i := 1) [(0, .ref (o 0)), (1, .int 0)] dX11_levelsOfAll_1 rfl (by decide) rfl ?_
  refine g_iconst_0 C dX11_levelsOfAll_2 ?_
  refine g_istore_n C (i := 2) [(0, .ref (o 0)), (1, .int 0), (2, .int 0)] dX11_levelsOfAll_3 rfl (by decide) rfl ?_
  obtain ⟨n, h⟩ := h
  exact g_weak [0, 1, 2] rfl (Nat.le_refl _) (Nat.le_refl _) (wX11_levelsOfAll_gl4  C  n 0 0  h)
theorem wX11_k_levelsOfAll {D : gD} {ca : Nat → ClassId} {o : Nat → Nat} {L : List Nat} {S : gS} (I : gI) (J : gJ) (R : gR) (L0 : List Nat) (S0 : gS) (Q : Int32 → Prop) (h : wX11_levelsOfAll I J R L S Q) : Ct yX11_levelsOfAll cX11_levelsOfAll 3 (some .int) (rl 0) D (tyW ca) 0 0 [.ref (o 0)] (cX ca o I J R L S) (PYi ca o I J R L S Q) := ct_of (rm := (rl 0)) (by decide +kernel) (Nat.le_of_ble_eq_true rfl) (fun Γ C => wX11_levelsOfAll_g C h)
set_option maxRecDepth 100000 in
theorem wX11_refuse_g {Γ : gT} {D : gD} {ca : Nat → ClassId} {o : Nat → Nat} {I : gI} {J : gJ} {R : gR} {L : List Nat} {S : gS} {Q : Int32 → gI → gJ → gR → Prop} (v1 : Int32) (C : Cx Γ cX11_refuse RX11 2 D (tyW ca) (rl 0) (some .int) 0 0 (PXi ca o L S Q)) (h : wX11_refuse v1 I J R L S Q) : G Γ 0 0 0 [(0, .ref (o 0)), (1, .int v1)] [] (cX ca o I J R L S) := by
  unfold wX11_refuse at h
  refine g_iload_n C (i := 1) dX11_refuse_0 rfl rfl ?_
  refine g_if_ge C 25 dX11_refuse_1 rfl (fun c1 => ?_) (fun c1 => ?_)
  · replace h := h.1 c1
    refine g_iload_n C (i := 1) dX11_refuse_25 rfl rfl ?_
    exact g_ret_i C dX11_refuse_26 (Nat.le_refl _) (Nat.le_refl _) ⟨_, _, _, _, rfl, rfl, h⟩
  · replace h := h.2 c1
    refine g_iload_n C (i := 1) dX11_refuse_4 rfl rfl ?_
    refine g_ineg C dX11_refuse_5 ?_
    refine g_aload_n C (i := 0) dX11_refuse_6 rfl rfl ?_
    refine x_get_X11_28 C dX11_refuse_7 ?_
    refine x_alen C (k := 5) (v := 8) (by decide) rfl dX11_refuse_10 ?_
    refine g_icmp_ge C 25 dX11_refuse_11 rfl (fun c2 => ?_) (fun c2 => ?_)
    · replace h := h.1 c2
      refine g_iload_n C (i := 1) dX11_refuse_25 rfl rfl ?_
      exact g_ret_i C dX11_refuse_26 (Nat.le_refl _) (Nat.le_refl _) ⟨_, _, _, _, rfl, rfl, h⟩
    · replace h := h.2 c2
      refine g_aload_n C (i := 0) dX11_refuse_14 rfl rfl ?_
      refine x_get_X11_28 C dX11_refuse_15 ?_
      refine g_iload_n C (i := 1) dX11_refuse_18 rfl rfl ?_
      refine g_ineg C dX11_refuse_19 ?_
      refine g_dup2 C dX11_refuse_20 rfl rfl ?_
      obtain ⟨h3, h⟩ := h
      refine x_iald C (k := 5) (by decide) h3 dX11_refuse_21 ?_
      refine g_iconst_1 C dX11_refuse_22 ?_
      refine g_iadd C dX11_refuse_23 ?_
      refine x_iast C (k := 5) (by decide) h3 dX11_refuse_24 ?_
      refine x_nmI _ (fun I4 e5 => ?_)
      replace h := h I4 e5
      refine g_iload_n C (i := 1) dX11_refuse_25 rfl rfl ?_
      exact g_ret_i C dX11_refuse_26 (Nat.le_refl _) (Nat.le_refl _) ⟨_, _, _, _, rfl, rfl, h⟩
theorem wX11_k_refuse {D : gD} {ca : Nat → ClassId} {o : Nat → Nat} {L : List Nat} {S : gS} (v1 : Int32) (I : gI) (J : gJ) (R : gR) (L0 : List Nat) (S0 : gS) (Q : Int32 → gI → gJ → gR → Prop) (h : wX11_refuse v1 I J R L S Q) : Ct yX11_refuse cX11_refuse 2 (some .int) (rl 0) D (tyW ca) 0 0 [.ref (o 0), .int v1] (cX ca o I J R L S) (PXi ca o L S Q) := ct_of (rm := (rl 0)) (by decide +kernel) (Nat.le_of_ble_eq_true rfl) (fun Γ C => wX11_refuse_g v1 C h)
set_option maxRecDepth 100000 in
theorem wX11_isShelf_g {Γ : gT} {D : gD} {ca : Nat → ClassId} {o : Nat → Nat} {I : gI} {J : gJ} {R : gR} {L : List Nat} {S : gS} {Q : Bool → Prop} (v1 : Int32) (C : Cx Γ cX11_isShelf RX11 2 D (tyW ca) (rl 0) (some .boolean) 0 0 (PYz ca o I J R L S Q)) (h : wX11_isShelf v1 I J R L S Q) : G Γ 0 0 0 [(0, .ref (o 0)), (1, .int v1)] [] (cX ca o I J R L S) := by
  unfold wX11_isShelf at h
  refine g_iload_n C (i := 1) dX11_isShelf_0 rfl rfl ?_
  refine g_if_lt C 17 dX11_isShelf_1 rfl (fun c1 => ?_) (fun c1 => ?_)
  · replace h := h.1 c1
    refine g_iconst_0 C dX11_isShelf_17 ?_
    exact g_ret_z C false rfl dX11_isShelf_18 (Nat.le_refl _) (Nat.le_refl _) ⟨_, rfl, rfl, h⟩
  · replace h := h.2 c1
    refine g_iload_n C (i := 1) dX11_isShelf_4 rfl rfl ?_
    refine g_aload_n C (i := 0) dX11_isShelf_5 rfl rfl ?_
    refine x_get_X11_24 C dX11_isShelf_6 ?_
    refine x_slen C dX11_isShelf_9 ?_
    refine g_icmp_ge C 17 dX11_isShelf_10 rfl (fun c2 => ?_) (fun c2 => ?_)
    · replace h := h.1 c2
      refine g_iconst_0 C dX11_isShelf_17 ?_
      exact g_ret_z C false rfl dX11_isShelf_18 (Nat.le_refl _) (Nat.le_refl _) ⟨_, rfl, rfl, h⟩
    · replace h := h.2 c2
      refine g_iconst_1 C dX11_isShelf_13 ?_
      refine g_goto C 18 dX11_isShelf_14 rfl ?_
      exact g_ret_z C true rfl dX11_isShelf_18 (Nat.le_refl _) (Nat.le_refl _) ⟨_, rfl, rfl, h⟩
theorem wX11_k_isShelf {D : gD} {ca : Nat → ClassId} {o : Nat → Nat} {L : List Nat} {S : gS} (v1 : Int32) (I : gI) (J : gJ) (R : gR) (L0 : List Nat) (S0 : gS) (Q : Bool → Prop) (h : wX11_isShelf v1 I J R L S Q) : Ct yX11_isShelf cX11_isShelf 2 (some .boolean) (rl 0) D (tyW ca) 0 0 [.ref (o 0), .int v1] (cX ca o I J R L S) (PYz ca o I J R L S Q) := ct_of (rm := (rl 0)) (by decide +kernel) (Nat.le_of_ble_eq_true rfl) (fun Γ C => wX11_isShelf_g v1 C h)
set_option maxRecDepth 100000 in
theorem wX11_isStrip_g {Γ : gT} {D : gD} {ca : Nat → ClassId} {o : Nat → Nat} {I : gI} {J : gJ} {R : gR} {L : List Nat} {S : gS} {Q : Bool → Prop} (v1 : Int32) (C : Cx Γ cX11_isStrip RX11 2 D (tyW ca) (rl 0) (some .boolean) 0 0 (PYz ca o I J R L S Q)) (h : wX11_isStrip v1 I J R L S Q) : G Γ 0 0 0 [(0, .ref (o 0)), (1, .int v1)] [] (cX ca o I J R L S) := by
  unfold wX11_isStrip at h
  refine g_iload_n C (i := 1) dX11_isStrip_0 rfl rfl ?_
  refine g_if_lt C 28 dX11_isStrip_1 rfl (fun c1 => ?_) (fun c1 => ?_)
  · replace h := h.1 c1
    refine g_iconst_0 C dX11_isStrip_28 ?_
    exact g_ret_z C false rfl dX11_isStrip_29 (Nat.le_refl _) (Nat.le_refl _) ⟨_, rfl, rfl, h⟩
  · replace h := h.2 c1
    refine g_iload_n C (i := 1) dX11_isStrip_4 rfl rfl ?_
    refine g_aload_n C (i := 0) dX11_isStrip_5 rfl rfl ?_
    refine x_get_X11_164 C dX11_isStrip_6 ?_
    refine g_icmp_ge C 28 dX11_isStrip_9 rfl (fun c2 => ?_) (fun c2 => ?_)
    · replace h := h.1 c2
      refine g_iconst_0 C dX11_isStrip_28 ?_
      exact g_ret_z C false rfl dX11_isStrip_29 (Nat.le_refl _) (Nat.le_refl _) ⟨_, rfl, rfl, h⟩
    · replace h := h.2 c2
      refine g_aload_n C (i := 0) dX11_isStrip_12 rfl rfl ?_
      refine x_get_X11_164 C dX11_isStrip_13 ?_
      refine g_aload_n C (i := 0) dX11_isStrip_16 rfl rfl ?_
      refine x_get_X11_11 C dX11_isStrip_17 ?_
      refine x_rlen C (k := 0) (by decide) dX11_isStrip_20 ?_
      refine g_icmp_gt C 28 dX11_isStrip_21 rfl (fun c3 => ?_) (fun c3 => ?_)
      · replace h := h.1 c3
        refine g_iconst_0 C dX11_isStrip_28 ?_
        exact g_ret_z C false rfl dX11_isStrip_29 (Nat.le_refl _) (Nat.le_refl _) ⟨_, rfl, rfl, h⟩
      · replace h := h.2 c3
        refine g_iconst_1 C dX11_isStrip_24 ?_
        refine g_goto C 29 dX11_isStrip_25 rfl ?_
        exact g_ret_z C true rfl dX11_isStrip_29 (Nat.le_refl _) (Nat.le_refl _) ⟨_, rfl, rfl, h⟩
theorem wX11_k_isStrip {D : gD} {ca : Nat → ClassId} {o : Nat → Nat} {L : List Nat} {S : gS} (v1 : Int32) (I : gI) (J : gJ) (R : gR) (L0 : List Nat) (S0 : gS) (Q : Bool → Prop) (h : wX11_isStrip v1 I J R L S Q) : Ct yX11_isStrip cX11_isStrip 2 (some .boolean) (rl 0) D (tyW ca) 0 0 [.ref (o 0), .int v1] (cX ca o I J R L S) (PYz ca o I J R L S Q) := ct_of (rm := (rl 0)) (by decide +kernel) (Nat.le_of_ble_eq_true rfl) (fun Γ C => wX11_isStrip_g v1 C h)
set_option maxRecDepth 100000 in
theorem wX11_copyStrips_gb2 {Γ : gT} {D : gD} {ca : Nat → ClassId} {o : Nat → Nat} {Q : gI → gJ → gR → Prop} {L : List Nat} {S : gS} {k0 : Nat} (hk0 : k0 < 3) {k1 : Nat} (hk1 : k1 < 3) (C : Cx Γ cX11_copyStrips RX11 3 D (tyW ca) (rl 0) none 0 0 (PXv ca o L S Q)) {B2 : Int32 → gI → gJ → gR → Prop} (hB2 : ∀ (v2 : Int32) (I : gI) (J : gJ) (R : gR), B2 v2 I J R → G Γ 0 0 2 [(0, .ref (o (5 + k0))), (1, .ref (o (5 + k1))), (2, .int v2)] [] (cX ca o I J R L S)) (v2 : Int32) (I : gI) (J : gJ) (R : gR) (h : wX11_copyStrips_b2 k0 k1 L S B2 v2 I J R Q) : G Γ 0 0 2 [(0, .ref (o (5 + k0))), (1, .ref (o (5 + k1))), (2, .int v2)] [] (cX ca o I J R L S) := by
  unfold wX11_copyStrips_b2 at h
  refine g_iload_n C (i := 2) dX11_copyStrips_2 rfl rfl ?_
  refine g_aload_n C (i := 0) dX11_copyStrips_3 rfl rfl ?_
  refine x_rlen C (k := k0) hk0 dX11_copyStrips_4 ?_
  refine g_icmp_ge C 26 dX11_copyStrips_5 rfl (fun c1 => ?_) (fun c1 => ?_)
  · replace h := h.1 c1
    exact g_ret_v C dX11_copyStrips_26 (Nat.le_refl _) (Nat.le_refl _) ⟨_, _, _, rfl, rfl, h⟩
  · replace h := h.2 c1
    refine g_iload_n C (i := 2) dX11_copyStrips_8 rfl rfl ?_
    refine g_aload_n C (i := 1) dX11_copyStrips_9 rfl rfl ?_
    refine x_rlen C (k := k1) hk1 dX11_copyStrips_10 ?_
    refine g_icmp_ge C 26 dX11_copyStrips_11 rfl (fun c2 => ?_) (fun c2 => ?_)
    · replace h := h.1 c2
      exact g_ret_v C dX11_copyStrips_26 (Nat.le_refl _) (Nat.le_refl _) ⟨_, _, _, rfl, rfl, h⟩
    · replace h := h.2 c2
      refine g_aload_n C (i := 1) dX11_copyStrips_14 rfl rfl ?_
      refine g_iload_n C (i := 2) dX11_copyStrips_15 rfl rfl ?_
      refine g_aload_n C (i := 0) dX11_copyStrips_16 rfl rfl ?_
      refine g_iload_n C (i := 2) dX11_copyStrips_17 rfl rfl ?_
      obtain ⟨h3, h⟩ := h
      refine x_aald C (k := k0) hk0 h3 dX11_copyStrips_18 ?_
      obtain ⟨h4, h⟩ := h
      refine x_aast C (k := k1) (r := (R k0 v2.toNatClampNeg)) hk1 h4 h3 dX11_copyStrips_19 ?_
      refine x_nmR _ (fun R5 e6 => ?_)
      replace h := h R5 e6
      refine g_iinc C 1 [(0, .ref (o (5 + k0))), (1, .ref (o (5 + k1))), (2, .int (v2 + 1))] dX11_copyStrips_20 rfl (by decide) (by decide) rfl ?_
      refine g_goto C 2 dX11_copyStrips_23 rfl ?_
      exact g_weak [0, 1, 2] rfl (Nat.le_refl _) (Nat.le_refl _) (hB2 (v2 + 1) I J R5 h)
theorem wX11_copyStrips_gl2 {Γ : gT} {D : gD} {ca : Nat → ClassId} {o : Nat → Nat} {Q : gI → gJ → gR → Prop} {L : List Nat} {S : gS} {k0 : Nat} (hk0 : k0 < 3) {k1 : Nat} (hk1 : k1 < 3) (C : Cx Γ cX11_copyStrips RX11 3 D (tyW ca) (rl 0) none 0 0 (PXv ca o L S Q)) : ∀ (n : Nat) (v2 : Int32) (I : gI) (J : gJ) (R : gR) (_ : wX11_copyStrips_l2 k0 k1 L S Q n v2 I J R), G Γ 0 0 2 [(0, .ref (o (5 + k0))), (1, .ref (o (5 + k1))), (2, .int v2)] [] (cX ca o I J R L S) := by
  intro n
  induction n with
  | zero => intro v2 I J R h; exact h.elim
  | succ n ih => intro v2 I J R h; exact wX11_copyStrips_gb2 hk0 hk1 C ih v2 I J R h
set_option maxRecDepth 100000 in
theorem wX11_copyStrips_g {Γ : gT} {D : gD} {ca : Nat → ClassId} {o : Nat → Nat} {I : gI} {J : gJ} {R : gR} {L : List Nat} {S : gS} {Q : gI → gJ → gR → Prop} {k0 : Nat} (hk0 : k0 < 3) {k1 : Nat} (hk1 : k1 < 3) (C : Cx Γ cX11_copyStrips RX11 3 D (tyW ca) (rl 0) none 0 0 (PXv ca o L S Q)) (h : wX11_copyStrips k0 k1 I J R L S Q) : G Γ 0 0 0 [(0, .ref (o (5 + k0))), (1, .ref (o (5 + k1)))] [] (cX ca o I J R L S) := by
  unfold wX11_copyStrips at h
  refine g_iconst_0 C dX11_copyStrips_0 ?_
  refine g_istore_n C (i := 2) [(0, .ref (o (5 + k0))), (1, .ref (o (5 + k1))), (2, .int 0)] dX11_copyStrips_1 rfl (by decide) rfl ?_
  obtain ⟨n, h⟩ := h
  exact g_weak [0, 1, 2] rfl (Nat.le_refl _) (Nat.le_refl _) (wX11_copyStrips_gl2 hk0 hk1 C  n 0 I J R h)
theorem wX11_k_copyStrips {D : gD} {ca : Nat → ClassId} {o : Nat → Nat} {L : List Nat} {S : gS} {k0 : Nat} (hk0 : k0 < 3) {k1 : Nat} (hk1 : k1 < 3) (I : gI) (J : gJ) (R : gR) (L0 : List Nat) (S0 : gS) (Q : gI → gJ → gR → Prop) (h : wX11_copyStrips k0 k1 I J R L S Q) : Ct yX11_copyStrips cX11_copyStrips 3 none (rl 0) D (tyW ca) 0 0 [.ref (o (5 + k0)), .ref (o (5 + k1))] (cX ca o I J R L S) (PXv ca o L S Q) := ct_of (rm := (rl 0)) (by decide +kernel) (Nat.le_of_ble_eq_true rfl) (fun Γ C => wX11_copyStrips_g hk0 hk1 C h)
set_option maxRecDepth 100000 in
theorem wX1_goOn_g {Γ : gT} {D : gD} {ca : Nat → ClassId} {o : Nat → Nat} {I : gI} {J : gJ} {R : gR} {L : List Nat} {S : gS} {Q : gI → gJ → gR → Prop} {n0 : Nat} (hn0 : n0 < 2) (v1 : Int32) (C : Cx Γ cX1_goOn RX1 2 D (tyW ca) (rl 0) none 0 0 (PXv ca o L S Q)) (h : wX1_goOn n0 v1 I J R L S Q) : G Γ 0 0 0 [(0, .ref (o (10 + n0))), (1, .int v1)] [] (cX ca o I J R L S) := by
  unfold wX1_goOn at h
  refine g_iload_n C (i := 1) dX1_goOn_0 rfl rfl ?_
  refine g_iconst_3 C dX1_goOn_1 ?_
  refine g_iand C dX1_goOn_2 ?_
  by_cases c1 : (v1 &&& 3) = 0
  · replace h := h.1 c1
    refine g_tin C 28 0 c1 (by decide) (by decide) rfl rfl dX1_goOn_3 ?_
    refine g_aload_n C (i := 0) dX1_goOn_28 rfl rfl ?_
    refine g_dup C dX1_goOn_29 rfl ?_
    refine x_get_X1_47 C (b := n0) hn0 dX1_goOn_30 ?_
    refine g_lconst_1 C dX1_goOn_33 ?_
    refine g_ladd C dX1_goOn_34 ?_
    refine x_put_X1_47 C (b := n0) hn0 dX1_goOn_35 ?_
    refine x_nmJ _ (fun J2 e3 => ?_)
    replace h := h J2 e3
    refine g_goto C 77 dX1_goOn_38 rfl ?_
    exact g_ret_v C dX1_goOn_77 (Nat.le_refl _) (Nat.le_refl _) ⟨_, _, _, rfl, rfl, h⟩
  replace h := h.2 c1
  by_cases c4 : (v1 &&& 3) = 1
  · replace h := h.1 c4
    refine g_tin C 41 1 c4 (by decide) (by decide) rfl rfl dX1_goOn_3 ?_
    refine g_aload_n C (i := 0) dX1_goOn_41 rfl rfl ?_
    refine g_dup C dX1_goOn_42 rfl ?_
    refine x_get_X1_51 C (b := n0) hn0 dX1_goOn_43 ?_
    refine g_lconst_1 C dX1_goOn_46 ?_
    refine g_ladd C dX1_goOn_47 ?_
    refine x_put_X1_51 C (b := n0) hn0 dX1_goOn_48 ?_
    refine x_nmJ _ (fun J5 e6 => ?_)
    replace h := h J5 e6
    refine g_goto C 77 dX1_goOn_51 rfl ?_
    exact g_ret_v C dX1_goOn_77 (Nat.le_refl _) (Nat.le_refl _) ⟨_, _, _, rfl, rfl, h⟩
  replace h := h.2 c4
  by_cases c7 : (v1 &&& 3) = 2
  · replace h := h.1 c7
    refine g_tin C 54 2 c7 (by decide) (by decide) rfl rfl dX1_goOn_3 ?_
    refine g_aload_n C (i := 0) dX1_goOn_54 rfl rfl ?_
    refine g_dup C dX1_goOn_55 rfl ?_
    refine x_get_X1_47 C (b := n0) hn0 dX1_goOn_56 ?_
    refine g_lconst_1 C dX1_goOn_59 ?_
    refine g_lsub C dX1_goOn_60 ?_
    refine x_put_X1_47 C (b := n0) hn0 dX1_goOn_61 ?_
    refine x_nmJ _ (fun J8 e9 => ?_)
    replace h := h J8 e9
    refine g_goto C 77 dX1_goOn_64 rfl ?_
    exact g_ret_v C dX1_goOn_77 (Nat.le_refl _) (Nat.le_refl _) ⟨_, _, _, rfl, rfl, h⟩
  replace h := h.2 c7
  refine g_tout C 67 (by have := g_ne (v := 0) (n := 0) c1 (by decide); have := g_ne (v := 1) (n := 1) c4 (by decide); have := g_ne (v := 2) (n := 2) c7 (by decide); omega) rfl dX1_goOn_3 ?_
  refine g_aload_n C (i := 0) dX1_goOn_67 rfl rfl ?_
  refine g_dup C dX1_goOn_68 rfl ?_
  refine x_get_X1_51 C (b := n0) hn0 dX1_goOn_69 ?_
  refine g_lconst_1 C dX1_goOn_72 ?_
  refine g_lsub C dX1_goOn_73 ?_
  refine x_put_X1_51 C (b := n0) hn0 dX1_goOn_74 ?_
  refine x_nmJ _ (fun J10 e11 => ?_)
  replace h := h J10 e11
  exact g_ret_v C dX1_goOn_77 (Nat.le_refl _) (Nat.le_refl _) ⟨_, _, _, rfl, rfl, h⟩
theorem wX1_k_goOn {D : gD} {ca : Nat → ClassId} {o : Nat → Nat} {L : List Nat} {S : gS} {n0 : Nat} (hn0 : n0 < 2) (v1 : Int32) (I : gI) (J : gJ) (R : gR) (L0 : List Nat) (S0 : gS) (Q : gI → gJ → gR → Prop) (h : wX1_goOn n0 v1 I J R L S Q) : Ct yX1_goOn cX1_goOn 2 none (rl 0) D (tyW ca) 0 0 [.ref (o (10 + n0)), .int v1] (cX ca o I J R L S) (PXv ca o L S Q) := ct_of (rm := (rl 0)) (by decide +kernel) (Nat.le_of_ble_eq_true rfl) (fun Γ C => wX1_goOn_g hn0 v1 C h)
set_option maxRecDepth 100000 in
theorem wX1_standAt_g {Γ : gT} {D : gD} {ca : Nat → ClassId} {o : Nat → Nat} {I : gI} {J : gJ} {R : gR} {L : List Nat} {S : gS} {Q : gI → gJ → gR → Prop} {n0 : Nat} (hn0 : n0 < 2) (v1 : Int64) (v3 : Int64) (C : Cx Γ cX1_standAt RX1 5 D (tyW ca) (rl 0) none 0 0 (PXv ca o L S Q)) (h : wX1_standAt n0 v1 v3 I J R L S Q) : G Γ 0 0 0 [(0, .ref (o (10 + n0))), (1, .long v1), (3, .long v3)] [] (cX ca o I J R L S) := by
  unfold wX1_standAt at h
  refine g_aload_n C (i := 0) dX1_standAt_0 rfl rfl ?_
  refine g_lload_n C (i := 1) dX1_standAt_1 rfl rfl ?_
  refine x_put_X1_47 C (b := n0) hn0 dX1_standAt_2 ?_
  refine x_nmJ _ (fun J1 e2 => ?_)
  replace h := h J1 e2
  refine g_aload_n C (i := 0) dX1_standAt_5 rfl rfl ?_
  refine g_lload_n C (i := 3) dX1_standAt_6 rfl rfl ?_
  refine x_put_X1_51 C (b := n0) hn0 dX1_standAt_7 ?_
  refine x_nmJ _ (fun J3 e4 => ?_)
  replace h := h J3 e4
  exact g_ret_v C dX1_standAt_10 (Nat.le_refl _) (Nat.le_refl _) ⟨_, _, _, rfl, rfl, h⟩
theorem wX1_k_standAt {D : gD} {ca : Nat → ClassId} {o : Nat → Nat} {L : List Nat} {S : gS} {n0 : Nat} (hn0 : n0 < 2) (v1 : Int64) (v3 : Int64) (I : gI) (J : gJ) (R : gR) (L0 : List Nat) (S0 : gS) (Q : gI → gJ → gR → Prop) (h : wX1_standAt n0 v1 v3 I J R L S Q) : Ct yX1_standAt cX1_standAt 5 none (rl 0) D (tyW ca) 0 0 [.ref (o (10 + n0)), .long v1, .long v3] (cX ca o I J R L S) (PXv ca o L S Q) := ct_of (rm := (rl 0)) (by decide +kernel) (Nat.le_of_ble_eq_true rfl) (fun Γ C => wX1_standAt_g hn0 v1 v3 C h)
set_option maxRecDepth 100000 in
theorem wX1_isAt_g {Γ : gT} {D : gD} {ca : Nat → ClassId} {o : Nat → Nat} {I : gI} {J : gJ} {R : gR} {L : List Nat} {S : gS} {Q : Bool → Prop} {n0 : Nat} (hn0 : n0 < 2) (v1 : Int32) (v2 : Int32) (C : Cx Γ cX1_isAt RX1 3 D (tyW ca) (rl 0) (some .boolean) 0 0 (PYz ca o I J R L S Q)) (h : wX1_isAt n0 v1 v2 I J R L S Q) : G Γ 0 0 0 [(0, .ref (o (10 + n0))), (1, .int v1), (2, .int v2)] [] (cX ca o I J R L S) := by
  unfold wX1_isAt at h
  refine g_aload_n C (i := 0) dX1_isAt_0 rfl rfl ?_
  refine x_get_X1_47 C (b := n0) hn0 dX1_isAt_1 ?_
  refine g_iload_n C (i := 1) dX1_isAt_4 rfl rfl ?_
  refine g_i2l C dX1_isAt_5 ?_
  refine g_lne C 24 dX1_isAt_6 dX1_isAt_7 rfl (fun c1 => ?_) (fun c1 => ?_)
  · replace h := h.1 c1
    refine g_iconst_0 C dX1_isAt_24 ?_
    exact g_ret_z C false rfl dX1_isAt_25 (Nat.le_refl _) (Nat.le_refl _) ⟨_, rfl, rfl, h⟩
  · replace h := h.2 c1
    refine g_aload_n C (i := 0) dX1_isAt_10 rfl rfl ?_
    refine x_get_X1_51 C (b := n0) hn0 dX1_isAt_11 ?_
    refine g_iload_n C (i := 2) dX1_isAt_14 rfl rfl ?_
    refine g_i2l C dX1_isAt_15 ?_
    refine g_lne C 24 dX1_isAt_16 dX1_isAt_17 rfl (fun c2 => ?_) (fun c2 => ?_)
    · replace h := h.1 c2
      refine g_iconst_0 C dX1_isAt_24 ?_
      exact g_ret_z C false rfl dX1_isAt_25 (Nat.le_refl _) (Nat.le_refl _) ⟨_, rfl, rfl, h⟩
    · replace h := h.2 c2
      refine g_iconst_1 C dX1_isAt_20 ?_
      refine g_goto C 25 dX1_isAt_21 rfl ?_
      exact g_ret_z C true rfl dX1_isAt_25 (Nat.le_refl _) (Nat.le_refl _) ⟨_, rfl, rfl, h⟩
theorem wX1_k_isAt {D : gD} {ca : Nat → ClassId} {o : Nat → Nat} {L : List Nat} {S : gS} {n0 : Nat} (hn0 : n0 < 2) (v1 : Int32) (v2 : Int32) (I : gI) (J : gJ) (R : gR) (L0 : List Nat) (S0 : gS) (Q : Bool → Prop) (h : wX1_isAt n0 v1 v2 I J R L S Q) : Ct yX1_isAt cX1_isAt 3 (some .boolean) (rl 0) D (tyW ca) 0 0 [.ref (o (10 + n0)), .int v1, .int v2] (cX ca o I J R L S) (PYz ca o I J R L S Q) := ct_of (rm := (rl 0)) (by decide +kernel) (Nat.le_of_ble_eq_true rfl) (fun Γ C => wX1_isAt_g hn0 v1 v2 C h)
set_option maxRecDepth 100000 in
theorem wX1_apartSquared_g {Γ : gT} {D : gD} {ca : Nat → ClassId} {o : Nat → Nat} {I : gI} {J : gJ} {R : gR} {L : List Nat} {S : gS} {Q : Int64 → Prop} {n0 : Nat} (hn0 : n0 < 2) {n1 : Nat} (hn1 : n1 < 2) (C : Cx Γ cX1_apartSquared RX1 2 D (tyW ca) (rl 0) (some .long) 0 0 (PYl ca o I J R L S Q)) (h : wX1_apartSquared n0 n1 I J R L S Q) : G Γ 0 0 0 [(0, .ref (o (10 + n0))), (1, .ref (o (10 + n1)))] [] (cX ca o I J R L S) := by
  unfold wX1_apartSquared at h
  refine g_aload_n C (i := 0) dX1_apartSquared_0 rfl rfl ?_
  refine x_get_X1_47 C (b := n0) hn0 dX1_apartSquared_1 ?_
  refine g_aload_n C (i := 1) dX1_apartSquared_4 rfl rfl ?_
  refine x_get_X1_47 C (b := n1) hn1 dX1_apartSquared_5 ?_
  refine g_lsub C dX1_apartSquared_8 ?_
  refine g_aload_n C (i := 0) dX1_apartSquared_9 rfl rfl ?_
  refine x_get_X1_47 C (b := n0) hn0 dX1_apartSquared_10 ?_
  refine g_aload_n C (i := 1) dX1_apartSquared_13 rfl rfl ?_
  refine x_get_X1_47 C (b := n1) hn1 dX1_apartSquared_14 ?_
  refine g_lsub C dX1_apartSquared_17 ?_
  refine g_lmul C dX1_apartSquared_18 ?_
  refine g_aload_n C (i := 0) dX1_apartSquared_19 rfl rfl ?_
  refine x_get_X1_51 C (b := n0) hn0 dX1_apartSquared_20 ?_
  refine g_aload_n C (i := 1) dX1_apartSquared_23 rfl rfl ?_
  refine x_get_X1_51 C (b := n1) hn1 dX1_apartSquared_24 ?_
  refine g_lsub C dX1_apartSquared_27 ?_
  refine g_aload_n C (i := 0) dX1_apartSquared_28 rfl rfl ?_
  refine x_get_X1_51 C (b := n0) hn0 dX1_apartSquared_29 ?_
  refine g_aload_n C (i := 1) dX1_apartSquared_32 rfl rfl ?_
  refine x_get_X1_51 C (b := n1) hn1 dX1_apartSquared_33 ?_
  refine g_lsub C dX1_apartSquared_36 ?_
  refine g_lmul C dX1_apartSquared_37 ?_
  refine g_ladd C dX1_apartSquared_38 ?_
  exact g_ret_l C dX1_apartSquared_39 (Nat.le_refl _) (Nat.le_refl _) ⟨_, rfl, rfl, h⟩
theorem wX1_k_apartSquared {D : gD} {ca : Nat → ClassId} {o : Nat → Nat} {L : List Nat} {S : gS} {n0 : Nat} (hn0 : n0 < 2) {n1 : Nat} (hn1 : n1 < 2) (I : gI) (J : gJ) (R : gR) (L0 : List Nat) (S0 : gS) (Q : Int64 → Prop) (h : wX1_apartSquared n0 n1 I J R L S Q) : Ct yX1_apartSquared cX1_apartSquared 2 (some .long) (rl 0) D (tyW ca) 0 0 [.ref (o (10 + n0)), .ref (o (10 + n1))] (cX ca o I J R L S) (PYl ca o I J R L S Q) := ct_of (rm := (rl 0)) (by decide +kernel) (Nat.le_of_ble_eq_true rfl) (fun Γ C => wX1_apartSquared_g hn0 hn1 C h)
set_option maxRecDepth 100000 in
theorem wX1_key_g {Γ : gT} {D : gD} {ca : Nat → ClassId} {o : Nat → Nat} {I : gI} {J : gJ} {R : gR} {L : List Nat} {S : gS} {Q : Int32 → Prop} (v0 : Int64) (v2 : Int64) (v4 : Int32) (C : Cx Γ cX1_key RX1 7 D (tyW ca) (rl 0) (some .int) 0 0 (PYi ca o I J R L S Q)) (h : wX1_key v0 v2 v4 I J R L S Q) : G Γ 0 0 0 [(0, .long v0), (2, .long v2), (4, .int v4)] [] (cX ca o I J R L S) := by
  unfold wX1_key at h
  refine g_lload_n C (i := 0) dX1_key_0 rfl rfl ?_
  refine g_l2i C dX1_key_1 ?_
  refine g_sipush C (v := 4096) dX1_key_2 (by decide) ?_
  refine g_iadd C dX1_key_5 ?_
  refine g_istore C (i := 5) [(0, .long v0), (2, .long v2), (4, .int v4), (5, .int (v0.toInt32 + 4096))] dX1_key_6 (by decide) rfl ?_
  refine g_lload_n C (i := 2) dX1_key_8 rfl rfl ?_
  refine g_l2i C dX1_key_9 ?_
  refine g_sipush C (v := 4096) dX1_key_10 (by decide) ?_
  refine g_iadd C dX1_key_13 ?_
  refine g_istore C (i := 6) [(0, .long v0), (2, .long v2), (4, .int v4), (5, .int (v0.toInt32 + 4096)), (6, .int (v2.toInt32 + 4096))] dX1_key_14 (by decide) rfl ?_
  refine g_iload C (i := 5) dX1_key_16 rfl ?_
  refine g_bipush C (v := 13) dX1_key_18 (by decide) ?_
  refine g_ishl C dX1_key_20 ?_
  refine g_iload C (i := 6) dX1_key_21 rfl ?_
  refine g_ior C dX1_key_23 ?_
  refine g_iconst_1 C dX1_key_24 ?_
  refine g_ishl C dX1_key_25 ?_
  refine g_iload C (i := 4) dX1_key_26 rfl ?_
  refine g_ior C dX1_key_28 ?_
  exact g_ret_i C dX1_key_29 (Nat.le_refl _) (Nat.le_refl _) ⟨_, rfl, rfl, h⟩
theorem wX1_k_key {D : gD} {ca : Nat → ClassId} {o : Nat → Nat} {L : List Nat} {S : gS} (v0 : Int64) (v2 : Int64) (v4 : Int32) (I : gI) (J : gJ) (R : gR) (L0 : List Nat) (S0 : gS) (Q : Int32 → Prop) (h : wX1_key v0 v2 v4 I J R L S Q) : Ct yX1_key cX1_key 7 (some .int) (rl 0) D (tyW ca) 0 0 [.long v0, .long v2, .int v4] (cX ca o I J R L S) (PYi ca o I J R L S Q) := ct_of (rm := (rl 0)) (by decide +kernel) (Nat.le_of_ble_eq_true rfl) (fun Γ C => wX1_key_g v0 v2 v4 C h)
set_option maxRecDepth 100000 in
theorem wX1_slotOf_gb10 {Γ : gT} {D : gD} {ca : Nat → ClassId} {o : Nat → Nat} {Q : Int32 → Prop} {I : gI} {J : gJ} {R : gR} {L : List Nat} {S : gS} {n0 : Nat} (hn0 : n0 < 2) (C : Cx Γ cX1_slotOf RX1 5 D (tyW ca) (rl 0) (some .int) 0 0 (PYi ca o I J R L S Q)) {B10 : Int32 → Int32 → Int32 → Prop} (hB10 : ∀ (v1 : Int32) (v2 : Int32) (v3 : Int32) , B10 v1 v2 v3 → G Γ 0 0 10 [(0, .ref (o (10 + n0))), (1, .int v1), (2, .int v2), (3, .int v3)] [] (cX ca o I J R L S)) (v1 : Int32) (v2 : Int32) (v3 : Int32) (h : wX1_slotOf_b10 n0 I J R L S B10 v1 v2 v3 Q) : G Γ 0 0 10 [(0, .ref (o (10 + n0))), (1, .int v1), (2, .int v2), (3, .int v3)] [] (cX ca o I J R L S) := by
  unfold wX1_slotOf_b10 at h
  refine g_iload_n C (i := 3) dX1_slotOf_10 rfl rfl ?_
  refine g_aload_n C (i := 0) dX1_slotOf_11 rfl rfl ?_
  refine x_get_X1_15 C (b := n0) hn0 dX1_slotOf_12 ?_
  refine x_alen C (k := (8 + n0)) (v := Int32.ofNat (lenX (8 + n0))) (by have := hn0; omega) rfl dX1_slotOf_15 ?_
  refine g_icmp_ge C 60 dX1_slotOf_16 rfl (fun c1 => ?_) (fun c1 => ?_)
  · replace h := h.1 c1
    refine g_iconst_m1 C dX1_slotOf_60 ?_
    exact g_ret_i C dX1_slotOf_61 (Nat.le_refl _) (Nat.le_refl _) ⟨_, rfl, rfl, h⟩
  · replace h := h.2 c1
    refine g_iload_n C (i := 2) dX1_slotOf_19 rfl rfl ?_
    refine g_iload_n C (i := 3) dX1_slotOf_20 rfl rfl ?_
    refine g_iadd C dX1_slotOf_21 ?_
    refine g_aload_n C (i := 0) dX1_slotOf_22 rfl rfl ?_
    refine x_get_X1_15 C (b := n0) hn0 dX1_slotOf_23 ?_
    refine x_alen C (k := (8 + n0)) (v := Int32.ofNat (lenX (8 + n0))) (by have := hn0; omega) rfl dX1_slotOf_26 ?_
    obtain ⟨h2, h⟩ := h
    refine g_irem C dX1_slotOf_27 h2 ?_
    refine g_istore C (i := 4) [(0, .ref (o (10 + n0))), (1, .int v1), (2, .int v2), (3, .int v3), (4, .int ((v2 + v3) % (Int32.ofNat (lenX (8 + n0)))))] dX1_slotOf_28 (by decide) rfl ?_
    refine g_aload_n C (i := 0) dX1_slotOf_30 rfl rfl ?_
    refine x_get_X1_15 C (b := n0) hn0 dX1_slotOf_31 ?_
    refine g_iload C (i := 4) dX1_slotOf_34 rfl ?_
    obtain ⟨h3, h⟩ := h
    refine x_iald C (k := (8 + n0)) (by have := hn0; omega) h3 dX1_slotOf_36 ?_
    refine g_if_eq C 51 dX1_slotOf_37 rfl (fun c4 => ?_) (fun c4 => ?_)
    · replace h := h.1 c4
      refine g_iload C (i := 4) dX1_slotOf_51 rfl ?_
      exact g_ret_i C dX1_slotOf_53 (Nat.le_refl _) (Nat.le_refl _) ⟨_, rfl, rfl, h⟩
    · replace h := h.2 c4
      refine g_aload_n C (i := 0) dX1_slotOf_40 rfl rfl ?_
      refine x_get_X1_9 C (b := n0) hn0 dX1_slotOf_41 ?_
      refine g_iload C (i := 4) dX1_slotOf_44 rfl ?_
      obtain ⟨h5, h⟩ := h
      refine x_iald C (k := (6 + n0)) (by have := hn0; omega) h5 dX1_slotOf_46 ?_
      refine g_iload_n C (i := 1) dX1_slotOf_47 rfl rfl ?_
      refine g_icmp_ne C 54 dX1_slotOf_48 rfl (fun c6 => ?_) (fun c6 => ?_)
      · replace h := h.1 c6
        refine g_iinc C 1 [(0, .ref (o (10 + n0))), (1, .int v1), (2, .int v2), (3, .int (v3 + 1)), (4, .int ((v2 + v3) % (Int32.ofNat (lenX (8 + n0)))))] dX1_slotOf_54 rfl (by decide) (by decide) rfl ?_
        refine g_goto C 10 dX1_slotOf_57 rfl ?_
        exact g_weak [0, 1, 2, 3] rfl (Nat.le_refl _) (Nat.le_refl _) (hB10 v1 v2 (v3 + 1)  h)
      · replace h := h.2 c6
        refine g_iload C (i := 4) dX1_slotOf_51 rfl ?_
        exact g_ret_i C dX1_slotOf_53 (Nat.le_refl _) (Nat.le_refl _) ⟨_, rfl, rfl, h⟩
theorem wX1_slotOf_gl10 {Γ : gT} {D : gD} {ca : Nat → ClassId} {o : Nat → Nat} {Q : Int32 → Prop} {I : gI} {J : gJ} {R : gR} {L : List Nat} {S : gS} {n0 : Nat} (hn0 : n0 < 2) (C : Cx Γ cX1_slotOf RX1 5 D (tyW ca) (rl 0) (some .int) 0 0 (PYi ca o I J R L S Q)) : ∀ (n : Nat) (v1 : Int32) (v2 : Int32) (v3 : Int32) (_ : wX1_slotOf_l10 n0 I J R L S Q n v1 v2 v3 ), G Γ 0 0 10 [(0, .ref (o (10 + n0))), (1, .int v1), (2, .int v2), (3, .int v3)] [] (cX ca o I J R L S) := by
  intro n
  induction n with
  | zero => intro v1 v2 v3  h; exact h.elim
  | succ n ih => intro v1 v2 v3  h; exact wX1_slotOf_gb10 hn0 C ih v1 v2 v3 h
set_option maxRecDepth 100000 in
theorem wX1_slotOf_g {Γ : gT} {D : gD} {ca : Nat → ClassId} {o : Nat → Nat} {I : gI} {J : gJ} {R : gR} {L : List Nat} {S : gS} {Q : Int32 → Prop} {n0 : Nat} (hn0 : n0 < 2) (v1 : Int32) (C : Cx Γ cX1_slotOf RX1 5 D (tyW ca) (rl 0) (some .int) 0 0 (PYi ca o I J R L S Q)) (h : wX1_slotOf n0 v1 I J R L S Q) : G Γ 0 0 0 [(0, .ref (o (10 + n0))), (1, .int v1)] [] (cX ca o I J R L S) := by
  unfold wX1_slotOf at h
  refine g_iload_n C (i := 1) dX1_slotOf_0 rfl rfl ?_
  refine g_ldc C (v := (-1640531535)) (tb_in (List.mem_of_getElem? (i := 908) (by decide +kernel)) (by decide +kernel)) dX1_slotOf_1 ?_
  refine g_imul C dX1_slotOf_3 ?_
  refine g_bipush C (v := 19) dX1_slotOf_4 (by decide) ?_
  refine g_iushr C dX1_slotOf_6 ?_
  refine g_topi (fun x1 e2 => ?_)
  replace h := h x1 e2
  refine g_istore_n C (i := 2) [(0, .ref (o (10 + n0))), (1, .int v1), (2, .int x1)] dX1_slotOf_7 rfl (by decide) rfl ?_
  refine g_iconst_0 C dX1_slotOf_8 ?_
  refine g_istore_n C (i := 3) [(0, .ref (o (10 + n0))), (1, .int v1), (2, .int x1), (3, .int 0)] dX1_slotOf_9 rfl (by decide) rfl ?_
  obtain ⟨n, h⟩ := h
  exact g_weak [0, 1, 2, 3] rfl (Nat.le_refl _) (Nat.le_refl _) (wX1_slotOf_gl10 hn0 C  n v1 x1 0  h)
theorem wX1_k_slotOf {D : gD} {ca : Nat → ClassId} {o : Nat → Nat} {L : List Nat} {S : gS} {n0 : Nat} (hn0 : n0 < 2) (v1 : Int32) (I : gI) (J : gJ) (R : gR) (L0 : List Nat) (S0 : gS) (Q : Int32 → Prop) (h : wX1_slotOf n0 v1 I J R L S Q) : Ct yX1_slotOf cX1_slotOf 5 (some .int) (rl 0) D (tyW ca) 0 0 [.ref (o (10 + n0)), .int v1] (cX ca o I J R L S) (PYi ca o I J R L S Q) := ct_of (rm := (rl 0)) (by decide +kernel) (Nat.le_of_ble_eq_true rfl) (fun Γ C => wX1_slotOf_g hn0 v1 C h)
set_option maxRecDepth 100000 in
theorem wX2_cutOff_g {Γ : gT} {D : gD} {ca : Nat → ClassId} {o : Nat → Nat} {I : gI} {J : gJ} {R : gR} {L : List Nat} {S : gS} {Q : Int64 → Prop} {q0 : Nat} (hq0 : q0 ∈ L) (hc0 : sC (S q0) = 3 ∨ sC (S q0) = 4) (C : Cx Γ cX2_cutOff RX2 1 D (tyW ca) (rl 0) (some .long) 0 0 (PYl ca o I J R L S Q)) (h : wX2_cutOff q0 I J R L S Q) : G Γ 0 0 0 [(0, .ref q0)] [] (cX ca o I J R L S) := by
  unfold wX2_cutOff at h
  refine g_aload_n C (i := 0) dX2_cutOff_0 rfl rfl ?_
  refine x_get_X2_7 C hq0 hc0 dX2_cutOff_1 ?_
  exact g_ret_l C dX2_cutOff_4 (Nat.le_refl _) (Nat.le_refl _) ⟨_, rfl, rfl, h⟩
theorem wX2_k_cutOff {D : gD} {ca : Nat → ClassId} {o : Nat → Nat} {L : List Nat} {S : gS} {q0 : Nat} (hq0 : q0 ∈ L) (hc0 : sC (S q0) = 3 ∨ sC (S q0) = 4) (I : gI) (J : gJ) (R : gR) (L0 : List Nat) (S0 : gS) (Q : Int64 → Prop) (h : wX2_cutOff q0 I J R L S Q) : Ct yX2_cutOff cX2_cutOff 1 (some .long) (rl 0) D (tyW ca) 0 0 [.ref q0] (cX ca o I J R L S) (PYl ca o I J R L S Q) := ct_of (rm := (rl 0)) (by decide +kernel) (Nat.le_of_ble_eq_true rfl) (fun Γ C => wX2_cutOff_g hq0 hc0 C h)
set_option maxRecDepth 100000 in
theorem wX3_creaseLetters_g {Γ : gT} {D : gD} {ca : Nat → ClassId} {o : Nat → Nat} {I : gI} {J : gJ} {R : gR} {L : List Nat} {S : gS} {Q : Int64 → Prop} {q0 : Nat} (hq0 : q0 ∈ L) (hc0 : sC (S q0) = 5 ∨ sC (S q0) = 6) (C : Cx Γ cX3_creaseLetters RX3 1 D (tyW ca) (rl 0) (some .long) 0 0 (PYl ca o I J R L S Q)) (h : wX3_creaseLetters q0 I J R L S Q) : G Γ 0 0 0 [(0, .ref q0)] [] (cX ca o I J R L S) := by
  unfold wX3_creaseLetters at h
  refine g_aload_n C (i := 0) dX3_creaseLetters_0 rfl rfl ?_
  refine x_get_X3_7 C hq0 hc0 dX3_creaseLetters_1 ?_
  refine g_ldc2 C (v := (-1)) (tb_in (List.mem_of_getElem? (i := 475) (by decide +kernel)) (by decide +kernel)) dX3_creaseLetters_4 ?_
  refine g_lxor C dX3_creaseLetters_7 ?_
  exact g_ret_l C dX3_creaseLetters_8 (Nat.le_refl _) (Nat.le_refl _) ⟨_, rfl, rfl, h⟩
theorem wX3_k_creaseLetters {D : gD} {ca : Nat → ClassId} {o : Nat → Nat} {L : List Nat} {S : gS} {q0 : Nat} (hq0 : q0 ∈ L) (hc0 : sC (S q0) = 5 ∨ sC (S q0) = 6) (I : gI) (J : gJ) (R : gR) (L0 : List Nat) (S0 : gS) (Q : Int64 → Prop) (h : wX3_creaseLetters q0 I J R L S Q) : Ct yX3_creaseLetters cX3_creaseLetters 1 (some .long) (rl 0) D (tyW ca) 0 0 [.ref q0] (cX ca o I J R L S) (PYl ca o I J R L S Q) := ct_of (rm := (rl 0)) (by decide +kernel) (Nat.le_of_ble_eq_true rfl) (fun Γ C => wX3_creaseLetters_g hq0 hc0 C h)
set_option maxRecDepth 100000 in
theorem wX4_keep_gb17 {Γ : gT} {D : gD} {ca : Nat → ClassId} {o : Nat → Nat} {Q : gI → gJ → gR → Prop} {L : List Nat} {S : gS} (C : Cx Γ cX4_keep RX4 4 D (tyW ca) (rl 0) none 0 0 (PXv ca o L S Q)) {B17 : Int32 → Int32 → Int32 → gI → gJ → gR → Prop} (hB17 : ∀ (v1 : Int32) (v2 : Int32) (v3 : Int32) (I : gI) (J : gJ) (R : gR), B17 v1 v2 v3 I J R → G Γ 0 0 17 [(0, .ref (o 4)), (1, .int v1), (2, .int v2), (3, .int v3)] [] (cX ca o I J R L S)) (v1 : Int32) (v2 : Int32) (v3 : Int32) (I : gI) (J : gJ) (R : gR) (h : wX4_keep_b17 L S B17 v1 v2 v3 I J R Q) : G Γ 0 0 17 [(0, .ref (o 4)), (1, .int v1), (2, .int v2), (3, .int v3)] [] (cX ca o I J R L S) := by
  unfold wX4_keep_b17 at h
  refine g_iload_n C (i := 3) dX4_keep_17 rfl rfl ?_
  refine g_iload_n C (i := 1) dX4_keep_18 rfl rfl ?_
  refine g_icmp_ge C 41 dX4_keep_19 rfl (fun c1 => ?_) (fun c1 => ?_)
  · replace h := h.1 c1
    refine g_aload_n C (i := 0) dX4_keep_41 rfl rfl ?_
    refine x_get_X4_18 C dX4_keep_42 ?_
    refine g_aload_n C (i := 0) dX4_keep_45 rfl rfl ?_
    refine x_get_X4_40 C dX4_keep_46 ?_
    refine g_iload_n C (i := 2) dX4_keep_49 rfl rfl ?_
    obtain ⟨h2, h⟩ := h
    refine x_iast C (k := 12) (by decide) h2 dX4_keep_50 ?_
    refine x_nmI _ (fun I3 e4 => ?_)
    replace h := h I3 e4
    refine g_aload_n C (i := 0) dX4_keep_51 rfl rfl ?_
    refine g_dup C dX4_keep_52 rfl ?_
    refine x_get_X4_40 C dX4_keep_53 ?_
    refine g_iconst_1 C dX4_keep_56 ?_
    refine g_iadd C dX4_keep_57 ?_
    refine x_put_X4_40 C dX4_keep_58 ?_
    refine x_nmI _ (fun I5 e6 => ?_)
    replace h := h I5 e6
    exact g_ret_v C dX4_keep_61 (Nat.le_refl _) (Nat.le_refl _) ⟨_, _, _, rfl, rfl, h⟩
  · replace h := h.2 c1
    refine g_iload_n C (i := 2) dX4_keep_22 rfl rfl ?_
    refine g_aload_n C (i := 0) dX4_keep_23 rfl rfl ?_
    refine x_get_X4_9 C dX4_keep_24 ?_
    refine g_iload_n C (i := 3) dX4_keep_27 rfl rfl ?_
    obtain ⟨h7, h⟩ := h
    refine x_iald C (k := 10) (by decide) h7 dX4_keep_28 ?_
    refine g_iconst_3 C dX4_keep_29 ?_
    refine g_iload_n C (i := 3) dX4_keep_30 rfl rfl ?_
    refine g_imul C dX4_keep_31 ?_
    refine g_ishl C dX4_keep_32 ?_
    refine g_ior C dX4_keep_33 ?_
    refine g_istore_n C (i := 2) [(0, .ref (o 4)), (1, .int v1), (2, .int (v2 ||| ((I 10 v3.toNatClampNeg) <<< ((3 * v3) &&& 31)))), (3, .int v3)] dX4_keep_34 rfl (by decide) rfl ?_
    refine g_iinc C 1 [(0, .ref (o 4)), (1, .int v1), (2, .int (v2 ||| ((I 10 v3.toNatClampNeg) <<< ((3 * v3) &&& 31)))), (3, .int (v3 + 1))] dX4_keep_35 rfl (by decide) (by decide) rfl ?_
    refine g_goto C 17 dX4_keep_38 rfl ?_
    exact g_weak [0, 1, 2, 3] rfl (Nat.le_refl _) (Nat.le_refl _) (hB17 v1 (v2 ||| ((I 10 v3.toNatClampNeg) <<< ((3 * v3) &&& 31))) (v3 + 1) I J R h)
theorem wX4_keep_gl17 {Γ : gT} {D : gD} {ca : Nat → ClassId} {o : Nat → Nat} {Q : gI → gJ → gR → Prop} {L : List Nat} {S : gS} (C : Cx Γ cX4_keep RX4 4 D (tyW ca) (rl 0) none 0 0 (PXv ca o L S Q)) : ∀ (n : Nat) (v1 : Int32) (v2 : Int32) (v3 : Int32) (I : gI) (J : gJ) (R : gR) (_ : wX4_keep_l17 L S Q n v1 v2 v3 I J R), G Γ 0 0 17 [(0, .ref (o 4)), (1, .int v1), (2, .int v2), (3, .int v3)] [] (cX ca o I J R L S) := by
  intro n
  induction n with
  | zero => intro v1 v2 v3 I J R h; exact h.elim
  | succ n ih => intro v1 v2 v3 I J R h; exact wX4_keep_gb17 C ih v1 v2 v3 I J R h
set_option maxRecDepth 100000 in
theorem wX4_keep_g {Γ : gT} {D : gD} {ca : Nat → ClassId} {o : Nat → Nat} {I : gI} {J : gJ} {R : gR} {L : List Nat} {S : gS} {Q : gI → gJ → gR → Prop} (v1 : Int32) (C : Cx Γ cX4_keep RX4 4 D (tyW ca) (rl 0) none 0 0 (PXv ca o L S Q)) (h : wX4_keep v1 I J R L S Q) : G Γ 0 0 0 [(0, .ref (o 4)), (1, .int v1)] [] (cX ca o I J R L S) := by
  unfold wX4_keep at h
  refine g_aload_n C (i := 0) dX4_keep_0 rfl rfl ?_
  refine x_get_X4_40 C dX4_keep_1 ?_
  refine g_aload_n C (i := 0) dX4_keep_4 rfl rfl ?_
  refine x_get_X4_18 C dX4_keep_5 ?_
  refine x_alen C (k := 12) (v := 2073) (by decide) rfl dX4_keep_8 ?_
  refine g_icmp_lt C 13 dX4_keep_9 rfl (fun c1 => ?_) (fun c1 => ?_)
  · replace h := h.1 c1
    refine g_iconst_0 C dX4_keep_13 ?_
    refine g_istore_n C (i := 2) [(0, .ref (o 4)), (1, .int v1), (2, .int 0)] dX4_keep_14 rfl (by decide) rfl ?_
    refine g_iconst_0 C dX4_keep_15 ?_
    refine g_istore_n C (i := 3) [(0, .ref (o 4)), (1, .int v1), (2, .int 0), (3, .int 0)] dX4_keep_16 rfl (by decide) rfl ?_
    obtain ⟨n, h⟩ := h
    exact g_weak [0, 1, 2, 3] rfl (Nat.le_refl _) (Nat.le_refl _) (wX4_keep_gl17  C  n v1 0 0 I J R h)
  · replace h := h.2 c1
    exact g_ret_v C dX4_keep_12 (Nat.le_refl _) (Nat.le_refl _) ⟨_, _, _, rfl, rfl, h⟩
theorem wX4_k_keep {D : gD} {ca : Nat → ClassId} {o : Nat → Nat} {L : List Nat} {S : gS} (v1 : Int32) (I : gI) (J : gJ) (R : gR) (L0 : List Nat) (S0 : gS) (Q : gI → gJ → gR → Prop) (h : wX4_keep v1 I J R L S Q) : Ct yX4_keep cX4_keep 4 none (rl 0) D (tyW ca) 0 0 [.ref (o 4), .int v1] (cX ca o I J R L S) (PXv ca o L S Q) := ct_of (rm := (rl 0)) (by decide +kernel) (Nat.le_of_ble_eq_true rfl) (fun Γ C => wX4_keep_g v1 C h)
set_option maxRecDepth 100000 in
theorem wX4_mateOf_g {Γ : gT} {D : gD} {ca : Nat → ClassId} {o : Nat → Nat} {I : gI} {J : gJ} {R : gR} {L : List Nat} {S : gS} {Q : Int32 → Prop} (v0 : Int32) (v1 : Int32) (v2 : Int32) (C : Cx Γ cX4_mateOf RX4 4 D (tyW ca) (rl 0) (some .int) 0 0 (PYi ca o I J R L S Q)) (h : wX4_mateOf v0 v1 v2 I J R L S Q) : G Γ 0 0 0 [(0, .int v0), (1, .int v1), (2, .int v2)] [] (cX ca o I J R L S) := by
  unfold wX4_mateOf at h
  refine g_iload_n C (i := 0) dX4_mateOf_0 rfl rfl ?_
  refine g_iload_n C (i := 1) dX4_mateOf_1 rfl rfl ?_
  refine g_iadd C dX4_mateOf_2 ?_
  refine g_iconst_1 C dX4_mateOf_3 ?_
  refine g_ixor C dX4_mateOf_4 ?_
  refine g_iload_n C (i := 1) dX4_mateOf_5 rfl rfl ?_
  refine g_isub C dX4_mateOf_6 ?_
  refine g_istore_n C (i := 3) [(0, .int v0), (1, .int v1), (2, .int v2), (3, .int (((v0 + v1) ^^^ 1) - v1))] dX4_mateOf_7 rfl (by decide) rfl ?_
  refine g_iload_n C (i := 3) dX4_mateOf_8 rfl rfl ?_
  refine g_if_lt C 21 dX4_mateOf_9 rfl (fun c1 => ?_) (fun c1 => ?_)
  · replace h := h.1 c1
    refine g_iconst_m1 C dX4_mateOf_21 ?_
    exact g_ret_i C dX4_mateOf_22 (Nat.le_refl _) (Nat.le_refl _) ⟨_, rfl, rfl, h⟩
  · replace h := h.2 c1
    refine g_iload_n C (i := 3) dX4_mateOf_12 rfl rfl ?_
    refine g_iload_n C (i := 2) dX4_mateOf_13 rfl rfl ?_
    refine g_icmp_ge C 21 dX4_mateOf_14 rfl (fun c2 => ?_) (fun c2 => ?_)
    · replace h := h.1 c2
      refine g_iconst_m1 C dX4_mateOf_21 ?_
      exact g_ret_i C dX4_mateOf_22 (Nat.le_refl _) (Nat.le_refl _) ⟨_, rfl, rfl, h⟩
    · replace h := h.2 c2
      refine g_iload_n C (i := 3) dX4_mateOf_17 rfl rfl ?_
      refine g_goto C 22 dX4_mateOf_18 rfl ?_
      exact g_ret_i C dX4_mateOf_22 (Nat.le_refl _) (Nat.le_refl _) ⟨_, rfl, rfl, h⟩
theorem wX4_k_mateOf {D : gD} {ca : Nat → ClassId} {o : Nat → Nat} {L : List Nat} {S : gS} (v0 : Int32) (v1 : Int32) (v2 : Int32) (I : gI) (J : gJ) (R : gR) (L0 : List Nat) (S0 : gS) (Q : Int32 → Prop) (h : wX4_mateOf v0 v1 v2 I J R L S Q) : Ct yX4_mateOf cX4_mateOf 4 (some .int) (rl 0) D (tyW ca) 0 0 [.int v0, .int v1, .int v2] (cX ca o I J R L S) (PYi ca o I J R L S Q) := ct_of (rm := (rl 0)) (by decide +kernel) (Nat.le_of_ble_eq_true rfl) (fun Γ C => wX4_mateOf_g v0 v1 v2 C h)
set_option maxRecDepth 100000 in
theorem wX6_fail_g {Γ : gT} {D : gD} {ca : Nat → ClassId} {o : Nat → Nat} {I : gI} {J : gJ} {R : gR} {L : List Nat} {S : gS} {Q : Bool → gI → gJ → gR → Prop} (v1 : Int32) (C : Cx Γ cX6_fail RX6 2 D (tyW ca) (rl 0) (some .boolean) 0 0 (PXz ca o L S Q)) (h : wX6_fail v1 I J R L S Q) : G Γ 0 0 0 [(0, .ref (o 3)), (1, .int v1)] [] (cX ca o I J R L S) := by
  unfold wX6_fail at h
  refine g_aload_n C (i := 0) dX6_fail_0 rfl rfl ?_
  refine g_iload_n C (i := 1) dX6_fail_1 rfl rfl ?_
  refine x_put_X6_25 C dX6_fail_2 ?_
  refine x_nmI _ (fun I1 e2 => ?_)
  replace h := h I1 e2
  refine g_iconst_0 C dX6_fail_5 ?_
  exact g_ret_z C false rfl dX6_fail_6 (Nat.le_refl _) (Nat.le_refl _) ⟨_, _, _, _, rfl, rfl, h⟩
theorem wX6_k_fail {D : gD} {ca : Nat → ClassId} {o : Nat → Nat} {L : List Nat} {S : gS} (v1 : Int32) (I : gI) (J : gJ) (R : gR) (L0 : List Nat) (S0 : gS) (Q : Bool → gI → gJ → gR → Prop) (h : wX6_fail v1 I J R L S Q) : Ct yX6_fail cX6_fail 2 (some .boolean) (rl 0) D (tyW ca) 0 0 [.ref (o 3), .int v1] (cX ca o I J R L S) (PXz ca o L S Q) := ct_of (rm := (rl 0)) (by decide +kernel) (Nat.le_of_ble_eq_true rfl) (fun Γ C => wX6_fail_g v1 C h)
set_option maxRecDepth 100000 in
theorem wX7_creaseLetters_g {Γ : gT} {D : gD} {ca : Nat → ClassId} {o : Nat → Nat} {I : gI} {J : gJ} {R : gR} {L : List Nat} {S : gS} {Q : Int64 → Prop} {q0 : Nat} (hq0 : q0 ∈ L) (hc0 : sC (S q0) = 1) (C : Cx Γ cX7_creaseLetters RX7 1 D (tyW ca) (rl 0) (some .long) 0 0 (PYl ca o I J R L S Q)) (h : wX7_creaseLetters q0 I J R L S Q) : G Γ 0 0 0 [(0, .ref q0)] [] (cX ca o I J R L S) := by
  unfold wX7_creaseLetters at h
  refine g_aload_n C (i := 0) dX7_creaseLetters_0 rfl rfl ?_
  refine x_get_X7_9 C hq0 hc0 dX7_creaseLetters_1 ?_
  refine g_iconst_2 C dX7_creaseLetters_4 ?_
  refine g_irem C dX7_creaseLetters_5 (by decide) ?_
  refine g_if_ne C 13 dX7_creaseLetters_6 rfl (fun c1 => ?_) (fun c1 => ?_)
  · replace h := h.1 c1
    refine g_ldc2 C (v := (-1)) (tb_in (List.mem_of_getElem? (i := 480) (by decide +kernel)) (by decide +kernel)) dX7_creaseLetters_13 ?_
    exact g_ret_l C dX7_creaseLetters_16 (Nat.le_refl _) (Nat.le_refl _) ⟨_, rfl, rfl, h⟩
  · replace h := h.2 c1
    refine g_lconst_0 C dX7_creaseLetters_9 ?_
    refine g_goto C 16 dX7_creaseLetters_10 rfl ?_
    exact g_ret_l C dX7_creaseLetters_16 (Nat.le_refl _) (Nat.le_refl _) ⟨_, rfl, rfl, h⟩
theorem wX7_k_creaseLetters {D : gD} {ca : Nat → ClassId} {o : Nat → Nat} {L : List Nat} {S : gS} {q0 : Nat} (hq0 : q0 ∈ L) (hc0 : sC (S q0) = 1) (I : gI) (J : gJ) (R : gR) (L0 : List Nat) (S0 : gS) (Q : Int64 → Prop) (h : wX7_creaseLetters q0 I J R L S Q) : Ct yX7_creaseLetters cX7_creaseLetters 1 (some .long) (rl 0) D (tyW ca) 0 0 [.ref q0] (cX ca o I J R L S) (PYl ca o I J R L S Q) := ct_of (rm := (rl 0)) (by decide +kernel) (Nat.le_of_ble_eq_true rfl) (fun Γ C => wX7_creaseLetters_g hq0 hc0 C h)
set_option maxRecDepth 100000 in
theorem wX8_hold_g {Γ : gT} {D : gD} {ca : Nat → ClassId} {o : Nat → Nat} {I : gI} {J : gJ} {R : gR} {L : List Nat} {S : gS} {Q : gI → gJ → gR → Prop} {n0 : Nat} (hn0 : n0 < 8) (v1 : Int32) (C : Cx Γ cX8_hold RX8 2 D (tyW ca) (rl 0) none 0 0 (PXv ca o L S Q)) (h : wX8_hold n0 v1 I J R L S Q) : G Γ 0 0 0 [(0, .ref (o (20 + n0))), (1, .int v1)] [] (cX ca o I J R L S) := by
  unfold wX8_hold at h
  refine g_aload_n C (i := 0) dX8_hold_0 rfl rfl ?_
  refine g_iload_n C (i := 1) dX8_hold_1 rfl rfl ?_
  refine x_put_X8_9 C (s := n0) hn0 dX8_hold_2 ?_
  refine x_nmI _ (fun I1 e2 => ?_)
  replace h := h I1 e2
  refine g_aload_n C (i := 0) dX8_hold_5 rfl rfl ?_
  refine g_iconst_0 C dX8_hold_6 ?_
  refine x_put_X8_19 C (s := n0) hn0 dX8_hold_7 ?_
  refine x_nmI _ (fun I3 e4 => ?_)
  replace h := h I3 e4
  exact g_ret_v C dX8_hold_10 (Nat.le_refl _) (Nat.le_refl _) ⟨_, _, _, rfl, rfl, h⟩
theorem wX8_k_hold {D : gD} {ca : Nat → ClassId} {o : Nat → Nat} {L : List Nat} {S : gS} {n0 : Nat} (hn0 : n0 < 8) (v1 : Int32) (I : gI) (J : gJ) (R : gR) (L0 : List Nat) (S0 : gS) (Q : gI → gJ → gR → Prop) (h : wX8_hold n0 v1 I J R L S Q) : Ct yX8_hold cX8_hold 2 none (rl 0) D (tyW ca) 0 0 [.ref (o (20 + n0)), .int v1] (cX ca o I J R L S) (PXv ca o L S Q) := ct_of (rm := (rl 0)) (by decide +kernel) (Nat.le_of_ble_eq_true rfl) (fun Γ C => wX8_hold_g hn0 v1 C h)
set_option maxRecDepth 100000 in
theorem wX8_holdsRow_g {Γ : gT} {D : gD} {ca : Nat → ClassId} {o : Nat → Nat} {I : gI} {J : gJ} {R : gR} {L : List Nat} {S : gS} {Q : Bool → Prop} {n0 : Nat} (hn0 : n0 < 8) (C : Cx Γ cX8_holdsRow RX8 1 D (tyW ca) (rl 0) (some .boolean) 0 0 (PYz ca o I J R L S Q)) (h : wX8_holdsRow n0 I J R L S Q) : G Γ 0 0 0 [(0, .ref (o (20 + n0)))] [] (cX ca o I J R L S) := by
  unfold wX8_holdsRow at h
  refine g_aload_n C (i := 0) dX8_holdsRow_0 rfl rfl ?_
  refine x_get_X8_9 C (s := n0) hn0 dX8_holdsRow_1 ?_
  refine g_bipush C (v := 100) dX8_holdsRow_4 (by decide) ?_
  refine g_icmp_lt C 13 dX8_holdsRow_6 rfl (fun c1 => ?_) (fun c1 => ?_)
  · replace h := h.1 c1
    refine g_iconst_0 C dX8_holdsRow_13 ?_
    exact g_ret_z C false rfl dX8_holdsRow_14 (Nat.le_refl _) (Nat.le_refl _) ⟨_, rfl, rfl, h⟩
  · replace h := h.2 c1
    refine g_iconst_1 C dX8_holdsRow_9 ?_
    refine g_goto C 14 dX8_holdsRow_10 rfl ?_
    exact g_ret_z C true rfl dX8_holdsRow_14 (Nat.le_refl _) (Nat.le_refl _) ⟨_, rfl, rfl, h⟩
theorem wX8_k_holdsRow {D : gD} {ca : Nat → ClassId} {o : Nat → Nat} {L : List Nat} {S : gS} {n0 : Nat} (hn0 : n0 < 8) (I : gI) (J : gJ) (R : gR) (L0 : List Nat) (S0 : gS) (Q : Bool → Prop) (h : wX8_holdsRow n0 I J R L S Q) : Ct yX8_holdsRow cX8_holdsRow 1 (some .boolean) (rl 0) D (tyW ca) 0 0 [.ref (o (20 + n0))] (cX ca o I J R L S) (PYz ca o I J R L S Q) := ct_of (rm := (rl 0)) (by decide +kernel) (Nat.le_of_ble_eq_true rfl) (fun Γ C => wX8_holdsRow_g hn0 C h)
set_option maxRecDepth 100000 in
theorem wX8_holdsStrip_g {Γ : gT} {D : gD} {ca : Nat → ClassId} {o : Nat → Nat} {I : gI} {J : gJ} {R : gR} {L : List Nat} {S : gS} {Q : Bool → Prop} {n0 : Nat} (hn0 : n0 < 8) (C : Cx Γ cX8_holdsStrip RX8 1 D (tyW ca) (rl 0) (some .boolean) 0 0 (PYz ca o I J R L S Q)) (h : wX8_holdsStrip n0 I J R L S Q) : G Γ 0 0 0 [(0, .ref (o (20 + n0)))] [] (cX ca o I J R L S) := by
  unfold wX8_holdsStrip at h
  refine g_aload_n C (i := 0) dX8_holdsStrip_0 rfl rfl ?_
  refine x_get_X8_9 C (s := n0) hn0 dX8_holdsStrip_1 ?_
  refine g_iconst_m1 C dX8_holdsStrip_4 ?_
  refine g_icmp_eq C 21 dX8_holdsStrip_5 rfl (fun c1 => ?_) (fun c1 => ?_)
  · replace h := h.1 c1
    refine g_iconst_0 C dX8_holdsStrip_21 ?_
    exact g_ret_z C false rfl dX8_holdsStrip_22 (Nat.le_refl _) (Nat.le_refl _) ⟨_, rfl, rfl, h⟩
  · replace h := h.2 c1
    refine g_aload_n C (i := 0) dX8_holdsStrip_8 rfl rfl ?_
    refine x_get_X8_9 C (s := n0) hn0 dX8_holdsStrip_9 ?_
    refine g_bipush C (v := 100) dX8_holdsStrip_12 (by decide) ?_
    refine g_icmp_ge C 21 dX8_holdsStrip_14 rfl (fun c2 => ?_) (fun c2 => ?_)
    · replace h := h.1 c2
      refine g_iconst_0 C dX8_holdsStrip_21 ?_
      exact g_ret_z C false rfl dX8_holdsStrip_22 (Nat.le_refl _) (Nat.le_refl _) ⟨_, rfl, rfl, h⟩
    · replace h := h.2 c2
      refine g_iconst_1 C dX8_holdsStrip_17 ?_
      refine g_goto C 22 dX8_holdsStrip_18 rfl ?_
      exact g_ret_z C true rfl dX8_holdsStrip_22 (Nat.le_refl _) (Nat.le_refl _) ⟨_, rfl, rfl, h⟩
theorem wX8_k_holdsStrip {D : gD} {ca : Nat → ClassId} {o : Nat → Nat} {L : List Nat} {S : gS} {n0 : Nat} (hn0 : n0 < 8) (I : gI) (J : gJ) (R : gR) (L0 : List Nat) (S0 : gS) (Q : Bool → Prop) (h : wX8_holdsStrip n0 I J R L S Q) : Ct yX8_holdsStrip cX8_holdsStrip 1 (some .boolean) (rl 0) D (tyW ca) 0 0 [.ref (o (20 + n0))] (cX ca o I J R L S) (PYz ca o I J R L S Q) := ct_of (rm := (rl 0)) (by decide +kernel) (Nat.le_of_ble_eq_true rfl) (fun Γ C => wX8_holdsStrip_g hn0 C h)
set_option maxRecDepth 100000 in
theorem wX8_has_g {Γ : gT} {D : gD} {ca : Nat → ClassId} {o : Nat → Nat} {I : gI} {J : gJ} {R : gR} {L : List Nat} {S : gS} {Q : Bool → Prop} {n0 : Nat} (hn0 : n0 < 8) (v1 : Int32) (C : Cx Γ cX8_has RX8 2 D (tyW ca) (rl 0) (some .boolean) 0 0 (PYz ca o I J R L S Q)) (h : wX8_has n0 v1 I J R L S Q) : G Γ 0 0 0 [(0, .ref (o (20 + n0))), (1, .int v1)] [] (cX ca o I J R L S) := by
  unfold wX8_has at h
  refine g_iload_n C (i := 1) dX8_has_0 rfl rfl ?_
  refine g_if_lt C 28 dX8_has_1 rfl (fun c1 => ?_) (fun c1 => ?_)
  · replace h := h.1 c1
    refine g_iconst_0 C dX8_has_28 ?_
    exact g_ret_z C false rfl dX8_has_29 (Nat.le_refl _) (Nat.le_refl _) ⟨_, rfl, rfl, h⟩
  · replace h := h.2 c1
    refine g_iload_n C (i := 1) dX8_has_4 rfl rfl ?_
    refine g_aload_n C (i := 0) dX8_has_5 rfl rfl ?_
    refine x_get_X8_19 C (s := n0) hn0 dX8_has_6 ?_
    refine g_icmp_ge C 28 dX8_has_9 rfl (fun c2 => ?_) (fun c2 => ?_)
    · replace h := h.1 c2
      refine g_iconst_0 C dX8_has_28 ?_
      exact g_ret_z C false rfl dX8_has_29 (Nat.le_refl _) (Nat.le_refl _) ⟨_, rfl, rfl, h⟩
    · replace h := h.2 c2
      refine g_aload_n C (i := 0) dX8_has_12 rfl rfl ?_
      refine x_get_X8_19 C (s := n0) hn0 dX8_has_13 ?_
      refine g_aload_n C (i := 0) dX8_has_16 rfl rfl ?_
      refine x_get_X8_15 C (s := n0) hn0 dX8_has_17 ?_
      refine x_llen C (s := n0) hn0 dX8_has_20 ?_
      refine g_icmp_gt C 28 dX8_has_21 rfl (fun c3 => ?_) (fun c3 => ?_)
      · replace h := h.1 c3
        refine g_iconst_0 C dX8_has_28 ?_
        exact g_ret_z C false rfl dX8_has_29 (Nat.le_refl _) (Nat.le_refl _) ⟨_, rfl, rfl, h⟩
      · replace h := h.2 c3
        refine g_iconst_1 C dX8_has_24 ?_
        refine g_goto C 29 dX8_has_25 rfl ?_
        exact g_ret_z C true rfl dX8_has_29 (Nat.le_refl _) (Nat.le_refl _) ⟨_, rfl, rfl, h⟩
theorem wX8_k_has {D : gD} {ca : Nat → ClassId} {o : Nat → Nat} {L : List Nat} {S : gS} {n0 : Nat} (hn0 : n0 < 8) (v1 : Int32) (I : gI) (J : gJ) (R : gR) (L0 : List Nat) (S0 : gS) (Q : Bool → Prop) (h : wX8_has n0 v1 I J R L S Q) : Ct yX8_has cX8_has 2 (some .boolean) (rl 0) D (tyW ca) 0 0 [.ref (o (20 + n0)), .int v1] (cX ca o I J R L S) (PYz ca o I J R L S Q) := ct_of (rm := (rl 0)) (by decide +kernel) (Nat.le_of_ble_eq_true rfl) (fun Γ C => wX8_has_g hn0 v1 C h)
set_option maxRecDepth 100000 in
theorem wX8_cutToSort_g {Γ : gT} {D : gD} {ca : Nat → ClassId} {o : Nat → Nat} {I : gI} {J : gJ} {R : gR} {L : List Nat} {S : gS} {Q : Int64 → Prop} {n0 : Nat} (hn0 : n0 < 8) (v1 : Int64) (C : Cx Γ cX8_cutToSort RX8 3 D (tyW ca) (rl 0) (some .long) 0 0 (PYl ca o I J R L S Q)) (h : wX8_cutToSort n0 v1 I J R L S Q) : G Γ 0 0 0 [(0, .ref (o (20 + n0))), (1, .long v1)] [] (cX ca o I J R L S) := by
  unfold wX8_cutToSort at h
  refine g_aload_n C (i := 0) dX8_cutToSort_0 rfl rfl ?_
  refine x_get_X8_9 C (s := n0) hn0 dX8_cutToSort_1 ?_
  refine g_bipush C (v := 100) dX8_cutToSort_4 (by decide) ?_
  refine g_isub C dX8_cutToSort_6 ?_
  by_cases c1 : ((I 3 n0) - 100) = 0
  · replace h := h.1 c1
    refine g_tin C 32 0 c1 (by decide) (by decide) rfl rfl dX8_cutToSort_7 ?_
    refine g_lload_n C (i := 1) dX8_cutToSort_32 rfl rfl ?_
    refine g_l2i C dX8_cutToSort_33 ?_
    refine g_i2b C dX8_cutToSort_34 ?_
    refine g_i2l C dX8_cutToSort_35 ?_
    exact g_ret_l C dX8_cutToSort_36 (Nat.le_refl _) (Nat.le_refl _) ⟨_, rfl, rfl, h⟩
  replace h := h.2 c1
  by_cases c2 : ((I 3 n0) - 100) = 1
  · replace h := h.1 c2
    refine g_tin C 37 1 c2 (by decide) (by decide) rfl rfl dX8_cutToSort_7 ?_
    refine g_lload_n C (i := 1) dX8_cutToSort_37 rfl rfl ?_
    refine g_l2i C dX8_cutToSort_38 ?_
    refine g_i2s C dX8_cutToSort_39 ?_
    refine g_i2l C dX8_cutToSort_40 ?_
    exact g_ret_l C dX8_cutToSort_41 (Nat.le_refl _) (Nat.le_refl _) ⟨_, rfl, rfl, h⟩
  replace h := h.2 c2
  by_cases c3 : ((I 3 n0) - 100) = 2
  · replace h := h.1 c3
    refine g_tin C 42 2 c3 (by decide) (by decide) rfl rfl dX8_cutToSort_7 ?_
    refine g_lload_n C (i := 1) dX8_cutToSort_42 rfl rfl ?_
    refine g_l2i C dX8_cutToSort_43 ?_
    refine g_i2l C dX8_cutToSort_44 ?_
    exact g_ret_l C dX8_cutToSort_45 (Nat.le_refl _) (Nat.le_refl _) ⟨_, rfl, rfl, h⟩
  replace h := h.2 c3
  refine g_tout C 46 (by have := g_ne (v := 0) (n := 0) c1 (by decide); have := g_ne (v := 1) (n := 1) c2 (by decide); have := g_ne (v := 2) (n := 2) c3 (by decide); omega) rfl dX8_cutToSort_7 ?_
  refine g_lload_n C (i := 1) dX8_cutToSort_46 rfl rfl ?_
  exact g_ret_l C dX8_cutToSort_47 (Nat.le_refl _) (Nat.le_refl _) ⟨_, rfl, rfl, h⟩
theorem wX8_k_cutToSort {D : gD} {ca : Nat → ClassId} {o : Nat → Nat} {L : List Nat} {S : gS} {n0 : Nat} (hn0 : n0 < 8) (v1 : Int64) (I : gI) (J : gJ) (R : gR) (L0 : List Nat) (S0 : gS) (Q : Int64 → Prop) (h : wX8_cutToSort n0 v1 I J R L S Q) : Ct yX8_cutToSort cX8_cutToSort 3 (some .long) (rl 0) D (tyW ca) 0 0 [.ref (o (20 + n0)), .long v1] (cX ca o I J R L S) (PYl ca o I J R L S Q) := ct_of (rm := (rl 0)) (by decide +kernel) (Nat.le_of_ble_eq_true rfl) (fun Γ C => wX8_cutToSort_g hn0 v1 C h)
set_option maxRecDepth 100000 in
theorem wX9_letter_g {Γ : gT} {D : gD} {ca : Nat → ClassId} {o : Nat → Nat} {I : gI} {J : gJ} {R : gR} {L : List Nat} {S : gS} {Q : Int32 → Prop} {q0 : Nat} (hq0 : q0 ∈ L) (v1 : Int32) (C : Cx Γ cX9_letter RX9 2 D (tyW ca) (rl 0) (some .int) 0 0 (PYi ca o I J R L S Q)) (h : wX9_letter q0 v1 I J R L S Q) : G Γ 0 0 0 [(0, .ref q0), (1, .int v1)] [] (cX ca o I J R L S) := by
  unfold wX9_letter at h
  refine g_aload_n C (i := 0) dX9_letter_0 rfl rfl ?_
  refine x_get_X9_24 C hq0 dX9_letter_1 ?_
  refine g_iload_n C (i := 1) dX9_letter_4 rfl rfl ?_
  refine g_lshr C dX9_letter_5 ?_
  refine g_lconst_1 C dX9_letter_6 ?_
  refine g_land C dX9_letter_7 ?_
  refine g_l2i C dX9_letter_8 ?_
  exact g_ret_i C dX9_letter_9 (Nat.le_refl _) (Nat.le_refl _) ⟨_, rfl, rfl, h⟩
theorem wX9_k_letter {D : gD} {ca : Nat → ClassId} {o : Nat → Nat} {L : List Nat} {S : gS} {q0 : Nat} (hq0 : q0 ∈ L) (v1 : Int32) (I : gI) (J : gJ) (R : gR) (L0 : List Nat) (S0 : gS) (Q : Int32 → Prop) (h : wX9_letter q0 v1 I J R L S Q) : Ct yX9_letter cX9_letter 2 (some .int) (rl 0) D (tyW ca) 0 0 [.ref q0, .int v1] (cX ca o I J R L S) (PYi ca o I J R L S Q) := ct_of (rm := (rl 0)) (by decide +kernel) (Nat.le_of_ble_eq_true rfl) (fun Γ C => wX9_letter_g hq0 v1 C h)
set_option maxRecDepth 100000 in
theorem wX9_creaseLetters_g {Γ : gT} {D : gD} {ca : Nat → ClassId} {o : Nat → Nat} {I : gI} {J : gJ} {R : gR} {L : List Nat} {S : gS} {Q : Int64 → Prop} {q0 : Nat} (hq0 : q0 ∈ L) (C : Cx Γ cX9_creaseLetters RX9 1 D (tyW ca) (rl 0) (some .long) 0 0 (PYl ca o I J R L S Q)) (h : wX9_creaseLetters q0 I J R L S Q) : G Γ 0 0 0 [(0, .ref q0)] [] (cX ca o I J R L S) := by
  unfold wX9_creaseLetters at h
  refine g_aload_n C (i := 0) dX9_creaseLetters_0 rfl rfl ?_
  refine x_get_X9_24 C hq0 dX9_creaseLetters_1 ?_
  exact g_ret_l C dX9_creaseLetters_4 (Nat.le_refl _) (Nat.le_refl _) ⟨_, rfl, rfl, h⟩
theorem wX9_k_creaseLetters {D : gD} {ca : Nat → ClassId} {o : Nat → Nat} {L : List Nat} {S : gS} {q0 : Nat} (hq0 : q0 ∈ L) (I : gI) (J : gJ) (R : gR) (L0 : List Nat) (S0 : gS) (Q : Int64 → Prop) (h : wX9_creaseLetters q0 I J R L S Q) : Ct yX9_creaseLetters cX9_creaseLetters 1 (some .long) (rl 0) D (tyW ca) 0 0 [.ref q0] (cX ca o I J R L S) (PYl ca o I J R L S Q) := ct_of (rm := (rl 0)) (by decide +kernel) (Nat.le_of_ble_eq_true rfl) (fun Γ C => wX9_creaseLetters_g hq0 C h)
set_option maxRecDepth 100000 in
theorem wX9_creaseCount_g {Γ : gT} {D : gD} {ca : Nat → ClassId} {o : Nat → Nat} {I : gI} {J : gJ} {R : gR} {L : List Nat} {S : gS} {Q : Int64 → Prop} {q0 : Nat} (hq0 : q0 ∈ L) (C : Cx Γ cX9_creaseCount RX9 1 D (tyW ca) (rl 0) (some .long) 0 0 (PYl ca o I J R L S Q)) (h : wX9_creaseCount q0 I J R L S Q) : G Γ 0 0 0 [(0, .ref q0)] [] (cX ca o I J R L S) := by
  unfold wX9_creaseCount at h
  refine g_lconst_1 C dX9_creaseCount_0 ?_
  refine g_aload_n C (i := 0) dX9_creaseCount_1 rfl rfl ?_
  refine x_get_X9_21 C hq0 dX9_creaseCount_2 ?_
  refine g_lshl C dX9_creaseCount_5 ?_
  refine g_lconst_1 C dX9_creaseCount_6 ?_
  refine g_lsub C dX9_creaseCount_7 ?_
  exact g_ret_l C dX9_creaseCount_8 (Nat.le_refl _) (Nat.le_refl _) ⟨_, rfl, rfl, h⟩
theorem wX9_k_creaseCount {D : gD} {ca : Nat → ClassId} {o : Nat → Nat} {L : List Nat} {S : gS} {q0 : Nat} (hq0 : q0 ∈ L) (I : gI) (J : gJ) (R : gR) (L0 : List Nat) (S0 : gS) (Q : Int64 → Prop) (h : wX9_creaseCount q0 I J R L S Q) : Ct yX9_creaseCount cX9_creaseCount 1 (some .long) (rl 0) D (tyW ca) 0 0 [.ref q0] (cX ca o I J R L S) (PYl ca o I J R L S Q) := ct_of (rm := (rl 0)) (by decide +kernel) (Nat.le_of_ble_eq_true rfl) (fun Γ C => wX9_creaseCount_g hq0 C h)
set_option maxRecDepth 100000 in
theorem wX9_cutOff_g {Γ : gT} {D : gD} {ca : Nat → ClassId} {o : Nat → Nat} {I : gI} {J : gJ} {R : gR} {L : List Nat} {S : gS} {Q : Int64 → Prop} {q0 : Nat} (hq0 : q0 ∈ L) (C : Cx Γ cX9_cutOff RX9 1 D (tyW ca) (rl 0) (some .long) 0 0 (PYl ca o I J R L S Q)) (h : wX9_cutOff q0 I J R L S Q) : G Γ 0 0 0 [(0, .ref q0)] [] (cX ca o I J R L S) := by
  unfold wX9_cutOff at h
  refine g_lconst_0 C dX9_cutOff_0 ?_
  exact g_ret_l C dX9_cutOff_1 (Nat.le_refl _) (Nat.le_refl _) ⟨_, rfl, rfl, h⟩
theorem wX9_k_cutOff {D : gD} {ca : Nat → ClassId} {o : Nat → Nat} {L : List Nat} {S : gS} {q0 : Nat} (hq0 : q0 ∈ L) (I : gI) (J : gJ) (R : gR) (L0 : List Nat) (S0 : gS) (Q : Int64 → Prop) (h : wX9_cutOff q0 I J R L S Q) : Ct yX9_cutOff cX9_cutOff 1 (some .long) (rl 0) D (tyW ca) 0 0 [.ref q0] (cX ca o I J R L S) (PYl ca o I J R L S Q) := ct_of (rm := (rl 0)) (by decide +kernel) (Nat.le_of_ble_eq_true rfl) (fun Γ C => wX9_cutOff_g hq0 C h)
set_option maxRecDepth 100000 in
theorem wX10_creaseCount_gb4 {Γ : gT} {D : gD} {ca : Nat → ClassId} {o : Nat → Nat} {Q : Int64 → Prop} {I : gI} {J : gJ} {R : gR} {L : List Nat} {S : gS} {q0 : Nat} (hq0 : q0 ∈ L) (hc0 : sC (S q0) = 2) (C : Cx Γ cX10_creaseCount RX10 4 D (tyW ca) (rl 0) (some .long) 0 0 (PYl ca o I J R L S Q)) {B4 : Int64 → Int32 → Prop} (hB4 : ∀ (v1 : Int64) (v3 : Int32) , B4 v1 v3 → G Γ 0 0 4 [(0, .ref q0), (1, .long v1), (3, .int v3)] [] (cX ca o I J R L S)) (v1 : Int64) (v3 : Int32) (h : wX10_creaseCount_b4 q0 I J R L S B4 v1 v3 Q) : G Γ 0 0 4 [(0, .ref q0), (1, .long v1), (3, .int v3)] [] (cX ca o I J R L S) := by
  unfold wX10_creaseCount_b4 at h
  refine g_iload_n C (i := 3) dX10_creaseCount_4 rfl rfl ?_
  refine g_aload_n C (i := 0) dX10_creaseCount_5 rfl rfl ?_
  refine x_get_X10_9 C hq0 hc0 dX10_creaseCount_6 ?_
  refine g_icmp_ge C 24 dX10_creaseCount_9 rfl (fun c1 => ?_) (fun c1 => ?_)
  · replace h := h.1 c1
    refine g_lload_n C (i := 1) dX10_creaseCount_24 rfl rfl ?_
    refine g_lconst_1 C dX10_creaseCount_25 ?_
    refine g_lsub C dX10_creaseCount_26 ?_
    exact g_ret_l C dX10_creaseCount_27 (Nat.le_refl _) (Nat.le_refl _) ⟨_, rfl, rfl, h⟩
  · replace h := h.2 c1
    refine g_lload_n C (i := 1) dX10_creaseCount_12 rfl rfl ?_
    refine g_ldc2 C (v := 3) (tb_in (List.mem_of_getElem? (i := 409) (by decide +kernel)) (by decide +kernel)) dX10_creaseCount_13 ?_
    refine g_lmul C dX10_creaseCount_16 ?_
    refine g_lstore_n C (i := 1) [(0, .ref q0), (1, .long (v1 * 3)), (3, .int v3)] dX10_creaseCount_17 rfl (by decide) rfl ?_
    refine g_iinc C 1 [(0, .ref q0), (1, .long (v1 * 3)), (3, .int (v3 + 1))] dX10_creaseCount_18 rfl (by decide) (by decide) rfl ?_
    refine g_goto C 4 dX10_creaseCount_21 rfl ?_
    exact g_weak [0, 1, 2] rfl (Nat.le_refl _) (Nat.le_refl _) (hB4 (v1 * 3) (v3 + 1)  h)
theorem wX10_creaseCount_gl4 {Γ : gT} {D : gD} {ca : Nat → ClassId} {o : Nat → Nat} {Q : Int64 → Prop} {I : gI} {J : gJ} {R : gR} {L : List Nat} {S : gS} {q0 : Nat} (hq0 : q0 ∈ L) (hc0 : sC (S q0) = 2) (C : Cx Γ cX10_creaseCount RX10 4 D (tyW ca) (rl 0) (some .long) 0 0 (PYl ca o I J R L S Q)) : ∀ (n : Nat) (v1 : Int64) (v3 : Int32) (_ : wX10_creaseCount_l4 q0 I J R L S Q n v1 v3 ), G Γ 0 0 4 [(0, .ref q0), (1, .long v1), (3, .int v3)] [] (cX ca o I J R L S) := by
  intro n
  induction n with
  | zero => intro v1 v3  h; exact h.elim
  | succ n ih => intro v1 v3  h; exact wX10_creaseCount_gb4 hq0 hc0 C ih v1 v3 h
set_option maxRecDepth 100000 in
theorem wX10_creaseCount_g {Γ : gT} {D : gD} {ca : Nat → ClassId} {o : Nat → Nat} {I : gI} {J : gJ} {R : gR} {L : List Nat} {S : gS} {Q : Int64 → Prop} {q0 : Nat} (hq0 : q0 ∈ L) (hc0 : sC (S q0) = 2) (C : Cx Γ cX10_creaseCount RX10 4 D (tyW ca) (rl 0) (some .long) 0 0 (PYl ca o I J R L S Q)) (h : wX10_creaseCount q0 I J R L S Q) : G Γ 0 0 0 [(0, .ref q0)] [] (cX ca o I J R L S) := by
  unfold wX10_creaseCount at h
  refine g_lconst_1 C dX10_creaseCount_0 ?_
  refine g_lstore_n C (i := 1) [(0, .ref q0), (1, .long 1)] dX10_creaseCount_1 rfl (by decide) rfl ?_
  refine g_iconst_0 C dX10_creaseCount_2 ?_
  refine g_istore_n C (i := 3) [(0, .ref q0), (1, .long 1), (3, .int 0)] dX10_creaseCount_3 rfl (by decide) rfl ?_
  obtain ⟨n, h⟩ := h
  exact g_weak [0, 1, 2] rfl (Nat.le_refl _) (Nat.le_refl _) (wX10_creaseCount_gl4 hq0 hc0 C  n 1 0  h)
theorem wX10_k_creaseCount {D : gD} {ca : Nat → ClassId} {o : Nat → Nat} {L : List Nat} {S : gS} {q0 : Nat} (hq0 : q0 ∈ L) (hc0 : sC (S q0) = 2) (I : gI) (J : gJ) (R : gR) (L0 : List Nat) (S0 : gS) (Q : Int64 → Prop) (h : wX10_creaseCount q0 I J R L S Q) : Ct yX10_creaseCount cX10_creaseCount 4 (some .long) (rl 0) D (tyW ca) 0 0 [.ref q0] (cX ca o I J R L S) (PYl ca o I J R L S Q) := ct_of (rm := (rl 0)) (by decide +kernel) (Nat.le_of_ble_eq_true rfl) (fun Γ C => wX10_creaseCount_g hq0 hc0 C h)
set_option maxRecDepth 100000 in
theorem wJ5_ensureCapacityInternal_d00df_g {Γ : gT} {D : gD} {ca : Nat → ClassId} {o : Nat → Nat} {I : gI} {J : gJ} {R : gR} {L : List Nat} {S : gS} {Q : gI → gJ → gR → Prop} (v1 : Int32) (C : Cx Γ cJ5_ensureCapacityInternal_d00df RJ5 3 D (tyW ca) (rl 0) none 0 0 (PXv ca o L S Q)) (h : wJ5_ensureCapacityInternal_d00df v1 I J R L S Q) : G Γ 0 0 0 [(0, .ref (o 1)), (1, .int v1)] [] (cX ca o I J R L S) := by
  unfold wJ5_ensureCapacityInternal_d00df at h
  refine g_aload_n C (i := 0) dJ5_ensureCapacityInternal_d00df_0 rfl rfl ?_
  refine x_get_J5_15 C dJ5_ensureCapacityInternal_d00df_1 ?_
  refine x_blen C dJ5_ensureCapacityInternal_d00df_4 ?_
  refine g_aload_n C (i := 0) dJ5_ensureCapacityInternal_d00df_5 rfl rfl ?_
  refine x_get_J5_22 C dJ5_ensureCapacityInternal_d00df_6 ?_
  refine g_ishr C dJ5_ensureCapacityInternal_d00df_9 ?_
  refine g_istore_n C (i := 2) [(0, .ref (o 1)), (1, .int v1), (2, .int (16 >>> ((I 0 4) &&& 31)))] dJ5_ensureCapacityInternal_d00df_10 rfl (by decide) rfl ?_
  refine g_iload_n C (i := 1) dJ5_ensureCapacityInternal_d00df_11 rfl rfl ?_
  refine g_iload_n C (i := 2) dJ5_ensureCapacityInternal_d00df_12 rfl rfl ?_
  refine g_isub C dJ5_ensureCapacityInternal_d00df_13 ?_
  refine g_if_le C 38 dJ5_ensureCapacityInternal_d00df_14 rfl (fun c1 => ?_) (fun c1 => ?_)
  · replace h := h.1 c1
    exact g_ret_v C dJ5_ensureCapacityInternal_d00df_38 (Nat.le_refl _) (Nat.le_refl _) ⟨_, _, _, rfl, rfl, h⟩
  · replace h := h.2 c1
    refine g_aload_n C (i := 0) dJ5_ensureCapacityInternal_d00df_17 rfl rfl ?_
    refine g_aload_n C (i := 0) dJ5_ensureCapacityInternal_d00df_18 rfl rfl ?_
    refine x_get_J5_15 C dJ5_ensureCapacityInternal_d00df_19 ?_
    refine g_aload_n C (i := 0) dJ5_ensureCapacityInternal_d00df_22 rfl rfl ?_
    refine g_iload_n C (i := 1) dJ5_ensureCapacityInternal_d00df_23 rfl rfl ?_
    exact h.elim
theorem wJ5_k_ensureCapacityInternal_d00df {D : gD} {ca : Nat → ClassId} {o : Nat → Nat} {L : List Nat} {S : gS} (v1 : Int32) (I : gI) (J : gJ) (R : gR) (L0 : List Nat) (S0 : gS) (Q : gI → gJ → gR → Prop) (h : wJ5_ensureCapacityInternal_d00df v1 I J R L S Q) : Ct yJ5_ensureCapacityInternal_d00df cJ5_ensureCapacityInternal_d00df 3 none (rl 0) D (tyW ca) 0 0 [.ref (o 1), .int v1] (cX ca o I J R L S) (PXv ca o L S Q) := ct_of (rm := (rl 0)) (by decide +kernel) (Nat.le_of_ble_eq_true rfl) (fun Γ C => wJ5_ensureCapacityInternal_d00df_g v1 C h)
set_option maxRecDepth 100000 in
theorem wJ5_isLatin1_aae02_g {Γ : gT} {D : gD} {ca : Nat → ClassId} {o : Nat → Nat} {I : gI} {J : gJ} {R : gR} {L : List Nat} {S : gS} {Q : Bool → Prop} (C : Cx Γ cJ5_isLatin1_aae02 RJ5 1 D (tyW ca) (rl 0) (some .boolean) 0 0 (PYz ca o I J R L S Q)) (h : wJ5_isLatin1_aae02 I J R L S Q) : G Γ 0 0 0 [(0, .ref (o 1))] [] (cX ca o I J R L S) := by
  unfold wJ5_isLatin1_aae02 at h
  refine x_compact C rfl (tb_in (List.mem_of_getElem? (i := 124) (by decide +kernel)) (by decide +kernel)) dJ5_isLatin1_aae02_0 ?_
  refine g_if_eq C 17 dJ5_isLatin1_aae02_3 rfl (fun c1 => ?_) (fun c1 => ?_)
  · replace h := h.1 c1
    refine g_iconst_0 C dJ5_isLatin1_aae02_17 ?_
    exact g_ret_z C false rfl dJ5_isLatin1_aae02_18 (Nat.le_refl _) (Nat.le_refl _) ⟨_, rfl, rfl, h⟩
  · replace h := h.2 c1
    refine g_aload_n C (i := 0) dJ5_isLatin1_aae02_6 rfl rfl ?_
    refine x_get_J5_22 C dJ5_isLatin1_aae02_7 ?_
    refine g_if_ne C 17 dJ5_isLatin1_aae02_10 rfl (fun c2 => ?_) (fun c2 => ?_)
    · replace h := h.1 c2
      refine g_iconst_0 C dJ5_isLatin1_aae02_17 ?_
      exact g_ret_z C false rfl dJ5_isLatin1_aae02_18 (Nat.le_refl _) (Nat.le_refl _) ⟨_, rfl, rfl, h⟩
    · replace h := h.2 c2
      refine g_iconst_1 C dJ5_isLatin1_aae02_13 ?_
      refine g_goto C 18 dJ5_isLatin1_aae02_14 rfl ?_
      exact g_ret_z C true rfl dJ5_isLatin1_aae02_18 (Nat.le_refl _) (Nat.le_refl _) ⟨_, rfl, rfl, h⟩
theorem wJ5_k_isLatin1_aae02 {D : gD} {ca : Nat → ClassId} {o : Nat → Nat} {L : List Nat} {S : gS} (I : gI) (J : gJ) (R : gR) (L0 : List Nat) (S0 : gS) (Q : Bool → Prop) (h : wJ5_isLatin1_aae02 I J R L S Q) : Ct yJ5_isLatin1_aae02 cJ5_isLatin1_aae02 1 (some .boolean) (rl 0) D (tyW ca) 0 0 [.ref (o 1)] (cX ca o I J R L S) (PYz ca o I J R L S Q) := ct_of (rm := (rl 0)) (by decide +kernel) (Nat.le_of_ble_eq_true rfl) (fun Γ C => wJ5_isLatin1_aae02_g C h)
set_option maxRecDepth 100000 in
theorem wJ5_length_8abf5_g {Γ : gT} {D : gD} {ca : Nat → ClassId} {o : Nat → Nat} {I : gI} {J : gJ} {R : gR} {L : List Nat} {S : gS} {Q : Int32 → Prop} (C : Cx Γ cJ5_length_8abf5 RJ5 1 D (tyW ca) (rl 0) (some .int) 0 0 (PYi ca o I J R L S Q)) (h : wJ5_length_8abf5 I J R L S Q) : G Γ 0 0 0 [(0, .ref (o 1))] [] (cX ca o I J R L S) := by
  unfold wJ5_length_8abf5 at h
  refine g_aload_n C (i := 0) dJ5_length_8abf5_0 rfl rfl ?_
  refine x_get_J5_79 C dJ5_length_8abf5_1 ?_
  exact g_ret_i C dJ5_length_8abf5_4 (Nat.le_refl _) (Nat.le_refl _) ⟨_, rfl, rfl, h⟩
theorem wJ5_k_length_8abf5 {D : gD} {ca : Nat → ClassId} {o : Nat → Nat} {L : List Nat} {S : gS} (I : gI) (J : gJ) (R : gR) (L0 : List Nat) (S0 : gS) (Q : Int32 → Prop) (h : wJ5_length_8abf5 I J R L S Q) : Ct yJ5_length_8abf5 cJ5_length_8abf5 1 (some .int) (rl 0) D (tyW ca) 0 0 [.ref (o 1)] (cX ca o I J R L S) (PYi ca o I J R L S Q) := ct_of (rm := (rl 0)) (by decide +kernel) (Nat.le_of_ble_eq_true rfl) (fun Γ C => wJ5_length_8abf5_g C h)
set_option maxRecDepth 100000 in
theorem wJ1_canEncode_fc78d_g {Γ : gT} {D : gD} {ca : Nat → ClassId} {o : Nat → Nat} {I : gI} {J : gJ} {R : gR} {L : List Nat} {S : gS} {Q : Bool → Prop} (v0 : Int32) (C : Cx Γ cJ1_canEncode_fc78d RJ1 1 D (tyW ca) (rl 0) (some .boolean) 0 0 (PYz ca o I J R L S Q)) (h : wJ1_canEncode_fc78d v0 I J R L S Q) : G Γ 0 0 0 [(0, .int v0)] [] (cX ca o I J R L S) := by
  unfold wJ1_canEncode_fc78d at h
  refine g_iload_n C (i := 0) dJ1_canEncode_fc78d_0 rfl rfl ?_
  refine g_sipush C (v := 255) dJ1_canEncode_fc78d_1 (by decide) ?_
  refine g_icmp_gt C 11 dJ1_canEncode_fc78d_4 rfl (fun c1 => ?_) (fun c1 => ?_)
  · replace h := h.1 c1
    refine g_iconst_0 C dJ1_canEncode_fc78d_11 ?_
    exact g_ret_z C false rfl dJ1_canEncode_fc78d_12 (Nat.le_refl _) (Nat.le_refl _) ⟨_, rfl, rfl, h⟩
  · replace h := h.2 c1
    refine g_iconst_1 C dJ1_canEncode_fc78d_7 ?_
    refine g_goto C 12 dJ1_canEncode_fc78d_8 rfl ?_
    exact g_ret_z C true rfl dJ1_canEncode_fc78d_12 (Nat.le_refl _) (Nat.le_refl _) ⟨_, rfl, rfl, h⟩
theorem wJ1_k_canEncode_fc78d {D : gD} {ca : Nat → ClassId} {o : Nat → Nat} {L : List Nat} {S : gS} (v0 : Int32) (I : gI) (J : gJ) (R : gR) (L0 : List Nat) (S0 : gS) (Q : Bool → Prop) (h : wJ1_canEncode_fc78d v0 I J R L S Q) : Ct yJ1_canEncode_fc78d cJ1_canEncode_fc78d 1 (some .boolean) (rl 0) D (tyW ca) 0 0 [.int v0] (cX ca o I J R L S) (PYz ca o I J R L S Q) := ct_of (rm := (rl 0)) (by decide +kernel) (Nat.le_of_ble_eq_true rfl) (fun Γ C => wJ1_canEncode_fc78d_g v0 C h)
set_option maxRecDepth 100000 in
theorem wJ0_coder_7d493_g {Γ : gT} {D : gD} {ca : Nat → ClassId} {o : Nat → Nat} {I : gI} {J : gJ} {R : gR} {L : List Nat} {S : gS} {Q : Int32 → Prop} {n0 : Nat} (hn0 : n0 < 5) (C : Cx Γ cJ0_coder_7d493 RJ0 1 D (tyW ca) (rl 0) (some .byte) 0 0 (PYi ca o I J R L S Q)) (h : wJ0_coder_7d493 n0 I J R L S Q) : G Γ 0 0 0 [(0, .ref (D.2.2.1 n0))] [] (cX ca o I J R L S) := by
  unfold wJ0_coder_7d493 at h
  refine x_compact C rfl (tb_in (List.mem_of_getElem? (i := 665) (by decide +kernel)) (by decide +kernel)) dJ0_coder_7d493_0 ?_
  refine g_if_eq C 13 dJ0_coder_7d493_3 rfl (fun c1 => ?_) (fun c1 => ?_)
  · replace h := h.1 c1
    refine g_iconst_1 C dJ0_coder_7d493_13 ?_
    obtain ⟨h2, h⟩ := h
    exact g_ret_n C h2 dJ0_coder_7d493_14 (Nat.le_refl _) (Nat.le_refl _) ⟨_, rfl, rfl, h⟩
  · replace h := h.2 c1
    refine g_aload_n C (i := 0) dJ0_coder_7d493_6 rfl rfl ?_
    refine x_tcoder C hn0 (tb_in (List.mem_of_getElem? (i := 1873) (by decide +kernel)) (by decide +kernel)) dJ0_coder_7d493_7 ?_
    refine g_goto C 14 dJ0_coder_7d493_10 rfl ?_
    obtain ⟨h3, h⟩ := h
    exact g_ret_n C h3 dJ0_coder_7d493_14 (Nat.le_refl _) (Nat.le_refl _) ⟨_, rfl, rfl, h⟩
theorem wJ0_k_coder_7d493 {D : gD} {ca : Nat → ClassId} {o : Nat → Nat} {L : List Nat} {S : gS} {n0 : Nat} (hn0 : n0 < 5) (I : gI) (J : gJ) (R : gR) (L0 : List Nat) (S0 : gS) (Q : Int32 → Prop) (h : wJ0_coder_7d493 n0 I J R L S Q) : Ct yJ0_coder_7d493 cJ0_coder_7d493 1 (some .byte) (rl 0) D (tyW ca) 0 0 [.ref (D.2.2.1 n0)] (cX ca o I J R L S) (PYi ca o I J R L S Q) := ct_of (rm := (rl 0)) (by decide +kernel) (Nat.le_of_ble_eq_true rfl) (fun Γ C => wJ0_coder_7d493_g hn0 C h)
set_option maxRecDepth 100000 in
theorem wJ0_isLatin1_aae02_g {Γ : gT} {D : gD} {ca : Nat → ClassId} {o : Nat → Nat} {I : gI} {J : gJ} {R : gR} {L : List Nat} {S : gS} {Q : Bool → Prop} {n0 : Nat} (hn0 : n0 < 5) (C : Cx Γ cJ0_isLatin1_aae02 RJ0 1 D (tyW ca) (rl 0) (some .boolean) 0 0 (PYz ca o I J R L S Q)) (h : wJ0_isLatin1_aae02 n0 I J R L S Q) : G Γ 0 0 0 [(0, .ref (D.2.2.1 n0))] [] (cX ca o I J R L S) := by
  unfold wJ0_isLatin1_aae02 at h
  refine x_compact C rfl (tb_in (List.mem_of_getElem? (i := 665) (by decide +kernel)) (by decide +kernel)) dJ0_isLatin1_aae02_0 ?_
  refine g_if_eq C 17 dJ0_isLatin1_aae02_3 rfl (fun c1 => ?_) (fun c1 => ?_)
  · replace h := h.1 c1
    refine g_iconst_0 C dJ0_isLatin1_aae02_17 ?_
    exact g_ret_z C false rfl dJ0_isLatin1_aae02_18 (Nat.le_refl _) (Nat.le_refl _) ⟨_, rfl, rfl, h⟩
  · replace h := h.2 c1
    refine g_aload_n C (i := 0) dJ0_isLatin1_aae02_6 rfl rfl ?_
    refine x_tcoder C hn0 (tb_in (List.mem_of_getElem? (i := 1873) (by decide +kernel)) (by decide +kernel)) dJ0_isLatin1_aae02_7 ?_
    refine g_if_ne C 17 dJ0_isLatin1_aae02_10 rfl (fun c2 => ?_) (fun c2 => ?_)
    · replace h := h.1 c2
      refine g_iconst_0 C dJ0_isLatin1_aae02_17 ?_
      exact g_ret_z C false rfl dJ0_isLatin1_aae02_18 (Nat.le_refl _) (Nat.le_refl _) ⟨_, rfl, rfl, h⟩
    · replace h := h.2 c2
      refine g_iconst_1 C dJ0_isLatin1_aae02_13 ?_
      refine g_goto C 18 dJ0_isLatin1_aae02_14 rfl ?_
      exact g_ret_z C true rfl dJ0_isLatin1_aae02_18 (Nat.le_refl _) (Nat.le_refl _) ⟨_, rfl, rfl, h⟩
theorem wJ0_k_isLatin1_aae02 {D : gD} {ca : Nat → ClassId} {o : Nat → Nat} {L : List Nat} {S : gS} {n0 : Nat} (hn0 : n0 < 5) (I : gI) (J : gJ) (R : gR) (L0 : List Nat) (S0 : gS) (Q : Bool → Prop) (h : wJ0_isLatin1_aae02 n0 I J R L S Q) : Ct yJ0_isLatin1_aae02 cJ0_isLatin1_aae02 1 (some .boolean) (rl 0) D (tyW ca) 0 0 [.ref (D.2.2.1 n0)] (cX ca o I J R L S) (PYz ca o I J R L S Q) := ct_of (rm := (rl 0)) (by decide +kernel) (Nat.le_of_ble_eq_true rfl) (fun Γ C => wJ0_isLatin1_aae02_g hn0 C h)
set_option maxRecDepth 100000 in
theorem wJ3_checkIndex_8e157_gc9 {Γ : gT} {D : gD} {ca : Nat → ClassId} {o : Nat → Nat} {Q : Int32 → Prop} {I : gI} {J : gJ} {R : gR} {L : List Nat} {S : gS} (C : Cx Γ cJ3_checkIndex_8e157 RJ3 3 D (tyW ca) (rl 0) (some .int) 0 0 (PYi ca o I J R L S Q)) (v0 : Int32) (v1 : Int32) (v2 : Option Nat) (h : wJ3_checkIndex_8e157_c9 I J R L S v0 v1 v2 Q) : G Γ 0 0 9 [(0, .int v0), (1, .int v1), (2, va_rf v2)] [] (cX ca o I J R L S) := by
  unfold wJ3_checkIndex_8e157_c9 at h
  refine g_aloadq_n C (i := 2) dJ3_checkIndex_8e157_9 rfl rfl ?_
  refine g_iload_n C (i := 0) dJ3_checkIndex_8e157_10 rfl rfl ?_
  refine g_iload_n C (i := 1) dJ3_checkIndex_8e157_11 rfl rfl ?_
  exact h.elim
set_option maxRecDepth 100000 in
theorem wJ3_checkIndex_8e157_g {Γ : gT} {D : gD} {ca : Nat → ClassId} {o : Nat → Nat} {I : gI} {J : gJ} {R : gR} {L : List Nat} {S : gS} {Q : Int32 → Prop} (v0 : Int32) (v1 : Int32) (v2 : Option Nat) (C : Cx Γ cJ3_checkIndex_8e157 RJ3 3 D (tyW ca) (rl 0) (some .int) 0 0 (PYi ca o I J R L S Q)) (h : wJ3_checkIndex_8e157 v0 v1 v2 I J R L S Q) : G Γ 0 0 0 [(0, .int v0), (1, .int v1), (2, va_rf v2)] [] (cX ca o I J R L S) := by
  unfold wJ3_checkIndex_8e157 at h
  refine g_iload_n C (i := 0) dJ3_checkIndex_8e157_0 rfl rfl ?_
  refine g_if_lt C 9 dJ3_checkIndex_8e157_1 rfl (fun c1 => ?_) (fun c1 => ?_)
  · replace h := h.1 c1
    exact g_weak [0, 1, 2] rfl (Nat.le_refl _) (Nat.le_refl _) (wJ3_checkIndex_8e157_gc9  C  v0 v1 v2  h)
  · replace h := h.2 c1
    refine g_iload_n C (i := 0) dJ3_checkIndex_8e157_4 rfl rfl ?_
    refine g_iload_n C (i := 1) dJ3_checkIndex_8e157_5 rfl rfl ?_
    refine g_icmp_lt C 16 dJ3_checkIndex_8e157_6 rfl (fun c2 => ?_) (fun c2 => ?_)
    · replace h := h.1 c2
      refine g_iload_n C (i := 0) dJ3_checkIndex_8e157_16 rfl rfl ?_
      exact g_ret_i C dJ3_checkIndex_8e157_17 (Nat.le_refl _) (Nat.le_refl _) ⟨_, rfl, rfl, h⟩
    · replace h := h.2 c2
      exact g_weak [0, 1, 2] rfl (Nat.le_refl _) (Nat.le_refl _) (wJ3_checkIndex_8e157_gc9  C  v0 v1 v2  h)
theorem wJ3_k_checkIndex_8e157 {D : gD} {ca : Nat → ClassId} {o : Nat → Nat} {L : List Nat} {S : gS} (v0 : Int32) (v1 : Int32) (v2 : Option Nat) (I : gI) (J : gJ) (R : gR) (L0 : List Nat) (S0 : gS) (Q : Int32 → Prop) (h : wJ3_checkIndex_8e157 v0 v1 v2 I J R L S Q) : Ct yJ3_checkIndex_8e157 cJ3_checkIndex_8e157 3 (some .int) (rl 0) D (tyW ca) 0 0 [.int v0, .int v1, va_rf v2] (cX ca o I J R L S) (PYi ca o I J R L S Q) := ct_of (rm := (rl 0)) (by decide +kernel) (by cases v2 <;> exact Nat.le_of_ble_eq_true rfl) (fun Γ C => wJ3_checkIndex_8e157_g v0 v1 v2 C h)
set_option maxRecDepth 100000 in
theorem wJ7_fill_d0a16_gb6 {Γ : gT} {D : gD} {ca : Nat → ClassId} {o : Nat → Nat} {Q : gI → gJ → gR → Prop} {L : List Nat} {S : gS} {k0 : Nat} (hk0 : k0 < 8) (C : Cx Γ cJ7_fill_d0a16 RJ7 5 D (tyW ca) (rl 0) none 0 0 (PXv ca o L S Q)) {B6 : Int64 → Int32 → Int32 → gI → gJ → gR → Prop} (hB6 : ∀ (v1 : Int64) (v3 : Int32) (v4 : Int32) (I : gI) (J : gJ) (R : gR), B6 v1 v3 v4 I J R → G Γ 0 0 6 [(0, .ref (o (30 + k0))), (1, .long v1), (3, .int v3), (4, .int v4)] [] (cX ca o I J R L S)) (v1 : Int64) (v3 : Int32) (v4 : Int32) (I : gI) (J : gJ) (R : gR) (h : wJ7_fill_d0a16_b6 k0 L S B6 v1 v3 v4 I J R Q) : G Γ 0 0 6 [(0, .ref (o (30 + k0))), (1, .long v1), (3, .int v3), (4, .int v4)] [] (cX ca o I J R L S) := by
  unfold wJ7_fill_d0a16_b6 at h
  refine g_iload_n C (i := 3) dJ7_fill_d0a16_6 rfl rfl ?_
  refine g_iload C (i := 4) dJ7_fill_d0a16_7 rfl ?_
  refine g_icmp_ge C 22 dJ7_fill_d0a16_9 rfl (fun c1 => ?_) (fun c1 => ?_)
  · replace h := h.1 c1
    exact g_ret_v C dJ7_fill_d0a16_22 (Nat.le_refl _) (Nat.le_refl _) ⟨_, _, _, rfl, rfl, h⟩
  · replace h := h.2 c1
    refine g_aload_n C (i := 0) dJ7_fill_d0a16_12 rfl rfl ?_
    refine g_iload_n C (i := 3) dJ7_fill_d0a16_13 rfl rfl ?_
    refine g_lload_n C (i := 1) dJ7_fill_d0a16_14 rfl rfl ?_
    obtain ⟨h2, h⟩ := h
    refine x_last C (s := k0) hk0 h2 dJ7_fill_d0a16_15 ?_
    refine x_nmJ _ (fun J3 e4 => ?_)
    replace h := h J3 e4
    refine g_iinc C 1 [(0, .ref (o (30 + k0))), (1, .long v1), (3, .int (v3 + 1)), (4, .int v4)] dJ7_fill_d0a16_16 rfl (by decide) (by decide) rfl ?_
    refine g_goto C 6 dJ7_fill_d0a16_19 rfl ?_
    exact g_weak [0, 1, 2, 3] rfl (Nat.le_refl _) (Nat.le_refl _) (hB6 v1 (v3 + 1) v4 I J3 R h)
theorem wJ7_fill_d0a16_gl6 {Γ : gT} {D : gD} {ca : Nat → ClassId} {o : Nat → Nat} {Q : gI → gJ → gR → Prop} {L : List Nat} {S : gS} {k0 : Nat} (hk0 : k0 < 8) (C : Cx Γ cJ7_fill_d0a16 RJ7 5 D (tyW ca) (rl 0) none 0 0 (PXv ca o L S Q)) : ∀ (n : Nat) (v1 : Int64) (v3 : Int32) (v4 : Int32) (I : gI) (J : gJ) (R : gR) (_ : wJ7_fill_d0a16_l6 k0 L S Q n v1 v3 v4 I J R), G Γ 0 0 6 [(0, .ref (o (30 + k0))), (1, .long v1), (3, .int v3), (4, .int v4)] [] (cX ca o I J R L S) := by
  intro n
  induction n with
  | zero => intro v1 v3 v4 I J R h; exact h.elim
  | succ n ih => intro v1 v3 v4 I J R h; exact wJ7_fill_d0a16_gb6 hk0 C ih v1 v3 v4 I J R h
set_option maxRecDepth 100000 in
theorem wJ7_fill_d0a16_g {Γ : gT} {D : gD} {ca : Nat → ClassId} {o : Nat → Nat} {I : gI} {J : gJ} {R : gR} {L : List Nat} {S : gS} {Q : gI → gJ → gR → Prop} {k0 : Nat} (hk0 : k0 < 8) (v1 : Int64) (C : Cx Γ cJ7_fill_d0a16 RJ7 5 D (tyW ca) (rl 0) none 0 0 (PXv ca o L S Q)) (h : wJ7_fill_d0a16 k0 v1 I J R L S Q) : G Γ 0 0 0 [(0, .ref (o (30 + k0))), (1, .long v1)] [] (cX ca o I J R L S) := by
  unfold wJ7_fill_d0a16 at h
  refine g_iconst_0 C dJ7_fill_d0a16_0 ?_
  refine g_istore_n C (i := 3) [(0, .ref (o (30 + k0))), (1, .long v1), (3, .int 0)] dJ7_fill_d0a16_1 rfl (by decide) rfl ?_
  refine g_aload_n C (i := 0) dJ7_fill_d0a16_2 rfl rfl ?_
  refine x_llen C (s := k0) hk0 dJ7_fill_d0a16_3 ?_
  refine g_istore C (i := 4) [(0, .ref (o (30 + k0))), (1, .long v1), (3, .int 0), (4, .int 160)] dJ7_fill_d0a16_4 (by decide) rfl ?_
  obtain ⟨n, h⟩ := h
  exact g_weak [0, 1, 2, 3] rfl (Nat.le_refl _) (Nat.le_refl _) (wJ7_fill_d0a16_gl6 hk0 C  n v1 0 160 I J R h)
theorem wJ7_k_fill_d0a16 {D : gD} {ca : Nat → ClassId} {o : Nat → Nat} {L : List Nat} {S : gS} {k0 : Nat} (hk0 : k0 < 8) (v1 : Int64) (I : gI) (J : gJ) (R : gR) (L0 : List Nat) (S0 : gS) (Q : gI → gJ → gR → Prop) (h : wJ7_fill_d0a16 k0 v1 I J R L S Q) : Ct yJ7_fill_d0a16 cJ7_fill_d0a16 5 none (rl 0) D (tyW ca) 0 0 [.ref (o (30 + k0)), .long v1] (cX ca o I J R L S) (PXv ca o L S Q) := ct_of (rm := (rl 0)) (by decide +kernel) (Nat.le_of_ble_eq_true rfl) (fun Γ C => wJ7_fill_d0a16_g hk0 v1 C h)
set_option maxRecDepth 100000 in
theorem wJ7_fill_53178_gb5 {Γ : gT} {D : gD} {ca : Nat → ClassId} {o : Nat → Nat} {Q : gI → gJ → gR → Prop} {L : List Nat} {S : gS} {k0 : Nat} (hk0 : 5 ≤ k0 ∧ k0 ≤ 14) (C : Cx Γ cJ7_fill_53178 RJ7 4 D (tyW ca) (rl 0) none 0 0 (PXv ca o L S Q)) {B5 : Int32 → Int32 → Int32 → gI → gJ → gR → Prop} (hB5 : ∀ (v1 : Int32) (v2 : Int32) (v3 : Int32) (I : gI) (J : gJ) (R : gR), B5 v1 v2 v3 I J R → G Γ 0 0 5 [(0, .ref (o (40 + k0))), (1, .int v1), (2, .int v2), (3, .int v3)] [] (cX ca o I J R L S)) (v1 : Int32) (v2 : Int32) (v3 : Int32) (I : gI) (J : gJ) (R : gR) (h : wJ7_fill_53178_b5 k0 L S B5 v1 v2 v3 I J R Q) : G Γ 0 0 5 [(0, .ref (o (40 + k0))), (1, .int v1), (2, .int v2), (3, .int v3)] [] (cX ca o I J R L S) := by
  unfold wJ7_fill_53178_b5 at h
  refine g_iload_n C (i := 2) dJ7_fill_53178_5 rfl rfl ?_
  refine g_iload_n C (i := 3) dJ7_fill_53178_6 rfl rfl ?_
  refine g_icmp_ge C 20 dJ7_fill_53178_7 rfl (fun c1 => ?_) (fun c1 => ?_)
  · replace h := h.1 c1
    exact g_ret_v C dJ7_fill_53178_20 (Nat.le_refl _) (Nat.le_refl _) ⟨_, _, _, rfl, rfl, h⟩
  · replace h := h.2 c1
    refine g_aload_n C (i := 0) dJ7_fill_53178_10 rfl rfl ?_
    refine g_iload_n C (i := 2) dJ7_fill_53178_11 rfl rfl ?_
    refine g_iload_n C (i := 1) dJ7_fill_53178_12 rfl rfl ?_
    obtain ⟨h2, h⟩ := h
    refine x_iast C (k := k0) hk0 h2 dJ7_fill_53178_13 ?_
    refine x_nmI _ (fun I3 e4 => ?_)
    replace h := h I3 e4
    refine g_iinc C 1 [(0, .ref (o (40 + k0))), (1, .int v1), (2, .int (v2 + 1)), (3, .int v3)] dJ7_fill_53178_14 rfl (by decide) (by decide) rfl ?_
    refine g_goto C 5 dJ7_fill_53178_17 rfl ?_
    exact g_weak [0, 1, 2, 3] rfl (Nat.le_refl _) (Nat.le_refl _) (hB5 v1 (v2 + 1) v3 I3 J R h)
theorem wJ7_fill_53178_gl5 {Γ : gT} {D : gD} {ca : Nat → ClassId} {o : Nat → Nat} {Q : gI → gJ → gR → Prop} {L : List Nat} {S : gS} {k0 : Nat} (hk0 : 5 ≤ k0 ∧ k0 ≤ 14) (C : Cx Γ cJ7_fill_53178 RJ7 4 D (tyW ca) (rl 0) none 0 0 (PXv ca o L S Q)) : ∀ (n : Nat) (v1 : Int32) (v2 : Int32) (v3 : Int32) (I : gI) (J : gJ) (R : gR) (_ : wJ7_fill_53178_l5 k0 L S Q n v1 v2 v3 I J R), G Γ 0 0 5 [(0, .ref (o (40 + k0))), (1, .int v1), (2, .int v2), (3, .int v3)] [] (cX ca o I J R L S) := by
  intro n
  induction n with
  | zero => intro v1 v2 v3 I J R h; exact h.elim
  | succ n ih => intro v1 v2 v3 I J R h; exact wJ7_fill_53178_gb5 hk0 C ih v1 v2 v3 I J R h
set_option maxRecDepth 100000 in
theorem wJ7_fill_53178_g {Γ : gT} {D : gD} {ca : Nat → ClassId} {o : Nat → Nat} {I : gI} {J : gJ} {R : gR} {L : List Nat} {S : gS} {Q : gI → gJ → gR → Prop} {k0 : Nat} (hk0 : 5 ≤ k0 ∧ k0 ≤ 14) (v1 : Int32) (C : Cx Γ cJ7_fill_53178 RJ7 4 D (tyW ca) (rl 0) none 0 0 (PXv ca o L S Q)) (h : wJ7_fill_53178 k0 v1 I J R L S Q) : G Γ 0 0 0 [(0, .ref (o (40 + k0))), (1, .int v1)] [] (cX ca o I J R L S) := by
  unfold wJ7_fill_53178 at h
  refine g_iconst_0 C dJ7_fill_53178_0 ?_
  refine g_istore_n C (i := 2) [(0, .ref (o (40 + k0))), (1, .int v1), (2, .int 0)] dJ7_fill_53178_1 rfl (by decide) rfl ?_
  refine g_aload_n C (i := 0) dJ7_fill_53178_2 rfl rfl ?_
  refine x_alen C (k := k0) (v := Int32.ofNat (lenX k0)) hk0 rfl dJ7_fill_53178_3 ?_
  refine g_istore_n C (i := 3) [(0, .ref (o (40 + k0))), (1, .int v1), (2, .int 0), (3, .int (Int32.ofNat (lenX k0)))] dJ7_fill_53178_4 rfl (by decide) rfl ?_
  obtain ⟨n, h⟩ := h
  exact g_weak [0, 1, 2, 3] rfl (Nat.le_refl _) (Nat.le_refl _) (wJ7_fill_53178_gl5 hk0 C  n v1 0 (Int32.ofNat (lenX k0)) I J R h)
theorem wJ7_k_fill_53178 {D : gD} {ca : Nat → ClassId} {o : Nat → Nat} {L : List Nat} {S : gS} {k0 : Nat} (hk0 : 5 ≤ k0 ∧ k0 ≤ 14) (v1 : Int32) (I : gI) (J : gJ) (R : gR) (L0 : List Nat) (S0 : gS) (Q : gI → gJ → gR → Prop) (h : wJ7_fill_53178 k0 v1 I J R L S Q) : Ct yJ7_fill_53178 cJ7_fill_53178 4 none (rl 0) D (tyW ca) 0 0 [.ref (o (40 + k0)), .int v1] (cX ca o I J R L S) (PXv ca o L S Q) := ct_of (rm := (rl 0)) (by decide +kernel) (Nat.le_of_ble_eq_true rfl) (fun Γ C => wJ7_fill_53178_g hk0 v1 C h)
set_option maxRecDepth 100000 in
theorem wJ6_numberOfLeadingZeros_0f7a4_gc61 {Γ : gT} {D : gD} {ca : Nat → ClassId} {o : Nat → Nat} {Q : Int32 → Prop} {I : gI} {J : gJ} {R : gR} {L : List Nat} {S : gS} (C : Cx Γ cJ6_numberOfLeadingZeros_0f7a4 RJ6 2 D (tyW ca) (rl 0) (some .int) 0 0 (PYi ca o I J R L S Q)) (v0 : Int32) (v1 : Int32) (h : wJ6_numberOfLeadingZeros_0f7a4_c61 I J R L S v0 v1 Q) : G Γ 0 0 61 [(0, .int v0), (1, .int v1)] [] (cX ca o I J R L S) := by
  unfold wJ6_numberOfLeadingZeros_0f7a4_c61 at h
  refine g_iload_n C (i := 0) dJ6_numberOfLeadingZeros_0f7a4_61 rfl rfl ?_
  refine g_iconst_4 C dJ6_numberOfLeadingZeros_0f7a4_62 ?_
  refine g_icmp_lt C 73 dJ6_numberOfLeadingZeros_0f7a4_63 rfl (fun c1 => ?_) (fun c1 => ?_)
  · replace h := h.1 c1
    refine g_iload_n C (i := 1) dJ6_numberOfLeadingZeros_0f7a4_73 rfl rfl ?_
    refine g_iload_n C (i := 0) dJ6_numberOfLeadingZeros_0f7a4_74 rfl rfl ?_
    refine g_iconst_1 C dJ6_numberOfLeadingZeros_0f7a4_75 ?_
    refine g_iushr C dJ6_numberOfLeadingZeros_0f7a4_76 ?_
    refine g_isub C dJ6_numberOfLeadingZeros_0f7a4_77 ?_
    exact g_ret_i C dJ6_numberOfLeadingZeros_0f7a4_78 (Nat.le_refl _) (Nat.le_refl _) ⟨_, rfl, rfl, h⟩
  · replace h := h.2 c1
    refine g_iinc C (-2) [(0, .int v0), (1, .int (v1 + (-2)))] dJ6_numberOfLeadingZeros_0f7a4_66 rfl (by decide) (by decide) rfl ?_
    refine g_iload_n C (i := 0) dJ6_numberOfLeadingZeros_0f7a4_69 rfl rfl ?_
    refine g_iconst_2 C dJ6_numberOfLeadingZeros_0f7a4_70 ?_
    refine g_iushr C dJ6_numberOfLeadingZeros_0f7a4_71 ?_
    refine g_topi (fun x2 e3 => ?_)
    replace h := h x2 e3
    refine g_istore_n C (i := 0) [(0, .int x2), (1, .int (v1 + (-2)))] dJ6_numberOfLeadingZeros_0f7a4_72 rfl (by decide) rfl ?_
    refine g_iload_n C (i := 1) dJ6_numberOfLeadingZeros_0f7a4_73 rfl rfl ?_
    refine g_iload_n C (i := 0) dJ6_numberOfLeadingZeros_0f7a4_74 rfl rfl ?_
    refine g_iconst_1 C dJ6_numberOfLeadingZeros_0f7a4_75 ?_
    refine g_iushr C dJ6_numberOfLeadingZeros_0f7a4_76 ?_
    refine g_isub C dJ6_numberOfLeadingZeros_0f7a4_77 ?_
    exact g_ret_i C dJ6_numberOfLeadingZeros_0f7a4_78 (Nat.le_refl _) (Nat.le_refl _) ⟨_, rfl, rfl, h⟩
set_option maxRecDepth 100000 in
theorem wJ6_numberOfLeadingZeros_0f7a4_gc48 {Γ : gT} {D : gD} {ca : Nat → ClassId} {o : Nat → Nat} {Q : Int32 → Prop} {I : gI} {J : gJ} {R : gR} {L : List Nat} {S : gS} (C : Cx Γ cJ6_numberOfLeadingZeros_0f7a4 RJ6 2 D (tyW ca) (rl 0) (some .int) 0 0 (PYi ca o I J R L S Q)) (v0 : Int32) (v1 : Int32) (h : wJ6_numberOfLeadingZeros_0f7a4_c48 I J R L S v0 v1 Q) : G Γ 0 0 48 [(0, .int v0), (1, .int v1)] [] (cX ca o I J R L S) := by
  unfold wJ6_numberOfLeadingZeros_0f7a4_c48 at h
  refine g_iload_n C (i := 0) dJ6_numberOfLeadingZeros_0f7a4_48 rfl rfl ?_
  refine g_bipush C (v := 16) dJ6_numberOfLeadingZeros_0f7a4_49 (by decide) ?_
  refine g_icmp_lt C 61 dJ6_numberOfLeadingZeros_0f7a4_51 rfl (fun c1 => ?_) (fun c1 => ?_)
  · replace h := h.1 c1
    exact g_weak [0, 1] rfl (Nat.le_refl _) (Nat.le_refl _) (wJ6_numberOfLeadingZeros_0f7a4_gc61  C  v0 v1  h)
  · replace h := h.2 c1
    refine g_iinc C (-4) [(0, .int v0), (1, .int (v1 + (-4)))] dJ6_numberOfLeadingZeros_0f7a4_54 rfl (by decide) (by decide) rfl ?_
    refine g_iload_n C (i := 0) dJ6_numberOfLeadingZeros_0f7a4_57 rfl rfl ?_
    refine g_iconst_4 C dJ6_numberOfLeadingZeros_0f7a4_58 ?_
    refine g_iushr C dJ6_numberOfLeadingZeros_0f7a4_59 ?_
    refine g_topi (fun x2 e3 => ?_)
    replace h := h x2 e3
    refine g_istore_n C (i := 0) [(0, .int x2), (1, .int (v1 + (-4)))] dJ6_numberOfLeadingZeros_0f7a4_60 rfl (by decide) rfl ?_
    exact g_weak [0, 1] rfl (Nat.le_refl _) (Nat.le_refl _) (wJ6_numberOfLeadingZeros_0f7a4_gc61  C  x2 (v1 + (-4))  h)
set_option maxRecDepth 100000 in
theorem wJ6_numberOfLeadingZeros_0f7a4_gc33 {Γ : gT} {D : gD} {ca : Nat → ClassId} {o : Nat → Nat} {Q : Int32 → Prop} {I : gI} {J : gJ} {R : gR} {L : List Nat} {S : gS} (C : Cx Γ cJ6_numberOfLeadingZeros_0f7a4 RJ6 2 D (tyW ca) (rl 0) (some .int) 0 0 (PYi ca o I J R L S Q)) (v0 : Int32) (v1 : Int32) (h : wJ6_numberOfLeadingZeros_0f7a4_c33 I J R L S v0 v1 Q) : G Γ 0 0 33 [(0, .int v0), (1, .int v1)] [] (cX ca o I J R L S) := by
  unfold wJ6_numberOfLeadingZeros_0f7a4_c33 at h
  refine g_iload_n C (i := 0) dJ6_numberOfLeadingZeros_0f7a4_33 rfl rfl ?_
  refine g_sipush C (v := 256) dJ6_numberOfLeadingZeros_0f7a4_34 (by decide) ?_
  refine g_icmp_lt C 48 dJ6_numberOfLeadingZeros_0f7a4_37 rfl (fun c1 => ?_) (fun c1 => ?_)
  · replace h := h.1 c1
    exact g_weak [0, 1] rfl (Nat.le_refl _) (Nat.le_refl _) (wJ6_numberOfLeadingZeros_0f7a4_gc48  C  v0 v1  h)
  · replace h := h.2 c1
    refine g_iinc C (-8) [(0, .int v0), (1, .int (v1 + (-8)))] dJ6_numberOfLeadingZeros_0f7a4_40 rfl (by decide) (by decide) rfl ?_
    refine g_iload_n C (i := 0) dJ6_numberOfLeadingZeros_0f7a4_43 rfl rfl ?_
    refine g_bipush C (v := 8) dJ6_numberOfLeadingZeros_0f7a4_44 (by decide) ?_
    refine g_iushr C dJ6_numberOfLeadingZeros_0f7a4_46 ?_
    refine g_topi (fun x2 e3 => ?_)
    replace h := h x2 e3
    refine g_istore_n C (i := 0) [(0, .int x2), (1, .int (v1 + (-8)))] dJ6_numberOfLeadingZeros_0f7a4_47 rfl (by decide) rfl ?_
    exact g_weak [0, 1] rfl (Nat.le_refl _) (Nat.le_refl _) (wJ6_numberOfLeadingZeros_0f7a4_gc48  C  x2 (v1 + (-8))  h)
set_option maxRecDepth 100000 in
theorem wJ6_numberOfLeadingZeros_0f7a4_g {Γ : gT} {D : gD} {ca : Nat → ClassId} {o : Nat → Nat} {I : gI} {J : gJ} {R : gR} {L : List Nat} {S : gS} {Q : Int32 → Prop} (v0 : Int32) (C : Cx Γ cJ6_numberOfLeadingZeros_0f7a4 RJ6 2 D (tyW ca) (rl 0) (some .int) 0 0 (PYi ca o I J R L S Q)) (h : wJ6_numberOfLeadingZeros_0f7a4 v0 I J R L S Q) : G Γ 0 0 0 [(0, .int v0)] [] (cX ca o I J R L S) := by
  unfold wJ6_numberOfLeadingZeros_0f7a4 at h
  refine g_iload_n C (i := 0) dJ6_numberOfLeadingZeros_0f7a4_0 rfl rfl ?_
  refine g_if_gt C 15 dJ6_numberOfLeadingZeros_0f7a4_1 rfl (fun c1 => ?_) (fun c1 => ?_)
  · replace h := h.1 c1
    refine g_bipush C (v := 31) dJ6_numberOfLeadingZeros_0f7a4_15 (by decide) ?_
    refine g_istore_n C (i := 1) [(0, .int v0), (1, .int 31)] dJ6_numberOfLeadingZeros_0f7a4_17 rfl (by decide) rfl ?_
    refine g_iload_n C (i := 0) dJ6_numberOfLeadingZeros_0f7a4_18 rfl rfl ?_
    refine g_ldcw C (v := 65536) (tb_in (List.mem_of_getElem? (i := 974) (by decide +kernel)) (by decide +kernel)) dJ6_numberOfLeadingZeros_0f7a4_19 ?_
    refine g_icmp_lt C 33 dJ6_numberOfLeadingZeros_0f7a4_22 rfl (fun c2 => ?_) (fun c2 => ?_)
    · replace h := h.1 c2
      exact g_weak [0, 1] rfl (Nat.le_refl _) (Nat.le_refl _) (wJ6_numberOfLeadingZeros_0f7a4_gc33  C  v0 31  h)
    · replace h := h.2 c2
      refine g_iinc C (-16) [(0, .int v0), (1, .int (31 + (-16)))] dJ6_numberOfLeadingZeros_0f7a4_25 rfl (by decide) (by decide) rfl ?_
      refine g_iload_n C (i := 0) dJ6_numberOfLeadingZeros_0f7a4_28 rfl rfl ?_
      refine g_bipush C (v := 16) dJ6_numberOfLeadingZeros_0f7a4_29 (by decide) ?_
      refine g_iushr C dJ6_numberOfLeadingZeros_0f7a4_31 ?_
      refine g_topi (fun x3 e4 => ?_)
      replace h := h x3 e4
      refine g_istore_n C (i := 0) [(0, .int x3), (1, .int (31 + (-16)))] dJ6_numberOfLeadingZeros_0f7a4_32 rfl (by decide) rfl ?_
      exact g_weak [0, 1] rfl (Nat.le_refl _) (Nat.le_refl _) (wJ6_numberOfLeadingZeros_0f7a4_gc33  C  x3 (31 + (-16))  h)
  · replace h := h.2 c1
    refine g_iload_n C (i := 0) dJ6_numberOfLeadingZeros_0f7a4_4 rfl rfl ?_
    refine g_if_ne C 13 dJ6_numberOfLeadingZeros_0f7a4_5 rfl (fun c5 => ?_) (fun c5 => ?_)
    · replace h := h.1 c5
      refine g_iconst_0 C dJ6_numberOfLeadingZeros_0f7a4_13 ?_
      exact g_ret_i C dJ6_numberOfLeadingZeros_0f7a4_14 (Nat.le_refl _) (Nat.le_refl _) ⟨_, rfl, rfl, h⟩
    · replace h := h.2 c5
      refine g_bipush C (v := 32) dJ6_numberOfLeadingZeros_0f7a4_8 (by decide) ?_
      refine g_goto C 14 dJ6_numberOfLeadingZeros_0f7a4_10 rfl ?_
      exact g_ret_i C dJ6_numberOfLeadingZeros_0f7a4_14 (Nat.le_refl _) (Nat.le_refl _) ⟨_, rfl, rfl, h⟩
theorem wJ6_k_numberOfLeadingZeros_0f7a4 {D : gD} {ca : Nat → ClassId} {o : Nat → Nat} {L : List Nat} {S : gS} (v0 : Int32) (I : gI) (J : gJ) (R : gR) (L0 : List Nat) (S0 : gS) (Q : Int32 → Prop) (h : wJ6_numberOfLeadingZeros_0f7a4 v0 I J R L S Q) : Ct yJ6_numberOfLeadingZeros_0f7a4 cJ6_numberOfLeadingZeros_0f7a4 2 (some .int) (rl 0) D (tyW ca) 0 0 [.int v0] (cX ca o I J R L S) (PYi ca o I J R L S Q) := ct_of (rm := (rl 0)) (by decide +kernel) (Nat.le_of_ble_eq_true rfl) (fun Γ C => wJ6_numberOfLeadingZeros_0f7a4_g v0 C h)
set_option maxRecDepth 100000 in
theorem wJ6_bitCount_0f7a4_g {Γ : gT} {D : gD} {ca : Nat → ClassId} {o : Nat → Nat} {I : gI} {J : gJ} {R : gR} {L : List Nat} {S : gS} {Q : Int32 → Prop} (v0 : Int32) (C : Cx Γ cJ6_bitCount_0f7a4 RJ6 1 D (tyW ca) (rl 0) (some .int) 0 0 (PYi ca o I J R L S Q)) (h : wJ6_bitCount_0f7a4 v0 I J R L S Q) : G Γ 0 0 0 [(0, .int v0)] [] (cX ca o I J R L S) := by
  unfold wJ6_bitCount_0f7a4 at h
  refine g_iload_n C (i := 0) dJ6_bitCount_0f7a4_0 rfl rfl ?_
  refine g_iload_n C (i := 0) dJ6_bitCount_0f7a4_1 rfl rfl ?_
  refine g_iconst_1 C dJ6_bitCount_0f7a4_2 ?_
  refine g_iushr C dJ6_bitCount_0f7a4_3 ?_
  refine g_ldcw C (v := 1431655765) (tb_in (List.mem_of_getElem? (i := 984) (by decide +kernel)) (by decide +kernel)) dJ6_bitCount_0f7a4_4 ?_
  refine g_iand C dJ6_bitCount_0f7a4_7 ?_
  refine g_isub C dJ6_bitCount_0f7a4_8 ?_
  refine g_topi (fun x1 e2 => ?_)
  replace h := h x1 e2
  refine g_istore_n C (i := 0) [(0, .int x1)] dJ6_bitCount_0f7a4_9 rfl (by decide) rfl ?_
  refine g_iload_n C (i := 0) dJ6_bitCount_0f7a4_10 rfl rfl ?_
  refine g_ldcw C (v := 858993459) (tb_in (List.mem_of_getElem? (i := 985) (by decide +kernel)) (by decide +kernel)) dJ6_bitCount_0f7a4_11 ?_
  refine g_iand C dJ6_bitCount_0f7a4_14 ?_
  refine g_iload_n C (i := 0) dJ6_bitCount_0f7a4_15 rfl rfl ?_
  refine g_iconst_2 C dJ6_bitCount_0f7a4_16 ?_
  refine g_iushr C dJ6_bitCount_0f7a4_17 ?_
  refine g_ldcw C (v := 858993459) (tb_in (List.mem_of_getElem? (i := 985) (by decide +kernel)) (by decide +kernel)) dJ6_bitCount_0f7a4_18 ?_
  refine g_iand C dJ6_bitCount_0f7a4_21 ?_
  refine g_iadd C dJ6_bitCount_0f7a4_22 ?_
  refine g_topi (fun x3 e4 => ?_)
  replace h := h x3 e4
  refine g_istore_n C (i := 0) [(0, .int x3)] dJ6_bitCount_0f7a4_23 rfl (by decide) rfl ?_
  refine g_iload_n C (i := 0) dJ6_bitCount_0f7a4_24 rfl rfl ?_
  refine g_iload_n C (i := 0) dJ6_bitCount_0f7a4_25 rfl rfl ?_
  refine g_iconst_4 C dJ6_bitCount_0f7a4_26 ?_
  refine g_iushr C dJ6_bitCount_0f7a4_27 ?_
  refine g_iadd C dJ6_bitCount_0f7a4_28 ?_
  refine g_ldcw C (v := 252645135) (tb_in (List.mem_of_getElem? (i := 986) (by decide +kernel)) (by decide +kernel)) dJ6_bitCount_0f7a4_29 ?_
  refine g_iand C dJ6_bitCount_0f7a4_32 ?_
  refine g_topi (fun x5 e6 => ?_)
  replace h := h x5 e6
  refine g_istore_n C (i := 0) [(0, .int x5)] dJ6_bitCount_0f7a4_33 rfl (by decide) rfl ?_
  refine g_iload_n C (i := 0) dJ6_bitCount_0f7a4_34 rfl rfl ?_
  refine g_iload_n C (i := 0) dJ6_bitCount_0f7a4_35 rfl rfl ?_
  refine g_bipush C (v := 8) dJ6_bitCount_0f7a4_36 (by decide) ?_
  refine g_iushr C dJ6_bitCount_0f7a4_38 ?_
  refine g_iadd C dJ6_bitCount_0f7a4_39 ?_
  refine g_topi (fun x7 e8 => ?_)
  replace h := h x7 e8
  refine g_istore_n C (i := 0) [(0, .int x7)] dJ6_bitCount_0f7a4_40 rfl (by decide) rfl ?_
  refine g_iload_n C (i := 0) dJ6_bitCount_0f7a4_41 rfl rfl ?_
  refine g_iload_n C (i := 0) dJ6_bitCount_0f7a4_42 rfl rfl ?_
  refine g_bipush C (v := 16) dJ6_bitCount_0f7a4_43 (by decide) ?_
  refine g_iushr C dJ6_bitCount_0f7a4_45 ?_
  refine g_iadd C dJ6_bitCount_0f7a4_46 ?_
  refine g_topi (fun x9 e10 => ?_)
  replace h := h x9 e10
  refine g_istore_n C (i := 0) [(0, .int x9)] dJ6_bitCount_0f7a4_47 rfl (by decide) rfl ?_
  refine g_iload_n C (i := 0) dJ6_bitCount_0f7a4_48 rfl rfl ?_
  refine g_bipush C (v := 63) dJ6_bitCount_0f7a4_49 (by decide) ?_
  refine g_iand C dJ6_bitCount_0f7a4_51 ?_
  exact g_ret_i C dJ6_bitCount_0f7a4_52 (Nat.le_refl _) (Nat.le_refl _) ⟨_, rfl, rfl, h⟩
theorem wJ6_k_bitCount_0f7a4 {D : gD} {ca : Nat → ClassId} {o : Nat → Nat} {L : List Nat} {S : gS} (v0 : Int32) (I : gI) (J : gJ) (R : gR) (L0 : List Nat) (S0 : gS) (Q : Int32 → Prop) (h : wJ6_bitCount_0f7a4 v0 I J R L S Q) : Ct yJ6_bitCount_0f7a4 cJ6_bitCount_0f7a4 1 (some .int) (rl 0) D (tyW ca) 0 0 [.int v0] (cX ca o I J R L S) (PYi ca o I J R L S Q) := ct_of (rm := (rl 0)) (by decide +kernel) (Nat.le_of_ble_eq_true rfl) (fun Γ C => wJ6_bitCount_0f7a4_g v0 C h)
set_option maxRecDepth 100000 in
theorem wJ13_bitCount_95d88_g {Γ : gT} {D : gD} {ca : Nat → ClassId} {o : Nat → Nat} {I : gI} {J : gJ} {R : gR} {L : List Nat} {S : gS} {Q : Int32 → Prop} (v0 : Int64) (C : Cx Γ cJ13_bitCount_95d88 RJ13 2 D (tyW ca) (rl 0) (some .int) 0 0 (PYi ca o I J R L S Q)) (h : wJ13_bitCount_95d88 v0 I J R L S Q) : G Γ 0 0 0 [(0, .long v0)] [] (cX ca o I J R L S) := by
  unfold wJ13_bitCount_95d88 at h
  refine g_lload_n C (i := 0) dJ13_bitCount_95d88_0 rfl rfl ?_
  refine g_lload_n C (i := 0) dJ13_bitCount_95d88_1 rfl rfl ?_
  refine g_iconst_1 C dJ13_bitCount_95d88_2 ?_
  refine g_lushr C dJ13_bitCount_95d88_3 ?_
  refine g_ldc2 C (v := 6148914691236517205) (tb_in (List.mem_of_getElem? (i := 1295) (by decide +kernel)) (by decide +kernel)) dJ13_bitCount_95d88_4 ?_
  refine g_land C dJ13_bitCount_95d88_7 ?_
  refine g_lsub C dJ13_bitCount_95d88_8 ?_
  refine g_topl (fun x1 e2 => ?_)
  replace h := h x1 e2
  refine g_lstore_n C (i := 0) [(0, .long x1)] dJ13_bitCount_95d88_9 rfl (by decide) rfl ?_
  refine g_lload_n C (i := 0) dJ13_bitCount_95d88_10 rfl rfl ?_
  refine g_ldc2 C (v := 3689348814741910323) (tb_in (List.mem_of_getElem? (i := 1296) (by decide +kernel)) (by decide +kernel)) dJ13_bitCount_95d88_11 ?_
  refine g_land C dJ13_bitCount_95d88_14 ?_
  refine g_lload_n C (i := 0) dJ13_bitCount_95d88_15 rfl rfl ?_
  refine g_iconst_2 C dJ13_bitCount_95d88_16 ?_
  refine g_lushr C dJ13_bitCount_95d88_17 ?_
  refine g_ldc2 C (v := 3689348814741910323) (tb_in (List.mem_of_getElem? (i := 1296) (by decide +kernel)) (by decide +kernel)) dJ13_bitCount_95d88_18 ?_
  refine g_land C dJ13_bitCount_95d88_21 ?_
  refine g_ladd C dJ13_bitCount_95d88_22 ?_
  refine g_topl (fun x3 e4 => ?_)
  replace h := h x3 e4
  refine g_lstore_n C (i := 0) [(0, .long x3)] dJ13_bitCount_95d88_23 rfl (by decide) rfl ?_
  refine g_lload_n C (i := 0) dJ13_bitCount_95d88_24 rfl rfl ?_
  refine g_lload_n C (i := 0) dJ13_bitCount_95d88_25 rfl rfl ?_
  refine g_iconst_4 C dJ13_bitCount_95d88_26 ?_
  refine g_lushr C dJ13_bitCount_95d88_27 ?_
  refine g_ladd C dJ13_bitCount_95d88_28 ?_
  refine g_ldc2 C (v := 1085102592571150095) (tb_in (List.mem_of_getElem? (i := 1297) (by decide +kernel)) (by decide +kernel)) dJ13_bitCount_95d88_29 ?_
  refine g_land C dJ13_bitCount_95d88_32 ?_
  refine g_topl (fun x5 e6 => ?_)
  replace h := h x5 e6
  refine g_lstore_n C (i := 0) [(0, .long x5)] dJ13_bitCount_95d88_33 rfl (by decide) rfl ?_
  refine g_lload_n C (i := 0) dJ13_bitCount_95d88_34 rfl rfl ?_
  refine g_lload_n C (i := 0) dJ13_bitCount_95d88_35 rfl rfl ?_
  refine g_bipush C (v := 8) dJ13_bitCount_95d88_36 (by decide) ?_
  refine g_lushr C dJ13_bitCount_95d88_38 ?_
  refine g_ladd C dJ13_bitCount_95d88_39 ?_
  refine g_topl (fun x7 e8 => ?_)
  replace h := h x7 e8
  refine g_lstore_n C (i := 0) [(0, .long x7)] dJ13_bitCount_95d88_40 rfl (by decide) rfl ?_
  refine g_lload_n C (i := 0) dJ13_bitCount_95d88_41 rfl rfl ?_
  refine g_lload_n C (i := 0) dJ13_bitCount_95d88_42 rfl rfl ?_
  refine g_bipush C (v := 16) dJ13_bitCount_95d88_43 (by decide) ?_
  refine g_lushr C dJ13_bitCount_95d88_45 ?_
  refine g_ladd C dJ13_bitCount_95d88_46 ?_
  refine g_topl (fun x9 e10 => ?_)
  replace h := h x9 e10
  refine g_lstore_n C (i := 0) [(0, .long x9)] dJ13_bitCount_95d88_47 rfl (by decide) rfl ?_
  refine g_lload_n C (i := 0) dJ13_bitCount_95d88_48 rfl rfl ?_
  refine g_lload_n C (i := 0) dJ13_bitCount_95d88_49 rfl rfl ?_
  refine g_bipush C (v := 32) dJ13_bitCount_95d88_50 (by decide) ?_
  refine g_lushr C dJ13_bitCount_95d88_52 ?_
  refine g_ladd C dJ13_bitCount_95d88_53 ?_
  refine g_topl (fun x11 e12 => ?_)
  replace h := h x11 e12
  refine g_lstore_n C (i := 0) [(0, .long x11)] dJ13_bitCount_95d88_54 rfl (by decide) rfl ?_
  refine g_lload_n C (i := 0) dJ13_bitCount_95d88_55 rfl rfl ?_
  refine g_l2i C dJ13_bitCount_95d88_56 ?_
  refine g_bipush C (v := 127) dJ13_bitCount_95d88_57 (by decide) ?_
  refine g_iand C dJ13_bitCount_95d88_59 ?_
  exact g_ret_i C dJ13_bitCount_95d88_60 (Nat.le_refl _) (Nat.le_refl _) ⟨_, rfl, rfl, h⟩
theorem wJ13_k_bitCount_95d88 {D : gD} {ca : Nat → ClassId} {o : Nat → Nat} {L : List Nat} {S : gS} (v0 : Int64) (I : gI) (J : gJ) (R : gR) (L0 : List Nat) (S0 : gS) (Q : Int32 → Prop) (h : wJ13_bitCount_95d88 v0 I J R L S Q) : Ct yJ13_bitCount_95d88 cJ13_bitCount_95d88 2 (some .int) (rl 0) D (tyW ca) 0 0 [.long v0] (cX ca o I J R L S) (PYi ca o I J R L S Q) := ct_of (rm := (rl 0)) (by decide +kernel) (Nat.le_of_ble_eq_true rfl) (fun Γ C => wJ13_bitCount_95d88_g v0 C h)
theorem sX11_69 : gSite RX11 yX11_isShelf cX11_isShelf 2 (some .boolean) 69 1 := gSite.of (tb_in (List.mem_of_getElem? (i := 306) (by decide +kernel)) (by decide +kernel)) (tb_in (List.mem_of_getElem? (i := 308) (by decide +kernel)) (by decide +kernel)) (tb_in (List.mem_of_getElem? (i := 0) (by decide +kernel)) (by decide +kernel)) (tb_in (List.mem_of_getElem? (i := 78) (by decide +kernel)) (by decide +kernel)) (tb_in (List.mem_of_getElem? (i := 309) (by decide +kernel)) (by decide +kernel)) (by decide +kernel)
theorem sX11_105 : gSite RX11 yX8_holdsStrip cX8_holdsStrip 1 (some .boolean) 105 0 := gSite.of (tb_in (List.mem_of_getElem? (i := 333) (by decide +kernel)) (by decide +kernel)) (tb_in (List.mem_of_getElem? (i := 334) (by decide +kernel)) (by decide +kernel)) (tb_in (List.mem_of_getElem? (i := 335) (by decide +kernel)) (by decide +kernel)) (tb_in (List.mem_of_getElem? (i := 86) (by decide +kernel)) (by decide +kernel)) (tb_in (List.mem_of_getElem? (i := 336) (by decide +kernel)) (by decide +kernel)) (by decide +kernel)
theorem sX11_109 : gSite RX11 yX8_holdsRow cX8_holdsRow 1 (some .boolean) 109 0 := gSite.of (tb_in (List.mem_of_getElem? (i := 329) (by decide +kernel)) (by decide +kernel)) (tb_in (List.mem_of_getElem? (i := 330) (by decide +kernel)) (by decide +kernel)) (tb_in (List.mem_of_getElem? (i := 331) (by decide +kernel)) (by decide +kernel)) (tb_in (List.mem_of_getElem? (i := 86) (by decide +kernel)) (by decide +kernel)) (tb_in (List.mem_of_getElem? (i := 332) (by decide +kernel)) (by decide +kernel)) (by decide +kernel)
set_option maxRecDepth 100000 in
theorem wX11_noCopy_gc171 {Γ : gT} {D : gD} {ca : Nat → ClassId} {o : Nat → Nat} {Q : Int32 → Prop} {I : gI} {J : gJ} {R : gR} {L : List Nat} {S : gS} (C : Cx Γ cX11_noCopy RX11 9 D (tyW ca) (rl 1) (some .int) 0 0 (PYi ca o I J R L S Q)) (s0 : Int32) (h : wX11_noCopy_c171 I J R L S s0 Q) : G Γ 0 0 171 [] [.int s0] (cX ca o I J R L S) := by
  unfold wX11_noCopy_c171 at h
  refine g_istore C (i := 8) [(8, .int s0)] dX11_noCopy_171 (by decide) rfl ?_
  refine g_iload C (i := 8) dX11_noCopy_173 rfl ?_
  refine g_if_eq C 182 dX11_noCopy_175 rfl (fun c1 => ?_) (fun c1 => ?_)
  · replace h := h.1 c1
    refine g_bipush C (v := (-5)) dX11_noCopy_182 (by decide) ?_
    exact g_ret_i C dX11_noCopy_184 (Nat.le_refl _) (Nat.le_refl _) ⟨_, rfl, rfl, h⟩
  · replace h := h.2 c1
    refine g_iconst_0 C dX11_noCopy_178 ?_
    refine g_goto C 184 dX11_noCopy_179 rfl ?_
    exact g_ret_i C dX11_noCopy_184 (Nat.le_refl _) (Nat.le_refl _) ⟨_, rfl, rfl, h⟩
set_option maxRecDepth 100000 in
theorem wX11_noCopy_gc170 {Γ : gT} {D : gD} {ca : Nat → ClassId} {o : Nat → Nat} {Q : Int32 → Prop} {I : gI} {J : gJ} {R : gR} {L : List Nat} {S : gS} (C : Cx Γ cX11_noCopy RX11 9 D (tyW ca) (rl 1) (some .int) 0 0 (PYi ca o I J R L S Q)) (h : wX11_noCopy_c170 I J R L S Q) : G Γ 0 0 170 [] [] (cX ca o I J R L S) := by
  unfold wX11_noCopy_c170 at h
  refine g_iconst_0 C dX11_noCopy_170 ?_
  exact g_weak [] rfl (Nat.le_refl _) (Nat.le_refl _) (wX11_noCopy_gc171  C  0  h)
set_option maxRecDepth 100000 in
theorem wX11_noCopy_gc85 {Γ : gT} {D : gD} {ca : Nat → ClassId} {o : Nat → Nat} {Q : Int32 → Prop} {I : gI} {J : gJ} {R : gR} {L : List Nat} {S : gS} (C : Cx Γ cX11_noCopy RX11 9 D (tyW ca) (rl 1) (some .int) 0 0 (PYi ca o I J R L S Q)) (v3 : Int32) (v4 : Int32) (v5 : Int32) (v6 : Option Nat) (v7 : Option Nat) (h : wX11_noCopy_c85 I J R L S v3 v4 v5 v6 v7 Q) : G Γ 0 0 85 [(3, .int v3), (4, .int v4), (5, .int v5), (6, va_re (fun s => o (20 + s)) v6), (7, va_re (fun s => o (20 + s)) v7)] [] (cX ca o I J R L S) := by
  unfold wX11_noCopy_c85 at h
  refine g_aloadq C (i := 6) dX11_noCopy_85 rfl ?_
  obtain ⟨z1, h2, h3, h⟩ := h
  refine g_eqs (st' := [.ref (o (20 + z1))]) (by rw [h2]; rfl) rfl ?_
  refine x_callV C (wX8_k_holdsRow h3 I J R L S _ h) sX11_109 (rcv_shelf (s := z1) h3) (rl_ok (by decide) (by decide)) rfl (Nat.le_of_ble_eq_true rfl) (st := []) _ rfl dX11_noCopy_87 (py_z (fun r4 h => ?_))
  refine g_zeq C 101 dX11_noCopy_90 rfl (fun c5 => ?_) (fun c5 => ?_)
  · replace h := h.1 c5
    refine g_bipush C (v := (-3)) dX11_noCopy_101 (by decide) ?_
    exact g_ret_i C dX11_noCopy_103 (Nat.le_refl _) (Nat.le_refl _) ⟨_, rfl, rfl, h⟩
  · replace h := h.2 c5
    refine g_aloadq C (i := 7) dX11_noCopy_93 rfl ?_
    obtain ⟨z6, h7, h8, h⟩ := h
    refine g_eqs (st' := [.ref (o (20 + z6))]) (by rw [h7]; rfl) rfl ?_
    refine x_callV C (wX8_k_holdsRow h8 I J R L S _ h) sX11_109 (rcv_shelf (s := z6) h8) (rl_ok (by decide) (by decide)) rfl (Nat.le_of_ble_eq_true rfl) (st := []) _ rfl dX11_noCopy_95 (py_z (fun r9 h => ?_))
    refine g_zne C 104 dX11_noCopy_98 rfl (fun c10 => ?_) (fun c10 => ?_)
    · replace h := h.1 c10
      refine g_iload C (i := 5) dX11_noCopy_104 rfl ?_
      refine g_if_ge C 112 dX11_noCopy_106 rfl (fun c11 => ?_) (fun c11 => ?_)
      · replace h := h.1 c11
        refine g_iload_n C (i := 3) dX11_noCopy_112 rfl rfl ?_
        refine g_if_lt C 170 dX11_noCopy_113 rfl (fun c12 => ?_) (fun c12 => ?_)
        · replace h := h.1 c12
          exact g_weak [] rfl (Nat.le_refl _) (Nat.le_refl _) (wX11_noCopy_gc170  C    h)
        · replace h := h.2 c12
          refine g_iload C (i := 4) dX11_noCopy_116 rfl ?_
          refine g_if_lt C 170 dX11_noCopy_118 rfl (fun c13 => ?_) (fun c13 => ?_)
          · replace h := h.1 c13
            exact g_weak [] rfl (Nat.le_refl _) (Nat.le_refl _) (wX11_noCopy_gc170  C    h)
          · replace h := h.2 c13
            refine g_iload C (i := 5) dX11_noCopy_121 rfl ?_
            refine g_aloadq C (i := 6) dX11_noCopy_123 rfl ?_
            refine g_eqs (st' := [.ref (o (20 + z1)), .int v5]) (by rw [h2]; rfl) rfl ?_
            refine x_get_X11_115 C (s := z1) h3 dX11_noCopy_125 ?_
            refine g_icmp_gt C 170 dX11_noCopy_128 rfl (fun c14 => ?_) (fun c14 => ?_)
            · replace h := h.1 c14
              exact g_weak [] rfl (Nat.le_refl _) (Nat.le_refl _) (wX11_noCopy_gc170  C    h)
            · replace h := h.2 c14
              refine g_iload C (i := 5) dX11_noCopy_131 rfl ?_
              refine g_aloadq C (i := 7) dX11_noCopy_133 rfl ?_
              refine g_eqs (st' := [.ref (o (20 + z6)), .int v5]) (by rw [h7]; rfl) rfl ?_
              refine x_get_X11_115 C (s := z6) h8 dX11_noCopy_135 ?_
              refine g_icmp_gt C 170 dX11_noCopy_138 rfl (fun c15 => ?_) (fun c15 => ?_)
              · replace h := h.1 c15
                exact g_weak [] rfl (Nat.le_refl _) (Nat.le_refl _) (wX11_noCopy_gc170  C    h)
              · replace h := h.2 c15
                refine g_iload_n C (i := 3) dX11_noCopy_141 rfl rfl ?_
                refine g_aloadq C (i := 6) dX11_noCopy_142 rfl ?_
                refine g_eqs (st' := [.ref (o (20 + z1)), .int v3]) (by rw [h2]; rfl) rfl ?_
                refine x_get_X11_115 C (s := z1) h3 dX11_noCopy_144 ?_
                refine g_iload C (i := 5) dX11_noCopy_147 rfl ?_
                refine g_isub C dX11_noCopy_149 ?_
                refine g_icmp_gt C 170 dX11_noCopy_150 rfl (fun c16 => ?_) (fun c16 => ?_)
                · replace h := h.1 c16
                  exact g_weak [] rfl (Nat.le_refl _) (Nat.le_refl _) (wX11_noCopy_gc170  C    h)
                · replace h := h.2 c16
                  refine g_iload C (i := 4) dX11_noCopy_153 rfl ?_
                  refine g_aloadq C (i := 7) dX11_noCopy_155 rfl ?_
                  refine g_eqs (st' := [.ref (o (20 + z6)), .int v4]) (by rw [h7]; rfl) rfl ?_
                  refine x_get_X11_115 C (s := z6) h8 dX11_noCopy_157 ?_
                  refine g_iload C (i := 5) dX11_noCopy_160 rfl ?_
                  refine g_isub C dX11_noCopy_162 ?_
                  refine g_icmp_gt C 170 dX11_noCopy_163 rfl (fun c17 => ?_) (fun c17 => ?_)
                  · replace h := h.1 c17
                    exact g_weak [] rfl (Nat.le_refl _) (Nat.le_refl _) (wX11_noCopy_gc170  C    h)
                  · replace h := h.2 c17
                    refine g_iconst_1 C dX11_noCopy_166 ?_
                    refine g_goto C 171 dX11_noCopy_167 rfl ?_
                    exact g_weak [] rfl (Nat.le_refl _) (Nat.le_refl _) (wX11_noCopy_gc171  C  1  h)
      · replace h := h.2 c11
        refine g_bipush C (v := (-4)) dX11_noCopy_109 (by decide) ?_
        exact g_ret_i C dX11_noCopy_111 (Nat.le_refl _) (Nat.le_refl _) ⟨_, rfl, rfl, h⟩
    · replace h := h.2 c10
      refine g_bipush C (v := (-3)) dX11_noCopy_101 (by decide) ?_
      exact g_ret_i C dX11_noCopy_103 (Nat.le_refl _) (Nat.le_refl _) ⟨_, rfl, rfl, h⟩
set_option maxRecDepth 100000 in
theorem wX11_noCopy_g {Γ : gT} {D : gD} {ca : Nat → ClassId} {o : Nat → Nat} {I : gI} {J : gJ} {R : gR} {L : List Nat} {S : gS} {Q : Int32 → Prop} (v1 : Int32) (v2 : Int32) (v3 : Int32) (v4 : Int32) (v5 : Int32) (C : Cx Γ cX11_noCopy RX11 9 D (tyW ca) (rl 1) (some .int) 0 0 (PYi ca o I J R L S Q)) (h : wX11_noCopy v1 v2 v3 v4 v5 I J R L S Q) : G Γ 0 0 0 [(0, .ref (o 0)), (1, .int v1), (2, .int v2), (3, .int v3), (4, .int v4), (5, .int v5)] [] (cX ca o I J R L S) := by
  unfold wX11_noCopy at h
  refine g_aload_n C (i := 0) dX11_noCopy_0 rfl rfl ?_
  refine g_iload_n C (i := 1) dX11_noCopy_1 rfl rfl ?_
  refine x_callV C (wX11_k_isShelf v1 I J R L S _ h) sX11_69 rcv_main (rl_ok (by decide) (by decide)) rfl (Nat.le_of_ble_eq_true rfl) (st := []) _ rfl dX11_noCopy_2 (py_z (fun r1 h => ?_))
  refine g_zeq C 16 dX11_noCopy_5 rfl (fun c2 => ?_) (fun c2 => ?_)
  · replace h := h.1 c2
    refine g_iconst_m1 C dX11_noCopy_16 ?_
    exact g_ret_i C dX11_noCopy_17 (Nat.le_refl _) (Nat.le_refl _) ⟨_, rfl, rfl, h⟩
  · replace h := h.2 c2
    refine g_aload_n C (i := 0) dX11_noCopy_8 rfl rfl ?_
    refine g_iload_n C (i := 2) dX11_noCopy_9 rfl rfl ?_
    refine x_callV C (wX11_k_isShelf v2 I J R L S _ h) sX11_69 rcv_main (rl_ok (by decide) (by decide)) rfl (Nat.le_of_ble_eq_true rfl) (st := []) _ rfl dX11_noCopy_10 (py_z (fun r3 h => ?_))
    refine g_zne C 18 dX11_noCopy_13 rfl (fun c4 => ?_) (fun c4 => ?_)
    · replace h := h.1 c4
      refine g_aload_n C (i := 0) dX11_noCopy_18 rfl rfl ?_
      refine x_get_X11_24 C dX11_noCopy_19 ?_
      refine g_iload_n C (i := 1) dX11_noCopy_22 rfl rfl ?_
      obtain ⟨h5, h⟩ := h
      refine x_shelf C h5 dX11_noCopy_23 ?_
      refine g_astore C (i := 6) [(0, .ref (o 0)), (1, .int v1), (2, .int v2), (3, .int v3), (4, .int v4), (5, .int v5), (6, .ref (o (20 + v1.toNatClampNeg)))] dX11_noCopy_24 (by decide) rfl ?_
      refine g_aload_n C (i := 0) dX11_noCopy_26 rfl rfl ?_
      refine x_get_X11_24 C dX11_noCopy_27 ?_
      refine g_iload_n C (i := 2) dX11_noCopy_30 rfl rfl ?_
      obtain ⟨h6, h⟩ := h
      refine x_shelf C h6 dX11_noCopy_31 ?_
      refine g_astore C (i := 7) [(0, .ref (o 0)), (1, .int v1), (2, .int v2), (3, .int v3), (4, .int v4), (5, .int v5), (6, .ref (o (20 + v1.toNatClampNeg))), (7, .ref (o (20 + v2.toNatClampNeg)))] dX11_noCopy_32 (by decide) rfl ?_
      refine g_aload C (i := 6) dX11_noCopy_34 rfl ?_
      refine x_callV C (wX8_k_holdsStrip (vp_lt h5) I J R L S _ h) sX11_105 (rcv_shelf (s := v1.toNatClampNeg) (vp_lt h5)) (rl_ok (by decide) (by decide)) rfl (Nat.le_of_ble_eq_true rfl) (st := []) _ rfl dX11_noCopy_36 (py_z (fun r7 h => ?_))
      refine g_zne C 50 dX11_noCopy_39 rfl (fun c8 => ?_) (fun c8 => ?_)
      · replace h := h.1 c8
        refine g_bipush C (v := (-2)) dX11_noCopy_50 (by decide) ?_
        exact g_ret_i C dX11_noCopy_52 (Nat.le_refl _) (Nat.le_refl _) ⟨_, rfl, rfl, h⟩
      · replace h := h.2 c8
        refine g_aload C (i := 7) dX11_noCopy_42 rfl ?_
        refine x_callV C (wX8_k_holdsStrip (vp_lt h6) I J R L S _ h) sX11_105 (rcv_shelf (s := v2.toNatClampNeg) (vp_lt h6)) (rl_ok (by decide) (by decide)) rfl (Nat.le_of_ble_eq_true rfl) (st := []) _ rfl dX11_noCopy_44 (py_z (fun r9 h => ?_))
        refine g_zeq C 53 dX11_noCopy_47 rfl (fun c10 => ?_) (fun c10 => ?_)
        · replace h := h.1 c10
          refine g_aload C (i := 6) dX11_noCopy_53 rfl ?_
          refine x_callV C (wX8_k_holdsRow (vp_lt h5) I J R L S _ h) sX11_109 (rcv_shelf (s := v1.toNatClampNeg) (vp_lt h5)) (rl_ok (by decide) (by decide)) rfl (Nat.le_of_ble_eq_true rfl) (st := []) _ rfl dX11_noCopy_55 (py_z (fun r11 h => ?_))
          refine g_zeq C 85 dX11_noCopy_58 rfl (fun c12 => ?_) (fun c12 => ?_)
          · replace h := h.1 c12
            exact g_weak [3, 4, 5, 6, 7] rfl (Nat.le_refl _) (Nat.le_refl _) (wX11_noCopy_gc85  C  v3 v4 v5 (some v1.toNatClampNeg) (some v2.toNatClampNeg)  h)
          · replace h := h.2 c12
            refine g_aload C (i := 7) dX11_noCopy_61 rfl ?_
            refine x_callV C (wX8_k_holdsRow (vp_lt h6) I J R L S _ h) sX11_109 (rcv_shelf (s := v2.toNatClampNeg) (vp_lt h6)) (rl_ok (by decide) (by decide)) rfl (Nat.le_of_ble_eq_true rfl) (st := []) _ rfl dX11_noCopy_63 (py_z (fun r13 h => ?_))
            refine g_zeq C 85 dX11_noCopy_66 rfl (fun c14 => ?_) (fun c14 => ?_)
            · replace h := h.1 c14
              exact g_weak [3, 4, 5, 6, 7] rfl (Nat.le_refl _) (Nat.le_refl _) (wX11_noCopy_gc85  C  v3 v4 v5 (some v1.toNatClampNeg) (some v2.toNatClampNeg)  h)
            · replace h := h.2 c14
              refine g_aload C (i := 6) dX11_noCopy_69 rfl ?_
              refine x_get_X11_112 C (s := v1.toNatClampNeg) (vp_lt h5) dX11_noCopy_71 ?_
              refine g_aload C (i := 7) dX11_noCopy_74 rfl ?_
              refine x_get_X11_112 C (s := v2.toNatClampNeg) (vp_lt h6) dX11_noCopy_76 ?_
              refine g_icmp_eq C 85 dX11_noCopy_79 rfl (fun c15 => ?_) (fun c15 => ?_)
              · replace h := h.1 c15
                exact g_weak [3, 4, 5, 6, 7] rfl (Nat.le_refl _) (Nat.le_refl _) (wX11_noCopy_gc85  C  v3 v4 v5 (some v1.toNatClampNeg) (some v2.toNatClampNeg)  h)
              · replace h := h.2 c15
                refine g_bipush C (v := (-2)) dX11_noCopy_82 (by decide) ?_
                exact g_ret_i C dX11_noCopy_84 (Nat.le_refl _) (Nat.le_refl _) ⟨_, rfl, rfl, h⟩
        · replace h := h.2 c10
          refine g_bipush C (v := (-2)) dX11_noCopy_50 (by decide) ?_
          exact g_ret_i C dX11_noCopy_52 (Nat.le_refl _) (Nat.le_refl _) ⟨_, rfl, rfl, h⟩
    · replace h := h.2 c4
      refine g_iconst_m1 C dX11_noCopy_16 ?_
      exact g_ret_i C dX11_noCopy_17 (Nat.le_refl _) (Nat.le_refl _) ⟨_, rfl, rfl, h⟩
theorem wX11_k_noCopy {D : gD} {ca : Nat → ClassId} {o : Nat → Nat} {L : List Nat} {S : gS} (v1 : Int32) (v2 : Int32) (v3 : Int32) (v4 : Int32) (v5 : Int32) (I : gI) (J : gJ) (R : gR) (L0 : List Nat) (S0 : gS) (Q : Int32 → Prop) (h : wX11_noCopy v1 v2 v3 v4 v5 I J R L S Q) : Ct yX11_noCopy cX11_noCopy 9 (some .int) (rl 1) D (tyW ca) 0 0 [.ref (o 0), .int v1, .int v2, .int v3, .int v4, .int v5] (cX ca o I J R L S) (PYi ca o I J R L S Q) := ct_of (rm := (rl 1)) (by decide +kernel) (Nat.le_of_ble_eq_true rfl) (fun Γ C => wX11_noCopy_g v1 v2 v3 v4 v5 C h)
