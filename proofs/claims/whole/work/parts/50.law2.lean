/-! the law: more cases -/
set_option maxRecDepth 100000 in
theorem lw_c13 {Γ : gT} {D : gD} {ca : Nat → ClassId} {oX oM : Nat → Nat} {b Ls : Nat} {xs : Nat → Int32} {Post : Option Value → va_W → Prop} {n : Nat} {T : Nat → gP} {I X : gI} {J Y : gJ} {R : gR} {L : List Nat} {S : gS} (h : Rl n T I J X Y R L S) (C : Cx Γ cL_law RL 4 D (tyW ca) room_1 (some .boolean) 600000 7302250 Post) (hX : LX Γ b Ls xs) {i : Nat} (hi : i + 7 ≤ Ls) (hL : Ls ≤ 3584) {cn sn : Nat} (hc : cn + 161 ≤ 600000) (hs : sn + 966 ≤ 7302250) (kk : lwK Γ ca oX oM b i cn sn) : G Γ cn sn 685 (lwL oX oM b i) [] (cX ca oX X Y R L S ++ cM ca oM I J) := by
  obtain ⟨v1, e1⟩ : ∃ v, xs (nI i + nI 1).toNatClampNeg = v := ⟨_, rfl⟩
  obtain ⟨v2, e2⟩ : ∃ v, xs (nI i + nI 2).toNatClampNeg = v := ⟨_, rfl⟩
  obtain ⟨v3, e3⟩ : ∃ v, xs (nI i + nI 3).toNatClampNeg = v := ⟨_, rfl⟩
  refine g_aload_n C (i := 1) dL_law_685 rfl rfl ?_
  refine g_aload_n C (i := 0) dL_law_686 rfl rfl ?_
  refine g_iload_n C (i := 3) dL_law_687 rfl rfl ?_
  refine g_iconst_1 C dL_law_688 ?_
  refine g_iadd C dL_law_689 ?_
  refine g_sld C hX (v := v1) (in_k (k := 1) hi hL (by decide)) e1 dL_law_690 ?_
  refine g_aload_n C (i := 0) dL_law_691 rfl rfl ?_
  refine g_iload_n C (i := 3) dL_law_692 rfl rfl ?_
  refine g_iconst_2 C dL_law_693 ?_
  refine g_iadd C dL_law_694 ?_
  refine g_sld C hX (v := v2) (in_k (k := 2) hi hL (by decide)) e2 dL_law_695 ?_
  refine g_i2l C dL_law_696 ?_
  refine g_bipush C (v := 32) dL_law_697 (by decide) ?_
  refine g_lshl C dL_law_699 ?_
  refine g_aload_n C (i := 0) dL_law_700 rfl rfl ?_
  refine g_iload_n C (i := 3) dL_law_701 rfl rfl ?_
  refine g_iconst_3 C dL_law_702 ?_
  refine g_iadd C dL_law_703 ?_
  refine g_sld C hX (v := v3) (in_k (k := 3) hi hL (by decide)) e3 dL_law_704 ?_
  refine g_i2l C dL_law_705 ?_
  refine g_ldc2 C (v := 4294967295) (tb_in (List.mem_of_getElem? (i := 1830) (by decide +kernel)) (by decide +kernel)) dL_law_706 ?_
  refine g_land C dL_law_709 ?_
  refine g_lor C dL_law_710 ?_
  refine g_topl (fun w1 qw1 => ?_)
  refine x_callV C (ct_frameL (wX11_k_crease (D := D) (ca := ca) (o := oX) v1 w1 X Y R L S _ (pc_crease h v1 w1)) (cM ca oM I J)) (gSite.of (tb_in (List.mem_of_getElem? (i := 744) (by decide +kernel)) (by decide +kernel)) (tb_in (List.mem_of_getElem? (i := 745) (by decide +kernel)) (by decide +kernel)) (tb_in (List.mem_of_getElem? (i := 746) (by decide +kernel)) (by decide +kernel)) (tb_in (List.mem_of_getElem? (i := 78) (by decide +kernel)) (by decide +kernel)) (tb_in (List.mem_of_getElem? (i := 747) (by decide +kernel)) (by decide +kernel)) (by decide +kernel)) rcvX (rm_law0 (by decide) (by decide) (by omega) (by omega)) rfl (Nat.le_of_ble_eq_true rfl) (n := 2) (st := []) _ rfl dL_law_711 (fun v ws hv => ?_)
  obtain ⟨w, ⟨r, X1, Y1, R1, rfl, rfl, hQ⟩, rfl⟩ := hv
  refine g_eqs (st' := [.int r]) (ws' := cX ca oX X1 Y1 R1 L S ++ cM ca oM I J) rfl rfl ?_
  refine g_aload_n C (i := 2) dL_law_714 rfl rfl ?_
  refine g_aload_n C (i := 0) dL_law_715 rfl rfl ?_
  refine g_iload_n C (i := 3) dL_law_716 rfl rfl ?_
  refine g_iconst_1 C dL_law_717 ?_
  refine g_iadd C dL_law_718 ?_
  refine g_sld C hX (v := v1) (in_k (k := 1) hi hL (by decide)) e1 dL_law_719 ?_
  refine g_aload_n C (i := 0) dL_law_720 rfl rfl ?_
  refine g_iload_n C (i := 3) dL_law_721 rfl rfl ?_
  refine g_iconst_2 C dL_law_722 ?_
  refine g_iadd C dL_law_723 ?_
  refine g_sld C hX (v := v2) (in_k (k := 2) hi hL (by decide)) e2 dL_law_724 ?_
  refine g_i2l C dL_law_725 ?_
  refine g_bipush C (v := 32) dL_law_726 (by decide) ?_
  refine g_lshl C dL_law_728 ?_
  refine g_aload_n C (i := 0) dL_law_729 rfl rfl ?_
  refine g_iload_n C (i := 3) dL_law_730 rfl rfl ?_
  refine g_iconst_3 C dL_law_731 ?_
  refine g_iadd C dL_law_732 ?_
  refine g_sld C hX (v := v3) (in_k (k := 3) hi hL (by decide)) e3 dL_law_733 ?_
  refine g_i2l C dL_law_734 ?_
  refine g_ldc2 C (v := 4294967295) (tb_in (List.mem_of_getElem? (i := 1830) (by decide +kernel)) (by decide +kernel)) dL_law_735 ?_
  refine g_land C dL_law_738 ?_
  refine g_lor C dL_law_739 ?_
  refine g_topl (fun z qz => ?_)
  rw [show z = w1 from qz.trans qw1.symm]
  refine x_callV C (ct_frameR (wM_k_crease (D := D) (ca := ca) (o := oM) v1 w1 I J _ hQ) (cX ca oX X1 Y1 R1 L S)) (gSite.of (tb_in (List.mem_of_getElem? (i := 1621) (by decide +kernel)) (by decide +kernel)) (tb_in (List.mem_of_getElem? (i := 1622) (by decide +kernel)) (by decide +kernel)) (tb_in (List.mem_of_getElem? (i := 1623) (by decide +kernel)) (by decide +kernel)) (tb_in (List.mem_of_getElem? (i := 87) (by decide +kernel)) (by decide +kernel)) (tb_in (List.mem_of_getElem? (i := 1624) (by decide +kernel)) (by decide +kernel)) (by decide +kernel)) rcvM (rm_law0 (by decide) (by decide) (by omega) (by omega)) rfl (Nat.le_of_ble_eq_true rfl) (n := 2) (st := [.int r]) _ rfl dL_law_740 (fun v ws hv => ?_)
  obtain ⟨w, ⟨r2, I1, J1, rfl, rfl, er, n1, T1, h1⟩, rfl⟩ := hv
  refine g_eqs (st' := [.int r2, .int r]) (ws' := cX ca oX X1 Y1 R1 L S ++ cM ca oM I1 J1) rfl rfl ?_
  exact g_icmp_eq C 1716 dL_law_743 rfl (fun _ => g_wide (by omega) (by omega) (kk _ _ _ _ _ _ _ _ _ h1)) (fun e => absurd er e)
set_option maxRecDepth 100000 in
theorem lw_c14 {Γ : gT} {D : gD} {ca : Nat → ClassId} {oX oM : Nat → Nat} {b Ls : Nat} {xs : Nat → Int32} {Post : Option Value → va_W → Prop} {n : Nat} {T : Nat → gP} {I X : gI} {J Y : gJ} {R : gR} {L : List Nat} {S : gS} (h : Rl n T I J X Y R L S) (C : Cx Γ cL_law RL 4 D (tyW ca) room_1 (some .boolean) 600000 7302250 Post) (hX : LX Γ b Ls xs) {i : Nat} (hi : i + 7 ≤ Ls) (hL : Ls ≤ 3584) {cn sn : Nat} (hc : cn + 161 ≤ 600000) (hs : sn + 966 ≤ 7302250) (kk : lwK Γ ca oX oM b i cn sn) : G Γ cn sn 748 (lwL oX oM b i) [] (cX ca oX X Y R L S ++ cM ca oM I J) := by
  obtain ⟨v1, e1⟩ : ∃ v, xs (nI i + nI 1).toNatClampNeg = v := ⟨_, rfl⟩
  obtain ⟨v2, e2⟩ : ∃ v, xs (nI i + nI 2).toNatClampNeg = v := ⟨_, rfl⟩
  obtain ⟨v3, e3⟩ : ∃ v, xs (nI i + nI 3).toNatClampNeg = v := ⟨_, rfl⟩
  refine g_aload_n C (i := 1) dL_law_748 rfl rfl ?_
  refine g_aload_n C (i := 0) dL_law_749 rfl rfl ?_
  refine g_iload_n C (i := 3) dL_law_750 rfl rfl ?_
  refine g_iconst_1 C dL_law_751 ?_
  refine g_iadd C dL_law_752 ?_
  refine g_sld C hX (v := v1) (in_k (k := 1) hi hL (by decide)) e1 dL_law_753 ?_
  refine g_aload_n C (i := 0) dL_law_754 rfl rfl ?_
  refine g_iload_n C (i := 3) dL_law_755 rfl rfl ?_
  refine g_iconst_2 C dL_law_756 ?_
  refine g_iadd C dL_law_757 ?_
  refine g_sld C hX (v := v2) (in_k (k := 2) hi hL (by decide)) e2 dL_law_758 ?_
  refine g_i2l C dL_law_759 ?_
  refine g_bipush C (v := 32) dL_law_760 (by decide) ?_
  refine g_lshl C dL_law_762 ?_
  refine g_aload_n C (i := 0) dL_law_763 rfl rfl ?_
  refine g_iload_n C (i := 3) dL_law_764 rfl rfl ?_
  refine g_iconst_3 C dL_law_765 ?_
  refine g_iadd C dL_law_766 ?_
  refine g_sld C hX (v := v3) (in_k (k := 3) hi hL (by decide)) e3 dL_law_767 ?_
  refine g_i2l C dL_law_768 ?_
  refine g_ldc2 C (v := 4294967295) (tb_in (List.mem_of_getElem? (i := 1830) (by decide +kernel)) (by decide +kernel)) dL_law_769 ?_
  refine g_land C dL_law_772 ?_
  refine g_lor C dL_law_773 ?_
  refine g_topl (fun w1 qw1 => ?_)
  refine x_callV C (ct_frameL (wX11_k_way (D := D) (ca := ca) (o := oX) v1 w1 X Y R L S _ (pc_way h v1 w1)) (cM ca oM I J)) (gSite.of (tb_in (List.mem_of_getElem? (i := 748) (by decide +kernel)) (by decide +kernel)) (tb_in (List.mem_of_getElem? (i := 749) (by decide +kernel)) (by decide +kernel)) (tb_in (List.mem_of_getElem? (i := 750) (by decide +kernel)) (by decide +kernel)) (tb_in (List.mem_of_getElem? (i := 78) (by decide +kernel)) (by decide +kernel)) (tb_in (List.mem_of_getElem? (i := 751) (by decide +kernel)) (by decide +kernel)) (by decide +kernel)) rcvX (rm_law0 (by decide) (by decide) (by omega) (by omega)) rfl (Nat.le_of_ble_eq_true rfl) (n := 2) (st := []) _ rfl dL_law_774 (fun v ws hv => ?_)
  obtain ⟨w, ⟨r, X1, Y1, R1, rfl, rfl, hQ⟩, rfl⟩ := hv
  refine g_eqs (st' := [.int r]) (ws' := cX ca oX X1 Y1 R1 L S ++ cM ca oM I J) rfl rfl ?_
  refine g_aload_n C (i := 2) dL_law_777 rfl rfl ?_
  refine g_aload_n C (i := 0) dL_law_778 rfl rfl ?_
  refine g_iload_n C (i := 3) dL_law_779 rfl rfl ?_
  refine g_iconst_1 C dL_law_780 ?_
  refine g_iadd C dL_law_781 ?_
  refine g_sld C hX (v := v1) (in_k (k := 1) hi hL (by decide)) e1 dL_law_782 ?_
  refine g_aload_n C (i := 0) dL_law_783 rfl rfl ?_
  refine g_iload_n C (i := 3) dL_law_784 rfl rfl ?_
  refine g_iconst_2 C dL_law_785 ?_
  refine g_iadd C dL_law_786 ?_
  refine g_sld C hX (v := v2) (in_k (k := 2) hi hL (by decide)) e2 dL_law_787 ?_
  refine g_i2l C dL_law_788 ?_
  refine g_bipush C (v := 32) dL_law_789 (by decide) ?_
  refine g_lshl C dL_law_791 ?_
  refine g_aload_n C (i := 0) dL_law_792 rfl rfl ?_
  refine g_iload_n C (i := 3) dL_law_793 rfl rfl ?_
  refine g_iconst_3 C dL_law_794 ?_
  refine g_iadd C dL_law_795 ?_
  refine g_sld C hX (v := v3) (in_k (k := 3) hi hL (by decide)) e3 dL_law_796 ?_
  refine g_i2l C dL_law_797 ?_
  refine g_ldc2 C (v := 4294967295) (tb_in (List.mem_of_getElem? (i := 1830) (by decide +kernel)) (by decide +kernel)) dL_law_798 ?_
  refine g_land C dL_law_801 ?_
  refine g_lor C dL_law_802 ?_
  refine g_topl (fun z qz => ?_)
  rw [show z = w1 from qz.trans qw1.symm]
  refine x_callV C (ct_frameR (wM_k_way (D := D) (ca := ca) (o := oM) v1 w1 I J _ hQ) (cX ca oX X1 Y1 R1 L S)) (gSite.of (tb_in (List.mem_of_getElem? (i := 1625) (by decide +kernel)) (by decide +kernel)) (tb_in (List.mem_of_getElem? (i := 1626) (by decide +kernel)) (by decide +kernel)) (tb_in (List.mem_of_getElem? (i := 1627) (by decide +kernel)) (by decide +kernel)) (tb_in (List.mem_of_getElem? (i := 87) (by decide +kernel)) (by decide +kernel)) (tb_in (List.mem_of_getElem? (i := 1628) (by decide +kernel)) (by decide +kernel)) (by decide +kernel)) rcvM (rm_law0 (by decide) (by decide) (by omega) (by omega)) rfl (Nat.le_of_ble_eq_true rfl) (n := 2) (st := [.int r]) _ rfl dL_law_803 (fun v ws hv => ?_)
  obtain ⟨w, ⟨r2, I1, J1, rfl, rfl, er, n1, T1, h1⟩, rfl⟩ := hv
  refine g_eqs (st' := [.int r2, .int r]) (ws' := cX ca oX X1 Y1 R1 L S ++ cM ca oM I1 J1) rfl rfl ?_
  exact g_icmp_eq C 1716 dL_law_806 rfl (fun _ => g_wide (by omega) (by omega) (kk _ _ _ _ _ _ _ _ _ h1)) (fun e => absurd er e)
set_option maxRecDepth 100000 in
theorem lw_c15 {Γ : gT} {D : gD} {ca : Nat → ClassId} {oX oM : Nat → Nat} {b Ls : Nat} {xs : Nat → Int32} {Post : Option Value → va_W → Prop} {n : Nat} {T : Nat → gP} {I X : gI} {J Y : gJ} {R : gR} {L : List Nat} {S : gS} (h : Rl n T I J X Y R L S) (C : Cx Γ cL_law RL 4 D (tyW ca) room_1 (some .boolean) 600000 7302250 Post) (hX : LX Γ b Ls xs) {i : Nat} (hi : i + 7 ≤ Ls) (hL : Ls ≤ 3584) {cn sn : Nat} (hc : cn + 161 ≤ 600000) (hs : sn + 966 ≤ 7302250) (kk : lwK Γ ca oX oM b i cn sn) : G Γ cn sn 811 (lwL oX oM b i) [] (cX ca oX X Y R L S ++ cM ca oM I J) := by
  obtain ⟨v1, e1⟩ : ∃ v, xs (nI i + nI 1).toNatClampNeg = v := ⟨_, rfl⟩
  obtain ⟨v2, e2⟩ : ∃ v, xs (nI i + nI 2).toNatClampNeg = v := ⟨_, rfl⟩
  obtain ⟨v3, e3⟩ : ∃ v, xs (nI i + nI 3).toNatClampNeg = v := ⟨_, rfl⟩
  obtain ⟨v4, e4⟩ : ∃ v, xs (nI i + nI 4).toNatClampNeg = v := ⟨_, rfl⟩
  refine g_aload_n C (i := 1) dL_law_811 rfl rfl ?_
  refine g_aload_n C (i := 0) dL_law_812 rfl rfl ?_
  refine g_iload_n C (i := 3) dL_law_813 rfl rfl ?_
  refine g_iconst_1 C dL_law_814 ?_
  refine g_iadd C dL_law_815 ?_
  refine g_sld C hX (v := v1) (in_k (k := 1) hi hL (by decide)) e1 dL_law_816 ?_
  refine g_aload_n C (i := 0) dL_law_817 rfl rfl ?_
  refine g_iload_n C (i := 3) dL_law_818 rfl rfl ?_
  refine g_iconst_2 C dL_law_819 ?_
  refine g_iadd C dL_law_820 ?_
  refine g_sld C hX (v := v2) (in_k (k := 2) hi hL (by decide)) e2 dL_law_821 ?_
  refine g_i2l C dL_law_822 ?_
  refine g_bipush C (v := 32) dL_law_823 (by decide) ?_
  refine g_lshl C dL_law_825 ?_
  refine g_aload_n C (i := 0) dL_law_826 rfl rfl ?_
  refine g_iload_n C (i := 3) dL_law_827 rfl rfl ?_
  refine g_iconst_3 C dL_law_828 ?_
  refine g_iadd C dL_law_829 ?_
  refine g_sld C hX (v := v3) (in_k (k := 3) hi hL (by decide)) e3 dL_law_830 ?_
  refine g_i2l C dL_law_831 ?_
  refine g_ldc2 C (v := 4294967295) (tb_in (List.mem_of_getElem? (i := 1830) (by decide +kernel)) (by decide +kernel)) dL_law_832 ?_
  refine g_land C dL_law_835 ?_
  refine g_lor C dL_law_836 ?_
  refine g_topl (fun w1 qw1 => ?_)
  refine g_aload_n C (i := 0) dL_law_837 rfl rfl ?_
  refine g_iload_n C (i := 3) dL_law_838 rfl rfl ?_
  refine g_iconst_4 C dL_law_839 ?_
  refine g_iadd C dL_law_840 ?_
  refine g_sld C hX (v := v4) (in_k (k := 4) hi hL (by decide)) e4 dL_law_841 ?_
  refine x_callV C (ct_frameL (wX11_k_place (D := D) (ca := ca) (o := oX) v1 w1 v4 X Y R L S _ (pc_place h v1 w1 v4)) (cM ca oM I J)) (gSite.of (tb_in (List.mem_of_getElem? (i := 801) (by decide +kernel)) (by decide +kernel)) (tb_in (List.mem_of_getElem? (i := 802) (by decide +kernel)) (by decide +kernel)) (tb_in (List.mem_of_getElem? (i := 803) (by decide +kernel)) (by decide +kernel)) (tb_in (List.mem_of_getElem? (i := 78) (by decide +kernel)) (by decide +kernel)) (tb_in (List.mem_of_getElem? (i := 804) (by decide +kernel)) (by decide +kernel)) (by decide +kernel)) rcvX (rm_law0 (by decide) (by decide) (by omega) (by omega)) rfl (Nat.le_of_ble_eq_true rfl) (n := 3) (st := []) _ rfl dL_law_842 (fun v ws hv => ?_)
  obtain ⟨w, ⟨r, X1, Y1, R1, rfl, rfl, hQ⟩, rfl⟩ := hv
  refine g_eqs (st' := [.long r]) (ws' := cX ca oX X1 Y1 R1 L S ++ cM ca oM I J) rfl rfl ?_
  refine g_aload_n C (i := 2) dL_law_845 rfl rfl ?_
  refine g_aload_n C (i := 0) dL_law_846 rfl rfl ?_
  refine g_iload_n C (i := 3) dL_law_847 rfl rfl ?_
  refine g_iconst_1 C dL_law_848 ?_
  refine g_iadd C dL_law_849 ?_
  refine g_sld C hX (v := v1) (in_k (k := 1) hi hL (by decide)) e1 dL_law_850 ?_
  refine g_aload_n C (i := 0) dL_law_851 rfl rfl ?_
  refine g_iload_n C (i := 3) dL_law_852 rfl rfl ?_
  refine g_iconst_2 C dL_law_853 ?_
  refine g_iadd C dL_law_854 ?_
  refine g_sld C hX (v := v2) (in_k (k := 2) hi hL (by decide)) e2 dL_law_855 ?_
  refine g_i2l C dL_law_856 ?_
  refine g_bipush C (v := 32) dL_law_857 (by decide) ?_
  refine g_lshl C dL_law_859 ?_
  refine g_aload_n C (i := 0) dL_law_860 rfl rfl ?_
  refine g_iload_n C (i := 3) dL_law_861 rfl rfl ?_
  refine g_iconst_3 C dL_law_862 ?_
  refine g_iadd C dL_law_863 ?_
  refine g_sld C hX (v := v3) (in_k (k := 3) hi hL (by decide)) e3 dL_law_864 ?_
  refine g_i2l C dL_law_865 ?_
  refine g_ldc2 C (v := 4294967295) (tb_in (List.mem_of_getElem? (i := 1830) (by decide +kernel)) (by decide +kernel)) dL_law_866 ?_
  refine g_land C dL_law_869 ?_
  refine g_lor C dL_law_870 ?_
  refine g_topl (fun z qz => ?_)
  rw [show z = w1 from qz.trans qw1.symm]
  refine g_aload_n C (i := 0) dL_law_871 rfl rfl ?_
  refine g_iload_n C (i := 3) dL_law_872 rfl rfl ?_
  refine g_iconst_4 C dL_law_873 ?_
  refine g_iadd C dL_law_874 ?_
  refine g_sld C hX (v := v4) (in_k (k := 4) hi hL (by decide)) e4 dL_law_875 ?_
  refine x_callV C (ct_frameR (wM_k_place (D := D) (ca := ca) (o := oM) v1 w1 v4 I J _ hQ) (cX ca oX X1 Y1 R1 L S)) (gSite.of (tb_in (List.mem_of_getElem? (i := 1638) (by decide +kernel)) (by decide +kernel)) (tb_in (List.mem_of_getElem? (i := 1639) (by decide +kernel)) (by decide +kernel)) (tb_in (List.mem_of_getElem? (i := 1640) (by decide +kernel)) (by decide +kernel)) (tb_in (List.mem_of_getElem? (i := 87) (by decide +kernel)) (by decide +kernel)) (tb_in (List.mem_of_getElem? (i := 1641) (by decide +kernel)) (by decide +kernel)) (by decide +kernel)) rcvM (rm_law0 (by decide) (by decide) (by omega) (by omega)) rfl (Nat.le_of_ble_eq_true rfl) (n := 3) (st := [.long r]) _ rfl dL_law_876 (fun v ws hv => ?_)
  obtain ⟨w, ⟨r2, I1, J1, rfl, rfl, er, n1, T1, h1⟩, rfl⟩ := hv
  refine g_eqs (st' := [.long r2, .long r]) (ws' := cX ca oX X1 Y1 R1 L S ++ cM ca oM I1 J1) rfl rfl ?_
  exact g_leq C 1716 dL_law_879 dL_law_880 rfl (fun _ => g_wide (by omega) (by omega) (kk _ _ _ _ _ _ _ _ _ h1)) (fun e => absurd er e)
set_option maxRecDepth 100000 in
theorem lw_c16 {Γ : gT} {D : gD} {ca : Nat → ClassId} {oX oM : Nat → Nat} {b Ls : Nat} {xs : Nat → Int32} {Post : Option Value → va_W → Prop} {n : Nat} {T : Nat → gP} {I X : gI} {J Y : gJ} {R : gR} {L : List Nat} {S : gS} (h : Rl n T I J X Y R L S) (C : Cx Γ cL_law RL 4 D (tyW ca) room_1 (some .boolean) 600000 7302250 Post) (hX : LX Γ b Ls xs) {i : Nat} (hi : i + 7 ≤ Ls) (hL : Ls ≤ 3584) {cn sn : Nat} (hc : cn + 161 ≤ 600000) (hs : sn + 966 ≤ 7302250) (kk : lwK Γ ca oX oM b i cn sn) : G Γ cn sn 885 (lwL oX oM b i) [] (cX ca oX X Y R L S ++ cM ca oM I J) := by
  obtain ⟨v1, e1⟩ : ∃ v, xs (nI i + nI 1).toNatClampNeg = v := ⟨_, rfl⟩
  obtain ⟨v2, e2⟩ : ∃ v, xs (nI i + nI 2).toNatClampNeg = v := ⟨_, rfl⟩
  obtain ⟨v3, e3⟩ : ∃ v, xs (nI i + nI 3).toNatClampNeg = v := ⟨_, rfl⟩
  obtain ⟨v4, e4⟩ : ∃ v, xs (nI i + nI 4).toNatClampNeg = v := ⟨_, rfl⟩
  refine g_aload_n C (i := 1) dL_law_885 rfl rfl ?_
  refine g_aload_n C (i := 0) dL_law_886 rfl rfl ?_
  refine g_iload_n C (i := 3) dL_law_887 rfl rfl ?_
  refine g_iconst_1 C dL_law_888 ?_
  refine g_iadd C dL_law_889 ?_
  refine g_sld C hX (v := v1) (in_k (k := 1) hi hL (by decide)) e1 dL_law_890 ?_
  refine g_aload_n C (i := 0) dL_law_891 rfl rfl ?_
  refine g_iload_n C (i := 3) dL_law_892 rfl rfl ?_
  refine g_iconst_2 C dL_law_893 ?_
  refine g_iadd C dL_law_894 ?_
  refine g_sld C hX (v := v2) (in_k (k := 2) hi hL (by decide)) e2 dL_law_895 ?_
  refine g_aload_n C (i := 0) dL_law_896 rfl rfl ?_
  refine g_iload_n C (i := 3) dL_law_897 rfl rfl ?_
  refine g_iconst_3 C dL_law_898 ?_
  refine g_iadd C dL_law_899 ?_
  refine g_sld C hX (v := v3) (in_k (k := 3) hi hL (by decide)) e3 dL_law_900 ?_
  refine g_aload_n C (i := 0) dL_law_901 rfl rfl ?_
  refine g_iload_n C (i := 3) dL_law_902 rfl rfl ?_
  refine g_iconst_4 C dL_law_903 ?_
  refine g_iadd C dL_law_904 ?_
  refine g_sld C hX (v := v4) (in_k (k := 4) hi hL (by decide)) e4 dL_law_905 ?_
  refine x_callV C (ct_frameL (wX11_k_passed (D := D) (ca := ca) (o := oX) v1 v2 v3 v4 X Y R L S _ (pc_passed h v1 v2 v3 v4)) (cM ca oM I J)) (gSite.of (tb_in (List.mem_of_getElem? (i := 868) (by decide +kernel)) (by decide +kernel)) (tb_in (List.mem_of_getElem? (i := 869) (by decide +kernel)) (by decide +kernel)) (tb_in (List.mem_of_getElem? (i := 870) (by decide +kernel)) (by decide +kernel)) (tb_in (List.mem_of_getElem? (i := 78) (by decide +kernel)) (by decide +kernel)) (tb_in (List.mem_of_getElem? (i := 871) (by decide +kernel)) (by decide +kernel)) (by decide +kernel)) rcvX (rm_law0 (by decide) (by decide) (by omega) (by omega)) rfl (Nat.le_of_ble_eq_true rfl) (n := 4) (st := []) _ rfl dL_law_906 (fun v ws hv => ?_)
  obtain ⟨w, ⟨r, X1, Y1, R1, rfl, rfl, hQ⟩, rfl⟩ := hv
  refine g_eqs (st' := [.int r]) (ws' := cX ca oX X1 Y1 R1 L S ++ cM ca oM I J) rfl rfl ?_
  refine g_aload_n C (i := 2) dL_law_909 rfl rfl ?_
  refine g_aload_n C (i := 0) dL_law_910 rfl rfl ?_
  refine g_iload_n C (i := 3) dL_law_911 rfl rfl ?_
  refine g_iconst_1 C dL_law_912 ?_
  refine g_iadd C dL_law_913 ?_
  refine g_sld C hX (v := v1) (in_k (k := 1) hi hL (by decide)) e1 dL_law_914 ?_
  refine g_aload_n C (i := 0) dL_law_915 rfl rfl ?_
  refine g_iload_n C (i := 3) dL_law_916 rfl rfl ?_
  refine g_iconst_2 C dL_law_917 ?_
  refine g_iadd C dL_law_918 ?_
  refine g_sld C hX (v := v2) (in_k (k := 2) hi hL (by decide)) e2 dL_law_919 ?_
  refine g_aload_n C (i := 0) dL_law_920 rfl rfl ?_
  refine g_iload_n C (i := 3) dL_law_921 rfl rfl ?_
  refine g_iconst_3 C dL_law_922 ?_
  refine g_iadd C dL_law_923 ?_
  refine g_sld C hX (v := v3) (in_k (k := 3) hi hL (by decide)) e3 dL_law_924 ?_
  refine g_aload_n C (i := 0) dL_law_925 rfl rfl ?_
  refine g_iload_n C (i := 3) dL_law_926 rfl rfl ?_
  refine g_iconst_4 C dL_law_927 ?_
  refine g_iadd C dL_law_928 ?_
  refine g_sld C hX (v := v4) (in_k (k := 4) hi hL (by decide)) e4 dL_law_929 ?_
  refine x_callV C (ct_frameR (wM_k_passed (D := D) (ca := ca) (o := oM) v1 v2 v3 v4 I J _ hQ) (cX ca oX X1 Y1 R1 L S)) (gSite.of (tb_in (List.mem_of_getElem? (i := 1664) (by decide +kernel)) (by decide +kernel)) (tb_in (List.mem_of_getElem? (i := 1665) (by decide +kernel)) (by decide +kernel)) (tb_in (List.mem_of_getElem? (i := 1666) (by decide +kernel)) (by decide +kernel)) (tb_in (List.mem_of_getElem? (i := 87) (by decide +kernel)) (by decide +kernel)) (tb_in (List.mem_of_getElem? (i := 1667) (by decide +kernel)) (by decide +kernel)) (by decide +kernel)) rcvM (rm_law0 (by decide) (by decide) (by omega) (by omega)) rfl (Nat.le_of_ble_eq_true rfl) (n := 4) (st := [.int r]) _ rfl dL_law_930 (fun v ws hv => ?_)
  obtain ⟨w, ⟨r2, I1, J1, rfl, rfl, er, n1, T1, h1⟩, rfl⟩ := hv
  refine g_eqs (st' := [.int r2, .int r]) (ws' := cX ca oX X1 Y1 R1 L S ++ cM ca oM I1 J1) rfl rfl ?_
  exact g_icmp_eq C 1716 dL_law_933 rfl (fun _ => g_wide (by omega) (by omega) (kk _ _ _ _ _ _ _ _ _ h1)) (fun e => absurd er e)
set_option maxRecDepth 100000 in
theorem lw_c17 {Γ : gT} {D : gD} {ca : Nat → ClassId} {oX oM : Nat → Nat} {b Ls : Nat} {xs : Nat → Int32} {Post : Option Value → va_W → Prop} {n : Nat} {T : Nat → gP} {I X : gI} {J Y : gJ} {R : gR} {L : List Nat} {S : gS} (h : Rl n T I J X Y R L S) (C : Cx Γ cL_law RL 4 D (tyW ca) room_1 (some .boolean) 600000 7302250 Post) (hX : LX Γ b Ls xs) {i : Nat} (hi : i + 7 ≤ Ls) (hL : Ls ≤ 3584) {cn sn : Nat} (hc : cn + 161 ≤ 600000) (hs : sn + 966 ≤ 7302250) (kk : lwK Γ ca oX oM b i cn sn) : G Γ cn sn 938 (lwL oX oM b i) [] (cX ca oX X Y R L S ++ cM ca oM I J) := by
  obtain ⟨v1, e1⟩ : ∃ v, xs (nI i + nI 1).toNatClampNeg = v := ⟨_, rfl⟩
  obtain ⟨v2, e2⟩ : ∃ v, xs (nI i + nI 2).toNatClampNeg = v := ⟨_, rfl⟩
  refine g_aload_n C (i := 1) dL_law_938 rfl rfl ?_
  refine g_aload_n C (i := 0) dL_law_939 rfl rfl ?_
  refine g_iload_n C (i := 3) dL_law_940 rfl rfl ?_
  refine g_iconst_1 C dL_law_941 ?_
  refine g_iadd C dL_law_942 ?_
  refine g_sld C hX (v := v1) (in_k (k := 1) hi hL (by decide)) e1 dL_law_943 ?_
  refine g_aload_n C (i := 0) dL_law_944 rfl rfl ?_
  refine g_iload_n C (i := 3) dL_law_945 rfl rfl ?_
  refine g_iconst_2 C dL_law_946 ?_
  refine g_iadd C dL_law_947 ?_
  refine g_sld C hX (v := v2) (in_k (k := 2) hi hL (by decide)) e2 dL_law_948 ?_
  refine x_callV C (ct_frameL (wX11_k_most (D := D) (ca := ca) (o := oX) v1 v2 X Y R L S _ (pc_most h v1 v2)) (cM ca oM I J)) (gSite.of (tb_in (List.mem_of_getElem? (i := 882) (by decide +kernel)) (by decide +kernel)) (tb_in (List.mem_of_getElem? (i := 883) (by decide +kernel)) (by decide +kernel)) (tb_in (List.mem_of_getElem? (i := 884) (by decide +kernel)) (by decide +kernel)) (tb_in (List.mem_of_getElem? (i := 78) (by decide +kernel)) (by decide +kernel)) (tb_in (List.mem_of_getElem? (i := 885) (by decide +kernel)) (by decide +kernel)) (by decide +kernel)) rcvX (rm_law0 (by decide) (by decide) (by omega) (by omega)) rfl (Nat.le_of_ble_eq_true rfl) (n := 2) (st := []) _ rfl dL_law_949 (fun v ws hv => ?_)
  obtain ⟨w, ⟨r, X1, Y1, R1, rfl, rfl, hQ⟩, rfl⟩ := hv
  refine g_eqs (st' := [.int r]) (ws' := cX ca oX X1 Y1 R1 L S ++ cM ca oM I J) rfl rfl ?_
  refine g_aload_n C (i := 2) dL_law_952 rfl rfl ?_
  refine g_aload_n C (i := 0) dL_law_953 rfl rfl ?_
  refine g_iload_n C (i := 3) dL_law_954 rfl rfl ?_
  refine g_iconst_1 C dL_law_955 ?_
  refine g_iadd C dL_law_956 ?_
  refine g_sld C hX (v := v1) (in_k (k := 1) hi hL (by decide)) e1 dL_law_957 ?_
  refine g_aload_n C (i := 0) dL_law_958 rfl rfl ?_
  refine g_iload_n C (i := 3) dL_law_959 rfl rfl ?_
  refine g_iconst_2 C dL_law_960 ?_
  refine g_iadd C dL_law_961 ?_
  refine g_sld C hX (v := v2) (in_k (k := 2) hi hL (by decide)) e2 dL_law_962 ?_
  refine x_callV C (ct_frameR (wM_k_most (D := D) (ca := ca) (o := oM) v1 v2 I J _ hQ) (cX ca oX X1 Y1 R1 L S)) (gSite.of (tb_in (List.mem_of_getElem? (i := 1676) (by decide +kernel)) (by decide +kernel)) (tb_in (List.mem_of_getElem? (i := 1677) (by decide +kernel)) (by decide +kernel)) (tb_in (List.mem_of_getElem? (i := 1678) (by decide +kernel)) (by decide +kernel)) (tb_in (List.mem_of_getElem? (i := 87) (by decide +kernel)) (by decide +kernel)) (tb_in (List.mem_of_getElem? (i := 1679) (by decide +kernel)) (by decide +kernel)) (by decide +kernel)) rcvM (rm_law0 (by decide) (by decide) (by omega) (by omega)) rfl (Nat.le_of_ble_eq_true rfl) (n := 2) (st := [.int r]) _ rfl dL_law_963 (fun v ws hv => ?_)
  obtain ⟨w, ⟨r2, I1, J1, rfl, rfl, er, n1, T1, h1⟩, rfl⟩ := hv
  refine g_eqs (st' := [.int r2, .int r]) (ws' := cX ca oX X1 Y1 R1 L S ++ cM ca oM I1 J1) rfl rfl ?_
  exact g_icmp_eq C 1716 dL_law_966 rfl (fun _ => g_wide (by omega) (by omega) (kk _ _ _ _ _ _ _ _ _ h1)) (fun e => absurd er e)
set_option maxRecDepth 100000 in
theorem lw_c18 {Γ : gT} {D : gD} {ca : Nat → ClassId} {oX oM : Nat → Nat} {b Ls : Nat} {xs : Nat → Int32} {Post : Option Value → va_W → Prop} {n : Nat} {T : Nat → gP} {I X : gI} {J Y : gJ} {R : gR} {L : List Nat} {S : gS} (h : Rl n T I J X Y R L S) (C : Cx Γ cL_law RL 4 D (tyW ca) room_1 (some .boolean) 600000 7302250 Post) (hX : LX Γ b Ls xs) {i : Nat} (hi : i + 7 ≤ Ls) (hL : Ls ≤ 3584) {cn sn : Nat} (hc : cn + 161 ≤ 600000) (hs : sn + 966 ≤ 7302250) (kk : lwK Γ ca oX oM b i cn sn) : G Γ cn sn 971 (lwL oX oM b i) [] (cX ca oX X Y R L S ++ cM ca oM I J) := by
  obtain ⟨v1, e1⟩ : ∃ v, xs (nI i + nI 1).toNatClampNeg = v := ⟨_, rfl⟩
  obtain ⟨v2, e2⟩ : ∃ v, xs (nI i + nI 2).toNatClampNeg = v := ⟨_, rfl⟩
  refine g_aload_n C (i := 1) dL_law_971 rfl rfl ?_
  refine g_aload_n C (i := 0) dL_law_972 rfl rfl ?_
  refine g_iload_n C (i := 3) dL_law_973 rfl rfl ?_
  refine g_iconst_1 C dL_law_974 ?_
  refine g_iadd C dL_law_975 ?_
  refine g_sld C hX (v := v1) (in_k (k := 1) hi hL (by decide)) e1 dL_law_976 ?_
  refine g_aload_n C (i := 0) dL_law_977 rfl rfl ?_
  refine g_iload_n C (i := 3) dL_law_978 rfl rfl ?_
  refine g_iconst_2 C dL_law_979 ?_
  refine g_iadd C dL_law_980 ?_
  refine g_sld C hX (v := v2) (in_k (k := 2) hi hL (by decide)) e2 dL_law_981 ?_
  refine x_callV C (ct_frameL (wX11_k_twice (D := D) (ca := ca) (o := oX) v1 v2 X Y R L S _ (pc_twice h v1 v2)) (cM ca oM I J)) (gSite.of (tb_in (List.mem_of_getElem? (i := 912) (by decide +kernel)) (by decide +kernel)) (tb_in (List.mem_of_getElem? (i := 913) (by decide +kernel)) (by decide +kernel)) (tb_in (List.mem_of_getElem? (i := 914) (by decide +kernel)) (by decide +kernel)) (tb_in (List.mem_of_getElem? (i := 78) (by decide +kernel)) (by decide +kernel)) (tb_in (List.mem_of_getElem? (i := 915) (by decide +kernel)) (by decide +kernel)) (by decide +kernel)) rcvX (rm_law0 (by decide) (by decide) (by omega) (by omega)) rfl (Nat.le_of_ble_eq_true rfl) (n := 2) (st := []) _ rfl dL_law_982 (fun v ws hv => ?_)
  obtain ⟨w, ⟨r, X1, Y1, R1, rfl, rfl, hQ⟩, rfl⟩ := hv
  refine g_eqs (st' := [.int r]) (ws' := cX ca oX X1 Y1 R1 L S ++ cM ca oM I J) rfl rfl ?_
  refine g_aload_n C (i := 2) dL_law_985 rfl rfl ?_
  refine g_aload_n C (i := 0) dL_law_986 rfl rfl ?_
  refine g_iload_n C (i := 3) dL_law_987 rfl rfl ?_
  refine g_iconst_1 C dL_law_988 ?_
  refine g_iadd C dL_law_989 ?_
  refine g_sld C hX (v := v1) (in_k (k := 1) hi hL (by decide)) e1 dL_law_990 ?_
  refine g_aload_n C (i := 0) dL_law_991 rfl rfl ?_
  refine g_iload_n C (i := 3) dL_law_992 rfl rfl ?_
  refine g_iconst_2 C dL_law_993 ?_
  refine g_iadd C dL_law_994 ?_
  refine g_sld C hX (v := v2) (in_k (k := 2) hi hL (by decide)) e2 dL_law_995 ?_
  refine x_callV C (ct_frameR (wM_k_twice (D := D) (ca := ca) (o := oM) v1 v2 I J _ hQ) (cX ca oX X1 Y1 R1 L S)) (gSite.of (tb_in (List.mem_of_getElem? (i := 1689) (by decide +kernel)) (by decide +kernel)) (tb_in (List.mem_of_getElem? (i := 1690) (by decide +kernel)) (by decide +kernel)) (tb_in (List.mem_of_getElem? (i := 1691) (by decide +kernel)) (by decide +kernel)) (tb_in (List.mem_of_getElem? (i := 87) (by decide +kernel)) (by decide +kernel)) (tb_in (List.mem_of_getElem? (i := 1692) (by decide +kernel)) (by decide +kernel)) (by decide +kernel)) rcvM (rm_law0 (by decide) (by decide) (by omega) (by omega)) rfl (Nat.le_of_ble_eq_true rfl) (n := 2) (st := [.int r]) _ rfl dL_law_996 (fun v ws hv => ?_)
  obtain ⟨w, ⟨r2, I1, J1, rfl, rfl, er, n1, T1, h1⟩, rfl⟩ := hv
  refine g_eqs (st' := [.int r2, .int r]) (ws' := cX ca oX X1 Y1 R1 L S ++ cM ca oM I1 J1) rfl rfl ?_
  exact g_icmp_eq C 1716 dL_law_999 rfl (fun _ => g_wide (by omega) (by omega) (kk _ _ _ _ _ _ _ _ _ h1)) (fun e => absurd er e)
set_option maxRecDepth 100000 in
theorem lw_c19 {Γ : gT} {D : gD} {ca : Nat → ClassId} {oX oM : Nat → Nat} {b Ls : Nat} {xs : Nat → Int32} {Post : Option Value → va_W → Prop} {n : Nat} {T : Nat → gP} {I X : gI} {J Y : gJ} {R : gR} {L : List Nat} {S : gS} (h : Rl n T I J X Y R L S) (C : Cx Γ cL_law RL 4 D (tyW ca) room_1 (some .boolean) 600000 7302250 Post) (hX : LX Γ b Ls xs) {i : Nat} (hi : i + 7 ≤ Ls) (hL : Ls ≤ 3584) {cn sn : Nat} (hc : cn + 161 ≤ 600000) (hs : sn + 966 ≤ 7302250) (kk : lwK Γ ca oX oM b i cn sn) : G Γ cn sn 1004 (lwL oX oM b i) [] (cX ca oX X Y R L S ++ cM ca oM I J) := by
  obtain ⟨v1, e1⟩ : ∃ v, xs (nI i + nI 1).toNatClampNeg = v := ⟨_, rfl⟩
  obtain ⟨v2, e2⟩ : ∃ v, xs (nI i + nI 2).toNatClampNeg = v := ⟨_, rfl⟩
  refine g_aload_n C (i := 1) dL_law_1004 rfl rfl ?_
  refine g_aload_n C (i := 0) dL_law_1005 rfl rfl ?_
  refine g_iload_n C (i := 3) dL_law_1006 rfl rfl ?_
  refine g_iconst_1 C dL_law_1007 ?_
  refine g_iadd C dL_law_1008 ?_
  refine g_sld C hX (v := v1) (in_k (k := 1) hi hL (by decide)) e1 dL_law_1009 ?_
  refine g_aload_n C (i := 0) dL_law_1010 rfl rfl ?_
  refine g_iload_n C (i := 3) dL_law_1011 rfl rfl ?_
  refine g_iconst_2 C dL_law_1012 ?_
  refine g_iadd C dL_law_1013 ?_
  refine g_sld C hX (v := v2) (in_k (k := 2) hi hL (by decide)) e2 dL_law_1014 ?_
  refine x_callV C (ct_frameL (wX11_k_cover (D := D) (ca := ca) (o := oX) v1 v2 X Y R L S _ (pc_cover h v1 v2)) (cM ca oM I J)) (gSite.of (tb_in (List.mem_of_getElem? (i := 920) (by decide +kernel)) (by decide +kernel)) (tb_in (List.mem_of_getElem? (i := 921) (by decide +kernel)) (by decide +kernel)) (tb_in (List.mem_of_getElem? (i := 922) (by decide +kernel)) (by decide +kernel)) (tb_in (List.mem_of_getElem? (i := 78) (by decide +kernel)) (by decide +kernel)) (tb_in (List.mem_of_getElem? (i := 923) (by decide +kernel)) (by decide +kernel)) (by decide +kernel)) rcvX (rm_law0 (by decide) (by decide) (by omega) (by omega)) rfl (Nat.le_of_ble_eq_true rfl) (n := 2) (st := []) _ rfl dL_law_1015 (fun v ws hv => ?_)
  obtain ⟨w, ⟨r, X1, Y1, R1, rfl, rfl, hQ⟩, rfl⟩ := hv
  refine g_eqs (st' := [.int r]) (ws' := cX ca oX X1 Y1 R1 L S ++ cM ca oM I J) rfl rfl ?_
  refine g_aload_n C (i := 2) dL_law_1018 rfl rfl ?_
  refine g_aload_n C (i := 0) dL_law_1019 rfl rfl ?_
  refine g_iload_n C (i := 3) dL_law_1020 rfl rfl ?_
  refine g_iconst_1 C dL_law_1021 ?_
  refine g_iadd C dL_law_1022 ?_
  refine g_sld C hX (v := v1) (in_k (k := 1) hi hL (by decide)) e1 dL_law_1023 ?_
  refine g_aload_n C (i := 0) dL_law_1024 rfl rfl ?_
  refine g_iload_n C (i := 3) dL_law_1025 rfl rfl ?_
  refine g_iconst_2 C dL_law_1026 ?_
  refine g_iadd C dL_law_1027 ?_
  refine g_sld C hX (v := v2) (in_k (k := 2) hi hL (by decide)) e2 dL_law_1028 ?_
  refine x_callV C (ct_frameR (wM_k_cover (D := D) (ca := ca) (o := oM) v1 v2 I J _ hQ) (cX ca oX X1 Y1 R1 L S)) (gSite.of (tb_in (List.mem_of_getElem? (i := 1693) (by decide +kernel)) (by decide +kernel)) (tb_in (List.mem_of_getElem? (i := 1694) (by decide +kernel)) (by decide +kernel)) (tb_in (List.mem_of_getElem? (i := 1695) (by decide +kernel)) (by decide +kernel)) (tb_in (List.mem_of_getElem? (i := 87) (by decide +kernel)) (by decide +kernel)) (tb_in (List.mem_of_getElem? (i := 1696) (by decide +kernel)) (by decide +kernel)) (by decide +kernel)) rcvM (rm_law0 (by decide) (by decide) (by omega) (by omega)) rfl (Nat.le_of_ble_eq_true rfl) (n := 2) (st := [.int r]) _ rfl dL_law_1029 (fun v ws hv => ?_)
  obtain ⟨w, ⟨r2, I1, J1, rfl, rfl, er, n1, T1, h1⟩, rfl⟩ := hv
  refine g_eqs (st' := [.int r2, .int r]) (ws' := cX ca oX X1 Y1 R1 L S ++ cM ca oM I1 J1) rfl rfl ?_
  exact g_icmp_eq C 1716 dL_law_1032 rfl (fun _ => g_wide (by omega) (by omega) (kk _ _ _ _ _ _ _ _ _ h1)) (fun e => absurd er e)
set_option maxRecDepth 100000 in
theorem lw_c20 {Γ : gT} {D : gD} {ca : Nat → ClassId} {oX oM : Nat → Nat} {b Ls : Nat} {xs : Nat → Int32} {Post : Option Value → va_W → Prop} {n : Nat} {T : Nat → gP} {I X : gI} {J Y : gJ} {R : gR} {L : List Nat} {S : gS} (h : Rl n T I J X Y R L S) (C : Cx Γ cL_law RL 4 D (tyW ca) room_1 (some .boolean) 600000 7302250 Post) (hX : LX Γ b Ls xs) {i : Nat} (hi : i + 7 ≤ Ls) (hL : Ls ≤ 3584) {cn sn : Nat} (hc : cn + 161 ≤ 600000) (hs : sn + 966 ≤ 7302250) (kk : lwK Γ ca oX oM b i cn sn) : G Γ cn sn 1037 (lwL oX oM b i) [] (cX ca oX X Y R L S ++ cM ca oM I J) := by
  obtain ⟨v1, e1⟩ : ∃ v, xs (nI i + nI 1).toNatClampNeg = v := ⟨_, rfl⟩
  obtain ⟨v2, e2⟩ : ∃ v, xs (nI i + nI 2).toNatClampNeg = v := ⟨_, rfl⟩
  obtain ⟨v3, e3⟩ : ∃ v, xs (nI i + nI 3).toNatClampNeg = v := ⟨_, rfl⟩
  obtain ⟨v4, e4⟩ : ∃ v, xs (nI i + nI 4).toNatClampNeg = v := ⟨_, rfl⟩
  refine g_aload_n C (i := 1) dL_law_1037 rfl rfl ?_
  refine g_aload_n C (i := 0) dL_law_1038 rfl rfl ?_
  refine g_iload_n C (i := 3) dL_law_1039 rfl rfl ?_
  refine g_iconst_1 C dL_law_1040 ?_
  refine g_iadd C dL_law_1041 ?_
  refine g_sld C hX (v := v1) (in_k (k := 1) hi hL (by decide)) e1 dL_law_1042 ?_
  refine g_aload_n C (i := 0) dL_law_1043 rfl rfl ?_
  refine g_iload_n C (i := 3) dL_law_1044 rfl rfl ?_
  refine g_iconst_2 C dL_law_1045 ?_
  refine g_iadd C dL_law_1046 ?_
  refine g_sld C hX (v := v2) (in_k (k := 2) hi hL (by decide)) e2 dL_law_1047 ?_
  refine g_aload_n C (i := 0) dL_law_1048 rfl rfl ?_
  refine g_iload_n C (i := 3) dL_law_1049 rfl rfl ?_
  refine g_iconst_3 C dL_law_1050 ?_
  refine g_iadd C dL_law_1051 ?_
  refine g_sld C hX (v := v3) (in_k (k := 3) hi hL (by decide)) e3 dL_law_1052 ?_
  refine g_aload_n C (i := 0) dL_law_1053 rfl rfl ?_
  refine g_iload_n C (i := 3) dL_law_1054 rfl rfl ?_
  refine g_iconst_4 C dL_law_1055 ?_
  refine g_iadd C dL_law_1056 ?_
  refine g_sld C hX (v := v4) (in_k (k := 4) hi hL (by decide)) e4 dL_law_1057 ?_
  refine x_callV C (ct_frameL (wX11_k_when (D := D) (ca := ca) (o := oX) v1 v2 v3 v4 X Y R L S _ (pc_when h v1 v2 v3 v4)) (cM ca oM I J)) (gSite.of (tb_in (List.mem_of_getElem? (i := 924) (by decide +kernel)) (by decide +kernel)) (tb_in (List.mem_of_getElem? (i := 925) (by decide +kernel)) (by decide +kernel)) (tb_in (List.mem_of_getElem? (i := 926) (by decide +kernel)) (by decide +kernel)) (tb_in (List.mem_of_getElem? (i := 78) (by decide +kernel)) (by decide +kernel)) (tb_in (List.mem_of_getElem? (i := 927) (by decide +kernel)) (by decide +kernel)) (by decide +kernel)) rcvX (rm_law0 (by decide) (by decide) (by omega) (by omega)) rfl (Nat.le_of_ble_eq_true rfl) (n := 4) (st := []) _ rfl dL_law_1058 (fun v ws hv => ?_)
  obtain ⟨w, ⟨r, X1, Y1, R1, rfl, rfl, hQ⟩, rfl⟩ := hv
  refine g_eqs (st' := [.int r]) (ws' := cX ca oX X1 Y1 R1 L S ++ cM ca oM I J) rfl rfl ?_
  refine g_aload_n C (i := 2) dL_law_1061 rfl rfl ?_
  refine g_aload_n C (i := 0) dL_law_1062 rfl rfl ?_
  refine g_iload_n C (i := 3) dL_law_1063 rfl rfl ?_
  refine g_iconst_1 C dL_law_1064 ?_
  refine g_iadd C dL_law_1065 ?_
  refine g_sld C hX (v := v1) (in_k (k := 1) hi hL (by decide)) e1 dL_law_1066 ?_
  refine g_aload_n C (i := 0) dL_law_1067 rfl rfl ?_
  refine g_iload_n C (i := 3) dL_law_1068 rfl rfl ?_
  refine g_iconst_2 C dL_law_1069 ?_
  refine g_iadd C dL_law_1070 ?_
  refine g_sld C hX (v := v2) (in_k (k := 2) hi hL (by decide)) e2 dL_law_1071 ?_
  refine g_aload_n C (i := 0) dL_law_1072 rfl rfl ?_
  refine g_iload_n C (i := 3) dL_law_1073 rfl rfl ?_
  refine g_iconst_3 C dL_law_1074 ?_
  refine g_iadd C dL_law_1075 ?_
  refine g_sld C hX (v := v3) (in_k (k := 3) hi hL (by decide)) e3 dL_law_1076 ?_
  refine g_aload_n C (i := 0) dL_law_1077 rfl rfl ?_
  refine g_iload_n C (i := 3) dL_law_1078 rfl rfl ?_
  refine g_iconst_4 C dL_law_1079 ?_
  refine g_iadd C dL_law_1080 ?_
  refine g_sld C hX (v := v4) (in_k (k := 4) hi hL (by decide)) e4 dL_law_1081 ?_
  refine x_callV C (ct_frameR (wM_k_when (D := D) (ca := ca) (o := oM) v1 v2 v3 v4 I J _ hQ) (cX ca oX X1 Y1 R1 L S)) (gSite.of (tb_in (List.mem_of_getElem? (i := 1697) (by decide +kernel)) (by decide +kernel)) (tb_in (List.mem_of_getElem? (i := 1698) (by decide +kernel)) (by decide +kernel)) (tb_in (List.mem_of_getElem? (i := 1699) (by decide +kernel)) (by decide +kernel)) (tb_in (List.mem_of_getElem? (i := 87) (by decide +kernel)) (by decide +kernel)) (tb_in (List.mem_of_getElem? (i := 1700) (by decide +kernel)) (by decide +kernel)) (by decide +kernel)) rcvM (rm_law0 (by decide) (by decide) (by omega) (by omega)) rfl (Nat.le_of_ble_eq_true rfl) (n := 4) (st := [.int r]) _ rfl dL_law_1082 (fun v ws hv => ?_)
  obtain ⟨w, ⟨r2, I1, J1, rfl, rfl, er, n1, T1, h1⟩, rfl⟩ := hv
  refine g_eqs (st' := [.int r2, .int r]) (ws' := cX ca oX X1 Y1 R1 L S ++ cM ca oM I1 J1) rfl rfl ?_
  exact g_icmp_eq C 1716 dL_law_1085 rfl (fun _ => g_wide (by omega) (by omega) (kk _ _ _ _ _ _ _ _ _ h1)) (fun e => absurd er e)
set_option maxRecDepth 100000 in
theorem lw_c21 {Γ : gT} {D : gD} {ca : Nat → ClassId} {oX oM : Nat → Nat} {b Ls : Nat} {xs : Nat → Int32} {Post : Option Value → va_W → Prop} {n : Nat} {T : Nat → gP} {I X : gI} {J Y : gJ} {R : gR} {L : List Nat} {S : gS} (h : Rl n T I J X Y R L S) (C : Cx Γ cL_law RL 4 D (tyW ca) room_1 (some .boolean) 600000 7302250 Post) (hX : LX Γ b Ls xs) {i : Nat} (hi : i + 7 ≤ Ls) (hL : Ls ≤ 3584) {cn sn : Nat} (hc : cn + 161 ≤ 600000) (hs : sn + 966 ≤ 7302250) (kk : lwK Γ ca oX oM b i cn sn) : G Γ cn sn 1090 (lwL oX oM b i) [] (cX ca oX X Y R L S ++ cM ca oM I J) := by
  obtain ⟨v1, e1⟩ : ∃ v, xs (nI i + nI 1).toNatClampNeg = v := ⟨_, rfl⟩
  obtain ⟨v2, e2⟩ : ∃ v, xs (nI i + nI 2).toNatClampNeg = v := ⟨_, rfl⟩
  obtain ⟨v3, e3⟩ : ∃ v, xs (nI i + nI 3).toNatClampNeg = v := ⟨_, rfl⟩
  obtain ⟨v4, e4⟩ : ∃ v, xs (nI i + nI 4).toNatClampNeg = v := ⟨_, rfl⟩
  obtain ⟨v5, e5⟩ : ∃ v, xs (nI i + nI 5).toNatClampNeg = v := ⟨_, rfl⟩
  obtain ⟨v6, e6⟩ : ∃ v, xs (nI i + nI 6).toNatClampNeg = v := ⟨_, rfl⟩
  refine g_aload_n C (i := 1) dL_law_1090 rfl rfl ?_
  refine g_aload_n C (i := 0) dL_law_1091 rfl rfl ?_
  refine g_iload_n C (i := 3) dL_law_1092 rfl rfl ?_
  refine g_iconst_1 C dL_law_1093 ?_
  refine g_iadd C dL_law_1094 ?_
  refine g_sld C hX (v := v1) (in_k (k := 1) hi hL (by decide)) e1 dL_law_1095 ?_
  refine g_aload_n C (i := 0) dL_law_1096 rfl rfl ?_
  refine g_iload_n C (i := 3) dL_law_1097 rfl rfl ?_
  refine g_iconst_2 C dL_law_1098 ?_
  refine g_iadd C dL_law_1099 ?_
  refine g_sld C hX (v := v2) (in_k (k := 2) hi hL (by decide)) e2 dL_law_1100 ?_
  refine g_aload_n C (i := 0) dL_law_1101 rfl rfl ?_
  refine g_iload_n C (i := 3) dL_law_1102 rfl rfl ?_
  refine g_iconst_3 C dL_law_1103 ?_
  refine g_iadd C dL_law_1104 ?_
  refine g_sld C hX (v := v3) (in_k (k := 3) hi hL (by decide)) e3 dL_law_1105 ?_
  refine g_aload_n C (i := 0) dL_law_1106 rfl rfl ?_
  refine g_iload_n C (i := 3) dL_law_1107 rfl rfl ?_
  refine g_iconst_4 C dL_law_1108 ?_
  refine g_iadd C dL_law_1109 ?_
  refine g_sld C hX (v := v4) (in_k (k := 4) hi hL (by decide)) e4 dL_law_1110 ?_
  refine g_aload_n C (i := 0) dL_law_1111 rfl rfl ?_
  refine g_iload_n C (i := 3) dL_law_1112 rfl rfl ?_
  refine g_iconst_5 C dL_law_1113 ?_
  refine g_iadd C dL_law_1114 ?_
  refine g_sld C hX (v := v5) (in_k (k := 5) hi hL (by decide)) e5 dL_law_1115 ?_
  refine g_aload_n C (i := 0) dL_law_1116 rfl rfl ?_
  refine g_iload_n C (i := 3) dL_law_1117 rfl rfl ?_
  refine g_bipush C (v := 6) dL_law_1118 (by decide) ?_
  refine g_iadd C dL_law_1120 ?_
  refine g_sld C hX (v := v6) (in_k (k := 6) hi hL (by decide)) e6 dL_law_1121 ?_
  refine x_callV C (ct_frameL (wX11_k_near (D := D) (ca := ca) (o := oX) v1 v2 v3 v4 v5 v6 X Y R L S _ (pc_near h v1 v2 v3 v4 v5 v6)) (cM ca oM I J)) (gSite.of (tb_in (List.mem_of_getElem? (i := 932) (by decide +kernel)) (by decide +kernel)) (tb_in (List.mem_of_getElem? (i := 933) (by decide +kernel)) (by decide +kernel)) (tb_in (List.mem_of_getElem? (i := 934) (by decide +kernel)) (by decide +kernel)) (tb_in (List.mem_of_getElem? (i := 78) (by decide +kernel)) (by decide +kernel)) (tb_in (List.mem_of_getElem? (i := 935) (by decide +kernel)) (by decide +kernel)) (by decide +kernel)) rcvX (rm_law0 (by decide) (by decide) (by omega) (by omega)) rfl (Nat.le_of_ble_eq_true rfl) (n := 6) (st := []) _ rfl dL_law_1122 (fun v ws hv => ?_)
  obtain ⟨w, ⟨r, X1, Y1, R1, rfl, rfl, hQ⟩, rfl⟩ := hv
  refine g_eqs (st' := [.int r]) (ws' := cX ca oX X1 Y1 R1 L S ++ cM ca oM I J) rfl rfl ?_
  refine g_aload_n C (i := 2) dL_law_1125 rfl rfl ?_
  refine g_aload_n C (i := 0) dL_law_1126 rfl rfl ?_
  refine g_iload_n C (i := 3) dL_law_1127 rfl rfl ?_
  refine g_iconst_1 C dL_law_1128 ?_
  refine g_iadd C dL_law_1129 ?_
  refine g_sld C hX (v := v1) (in_k (k := 1) hi hL (by decide)) e1 dL_law_1130 ?_
  refine g_aload_n C (i := 0) dL_law_1131 rfl rfl ?_
  refine g_iload_n C (i := 3) dL_law_1132 rfl rfl ?_
  refine g_iconst_2 C dL_law_1133 ?_
  refine g_iadd C dL_law_1134 ?_
  refine g_sld C hX (v := v2) (in_k (k := 2) hi hL (by decide)) e2 dL_law_1135 ?_
  refine g_aload_n C (i := 0) dL_law_1136 rfl rfl ?_
  refine g_iload_n C (i := 3) dL_law_1137 rfl rfl ?_
  refine g_iconst_3 C dL_law_1138 ?_
  refine g_iadd C dL_law_1139 ?_
  refine g_sld C hX (v := v3) (in_k (k := 3) hi hL (by decide)) e3 dL_law_1140 ?_
  refine g_aload_n C (i := 0) dL_law_1141 rfl rfl ?_
  refine g_iload_n C (i := 3) dL_law_1142 rfl rfl ?_
  refine g_iconst_4 C dL_law_1143 ?_
  refine g_iadd C dL_law_1144 ?_
  refine g_sld C hX (v := v4) (in_k (k := 4) hi hL (by decide)) e4 dL_law_1145 ?_
  refine g_aload_n C (i := 0) dL_law_1146 rfl rfl ?_
  refine g_iload_n C (i := 3) dL_law_1147 rfl rfl ?_
  refine g_iconst_5 C dL_law_1148 ?_
  refine g_iadd C dL_law_1149 ?_
  refine g_sld C hX (v := v5) (in_k (k := 5) hi hL (by decide)) e5 dL_law_1150 ?_
  refine g_aload_n C (i := 0) dL_law_1151 rfl rfl ?_
  refine g_iload_n C (i := 3) dL_law_1152 rfl rfl ?_
  refine g_bipush C (v := 6) dL_law_1153 (by decide) ?_
  refine g_iadd C dL_law_1155 ?_
  refine g_sld C hX (v := v6) (in_k (k := 6) hi hL (by decide)) e6 dL_law_1156 ?_
  refine x_callV C (ct_frameR (wM_k_near (D := D) (ca := ca) (o := oM) v1 v2 v3 v4 v5 v6 I J _ hQ) (cX ca oX X1 Y1 R1 L S)) (gSite.of (tb_in (List.mem_of_getElem? (i := 1710) (by decide +kernel)) (by decide +kernel)) (tb_in (List.mem_of_getElem? (i := 1711) (by decide +kernel)) (by decide +kernel)) (tb_in (List.mem_of_getElem? (i := 1712) (by decide +kernel)) (by decide +kernel)) (tb_in (List.mem_of_getElem? (i := 87) (by decide +kernel)) (by decide +kernel)) (tb_in (List.mem_of_getElem? (i := 1713) (by decide +kernel)) (by decide +kernel)) (by decide +kernel)) rcvM (rm_law0 (by decide) (by decide) (by omega) (by omega)) rfl (Nat.le_of_ble_eq_true rfl) (n := 6) (st := [.int r]) _ rfl dL_law_1157 (fun v ws hv => ?_)
  obtain ⟨w, ⟨r2, I1, J1, rfl, rfl, er, n1, T1, h1⟩, rfl⟩ := hv
  refine g_eqs (st' := [.int r2, .int r]) (ws' := cX ca oX X1 Y1 R1 L S ++ cM ca oM I1 J1) rfl rfl ?_
  exact g_icmp_eq C 1716 dL_law_1160 rfl (fun _ => g_wide (by omega) (by omega) (kk _ _ _ _ _ _ _ _ _ h1)) (fun e => absurd er e)
set_option maxRecDepth 100000 in
theorem lw_c22 {Γ : gT} {D : gD} {ca : Nat → ClassId} {oX oM : Nat → Nat} {b Ls : Nat} {xs : Nat → Int32} {Post : Option Value → va_W → Prop} {n : Nat} {T : Nat → gP} {I X : gI} {J Y : gJ} {R : gR} {L : List Nat} {S : gS} (h : Rl n T I J X Y R L S) (C : Cx Γ cL_law RL 4 D (tyW ca) room_1 (some .boolean) 600000 7302250 Post) (hX : LX Γ b Ls xs) {i : Nat} (hi : i + 7 ≤ Ls) (hL : Ls ≤ 3584) {cn sn : Nat} (hc : cn + 161 ≤ 600000) (hs : sn + 966 ≤ 7302250) (kk : lwK Γ ca oX oM b i cn sn) : G Γ cn sn 1165 (lwL oX oM b i) [] (cX ca oX X Y R L S ++ cM ca oM I J) := by
  obtain ⟨v1, e1⟩ : ∃ v, xs (nI i + nI 1).toNatClampNeg = v := ⟨_, rfl⟩
  obtain ⟨v2, e2⟩ : ∃ v, xs (nI i + nI 2).toNatClampNeg = v := ⟨_, rfl⟩
  refine g_aload_n C (i := 1) dL_law_1165 rfl rfl ?_
  refine g_aload_n C (i := 0) dL_law_1166 rfl rfl ?_
  refine g_iload_n C (i := 3) dL_law_1167 rfl rfl ?_
  refine g_iconst_1 C dL_law_1168 ?_
  refine g_iadd C dL_law_1169 ?_
  refine g_sld C hX (v := v1) (in_k (k := 1) hi hL (by decide)) e1 dL_law_1170 ?_
  refine g_aload_n C (i := 0) dL_law_1171 rfl rfl ?_
  refine g_iload_n C (i := 3) dL_law_1172 rfl rfl ?_
  refine g_iconst_2 C dL_law_1173 ?_
  refine g_iadd C dL_law_1174 ?_
  refine g_sld C hX (v := v2) (in_k (k := 2) hi hL (by decide)) e2 dL_law_1175 ?_
  refine x_callV C (ct_frameL (wX11_k_four (D := D) (ca := ca) (o := oX) v1 v2 X Y R L S _ (pc_four h v1 v2)) (cM ca oM I J)) (gSite.of (tb_in (List.mem_of_getElem? (i := 948) (by decide +kernel)) (by decide +kernel)) (tb_in (List.mem_of_getElem? (i := 949) (by decide +kernel)) (by decide +kernel)) (tb_in (List.mem_of_getElem? (i := 950) (by decide +kernel)) (by decide +kernel)) (tb_in (List.mem_of_getElem? (i := 78) (by decide +kernel)) (by decide +kernel)) (tb_in (List.mem_of_getElem? (i := 951) (by decide +kernel)) (by decide +kernel)) (by decide +kernel)) rcvX (rm_law0 (by decide) (by decide) (by omega) (by omega)) rfl (Nat.le_of_ble_eq_true rfl) (n := 2) (st := []) _ rfl dL_law_1176 (fun v ws hv => ?_)
  obtain ⟨w, ⟨r, X1, Y1, R1, rfl, rfl, hQ⟩, rfl⟩ := hv
  refine g_eqs (st' := [.int r]) (ws' := cX ca oX X1 Y1 R1 L S ++ cM ca oM I J) rfl rfl ?_
  refine g_aload_n C (i := 2) dL_law_1179 rfl rfl ?_
  refine g_aload_n C (i := 0) dL_law_1180 rfl rfl ?_
  refine g_iload_n C (i := 3) dL_law_1181 rfl rfl ?_
  refine g_iconst_1 C dL_law_1182 ?_
  refine g_iadd C dL_law_1183 ?_
  refine g_sld C hX (v := v1) (in_k (k := 1) hi hL (by decide)) e1 dL_law_1184 ?_
  refine g_aload_n C (i := 0) dL_law_1185 rfl rfl ?_
  refine g_iload_n C (i := 3) dL_law_1186 rfl rfl ?_
  refine g_iconst_2 C dL_law_1187 ?_
  refine g_iadd C dL_law_1188 ?_
  refine g_sld C hX (v := v2) (in_k (k := 2) hi hL (by decide)) e2 dL_law_1189 ?_
  refine x_callV C (ct_frameR (wM_k_four (D := D) (ca := ca) (o := oM) v1 v2 I J _ hQ) (cX ca oX X1 Y1 R1 L S)) (gSite.of (tb_in (List.mem_of_getElem? (i := 1714) (by decide +kernel)) (by decide +kernel)) (tb_in (List.mem_of_getElem? (i := 1715) (by decide +kernel)) (by decide +kernel)) (tb_in (List.mem_of_getElem? (i := 1716) (by decide +kernel)) (by decide +kernel)) (tb_in (List.mem_of_getElem? (i := 87) (by decide +kernel)) (by decide +kernel)) (tb_in (List.mem_of_getElem? (i := 1717) (by decide +kernel)) (by decide +kernel)) (by decide +kernel)) rcvM (rm_law0 (by decide) (by decide) (by omega) (by omega)) rfl (Nat.le_of_ble_eq_true rfl) (n := 2) (st := [.int r]) _ rfl dL_law_1190 (fun v ws hv => ?_)
  obtain ⟨w, ⟨r2, I1, J1, rfl, rfl, er, n1, T1, h1⟩, rfl⟩ := hv
  refine g_eqs (st' := [.int r2, .int r]) (ws' := cX ca oX X1 Y1 R1 L S ++ cM ca oM I1 J1) rfl rfl ?_
  exact g_icmp_eq C 1716 dL_law_1193 rfl (fun _ => g_wide (by omega) (by omega) (kk _ _ _ _ _ _ _ _ _ h1)) (fun e => absurd er e)
set_option maxRecDepth 100000 in
theorem lw_c23 {Γ : gT} {D : gD} {ca : Nat → ClassId} {oX oM : Nat → Nat} {b Ls : Nat} {xs : Nat → Int32} {Post : Option Value → va_W → Prop} {n : Nat} {T : Nat → gP} {I X : gI} {J Y : gJ} {R : gR} {L : List Nat} {S : gS} (h : Rl n T I J X Y R L S) (C : Cx Γ cL_law RL 4 D (tyW ca) room_1 (some .boolean) 600000 7302250 Post) (hX : LX Γ b Ls xs) {i : Nat} (hi : i + 7 ≤ Ls) (hL : Ls ≤ 3584) {cn sn : Nat} (hc : cn + 161 ≤ 600000) (hs : sn + 966 ≤ 7302250) (kk : lwK Γ ca oX oM b i cn sn) : G Γ cn sn 1198 (lwL oX oM b i) [] (cX ca oX X Y R L S ++ cM ca oM I J) := by
  obtain ⟨v1, e1⟩ : ∃ v, xs (nI i + nI 1).toNatClampNeg = v := ⟨_, rfl⟩
  obtain ⟨v2, e2⟩ : ∃ v, xs (nI i + nI 2).toNatClampNeg = v := ⟨_, rfl⟩
  obtain ⟨v3, e3⟩ : ∃ v, xs (nI i + nI 3).toNatClampNeg = v := ⟨_, rfl⟩
  refine g_aload_n C (i := 1) dL_law_1198 rfl rfl ?_
  refine g_aload_n C (i := 0) dL_law_1199 rfl rfl ?_
  refine g_iload_n C (i := 3) dL_law_1200 rfl rfl ?_
  refine g_iconst_1 C dL_law_1201 ?_
  refine g_iadd C dL_law_1202 ?_
  refine g_sld C hX (v := v1) (in_k (k := 1) hi hL (by decide)) e1 dL_law_1203 ?_
  refine g_aload_n C (i := 0) dL_law_1204 rfl rfl ?_
  refine g_iload_n C (i := 3) dL_law_1205 rfl rfl ?_
  refine g_iconst_2 C dL_law_1206 ?_
  refine g_iadd C dL_law_1207 ?_
  refine g_sld C hX (v := v2) (in_k (k := 2) hi hL (by decide)) e2 dL_law_1208 ?_
  refine g_aload_n C (i := 0) dL_law_1209 rfl rfl ?_
  refine g_iload_n C (i := 3) dL_law_1210 rfl rfl ?_
  refine g_iconst_3 C dL_law_1211 ?_
  refine g_iadd C dL_law_1212 ?_
  refine g_sld C hX (v := v3) (in_k (k := 3) hi hL (by decide)) e3 dL_law_1213 ?_
  refine x_callV C (ct_frameL (wX11_k_words (D := D) (ca := ca) (o := oX) v1 v2 v3 X Y R L S _ (pc_words h v1 v2 v3)) (cM ca oM I J)) (gSite.of (tb_in (List.mem_of_getElem? (i := 960) (by decide +kernel)) (by decide +kernel)) (tb_in (List.mem_of_getElem? (i := 961) (by decide +kernel)) (by decide +kernel)) (tb_in (List.mem_of_getElem? (i := 962) (by decide +kernel)) (by decide +kernel)) (tb_in (List.mem_of_getElem? (i := 78) (by decide +kernel)) (by decide +kernel)) (tb_in (List.mem_of_getElem? (i := 963) (by decide +kernel)) (by decide +kernel)) (by decide +kernel)) rcvX (rm_law0 (by decide) (by decide) (by omega) (by omega)) rfl (Nat.le_of_ble_eq_true rfl) (n := 3) (st := []) _ rfl dL_law_1214 (fun v ws hv => ?_)
  obtain ⟨w, ⟨r, X1, Y1, R1, rfl, rfl, hQ⟩, rfl⟩ := hv
  refine g_eqs (st' := [.int r]) (ws' := cX ca oX X1 Y1 R1 L S ++ cM ca oM I J) rfl rfl ?_
  refine g_aload_n C (i := 2) dL_law_1217 rfl rfl ?_
  refine g_aload_n C (i := 0) dL_law_1218 rfl rfl ?_
  refine g_iload_n C (i := 3) dL_law_1219 rfl rfl ?_
  refine g_iconst_1 C dL_law_1220 ?_
  refine g_iadd C dL_law_1221 ?_
  refine g_sld C hX (v := v1) (in_k (k := 1) hi hL (by decide)) e1 dL_law_1222 ?_
  refine g_aload_n C (i := 0) dL_law_1223 rfl rfl ?_
  refine g_iload_n C (i := 3) dL_law_1224 rfl rfl ?_
  refine g_iconst_2 C dL_law_1225 ?_
  refine g_iadd C dL_law_1226 ?_
  refine g_sld C hX (v := v2) (in_k (k := 2) hi hL (by decide)) e2 dL_law_1227 ?_
  refine g_aload_n C (i := 0) dL_law_1228 rfl rfl ?_
  refine g_iload_n C (i := 3) dL_law_1229 rfl rfl ?_
  refine g_iconst_3 C dL_law_1230 ?_
  refine g_iadd C dL_law_1231 ?_
  refine g_sld C hX (v := v3) (in_k (k := 3) hi hL (by decide)) e3 dL_law_1232 ?_
  refine x_callV C (ct_frameR (wM_k_words (D := D) (ca := ca) (o := oM) v1 v2 v3 I J _ hQ) (cX ca oX X1 Y1 R1 L S)) (gSite.of (tb_in (List.mem_of_getElem? (i := 1726) (by decide +kernel)) (by decide +kernel)) (tb_in (List.mem_of_getElem? (i := 1727) (by decide +kernel)) (by decide +kernel)) (tb_in (List.mem_of_getElem? (i := 1728) (by decide +kernel)) (by decide +kernel)) (tb_in (List.mem_of_getElem? (i := 87) (by decide +kernel)) (by decide +kernel)) (tb_in (List.mem_of_getElem? (i := 1729) (by decide +kernel)) (by decide +kernel)) (by decide +kernel)) rcvM (rm_law0 (by decide) (by decide) (by omega) (by omega)) rfl (Nat.le_of_ble_eq_true rfl) (n := 3) (st := [.int r]) _ rfl dL_law_1233 (fun v ws hv => ?_)
  obtain ⟨w, ⟨r2, I1, J1, rfl, rfl, er, n1, T1, h1⟩, rfl⟩ := hv
  refine g_eqs (st' := [.int r2, .int r]) (ws' := cX ca oX X1 Y1 R1 L S ++ cM ca oM I1 J1) rfl rfl ?_
  exact g_icmp_eq C 1716 dL_law_1236 rfl (fun _ => g_wide (by omega) (by omega) (kk _ _ _ _ _ _ _ _ _ h1)) (fun e => absurd er e)
set_option maxRecDepth 100000 in
theorem lw_c24 {Γ : gT} {D : gD} {ca : Nat → ClassId} {oX oM : Nat → Nat} {b Ls : Nat} {xs : Nat → Int32} {Post : Option Value → va_W → Prop} {n : Nat} {T : Nat → gP} {I X : gI} {J Y : gJ} {R : gR} {L : List Nat} {S : gS} (h : Rl n T I J X Y R L S) (C : Cx Γ cL_law RL 4 D (tyW ca) room_1 (some .boolean) 600000 7302250 Post) (hX : LX Γ b Ls xs) {i : Nat} (hi : i + 7 ≤ Ls) (hL : Ls ≤ 3584) {cn sn : Nat} (hc : cn + 161 ≤ 600000) (hs : sn + 966 ≤ 7302250) (kk : lwK Γ ca oX oM b i cn sn) : G Γ cn sn 1241 (lwL oX oM b i) [] (cX ca oX X Y R L S ++ cM ca oM I J) := by
  obtain ⟨v1, e1⟩ : ∃ v, xs (nI i + nI 1).toNatClampNeg = v := ⟨_, rfl⟩
  obtain ⟨v2, e2⟩ : ∃ v, xs (nI i + nI 2).toNatClampNeg = v := ⟨_, rfl⟩
  refine g_aload_n C (i := 1) dL_law_1241 rfl rfl ?_
  refine g_aload_n C (i := 0) dL_law_1242 rfl rfl ?_
  refine g_iload_n C (i := 3) dL_law_1243 rfl rfl ?_
  refine g_iconst_1 C dL_law_1244 ?_
  refine g_iadd C dL_law_1245 ?_
  refine g_sld C hX (v := v1) (in_k (k := 1) hi hL (by decide)) e1 dL_law_1246 ?_
  refine g_aload_n C (i := 0) dL_law_1247 rfl rfl ?_
  refine g_iload_n C (i := 3) dL_law_1248 rfl rfl ?_
  refine g_iconst_2 C dL_law_1249 ?_
  refine g_iadd C dL_law_1250 ?_
  refine g_sld C hX (v := v2) (in_k (k := 2) hi hL (by decide)) e2 dL_law_1251 ?_
  refine x_callV C (ct_frameL (wX11_k_wrong (D := D) (ca := ca) (o := oX) v1 v2 X Y R L S _ (pc_wrong h v1 v2)) (cM ca oM I J)) (gSite.of (tb_in (List.mem_of_getElem? (i := 987) (by decide +kernel)) (by decide +kernel)) (tb_in (List.mem_of_getElem? (i := 988) (by decide +kernel)) (by decide +kernel)) (tb_in (List.mem_of_getElem? (i := 989) (by decide +kernel)) (by decide +kernel)) (tb_in (List.mem_of_getElem? (i := 78) (by decide +kernel)) (by decide +kernel)) (tb_in (List.mem_of_getElem? (i := 990) (by decide +kernel)) (by decide +kernel)) (by decide +kernel)) rcvX (rm_law0 (by decide) (by decide) (by omega) (by omega)) rfl (Nat.le_of_ble_eq_true rfl) (n := 2) (st := []) _ rfl dL_law_1252 (fun v ws hv => ?_)
  obtain ⟨w, ⟨r, X1, Y1, R1, rfl, rfl, hQ⟩, rfl⟩ := hv
  refine g_eqs (st' := [.int r]) (ws' := cX ca oX X1 Y1 R1 L S ++ cM ca oM I J) rfl rfl ?_
  refine g_aload_n C (i := 2) dL_law_1255 rfl rfl ?_
  refine g_aload_n C (i := 0) dL_law_1256 rfl rfl ?_
  refine g_iload_n C (i := 3) dL_law_1257 rfl rfl ?_
  refine g_iconst_1 C dL_law_1258 ?_
  refine g_iadd C dL_law_1259 ?_
  refine g_sld C hX (v := v1) (in_k (k := 1) hi hL (by decide)) e1 dL_law_1260 ?_
  refine g_aload_n C (i := 0) dL_law_1261 rfl rfl ?_
  refine g_iload_n C (i := 3) dL_law_1262 rfl rfl ?_
  refine g_iconst_2 C dL_law_1263 ?_
  refine g_iadd C dL_law_1264 ?_
  refine g_sld C hX (v := v2) (in_k (k := 2) hi hL (by decide)) e2 dL_law_1265 ?_
  refine x_callV C (ct_frameR (wM_k_wrong (D := D) (ca := ca) (o := oM) v1 v2 I J _ hQ) (cX ca oX X1 Y1 R1 L S)) (gSite.of (tb_in (List.mem_of_getElem? (i := 1738) (by decide +kernel)) (by decide +kernel)) (tb_in (List.mem_of_getElem? (i := 1739) (by decide +kernel)) (by decide +kernel)) (tb_in (List.mem_of_getElem? (i := 1740) (by decide +kernel)) (by decide +kernel)) (tb_in (List.mem_of_getElem? (i := 87) (by decide +kernel)) (by decide +kernel)) (tb_in (List.mem_of_getElem? (i := 1741) (by decide +kernel)) (by decide +kernel)) (by decide +kernel)) rcvM (rm_law0 (by decide) (by decide) (by omega) (by omega)) rfl (Nat.le_of_ble_eq_true rfl) (n := 2) (st := [.int r]) _ rfl dL_law_1266 (fun v ws hv => ?_)
  obtain ⟨w, ⟨r2, I1, J1, rfl, rfl, er, n1, T1, h1⟩, rfl⟩ := hv
  refine g_eqs (st' := [.int r2, .int r]) (ws' := cX ca oX X1 Y1 R1 L S ++ cM ca oM I1 J1) rfl rfl ?_
  exact g_icmp_eq C 1716 dL_law_1269 rfl (fun _ => g_wide (by omega) (by omega) (kk _ _ _ _ _ _ _ _ _ h1)) (fun e => absurd er e)
set_option maxRecDepth 100000 in
theorem lw_c25 {Γ : gT} {D : gD} {ca : Nat → ClassId} {oX oM : Nat → Nat} {b Ls : Nat} {xs : Nat → Int32} {Post : Option Value → va_W → Prop} {n : Nat} {T : Nat → gP} {I X : gI} {J Y : gJ} {R : gR} {L : List Nat} {S : gS} (h : Rl n T I J X Y R L S) (C : Cx Γ cL_law RL 4 D (tyW ca) room_1 (some .boolean) 600000 7302250 Post) (hX : LX Γ b Ls xs) {i : Nat} (hi : i + 7 ≤ Ls) (hL : Ls ≤ 3584) {cn sn : Nat} (hc : cn + 161 ≤ 600000) (hs : sn + 966 ≤ 7302250) (kk : lwK Γ ca oX oM b i cn sn) : G Γ cn sn 1274 (lwL oX oM b i) [] (cX ca oX X Y R L S ++ cM ca oM I J) := by
  obtain ⟨v1, e1⟩ : ∃ v, xs (nI i + nI 1).toNatClampNeg = v := ⟨_, rfl⟩
  obtain ⟨v2, e2⟩ : ∃ v, xs (nI i + nI 2).toNatClampNeg = v := ⟨_, rfl⟩
  refine g_aload_n C (i := 1) dL_law_1274 rfl rfl ?_
  refine g_aload_n C (i := 0) dL_law_1275 rfl rfl ?_
  refine g_iload_n C (i := 3) dL_law_1276 rfl rfl ?_
  refine g_iconst_1 C dL_law_1277 ?_
  refine g_iadd C dL_law_1278 ?_
  refine g_sld C hX (v := v1) (in_k (k := 1) hi hL (by decide)) e1 dL_law_1279 ?_
  refine g_aload_n C (i := 0) dL_law_1280 rfl rfl ?_
  refine g_iload_n C (i := 3) dL_law_1281 rfl rfl ?_
  refine g_iconst_2 C dL_law_1282 ?_
  refine g_iadd C dL_law_1283 ?_
  refine g_sld C hX (v := v2) (in_k (k := 2) hi hL (by decide)) e2 dL_law_1284 ?_
  refine x_callV C (ct_frameL (wX11_k_mend (D := D) (ca := ca) (o := oX) v1 v2 X Y R L S _ (pc_mend h v1 v2)) (cM ca oM I J)) (gSite.of (tb_in (List.mem_of_getElem? (i := 991) (by decide +kernel)) (by decide +kernel)) (tb_in (List.mem_of_getElem? (i := 992) (by decide +kernel)) (by decide +kernel)) (tb_in (List.mem_of_getElem? (i := 993) (by decide +kernel)) (by decide +kernel)) (tb_in (List.mem_of_getElem? (i := 78) (by decide +kernel)) (by decide +kernel)) (tb_in (List.mem_of_getElem? (i := 994) (by decide +kernel)) (by decide +kernel)) (by decide +kernel)) rcvX (rm_law0 (by decide) (by decide) (by omega) (by omega)) rfl (Nat.le_of_ble_eq_true rfl) (n := 2) (st := []) _ rfl dL_law_1285 (fun v ws hv => ?_)
  obtain ⟨w, ⟨r, X1, Y1, R1, rfl, rfl, hQ⟩, rfl⟩ := hv
  refine g_eqs (st' := [.int r]) (ws' := cX ca oX X1 Y1 R1 L S ++ cM ca oM I J) rfl rfl ?_
  refine g_aload_n C (i := 2) dL_law_1288 rfl rfl ?_
  refine g_aload_n C (i := 0) dL_law_1289 rfl rfl ?_
  refine g_iload_n C (i := 3) dL_law_1290 rfl rfl ?_
  refine g_iconst_1 C dL_law_1291 ?_
  refine g_iadd C dL_law_1292 ?_
  refine g_sld C hX (v := v1) (in_k (k := 1) hi hL (by decide)) e1 dL_law_1293 ?_
  refine g_aload_n C (i := 0) dL_law_1294 rfl rfl ?_
  refine g_iload_n C (i := 3) dL_law_1295 rfl rfl ?_
  refine g_iconst_2 C dL_law_1296 ?_
  refine g_iadd C dL_law_1297 ?_
  refine g_sld C hX (v := v2) (in_k (k := 2) hi hL (by decide)) e2 dL_law_1298 ?_
  refine x_callV C (ct_frameR (wM_k_mend (D := D) (ca := ca) (o := oM) v1 v2 I J _ hQ) (cX ca oX X1 Y1 R1 L S)) (gSite.of (tb_in (List.mem_of_getElem? (i := 1742) (by decide +kernel)) (by decide +kernel)) (tb_in (List.mem_of_getElem? (i := 1743) (by decide +kernel)) (by decide +kernel)) (tb_in (List.mem_of_getElem? (i := 1744) (by decide +kernel)) (by decide +kernel)) (tb_in (List.mem_of_getElem? (i := 87) (by decide +kernel)) (by decide +kernel)) (tb_in (List.mem_of_getElem? (i := 1745) (by decide +kernel)) (by decide +kernel)) (by decide +kernel)) rcvM (rm_law0 (by decide) (by decide) (by omega) (by omega)) rfl (Nat.le_of_ble_eq_true rfl) (n := 2) (st := [.int r]) _ rfl dL_law_1299 (fun v ws hv => ?_)
  obtain ⟨w, ⟨r2, I1, J1, rfl, rfl, er, n1, T1, h1⟩, rfl⟩ := hv
  refine g_eqs (st' := [.int r2, .int r]) (ws' := cX ca oX X1 Y1 R1 L S ++ cM ca oM I1 J1) rfl rfl ?_
  exact g_icmp_eq C 1716 dL_law_1302 rfl (fun _ => g_wide (by omega) (by omega) (kk _ _ _ _ _ _ _ _ _ h1)) (fun e => absurd er e)
