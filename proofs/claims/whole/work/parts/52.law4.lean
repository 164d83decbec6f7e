/-! the law: its loop -/
theorem lw_head {Γ : gT} {D : gD} {ca : Nat → ClassId} {oX oM : Nat → Nat} {b Ls : Nat} {xs : Nat → Int32} {Post : Option Value → va_W → Prop} (C : Cx Γ cL_law RL 4 D (tyW ca) room_1 (some .boolean) 600000 7302250 Post) (hX : LX Γ b Ls xs) (hL : Ls ≤ 3584) (hPost : ∀ ws, Post (some (.int (bI true))) ws) {i cn sn : Nat} {ws : va_W} (hi : i ≤ Ls) (hc : cn ≤ 600000) (hs : sn ≤ 7302250) (kk : i + 7 ≤ Ls → G Γ cn sn 27 (lwL oX oM b i) [] ws) : G Γ cn sn 18 (lwL oX oM b i) [] ws := by
  refine g_iload_n C (i := 3) dL_law_18 rfl rfl ?_
  refine g_aload_n C (i := 0) dL_law_19 rfl rfl ?_
  refine g_slen C hX dL_law_20 ?_
  refine g_bipush C (v := 7) dL_law_21 (by decide) ?_
  refine g_isub C dL_law_23 ?_
  have E : nI Ls - 7 < nI i ↔ Ls < i + 7 := by
    have e7 : (7 : Int32) = nI 7 := rfl
    rw [e7, zI_n, zI_n, zI_n, zI_sub, zI_lt (by omega) (by omega) (by omega) (by omega)]
    omega
  refine g_icmp_gt C 1722 dL_law_24 rfl (fun e => ?_) (fun e => kk ?_)
  · refine g_iconst_1 C dL_law_1722 ?_
    exact g_ret_z C true rfl dL_law_1723 hc hs (hPost _)
  · rw [E] at e
    omega
theorem lw_body {Γ : gT} {D : gD} {ca : Nat → ClassId} {oX oM : Nat → Nat} {b Ls : Nat} {xs : Nat → Int32} {Post : Option Value → va_W → Prop} (C : Cx Γ cL_law RL 4 D (tyW ca) room_1 (some .boolean) 600000 7302250 Post) (hX : LX Γ b Ls xs) (hL : Ls ≤ 3584) {n : Nat} {T : Nat → gP} {I X : gI} {J Y : gJ} {R : gR} {L : List Nat} {S : gS} (h : Rl n T I J X Y R L S) {i cn sn : Nat} (hi : i + 7 ≤ Ls) (hc : cn + 161 ≤ 600000) (hs : sn + 966 ≤ 7302250) (kk : lwK Γ ca oX oM b i cn sn) : G Γ cn sn 27 (lwL oX oM b i) [] (cX ca oX X Y R L S ++ cM ca oM I J) := by
  refine g_aload_n C (i := 0) dL_law_27 rfl rfl ?_
  refine g_iload_n C (i := 3) dL_law_28 rfl rfl ?_
  refine g_sld C hX (v := xs i) (in_0 hi hL) (by rw [nI_clamp (by omega)]) dL_law_29 ?_
  refine g_bipush C (v := 63) dL_law_30 (by decide) ?_
  refine g_iand C dL_law_32 ?_
  refine g_topi (fun x ex => ?_)
  by_cases c0 : x = 0
  · exact g_tin C 204 0 c0 (by decide) (by decide) rfl rfl dL_law_33 (lw_c0 h C hX hi hL hc hs kk)
  by_cases c1 : x = 1
  · exact g_tin C 247 1 c1 (by decide) (by decide) rfl rfl dL_law_33 (lw_c1 h C hX hi hL hc hs kk)
  by_cases c2 : x = 2
  · exact g_tin C 320 2 c2 (by decide) (by decide) rfl rfl dL_law_33 (lw_c2 h C hX hi hL hc hs kk)
  by_cases c3 : x = 3
  · exact g_tin C 383 3 c3 (by decide) (by decide) rfl rfl dL_law_33 (lw_c3 h C hX hi hL hc hs kk)
  by_cases c4 : x = 4
  · exact g_tin C 417 4 c4 (by decide) (by decide) rfl rfl dL_law_33 (lw_c4 h C hX hi hL hc hs kk)
  by_cases c5 : x = 5
  · exact g_tin C 450 5 c5 (by decide) (by decide) rfl rfl dL_law_33 (lw_c5 h C hX hi hL hc hs kk)
  by_cases c6 : x = 6
  · exact g_tin C 473 6 c6 (by decide) (by decide) rfl rfl dL_law_33 (lw_c6 h C hX hi hL hc hs kk)
  by_cases c7 : x = 7
  · exact g_tin C 506 7 c7 (by decide) (by decide) rfl rfl dL_law_33 (lw_c7 h C hX hi hL hc hs kk)
  by_cases c8 : x = 8
  · exact g_tin C 559 8 c8 (by decide) (by decide) rfl rfl dL_law_33 (lw_c8 h C hX hi hL hc hs kk)
  by_cases c9 : x = 9
  · exact g_tin C 592 9 c9 (by decide) (by decide) rfl rfl dL_law_33 (lw_c9 h C hX hi hL hc hs kk)
  by_cases c10 : x = 10
  · exact g_tin C 625 10 c10 (by decide) (by decide) rfl rfl dL_law_33 (lw_c10 h C hX hi hL hc hs kk)
  by_cases c11 : x = 11
  · exact g_tin C 648 11 c11 (by decide) (by decide) rfl rfl dL_law_33 (lw_c11 h C hX hi hL hc hs kk)
  by_cases c12 : x = 12
  · exact g_tin C 661 12 c12 (by decide) (by decide) rfl rfl dL_law_33 (lw_c12 h C hX hi hL hc hs kk)
  by_cases c13 : x = 13
  · exact g_tin C 685 13 c13 (by decide) (by decide) rfl rfl dL_law_33 (lw_c13 h C hX hi hL hc hs kk)
  by_cases c14 : x = 14
  · exact g_tin C 748 14 c14 (by decide) (by decide) rfl rfl dL_law_33 (lw_c14 h C hX hi hL hc hs kk)
  by_cases c15 : x = 15
  · exact g_tin C 811 15 c15 (by decide) (by decide) rfl rfl dL_law_33 (lw_c15 h C hX hi hL hc hs kk)
  by_cases c16 : x = 16
  · exact g_tin C 885 16 c16 (by decide) (by decide) rfl rfl dL_law_33 (lw_c16 h C hX hi hL hc hs kk)
  by_cases c17 : x = 17
  · exact g_tin C 938 17 c17 (by decide) (by decide) rfl rfl dL_law_33 (lw_c17 h C hX hi hL hc hs kk)
  by_cases c18 : x = 18
  · exact g_tin C 971 18 c18 (by decide) (by decide) rfl rfl dL_law_33 (lw_c18 h C hX hi hL hc hs kk)
  by_cases c19 : x = 19
  · exact g_tin C 1004 19 c19 (by decide) (by decide) rfl rfl dL_law_33 (lw_c19 h C hX hi hL hc hs kk)
  by_cases c20 : x = 20
  · exact g_tin C 1037 20 c20 (by decide) (by decide) rfl rfl dL_law_33 (lw_c20 h C hX hi hL hc hs kk)
  by_cases c21 : x = 21
  · exact g_tin C 1090 21 c21 (by decide) (by decide) rfl rfl dL_law_33 (lw_c21 h C hX hi hL hc hs kk)
  by_cases c22 : x = 22
  · exact g_tin C 1165 22 c22 (by decide) (by decide) rfl rfl dL_law_33 (lw_c22 h C hX hi hL hc hs kk)
  by_cases c23 : x = 23
  · exact g_tin C 1198 23 c23 (by decide) (by decide) rfl rfl dL_law_33 (lw_c23 h C hX hi hL hc hs kk)
  by_cases c24 : x = 24
  · exact g_tin C 1241 24 c24 (by decide) (by decide) rfl rfl dL_law_33 (lw_c24 h C hX hi hL hc hs kk)
  by_cases c25 : x = 25
  · exact g_tin C 1274 25 c25 (by decide) (by decide) rfl rfl dL_law_33 (lw_c25 h C hX hi hL hc hs kk)
  by_cases c26 : x = 26
  · exact g_tin C 1307 26 c26 (by decide) (by decide) rfl rfl dL_law_33 (lw_c26 h C hX hi hL hc hs kk)
  by_cases c27 : x = 27
  · exact g_tin C 1350 27 c27 (by decide) (by decide) rfl rfl dL_law_33 (lw_c27 h C hX hi hL hc hs kk)
  by_cases c28 : x = 28
  · exact g_tin C 1403 28 c28 (by decide) (by decide) rfl rfl dL_law_33 (lw_c28 h C hX hi hL hc hs kk)
  by_cases c29 : x = 29
  · exact g_tin C 1456 29 c29 (by decide) (by decide) rfl rfl dL_law_33 (lw_c29 h C hX hi hL hc hs kk)
  by_cases c30 : x = 30
  · exact g_tin C 1489 30 c30 (by decide) (by decide) rfl rfl dL_law_33 (lw_c30 h C hX hi hL hc hs kk)
  by_cases c31 : x = 31
  · exact g_tin C 1512 31 c31 (by decide) (by decide) rfl rfl dL_law_33 (lw_c31 h C hX hi hL hc hs kk)
  by_cases c32 : x = 32
  · exact g_tin C 1555 32 c32 (by decide) (by decide) rfl rfl dL_law_33 (lw_c32 h C hX hi hL hc hs kk)
  by_cases c33 : x = 33
  · exact g_tin C 1588 33 c33 (by decide) (by decide) rfl rfl dL_law_33 (lw_c33 h C hX hi hL hc hs kk)
  by_cases c34 : x = 34
  · exact g_tin C 1601 34 c34 (by decide) (by decide) rfl rfl dL_law_33 (lw_c34 h C hX hi hL hc hs kk)
  by_cases c35 : x = 35
  · exact g_tin C 1644 35 c35 (by decide) (by decide) rfl rfl dL_law_33 (lw_c35 h C hX hi hL hc hs kk)
  by_cases c36 : x = 36
  · exact g_tin C 1667 36 c36 (by decide) (by decide) rfl rfl dL_law_33 (lw_c36 h C hX hi hL hc hs kk)
  by_cases c37 : x = 37
  · exact g_tin C 1680 37 c37 (by decide) (by decide) rfl rfl dL_law_33 (lw_c37 h C hX hi hL hc hs kk)
  by_cases c38 : x = 38
  · exact g_tin C 1693 38 c38 (by decide) (by decide) rfl rfl dL_law_33 (lw_c38 h C hX hi hL hc hs kk)
  refine g_tout C 1716 ?_ rfl dL_law_33 (g_wide (by omega) (by omega) (kk _ _ _ _ _ _ _ _ _ h))
  have n0 := g_ne c0 (n := 0) rfl
  have n1 := g_ne c1 (n := 1) rfl
  have n2 := g_ne c2 (n := 2) rfl
  have n3 := g_ne c3 (n := 3) rfl
  have n4 := g_ne c4 (n := 4) rfl
  have n5 := g_ne c5 (n := 5) rfl
  have n6 := g_ne c6 (n := 6) rfl
  have n7 := g_ne c7 (n := 7) rfl
  have n8 := g_ne c8 (n := 8) rfl
  have n9 := g_ne c9 (n := 9) rfl
  have n10 := g_ne c10 (n := 10) rfl
  have n11 := g_ne c11 (n := 11) rfl
  have n12 := g_ne c12 (n := 12) rfl
  have n13 := g_ne c13 (n := 13) rfl
  have n14 := g_ne c14 (n := 14) rfl
  have n15 := g_ne c15 (n := 15) rfl
  have n16 := g_ne c16 (n := 16) rfl
  have n17 := g_ne c17 (n := 17) rfl
  have n18 := g_ne c18 (n := 18) rfl
  have n19 := g_ne c19 (n := 19) rfl
  have n20 := g_ne c20 (n := 20) rfl
  have n21 := g_ne c21 (n := 21) rfl
  have n22 := g_ne c22 (n := 22) rfl
  have n23 := g_ne c23 (n := 23) rfl
  have n24 := g_ne c24 (n := 24) rfl
  have n25 := g_ne c25 (n := 25) rfl
  have n26 := g_ne c26 (n := 26) rfl
  have n27 := g_ne c27 (n := 27) rfl
  have n28 := g_ne c28 (n := 28) rfl
  have n29 := g_ne c29 (n := 29) rfl
  have n30 := g_ne c30 (n := 30) rfl
  have n31 := g_ne c31 (n := 31) rfl
  have n32 := g_ne c32 (n := 32) rfl
  have n33 := g_ne c33 (n := 33) rfl
  have n34 := g_ne c34 (n := 34) rfl
  have n35 := g_ne c35 (n := 35) rfl
  have n36 := g_ne c36 (n := 36) rfl
  have n37 := g_ne c37 (n := 37) rfl
  have n38 := g_ne c38 (n := 38) rfl
  omega
set_option maxRecDepth 100000 in
theorem lw_loop {Γ : gT} {D : gD} {ca : Nat → ClassId} {oX oM : Nat → Nat} {b Ls : Nat} {xs : Nat → Int32} {Post : Option Value → va_W → Prop} (C : Cx Γ cL_law RL 4 D (tyW ca) room_1 (some .boolean) 600000 7302250 Post) (hX : LX Γ b Ls xs) (hL : Ls ≤ 3584) (hPost : ∀ ws, Post (some (.int (bI true))) ws) : ∀ (d i cn sn n : Nat) (T : Nat → gP) (I X : gI) (J Y : gJ) (R : gR) (L : List Nat) (S : gS), Rl n T I J X Y R L S → i ≤ Ls → Ls < i + 7 * d + 7 → cn + 161 * (d + 1) ≤ 600000 → sn + 966 * (d + 1) ≤ 7302250 → G Γ cn sn 18 (lwL oX oM b i) [] (cX ca oX X Y R L S ++ cM ca oM I J) := by
  intro d
  induction d with
  | zero =>
    intro i cn sn n T I X J Y R L S h hi hd hc hs
    exact lw_head C hX hL hPost hi (by omega) (by omega) (fun e => absurd hd (by omega))
  | succ d ih =>
    intro i cn sn n T I X J Y R L S h hi hd hc hs
    refine lw_head C hX hL hPost hi (by omega) (by omega) (fun e => ?_)
    refine lw_body C hX hL h e (by omega) (by omega) (fun n' T' I' X' J' Y' R' L' S' h' => ?_)
    refine g_iincN C 7 (fun y => [(0, .ref b), (1, .ref (oX 0)), (2, .ref (oM 0)), (3, .int y)]) dL_law_1716 rfl rfl (by decide) (fun _ => rfl) (fun y ey => ?_)
    obtain rfl : y = nI (i + 7) := ey.trans (nI_add i 7)
    refine g_goto C 18 dL_law_1719 rfl ?_
    exact ih (i + 7) _ _ n' T' I' X' J' Y' R' L' S' h' e (by omega) (by omega) (by omega)
