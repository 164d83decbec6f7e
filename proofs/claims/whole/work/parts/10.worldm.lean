/-! ===== memories: ints and longs by the number of an array and a place in it; number 0 holds the single fields ===== -/
/-- the array classes: of ints, longs, bytes, strips, shelves -/
def tyW (ca : Nat → ClassId) : List (ClassId × FieldType) := [(ca 0, .int), (ca 1, .long), (ca 2, .byte), (ca 3, .object RX9), (ca 4, .object RX8)]
/-! ===== the reference's cells ===== -/
def mF (o : Nat → Nat) (I : gI) (J : gJ) : List Value := [.int (I 0 0), .int (I 0 1), .ref (o 1), .ref (o 2), .ref (o 3), .ref (o 4), .ref (o 30), .ref (o 5), .ref (o 6), .ref (o 7), .ref (o 8), .ref (o 31), .ref (o 32), .ref (o 9), .int (I 0 2), .int (I 0 3), .int (I 0 4), .int (I 0 5), .int (I 0 6), .int (I 0 7), .long (J 0 0), .ref (o 10), .ref (o 11), .ref (o 33), .ref (o 34), .ref (o 35), .ref (o 36), .ref (o 37), .ref (o 38), .ref (o 12), .ref (o 13), .long (J 0 1), .long (J 0 2), .ref (o 14), .ref (o 15), .ref (o 16), .ref (o 17), .ref (o 18), .ref (o 19), .int (I 0 8), .ref (o 20), .ref (o 21), .ref (o 22), .ref (o 23), .int (I 0 9), .int (I 0 10), .ref (o 24), .ref (o 25), .ref (o 26), .int (I 0 11), .int (I 0 12), .ref (o 27), .ref (o 28), .ref (o 29), .int (I 0 13), .int (I 0 14)]
def cM (ca : Nat → ClassId) (o : Nat → Nat) (I : gI) (J : gJ) : va_W := (o 0, .inr (13, mF o I J)) :: ((List.range 29).map (fun k => (o (k + 1), .inl (ca 0, lenM (k + 1), .inl (I (k + 1))))) ++ (List.range 9).map (fun k => (o (k + 30), .inl (ca 1, lenMJ (k + 1), .inr (.inl (J (k + 1)))))))
theorem cM_0 (ca : Nat → ClassId) (o : Nat → Nat) (I : gI) (J : gJ) : (cM ca o I J)[0]? = some (o 0, .inr (13, mF o I J)) := rfl
theorem cM_I (ca : Nat → ClassId) (o : Nat → Nat) (I : gI) (J : gJ) {k : Nat} (h : k < 29) : (cM ca o I J)[k + 1]? = some (o (k + 1), .inl (ca 0, lenM (k + 1), .inl (I (k + 1)))) := by
  unfold cM
  rw [List.getElem?_cons_succ, List.getElem?_append_left (by simp; exact h), List.getElem?_map, List.getElem?_range h]
  rfl
theorem cM_J (ca : Nat → ClassId) (o : Nat → Nat) (I : gI) (J : gJ) {k : Nat} (h : k < 9) : (cM ca o I J)[k + 30]? = some (o (k + 30), .inl (ca 1, lenMJ (k + 1), .inr (.inl (J (k + 1))))) := by
  unfold cM
  rw [show k + 30 = (k + 29) + 1 from rfl, List.getElem?_cons_succ, List.getElem?_append_right (by simp), List.getElem?_map]
  simp only [List.length_map, List.length_range, Nat.add_sub_cancel]
  rw [List.getElem?_range h]
  rfl
theorem cM_end (ca : Nat → ClassId) (o : Nat → Nat) (I : gI) (J : gJ) {k : Nat} (h : 39 ≤ k) : (cM ca o I J)[k]? = none := by
  apply List.getElem?_eq_none
  simp [cM]
  omega
theorem cM_ext {w : va_W} {ca : Nat → ClassId} {o : Nat → Nat} {I : gI} {J : gJ} (h0 : w[0]? = some (o 0, .inr (13, mF o I J))) (h1 : ∀ k, k < 29 → w[k + 1]? = some (o (k + 1), .inl (ca 0, lenM (k + 1), .inl (I (k + 1))))) (h2 : ∀ k, k < 9 → w[k + 30]? = some (o (k + 30), .inl (ca 1, lenMJ (k + 1), .inr (.inl (J (k + 1)))))) (h3 : w.length = 39) : w = cM ca o I J := by
  apply List.ext_getElem?
  intro n
  rcases Nat.lt_or_ge n 39 with h | h
  · rcases Nat.eq_zero_or_pos n with rfl | hp
    · rw [h0]; rfl
    · rcases Nat.lt_or_ge n 30 with h4 | h4
      · have := h1 (n - 1) (by omega)
        rw [show n - 1 + 1 = n by omega] at this
        rw [this]
        have := cM_I ca o I J (k := n - 1) (by omega)
        rw [show n - 1 + 1 = n by omega] at this
        rw [this]
      · have := h2 (n - 30) (by omega)
        rw [show n - 30 + 30 = n by omega] at this
        rw [this]
        have := cM_J ca o I J (k := n - 30) (by omega)
        rw [show n - 30 + 30 = n by omega] at this
        rw [this]
  · rw [cM_end ca o I J h]
    exact List.getElem?_eq_none (by omega)
theorem cM_len (ca : Nat → ClassId) (o : Nat → Nat) (I : gI) (J : gJ) : (cM ca o I J).length = 39 := by simp [cM]
theorem mF_upI (o : Nat → Nat) (I : gI) (J : gJ) {k i : Nat} {v : Int32} (h : k ≠ 0) : mF o (upI I k i v) J = mF o I J := by
  unfold mF
  rw [upI_n (Ne.symm h)]
theorem mF_upJ (o : Nat → Nat) (I : gI) (J : gJ) {k i : Nat} {v : Int64} (h : k ≠ 0) : mF o I (upJ J k i v) = mF o I J := by
  unfold mF
  rw [upJ_n (Ne.symm h)]
theorem cM_setI (ca : Nat → ClassId) (o : Nat → Nat) (I : gI) (J : gJ) {k i : Nat} {v : Int32} (h : k < 29) : (cM ca o I J).set (k + 1) (o (k + 1), .inl (ca 0, lenM (k + 1), .inl (upd (I (k + 1)) i v))) = cM ca o (upI I (k + 1) i v) J := by
  apply cM_ext
  · rw [List.getElem?_set_ne (by omega), mF_upI _ _ _ (by omega)]; rfl
  · intro a ha
    by_cases e : a = k
    · subst e
      rw [List.getElem?_set_self (by rw [cM_len]; omega), upI_s]
    · rw [List.getElem?_set_ne (by omega), cM_I _ _ _ _ ha, upI_n (by omega)]
  · intro a ha
    rw [List.getElem?_set_ne (by omega), cM_J _ _ _ _ ha]
  · rw [List.length_set, cM_len]
theorem cM_setJ (ca : Nat → ClassId) (o : Nat → Nat) (I : gI) (J : gJ) {k i : Nat} {v : Int64} (h : k < 9) : (cM ca o I J).set (k + 30) (o (k + 30), .inl (ca 1, lenMJ (k + 1), .inr (.inl (vp_updL (J (k + 1)) i v)))) = cM ca o I (upJ J (k + 1) i v) := by
  apply cM_ext
  · rw [List.getElem?_set_ne (by omega), mF_upJ _ _ _ (by omega)]; rfl
  · intro a ha
    rw [List.getElem?_set_ne (by omega), cM_I _ _ _ _ ha]
  · intro a ha
    by_cases e : a = k
    · subst e
      rw [List.getElem?_set_self (by rw [cM_len]; omega), upJ_s]
    · rw [List.getElem?_set_ne (by omega), cM_J _ _ _ _ ha, upJ_n (by omega)]
  · rw [List.length_set, cM_len]
theorem cM_set0I (ca : Nat → ClassId) (o : Nat → Nat) (I : gI) (J : gJ) {i : Nat} {v : Int32} {fs : List Value} (h : fs = mF o (upI I 0 i v) J) : (cM ca o I J).set 0 (o 0, .inr (13, fs)) = cM ca o (upI I 0 i v) J := by
  subst h
  apply cM_ext
  · rw [List.getElem?_set_self (by rw [cM_len]; omega)]
  · intro a ha
    rw [List.getElem?_set_ne (by omega), cM_I _ _ _ _ ha, upI_n (by omega)]
  · intro a ha
    rw [List.getElem?_set_ne (by omega), cM_J _ _ _ _ ha]
  · rw [List.length_set, cM_len]
theorem cM_set0J (ca : Nat → ClassId) (o : Nat → Nat) (I : gI) (J : gJ) {i : Nat} {v : Int64} {fs : List Value} (h : fs = mF o I (upJ J 0 i v)) : (cM ca o I J).set 0 (o 0, .inr (13, fs)) = cM ca o I (upJ J 0 i v) := by
  subst h
  apply cM_ext
  · rw [List.getElem?_set_self (by rw [cM_len]; omega)]
  · intro a ha
    rw [List.getElem?_set_ne (by omega), cM_I _ _ _ _ ha]
  · intro a ha
    rw [List.getElem?_set_ne (by omega), cM_J _ _ _ _ ha, upJ_n (by omega)]
  · rw [List.length_set, cM_len]
theorem inM : ∀ w ∈ u_ws RX12 TX12 56, w ∈ tb := fun w h => (goodIn_r (big := lw_tbl) (u_ws RX12 TX12 56) [1360, 1362, 1364, 1366, 1368, 1370, 1372, 1374, 1376, 1378, 1380, 1382, 1384, 1386, 1388, 1390, 1392, 1394, 1396, 1398, 1400, 1402, 1404, 1406, 1408, 1410, 1412, 1414, 1416, 1418, 1420, 1422, 1424, 1426, 1428, 1430, 1432, 1434, 1436, 1438, 1440, 1442, 1444, 1446, 1448, 1450, 1452, 1454, 1456, 1458, 1460, 1462, 1464, 1466, 1468, 1470] (by decide +kernel) (by decide +kernel) w h).elim (fun h1 h2 => tb_in h1 (List.all_eq_true.mp (show (u_ws RX12 TX12 56).all goodWord = true by decide +kernel) w h))
section MROWS
variable {Γ : gT} {cc : ByteArray} {nL : Nat} {D : gD} {ca : Nat → ClassId} {rm : Room} {ret : Option FieldType} {mc ms : Nat} {Post : Option Value → va_W → Prop} {cn sn pc : Nat} {lv : List (Nat × Value)} {st : List Value} {o : Nat → Nat} {I : gI} {J : gJ}
theorem m_iald0 (C : Cx Γ cc RX12 nL D (tyW ca) rm ret mc ms Post) {k : Nat} (h : k < 29) {i : Int32} (hin : vp_in i (lenM (k + 1))) (hd : decode cc pc = .ok (.iaload, 1)) (kk : G Γ cn sn (pc + 1) lv (.int (I (k + 1) i.toNatClampNeg) :: st) (cM ca o I J)) : G Γ cn sn pc lv (.int i :: .ref (o (k + 1)) :: st) (cM ca o I J) := g_iald C (k + 1) 0 (cM_I ca o I J h) rfl hin hd kk
theorem m_lald0 (C : Cx Γ cc RX12 nL D (tyW ca) rm ret mc ms Post) {k : Nat} (h : k < 9) {i : Int32} (hin : vp_in i (lenMJ (k + 1))) (hd : decode cc pc = .ok (.laload, 1)) (kk : G Γ cn sn (pc + 1) lv (.long (J (k + 1) i.toNatClampNeg) :: st) (cM ca o I J)) : G Γ cn sn pc lv (.int i :: .ref (o (k + 30)) :: st) (cM ca o I J) := g_lald C (k + 30) 1 (cM_J ca o I J h) rfl hin hd kk
theorem m_iast0 (C : Cx Γ cc RX12 nL D (tyW ca) rm ret mc ms Post) {k : Nat} (h : k < 29) {i x : Int32} (hin : vp_in i (lenM (k + 1))) (hd : decode cc pc = .ok (.iastore, 1)) (kk : G Γ cn sn (pc + 1) lv st (cM ca o (upI I (k + 1) i.toNatClampNeg x) J)) : G Γ cn sn pc lv (.int x :: .int i :: .ref (o (k + 1)) :: st) (cM ca o I J) := g_iast C (k + 1) 0 (cM_I ca o I J h) rfl hin hd _ (cM_setI ca o I J h) kk
theorem m_last0 (C : Cx Γ cc RX12 nL D (tyW ca) rm ret mc ms Post) {k : Nat} (h : k < 9) {i : Int32} {x : Int64} (hin : vp_in i (lenMJ (k + 1))) (hd : decode cc pc = .ok (.lastore, 1)) (kk : G Γ cn sn (pc + 1) lv st (cM ca o I (upJ J (k + 1) i.toNatClampNeg x))) : G Γ cn sn pc lv (.long x :: .int i :: .ref (o (k + 30)) :: st) (cM ca o I J) := g_last C (k + 30) 1 (cM_J ca o I J h) rfl hin hd _ (cM_setJ ca o I J h) kk
theorem m_iald (C : Cx Γ cc RX12 nL D (tyW ca) rm ret mc ms Post) {k : Nat} (h : 1 ≤ k ∧ k ≤ 29) {i : Int32} (hin : vp_in i (lenM k)) (hd : decode cc pc = .ok (.iaload, 1)) (kk : G Γ cn sn (pc + 1) lv (.int (I k i.toNatClampNeg) :: st) (cM ca o I J)) : G Γ cn sn pc lv (.int i :: .ref (o k) :: st) (cM ca o I J) := by
  obtain ⟨j, rfl⟩ : ∃ j, k = j + 1 := ⟨k - 1, by omega⟩
  exact m_iald0 C (by omega) hin hd kk
theorem m_lald (C : Cx Γ cc RX12 nL D (tyW ca) rm ret mc ms Post) {k : Nat} (h : 1 ≤ k ∧ k ≤ 9) {i : Int32} (hin : vp_in i (lenMJ k)) (hd : decode cc pc = .ok (.laload, 1)) (kk : G Γ cn sn (pc + 1) lv (.long (J k i.toNatClampNeg) :: st) (cM ca o I J)) : G Γ cn sn pc lv (.int i :: .ref (o (k + 29)) :: st) (cM ca o I J) := by
  obtain ⟨j, rfl⟩ : ∃ j, k = j + 1 := ⟨k - 1, by omega⟩
  exact m_lald0 C (by omega) hin hd kk
theorem m_iast (C : Cx Γ cc RX12 nL D (tyW ca) rm ret mc ms Post) {k : Nat} (h : 1 ≤ k ∧ k ≤ 29) {i x : Int32} (hin : vp_in i (lenM k)) (hd : decode cc pc = .ok (.iastore, 1)) (kk : G Γ cn sn (pc + 1) lv st (cM ca o (upI I k i.toNatClampNeg x) J)) : G Γ cn sn pc lv (.int x :: .int i :: .ref (o k) :: st) (cM ca o I J) := by
  obtain ⟨j, rfl⟩ : ∃ j, k = j + 1 := ⟨k - 1, by omega⟩
  exact m_iast0 C (by omega) hin hd kk
theorem m_last (C : Cx Γ cc RX12 nL D (tyW ca) rm ret mc ms Post) {k : Nat} (h : 1 ≤ k ∧ k ≤ 9) {i : Int32} {x : Int64} (hin : vp_in i (lenMJ k)) (hd : decode cc pc = .ok (.lastore, 1)) (kk : G Γ cn sn (pc + 1) lv st (cM ca o I (upJ J k i.toNatClampNeg x))) : G Γ cn sn pc lv (.long x :: .int i :: .ref (o (k + 29)) :: st) (cM ca o I J) := by
  obtain ⟨j, rfl⟩ : ∃ j, k = j + 1 := ⟨k - 1, by omega⟩
  exact m_last0 C (by omega) hin hd kk
theorem wdM_strips : Cond.fieldLink RX12 129 RX12 (TX12 0).2.1 (TX12 0).2.2.1 ∈ tb := tb_in (List.mem_of_getElem? (i := 1304) (by decide +kernel)) (by decide +kernel)
theorem m_get_strips (C : Cx Γ cc RX12 nL D (tyW ca) rm ret mc ms Post) (hd : decode cc pc = .ok (.getfield 129, 3)) (kk : G Γ cn sn (pc + 3) lv (.int (I 0 0) :: st) (cM ca o I J)) : G Γ cn sn pc lv (.ref (o 0) :: st) (cM ca o I J) := g_get C inM 0 (cM_0 ca o I J) rfl 0 (by decide) wdM_strips (fun _ _ _ _ h => h) rfl hd kk
theorem m_put_strips (C : Cx Γ cc RX12 nL D (tyW ca) rm ret mc ms Post) {v : Int32} (hd : decode cc pc = .ok (.putfield 129, 3)) (kk : G Γ cn sn (pc + 3) lv st (cM ca o (upI I 0 0 v) J)) : G Γ cn sn pc lv (.int v :: .ref (o 0) :: st) (cM ca o I J) := g_put C inM tyX12 tyX12_ok nmX12 0 (cM_0 ca o I J) rfl 0 (by decide) wdM_strips (fun _ _ _ _ h => h) rfl (ty := .int) (by decide +kernel) rfl rfl (by show _ < 56; decide) hd _ (cM_set0I ca o I J rfl) kk
theorem wdM_fault : Cond.fieldLink RX12 9 RX12 (TX12 1).2.1 (TX12 1).2.2.1 ∈ tb := tb_in (List.mem_of_getElem? (i := 1305) (by decide +kernel)) (by decide +kernel)
theorem m_get_fault (C : Cx Γ cc RX12 nL D (tyW ca) rm ret mc ms Post) (hd : decode cc pc = .ok (.getfield 9, 3)) (kk : G Γ cn sn (pc + 3) lv (.int (I 0 1) :: st) (cM ca o I J)) : G Γ cn sn pc lv (.ref (o 0) :: st) (cM ca o I J) := g_get C inM 0 (cM_0 ca o I J) rfl 1 (by decide) wdM_fault (fun _ _ _ _ h => h) rfl hd kk
theorem m_put_fault (C : Cx Γ cc RX12 nL D (tyW ca) rm ret mc ms Post) {v : Int32} (hd : decode cc pc = .ok (.putfield 9, 3)) (kk : G Γ cn sn (pc + 3) lv st (cM ca o (upI I 0 1 v) J)) : G Γ cn sn pc lv (.int v :: .ref (o 0) :: st) (cM ca o I J) := g_put C inM tyX12 tyX12_ok nmX12 0 (cM_0 ca o I J) rfl 1 (by decide) wdM_fault (fun _ _ _ _ h => h) rfl (ty := .int) (by decide +kernel) rfl rfl (by show _ < 56; decide) hd _ (cM_set0I ca o I J rfl) kk
theorem wdM_refused : Cond.fieldLink RX12 13 RX12 (TX12 2).2.1 (TX12 2).2.2.1 ∈ tb := tb_in (List.mem_of_getElem? (i := 1306) (by decide +kernel)) (by decide +kernel)
theorem m_get_refused (C : Cx Γ cc RX12 nL D (tyW ca) rm ret mc ms Post) (hd : decode cc pc = .ok (.getfield 13, 3)) (kk : G Γ cn sn (pc + 3) lv (.ref (o 1) :: st) (cM ca o I J)) : G Γ cn sn pc lv (.ref (o 0) :: st) (cM ca o I J) := g_get C inM 0 (cM_0 ca o I J) rfl 2 (by decide) wdM_refused (fun _ _ _ _ h => h) rfl hd kk
theorem wdM_kind : Cond.fieldLink RX12 17 RX12 (TX12 3).2.1 (TX12 3).2.2.1 ∈ tb := tb_in (List.mem_of_getElem? (i := 1307) (by decide +kernel)) (by decide +kernel)
theorem m_get_kind (C : Cx Γ cc RX12 nL D (tyW ca) rm ret mc ms Post) (hd : decode cc pc = .ok (.getfield 17, 3)) (kk : G Γ cn sn (pc + 3) lv (.ref (o 2) :: st) (cM ca o I J)) : G Γ cn sn pc lv (.ref (o 0) :: st) (cM ca o I J) := g_get C inM 0 (cM_0 ca o I J) rfl 3 (by decide) wdM_kind (fun _ _ _ _ h => h) rfl hd kk
theorem wdM_part : Cond.fieldLink RX12 20 RX12 (TX12 4).2.1 (TX12 4).2.2.1 ∈ tb := tb_in (List.mem_of_getElem? (i := 1308) (by decide +kernel)) (by decide +kernel)
theorem m_get_part (C : Cx Γ cc RX12 nL D (tyW ca) rm ret mc ms Post) (hd : decode cc pc = .ok (.getfield 20, 3)) (kk : G Γ cn sn (pc + 3) lv (.ref (o 3) :: st) (cM ca o I J)) : G Γ cn sn pc lv (.ref (o 0) :: st) (cM ca o I J) := g_get C inM 0 (cM_0 ca o I J) rfl 4 (by decide) wdM_part (fun _ _ _ _ h => h) rfl hd kk
theorem wdM_folds : Cond.fieldLink RX12 23 RX12 (TX12 5).2.1 (TX12 5).2.2.1 ∈ tb := tb_in (List.mem_of_getElem? (i := 1309) (by decide +kernel)) (by decide +kernel)
theorem m_get_folds (C : Cx Γ cc RX12 nL D (tyW ca) rm ret mc ms Post) (hd : decode cc pc = .ok (.getfield 23, 3)) (kk : G Γ cn sn (pc + 3) lv (.ref (o 4) :: st) (cM ca o I J)) : G Γ cn sn pc lv (.ref (o 0) :: st) (cM ca o I J) := g_get C inM 0 (cM_0 ca o I J) rfl 5 (by decide) wdM_folds (fun _ _ _ _ h => h) rfl hd kk
theorem wdM_word : Cond.fieldLink RX12 26 RX12 (TX12 6).2.1 (TX12 6).2.2.1 ∈ tb := tb_in (List.mem_of_getElem? (i := 1310) (by decide +kernel)) (by decide +kernel)
theorem m_get_word (C : Cx Γ cc RX12 nL D (tyW ca) rm ret mc ms Post) (hd : decode cc pc = .ok (.getfield 26, 3)) (kk : G Γ cn sn (pc + 3) lv (.ref (o 30) :: st) (cM ca o I J)) : G Γ cn sn pc lv (.ref (o 0) :: st) (cM ca o I J) := g_get C inM 0 (cM_0 ca o I J) rfl 6 (by decide) wdM_word (fun _ _ _ _ h => h) rfl hd kk
theorem wdM_held : Cond.fieldLink RX12 30 RX12 (TX12 7).2.1 (TX12 7).2.2.1 ∈ tb := tb_in (List.mem_of_getElem? (i := 1311) (by decide +kernel)) (by decide +kernel)
theorem m_get_held (C : Cx Γ cc RX12 nL D (tyW ca) rm ret mc ms Post) (hd : decode cc pc = .ok (.getfield 30, 3)) (kk : G Γ cn sn (pc + 3) lv (.ref (o 5) :: st) (cM ca o I J)) : G Γ cn sn pc lv (.ref (o 0) :: st) (cM ca o I J) := g_get C inM 0 (cM_0 ca o I J) rfl 7 (by decide) wdM_held (fun _ _ _ _ h => h) rfl hd kk
theorem wdM_sort : Cond.fieldLink RX12 33 RX12 (TX12 8).2.1 (TX12 8).2.2.1 ∈ tb := tb_in (List.mem_of_getElem? (i := 1312) (by decide +kernel)) (by decide +kernel)
theorem m_get_sort (C : Cx Γ cc RX12 nL D (tyW ca) rm ret mc ms Post) (hd : decode cc pc = .ok (.getfield 33, 3)) (kk : G Γ cn sn (pc + 3) lv (.ref (o 6) :: st) (cM ca o I J)) : G Γ cn sn pc lv (.ref (o 0) :: st) (cM ca o I J) := g_get C inM 0 (cM_0 ca o I J) rfl 8 (by decide) wdM_sort (fun _ _ _ _ h => h) rfl hd kk
theorem wdM_size : Cond.fieldLink RX12 36 RX12 (TX12 9).2.1 (TX12 9).2.2.1 ∈ tb := tb_in (List.mem_of_getElem? (i := 1313) (by decide +kernel)) (by decide +kernel)
theorem m_get_size (C : Cx Γ cc RX12 nL D (tyW ca) rm ret mc ms Post) (hd : decode cc pc = .ok (.getfield 36, 3)) (kk : G Γ cn sn (pc + 3) lv (.ref (o 7) :: st) (cM ca o I J)) : G Γ cn sn pc lv (.ref (o 0) :: st) (cM ca o I J) := g_get C inM 0 (cM_0 ca o I J) rfl 9 (by decide) wdM_size (fun _ _ _ _ h => h) rfl hd kk
theorem wdM_shown : Cond.fieldLink RX12 39 RX12 (TX12 10).2.1 (TX12 10).2.2.1 ∈ tb := tb_in (List.mem_of_getElem? (i := 1314) (by decide +kernel)) (by decide +kernel)
theorem m_get_shown (C : Cx Γ cc RX12 nL D (tyW ca) rm ret mc ms Post) (hd : decode cc pc = .ok (.getfield 39, 3)) (kk : G Γ cn sn (pc + 3) lv (.ref (o 8) :: st) (cM ca o I J)) : G Γ cn sn pc lv (.ref (o 0) :: st) (cM ca o I J) := g_get C inM 0 (cM_0 ca o I J) rfl 10 (by decide) wdM_shown (fun _ _ _ _ h => h) rfl hd kk
theorem wdM_cells : Cond.fieldLink RX12 42 RX12 (TX12 11).2.1 (TX12 11).2.2.1 ∈ tb := tb_in (List.mem_of_getElem? (i := 1315) (by decide +kernel)) (by decide +kernel)
theorem m_get_cells (C : Cx Γ cc RX12 nL D (tyW ca) rm ret mc ms Post) (hd : decode cc pc = .ok (.getfield 42, 3)) (kk : G Γ cn sn (pc + 3) lv (.ref (o 31) :: st) (cM ca o I J)) : G Γ cn sn pc lv (.ref (o 0) :: st) (cM ca o I J) := g_get C inM 0 (cM_0 ca o I J) rfl 11 (by decide) wdM_cells (fun _ _ _ _ h => h) rfl hd kk
theorem wdM_carried : Cond.fieldLink RX12 45 RX12 (TX12 12).2.1 (TX12 12).2.2.1 ∈ tb := tb_in (List.mem_of_getElem? (i := 1316) (by decide +kernel)) (by decide +kernel)
theorem m_get_carried (C : Cx Γ cc RX12 nL D (tyW ca) rm ret mc ms Post) (hd : decode cc pc = .ok (.getfield 45, 3)) (kk : G Γ cn sn (pc + 3) lv (.ref (o 32) :: st) (cM ca o I J)) : G Γ cn sn pc lv (.ref (o 0) :: st) (cM ca o I J) := g_get C inM 0 (cM_0 ca o I J) rfl 12 (by decide) wdM_carried (fun _ _ _ _ h => h) rfl hd kk
theorem wdM_words : Cond.fieldLink RX12 48 RX12 (TX12 13).2.1 (TX12 13).2.2.1 ∈ tb := tb_in (List.mem_of_getElem? (i := 1317) (by decide +kernel)) (by decide +kernel)
theorem m_get_words (C : Cx Γ cc RX12 nL D (tyW ca) rm ret mc ms Post) (hd : decode cc pc = .ok (.getfield 48, 3)) (kk : G Γ cn sn (pc + 3) lv (.ref (o 9) :: st) (cM ca o I J)) : G Γ cn sn pc lv (.ref (o 0) :: st) (cM ca o I J) := g_get C inM 0 (cM_0 ca o I J) rfl 13 (by decide) wdM_words (fun _ _ _ _ h => h) rfl hd kk
theorem wdM_base : Cond.fieldLink RX12 180 RX12 (TX12 14).2.1 (TX12 14).2.2.1 ∈ tb := tb_in (List.mem_of_getElem? (i := 1318) (by decide +kernel)) (by decide +kernel)
theorem m_get_base (C : Cx Γ cc RX12 nL D (tyW ca) rm ret mc ms Post) (hd : decode cc pc = .ok (.getfield 180, 3)) (kk : G Γ cn sn (pc + 3) lv (.int (I 0 2) :: st) (cM ca o I J)) : G Γ cn sn pc lv (.ref (o 0) :: st) (cM ca o I J) := g_get C inM 0 (cM_0 ca o I J) rfl 14 (by decide) wdM_base (fun _ _ _ _ h => h) rfl hd kk
theorem m_put_base (C : Cx Γ cc RX12 nL D (tyW ca) rm ret mc ms Post) {v : Int32} (hd : decode cc pc = .ok (.putfield 180, 3)) (kk : G Γ cn sn (pc + 3) lv st (cM ca o (upI I 0 2 v) J)) : G Γ cn sn pc lv (.int v :: .ref (o 0) :: st) (cM ca o I J) := g_put C inM tyX12 tyX12_ok nmX12 0 (cM_0 ca o I J) rfl 14 (by decide) wdM_base (fun _ _ _ _ h => h) rfl (ty := .int) (by decide +kernel) rfl rfl (by show _ < 56; decide) hd _ (cM_set0I ca o I J rfl) kk
theorem wdM_place : Cond.fieldLink RX12 174 RX12 (TX12 15).2.1 (TX12 15).2.2.1 ∈ tb := tb_in (List.mem_of_getElem? (i := 1319) (by decide +kernel)) (by decide +kernel)
theorem m_get_place (C : Cx Γ cc RX12 nL D (tyW ca) rm ret mc ms Post) (hd : decode cc pc = .ok (.getfield 174, 3)) (kk : G Γ cn sn (pc + 3) lv (.int (I 0 3) :: st) (cM ca o I J)) : G Γ cn sn pc lv (.ref (o 0) :: st) (cM ca o I J) := g_get C inM 0 (cM_0 ca o I J) rfl 15 (by decide) wdM_place (fun _ _ _ _ h => h) rfl hd kk
theorem m_put_place (C : Cx Γ cc RX12 nL D (tyW ca) rm ret mc ms Post) {v : Int32} (hd : decode cc pc = .ok (.putfield 174, 3)) (kk : G Γ cn sn (pc + 3) lv st (cM ca o (upI I 0 3 v) J)) : G Γ cn sn pc lv (.int v :: .ref (o 0) :: st) (cM ca o I J) := g_put C inM tyX12 tyX12_ok nmX12 0 (cM_0 ca o I J) rfl 15 (by decide) wdM_place (fun _ _ _ _ h => h) rfl (ty := .int) (by decide +kernel) rfl rfl (by show _ < 56; decide) hd _ (cM_set0I ca o I J rfl) kk
theorem wdM_end : Cond.fieldLink RX12 177 RX12 (TX12 16).2.1 (TX12 16).2.2.1 ∈ tb := tb_in (List.mem_of_getElem? (i := 1320) (by decide +kernel)) (by decide +kernel)
theorem m_get_end (C : Cx Γ cc RX12 nL D (tyW ca) rm ret mc ms Post) (hd : decode cc pc = .ok (.getfield 177, 3)) (kk : G Γ cn sn (pc + 3) lv (.int (I 0 4) :: st) (cM ca o I J)) : G Γ cn sn pc lv (.ref (o 0) :: st) (cM ca o I J) := g_get C inM 0 (cM_0 ca o I J) rfl 16 (by decide) wdM_end (fun _ _ _ _ h => h) rfl hd kk
theorem m_put_end (C : Cx Γ cc RX12 nL D (tyW ca) rm ret mc ms Post) {v : Int32} (hd : decode cc pc = .ok (.putfield 177, 3)) (kk : G Γ cn sn (pc + 3) lv st (cM ca o (upI I 0 4 v) J)) : G Γ cn sn pc lv (.int v :: .ref (o 0) :: st) (cM ca o I J) := g_put C inM tyX12 tyX12_ok nmX12 0 (cM_0 ca o I J) rfl 16 (by decide) wdM_end (fun _ _ _ _ h => h) rfl (ty := .int) (by decide +kernel) rfl rfl (by show _ < 56; decide) hd _ (cM_set0I ca o I J rfl) kk
theorem wdM_told : Cond.fieldLink RX12 183 RX12 (TX12 17).2.1 (TX12 17).2.2.1 ∈ tb := tb_in (List.mem_of_getElem? (i := 1321) (by decide +kernel)) (by decide +kernel)
theorem m_get_told (C : Cx Γ cc RX12 nL D (tyW ca) rm ret mc ms Post) (hd : decode cc pc = .ok (.getfield 183, 3)) (kk : G Γ cn sn (pc + 3) lv (.int (I 0 5) :: st) (cM ca o I J)) : G Γ cn sn pc lv (.ref (o 0) :: st) (cM ca o I J) := g_get C inM 0 (cM_0 ca o I J) rfl 17 (by decide) wdM_told (fun _ _ _ _ h => h) rfl hd kk
theorem m_put_told (C : Cx Γ cc RX12 nL D (tyW ca) rm ret mc ms Post) {v : Int32} (hd : decode cc pc = .ok (.putfield 183, 3)) (kk : G Γ cn sn (pc + 3) lv st (cM ca o (upI I 0 5 v) J)) : G Γ cn sn pc lv (.int v :: .ref (o 0) :: st) (cM ca o I J) := g_put C inM tyX12 tyX12_ok nmX12 0 (cM_0 ca o I J) rfl 17 (by decide) wdM_told (fun _ _ _ _ h => h) rfl (ty := .int) (by decide +kernel) rfl rfl (by show _ < 56; decide) hd _ (cM_set0I ca o I J rfl) kk
theorem wdM_wrongAt : Cond.fieldLink RX12 171 RX12 (TX12 18).2.1 (TX12 18).2.2.1 ∈ tb := tb_in (List.mem_of_getElem? (i := 1322) (by decide +kernel)) (by decide +kernel)
theorem m_get_wrongAt (C : Cx Γ cc RX12 nL D (tyW ca) rm ret mc ms Post) (hd : decode cc pc = .ok (.getfield 171, 3)) (kk : G Γ cn sn (pc + 3) lv (.int (I 0 6) :: st) (cM ca o I J)) : G Γ cn sn pc lv (.ref (o 0) :: st) (cM ca o I J) := g_get C inM 0 (cM_0 ca o I J) rfl 18 (by decide) wdM_wrongAt (fun _ _ _ _ h => h) rfl hd kk
theorem m_put_wrongAt (C : Cx Γ cc RX12 nL D (tyW ca) rm ret mc ms Post) {v : Int32} (hd : decode cc pc = .ok (.putfield 171, 3)) (kk : G Γ cn sn (pc + 3) lv st (cM ca o (upI I 0 6 v) J)) : G Γ cn sn pc lv (.int v :: .ref (o 0) :: st) (cM ca o I J) := g_put C inM tyX12 tyX12_ok nmX12 0 (cM_0 ca o I J) rfl 18 (by decide) wdM_wrongAt (fun _ _ _ _ h => h) rfl (ty := .int) (by decide +kernel) rfl rfl (by show _ < 56; decide) hd _ (cM_set0I ca o I J rfl) kk
theorem wdM_toldMany : Cond.fieldLink RX12 193 RX12 (TX12 19).2.1 (TX12 19).2.2.1 ∈ tb := tb_in (List.mem_of_getElem? (i := 1323) (by decide +kernel)) (by decide +kernel)
theorem m_get_toldMany (C : Cx Γ cc RX12 nL D (tyW ca) rm ret mc ms Post) (hd : decode cc pc = .ok (.getfield 193, 3)) (kk : G Γ cn sn (pc + 3) lv (.int (I 0 7) :: st) (cM ca o I J)) : G Γ cn sn pc lv (.ref (o 0) :: st) (cM ca o I J) := g_get C inM 0 (cM_0 ca o I J) rfl 19 (by decide) wdM_toldMany (fun _ _ _ _ h => h) rfl hd kk
theorem m_put_toldMany (C : Cx Γ cc RX12 nL D (tyW ca) rm ret mc ms Post) {v : Int32} (hd : decode cc pc = .ok (.putfield 193, 3)) (kk : G Γ cn sn (pc + 3) lv st (cM ca o (upI I 0 7 v) J)) : G Γ cn sn pc lv (.int v :: .ref (o 0) :: st) (cM ca o I J) := g_put C inM tyX12 tyX12_ok nmX12 0 (cM_0 ca o I J) rfl 19 (by decide) wdM_toldMany (fun _ _ _ _ h => h) rfl (ty := .int) (by decide +kernel) rfl rfl (by show _ < 56; decide) hd _ (cM_set0I ca o I J rfl) kk
theorem wdM_toldWord : Cond.fieldLink RX12 196 RX12 (TX12 20).2.1 (TX12 20).2.2.1 ∈ tb := tb_in (List.mem_of_getElem? (i := 1324) (by decide +kernel)) (by decide +kernel)
theorem m_get_toldWord (C : Cx Γ cc RX12 nL D (tyW ca) rm ret mc ms Post) (hd : decode cc pc = .ok (.getfield 196, 3)) (kk : G Γ cn sn (pc + 3) lv (.long (J 0 0) :: st) (cM ca o I J)) : G Γ cn sn pc lv (.ref (o 0) :: st) (cM ca o I J) := g_get C inM 0 (cM_0 ca o I J) rfl 20 (by decide) wdM_toldWord (fun _ _ _ _ h => h) rfl hd kk
theorem m_put_toldWord (C : Cx Γ cc RX12 nL D (tyW ca) rm ret mc ms Post) {v : Int64} (hd : decode cc pc = .ok (.putfield 196, 3)) (kk : G Γ cn sn (pc + 3) lv st (cM ca o I (upJ J 0 0 v))) : G Γ cn sn pc lv (.long v :: .ref (o 0) :: st) (cM ca o I J) := g_put C inM tyX12 tyX12_ok nmX12 0 (cM_0 ca o I J) rfl 20 (by decide) wdM_toldWord (fun _ _ _ _ h => h) rfl (ty := .long) (by decide +kernel) rfl rfl (by show _ < 56; decide) hd _ (cM_set0J ca o I J rfl) kk
theorem wdM_was : Cond.fieldLink RX12 51 RX12 (TX12 21).2.1 (TX12 21).2.2.1 ∈ tb := tb_in (List.mem_of_getElem? (i := 1325) (by decide +kernel)) (by decide +kernel)
theorem m_get_was (C : Cx Γ cc RX12 nL D (tyW ca) rm ret mc ms Post) (hd : decode cc pc = .ok (.getfield 51, 3)) (kk : G Γ cn sn (pc + 3) lv (.ref (o 10) :: st) (cM ca o I J)) : G Γ cn sn pc lv (.ref (o 0) :: st) (cM ca o I J) := g_get C inM 0 (cM_0 ca o I J) rfl 21 (by decide) wdM_was (fun _ _ _ _ h => h) rfl hd kk
theorem wdM_kept : Cond.fieldLink RX12 54 RX12 (TX12 22).2.1 (TX12 22).2.2.1 ∈ tb := tb_in (List.mem_of_getElem? (i := 1326) (by decide +kernel)) (by decide +kernel)
theorem m_get_kept (C : Cx Γ cc RX12 nL D (tyW ca) rm ret mc ms Post) (hd : decode cc pc = .ok (.getfield 54, 3)) (kk : G Γ cn sn (pc + 3) lv (.ref (o 11) :: st) (cM ca o I J)) : G Γ cn sn pc lv (.ref (o 0) :: st) (cM ca o I J) := g_get C inM 0 (cM_0 ca o I J) rfl 22 (by decide) wdM_kept (fun _ _ _ _ h => h) rfl hd kk
theorem wdM_wasWord : Cond.fieldLink RX12 57 RX12 (TX12 23).2.1 (TX12 23).2.2.1 ∈ tb := tb_in (List.mem_of_getElem? (i := 1327) (by decide +kernel)) (by decide +kernel)
theorem m_get_wasWord (C : Cx Γ cc RX12 nL D (tyW ca) rm ret mc ms Post) (hd : decode cc pc = .ok (.getfield 57, 3)) (kk : G Γ cn sn (pc + 3) lv (.ref (o 33) :: st) (cM ca o I J)) : G Γ cn sn pc lv (.ref (o 0) :: st) (cM ca o I J) := g_get C inM 0 (cM_0 ca o I J) rfl 23 (by decide) wdM_wasWord (fun _ _ _ _ h => h) rfl hd kk
theorem wdM_keptWord : Cond.fieldLink RX12 60 RX12 (TX12 24).2.1 (TX12 24).2.2.1 ∈ tb := tb_in (List.mem_of_getElem? (i := 1328) (by decide +kernel)) (by decide +kernel)
theorem m_get_keptWord (C : Cx Γ cc RX12 nL D (tyW ca) rm ret mc ms Post) (hd : decode cc pc = .ok (.getfield 60, 3)) (kk : G Γ cn sn (pc + 3) lv (.ref (o 34) :: st) (cM ca o I J)) : G Γ cn sn pc lv (.ref (o 0) :: st) (cM ca o I J) := g_get C inM 0 (cM_0 ca o I J) rfl 24 (by decide) wdM_keptWord (fun _ _ _ _ h => h) rfl hd kk
theorem wdM_evenX : Cond.fieldLink RX12 63 RX12 (TX12 25).2.1 (TX12 25).2.2.1 ∈ tb := tb_in (List.mem_of_getElem? (i := 1329) (by decide +kernel)) (by decide +kernel)
theorem m_get_evenX (C : Cx Γ cc RX12 nL D (tyW ca) rm ret mc ms Post) (hd : decode cc pc = .ok (.getfield 63, 3)) (kk : G Γ cn sn (pc + 3) lv (.ref (o 35) :: st) (cM ca o I J)) : G Γ cn sn pc lv (.ref (o 0) :: st) (cM ca o I J) := g_get C inM 0 (cM_0 ca o I J) rfl 25 (by decide) wdM_evenX (fun _ _ _ _ h => h) rfl hd kk
theorem wdM_evenY : Cond.fieldLink RX12 66 RX12 (TX12 26).2.1 (TX12 26).2.2.1 ∈ tb := tb_in (List.mem_of_getElem? (i := 1330) (by decide +kernel)) (by decide +kernel)
theorem m_get_evenY (C : Cx Γ cc RX12 nL D (tyW ca) rm ret mc ms Post) (hd : decode cc pc = .ok (.getfield 66, 3)) (kk : G Γ cn sn (pc + 3) lv (.ref (o 36) :: st) (cM ca o I J)) : G Γ cn sn pc lv (.ref (o 0) :: st) (cM ca o I J) := g_get C inM 0 (cM_0 ca o I J) rfl 26 (by decide) wdM_evenY (fun _ _ _ _ h => h) rfl hd kk
theorem wdM_oddX : Cond.fieldLink RX12 69 RX12 (TX12 27).2.1 (TX12 27).2.2.1 ∈ tb := tb_in (List.mem_of_getElem? (i := 1331) (by decide +kernel)) (by decide +kernel)
theorem m_get_oddX (C : Cx Γ cc RX12 nL D (tyW ca) rm ret mc ms Post) (hd : decode cc pc = .ok (.getfield 69, 3)) (kk : G Γ cn sn (pc + 3) lv (.ref (o 37) :: st) (cM ca o I J)) : G Γ cn sn pc lv (.ref (o 0) :: st) (cM ca o I J) := g_get C inM 0 (cM_0 ca o I J) rfl 27 (by decide) wdM_oddX (fun _ _ _ _ h => h) rfl hd kk
theorem wdM_oddY : Cond.fieldLink RX12 72 RX12 (TX12 28).2.1 (TX12 28).2.2.1 ∈ tb := tb_in (List.mem_of_getElem? (i := 1332) (by decide +kernel)) (by decide +kernel)
theorem m_get_oddY (C : Cx Γ cc RX12 nL D (tyW ca) rm ret mc ms Post) (hd : decode cc pc = .ok (.getfield 72, 3)) (kk : G Γ cn sn (pc + 3) lv (.ref (o 38) :: st) (cM ca o I J)) : G Γ cn sn pc lv (.ref (o 0) :: st) (cM ca o I J) := g_get C inM 0 (cM_0 ca o I J) rfl 28 (by decide) wdM_oddY (fun _ _ _ _ h => h) rfl hd kk
theorem wdM_evenRound : Cond.fieldLink RX12 75 RX12 (TX12 29).2.1 (TX12 29).2.2.1 ∈ tb := tb_in (List.mem_of_getElem? (i := 1333) (by decide +kernel)) (by decide +kernel)
theorem m_get_evenRound (C : Cx Γ cc RX12 nL D (tyW ca) rm ret mc ms Post) (hd : decode cc pc = .ok (.getfield 75, 3)) (kk : G Γ cn sn (pc + 3) lv (.ref (o 12) :: st) (cM ca o I J)) : G Γ cn sn pc lv (.ref (o 0) :: st) (cM ca o I J) := g_get C inM 0 (cM_0 ca o I J) rfl 29 (by decide) wdM_evenRound (fun _ _ _ _ h => h) rfl hd kk
theorem wdM_oddRound : Cond.fieldLink RX12 78 RX12 (TX12 30).2.1 (TX12 30).2.2.1 ∈ tb := tb_in (List.mem_of_getElem? (i := 1334) (by decide +kernel)) (by decide +kernel)
theorem m_get_oddRound (C : Cx Γ cc RX12 nL D (tyW ca) rm ret mc ms Post) (hd : decode cc pc = .ok (.getfield 78, 3)) (kk : G Γ cn sn (pc + 3) lv (.ref (o 13) :: st) (cM ca o I J)) : G Γ cn sn pc lv (.ref (o 0) :: st) (cM ca o I J) := g_get C inM 0 (cM_0 ca o I J) rfl 30 (by decide) wdM_oddRound (fun _ _ _ _ h => h) rfl hd kk
theorem wdM_atX : Cond.fieldLink RX12 259 RX12 (TX12 31).2.1 (TX12 31).2.2.1 ∈ tb := tb_in (List.mem_of_getElem? (i := 1335) (by decide +kernel)) (by decide +kernel)
theorem m_get_atX (C : Cx Γ cc RX12 nL D (tyW ca) rm ret mc ms Post) (hd : decode cc pc = .ok (.getfield 259, 3)) (kk : G Γ cn sn (pc + 3) lv (.long (J 0 1) :: st) (cM ca o I J)) : G Γ cn sn pc lv (.ref (o 0) :: st) (cM ca o I J) := g_get C inM 0 (cM_0 ca o I J) rfl 31 (by decide) wdM_atX (fun _ _ _ _ h => h) rfl hd kk
theorem m_put_atX (C : Cx Γ cc RX12 nL D (tyW ca) rm ret mc ms Post) {v : Int64} (hd : decode cc pc = .ok (.putfield 259, 3)) (kk : G Γ cn sn (pc + 3) lv st (cM ca o I (upJ J 0 1 v))) : G Γ cn sn pc lv (.long v :: .ref (o 0) :: st) (cM ca o I J) := g_put C inM tyX12 tyX12_ok nmX12 0 (cM_0 ca o I J) rfl 31 (by decide) wdM_atX (fun _ _ _ _ h => h) rfl (ty := .long) (by decide +kernel) rfl rfl (by show _ < 56; decide) hd _ (cM_set0J ca o I J rfl) kk
theorem wdM_atY : Cond.fieldLink RX12 262 RX12 (TX12 32).2.1 (TX12 32).2.2.1 ∈ tb := tb_in (List.mem_of_getElem? (i := 1336) (by decide +kernel)) (by decide +kernel)
theorem m_get_atY (C : Cx Γ cc RX12 nL D (tyW ca) rm ret mc ms Post) (hd : decode cc pc = .ok (.getfield 262, 3)) (kk : G Γ cn sn (pc + 3) lv (.long (J 0 2) :: st) (cM ca o I J)) : G Γ cn sn pc lv (.ref (o 0) :: st) (cM ca o I J) := g_get C inM 0 (cM_0 ca o I J) rfl 32 (by decide) wdM_atY (fun _ _ _ _ h => h) rfl hd kk
theorem m_put_atY (C : Cx Γ cc RX12 nL D (tyW ca) rm ret mc ms Post) {v : Int64} (hd : decode cc pc = .ok (.putfield 262, 3)) (kk : G Γ cn sn (pc + 3) lv st (cM ca o I (upJ J 0 2 v))) : G Γ cn sn pc lv (.long v :: .ref (o 0) :: st) (cM ca o I J) := g_put C inM tyX12 tyX12_ok nmX12 0 (cM_0 ca o I J) rfl 32 (by decide) wdM_atY (fun _ _ _ _ h => h) rfl (ty := .long) (by decide +kernel) rfl rfl (by show _ < 56; decide) hd _ (cM_set0J ca o I J rfl) kk
theorem wdM_xs : Cond.fieldLink RX12 81 RX12 (TX12 33).2.1 (TX12 33).2.2.1 ∈ tb := tb_in (List.mem_of_getElem? (i := 1337) (by decide +kernel)) (by decide +kernel)
theorem m_get_xs (C : Cx Γ cc RX12 nL D (tyW ca) rm ret mc ms Post) (hd : decode cc pc = .ok (.getfield 81, 3)) (kk : G Γ cn sn (pc + 3) lv (.ref (o 14) :: st) (cM ca o I J)) : G Γ cn sn pc lv (.ref (o 0) :: st) (cM ca o I J) := g_get C inM 0 (cM_0 ca o I J) rfl 33 (by decide) wdM_xs (fun _ _ _ _ h => h) rfl hd kk
theorem wdM_ys : Cond.fieldLink RX12 84 RX12 (TX12 34).2.1 (TX12 34).2.2.1 ∈ tb := tb_in (List.mem_of_getElem? (i := 1338) (by decide +kernel)) (by decide +kernel)
theorem m_get_ys (C : Cx Γ cc RX12 nL D (tyW ca) rm ret mc ms Post) (hd : decode cc pc = .ok (.getfield 84, 3)) (kk : G Γ cn sn (pc + 3) lv (.ref (o 15) :: st) (cM ca o I J)) : G Γ cn sn pc lv (.ref (o 0) :: st) (cM ca o I J) := g_get C inM 0 (cM_0 ca o I J) rfl 34 (by decide) wdM_ys (fun _ _ _ _ h => h) rfl hd kk
theorem wdM_xs2 : Cond.fieldLink RX12 87 RX12 (TX12 35).2.1 (TX12 35).2.2.1 ∈ tb := tb_in (List.mem_of_getElem? (i := 1339) (by decide +kernel)) (by decide +kernel)
theorem m_get_xs2 (C : Cx Γ cc RX12 nL D (tyW ca) rm ret mc ms Post) (hd : decode cc pc = .ok (.getfield 87, 3)) (kk : G Γ cn sn (pc + 3) lv (.ref (o 16) :: st) (cM ca o I J)) : G Γ cn sn pc lv (.ref (o 0) :: st) (cM ca o I J) := g_get C inM 0 (cM_0 ca o I J) rfl 35 (by decide) wdM_xs2 (fun _ _ _ _ h => h) rfl hd kk
theorem wdM_ys2 : Cond.fieldLink RX12 90 RX12 (TX12 36).2.1 (TX12 36).2.2.1 ∈ tb := tb_in (List.mem_of_getElem? (i := 1340) (by decide +kernel)) (by decide +kernel)
theorem m_get_ys2 (C : Cx Γ cc RX12 nL D (tyW ca) rm ret mc ms Post) (hd : decode cc pc = .ok (.getfield 90, 3)) (kk : G Γ cn sn (pc + 3) lv (.ref (o 17) :: st) (cM ca o I J)) : G Γ cn sn pc lv (.ref (o 0) :: st) (cM ca o I J) := g_get C inM 0 (cM_0 ca o I J) rfl 36 (by decide) wdM_ys2 (fun _ _ _ _ h => h) rfl hd kk
theorem wdM_mark : Cond.fieldLink RX12 93 RX12 (TX12 37).2.1 (TX12 37).2.2.1 ∈ tb := tb_in (List.mem_of_getElem? (i := 1341) (by decide +kernel)) (by decide +kernel)
theorem m_get_mark (C : Cx Γ cc RX12 nL D (tyW ca) rm ret mc ms Post) (hd : decode cc pc = .ok (.getfield 93, 3)) (kk : G Γ cn sn (pc + 3) lv (.ref (o 18) :: st) (cM ca o I J)) : G Γ cn sn pc lv (.ref (o 0) :: st) (cM ca o I J) := g_get C inM 0 (cM_0 ca o I J) rfl 37 (by decide) wdM_mark (fun _ _ _ _ h => h) rfl hd kk
theorem wdM_often : Cond.fieldLink RX12 96 RX12 (TX12 38).2.1 (TX12 38).2.2.1 ∈ tb := tb_in (List.mem_of_getElem? (i := 1342) (by decide +kernel)) (by decide +kernel)
theorem m_get_often (C : Cx Γ cc RX12 nL D (tyW ca) rm ret mc ms Post) (hd : decode cc pc = .ok (.getfield 96, 3)) (kk : G Γ cn sn (pc + 3) lv (.ref (o 19) :: st) (cM ca o I J)) : G Γ cn sn pc lv (.ref (o 0) :: st) (cM ca o I J) := g_get C inM 0 (cM_0 ca o I J) rfl 38 (by decide) wdM_often (fun _ _ _ _ h => h) rfl hd kk
theorem wdM_marks : Cond.fieldLink RX12 276 RX12 (TX12 39).2.1 (TX12 39).2.2.1 ∈ tb := tb_in (List.mem_of_getElem? (i := 1343) (by decide +kernel)) (by decide +kernel)
theorem m_get_marks (C : Cx Γ cc RX12 nL D (tyW ca) rm ret mc ms Post) (hd : decode cc pc = .ok (.getfield 276, 3)) (kk : G Γ cn sn (pc + 3) lv (.int (I 0 8) :: st) (cM ca o I J)) : G Γ cn sn pc lv (.ref (o 0) :: st) (cM ca o I J) := g_get C inM 0 (cM_0 ca o I J) rfl 39 (by decide) wdM_marks (fun _ _ _ _ h => h) rfl hd kk
theorem m_put_marks (C : Cx Γ cc RX12 nL D (tyW ca) rm ret mc ms Post) {v : Int32} (hd : decode cc pc = .ok (.putfield 276, 3)) (kk : G Γ cn sn (pc + 3) lv st (cM ca o (upI I 0 8 v) J)) : G Γ cn sn pc lv (.int v :: .ref (o 0) :: st) (cM ca o I J) := g_put C inM tyX12 tyX12_ok nmX12 0 (cM_0 ca o I J) rfl 39 (by decide) wdM_marks (fun _ _ _ _ h => h) rfl (ty := .int) (by decide +kernel) rfl rfl (by show _ < 56; decide) hd _ (cM_set0I ca o I J rfl) kk
theorem wdM_along : Cond.fieldLink RX12 99 RX12 (TX12 40).2.1 (TX12 40).2.2.1 ∈ tb := tb_in (List.mem_of_getElem? (i := 1344) (by decide +kernel)) (by decide +kernel)
theorem m_get_along (C : Cx Γ cc RX12 nL D (tyW ca) rm ret mc ms Post) (hd : decode cc pc = .ok (.getfield 99, 3)) (kk : G Γ cn sn (pc + 3) lv (.ref (o 20) :: st) (cM ca o I J)) : G Γ cn sn pc lv (.ref (o 0) :: st) (cM ca o I J) := g_get C inM 0 (cM_0 ca o I J) rfl 40 (by decide) wdM_along (fun _ _ _ _ h => h) rfl hd kk
theorem wdM_up : Cond.fieldLink RX12 102 RX12 (TX12 41).2.1 (TX12 41).2.2.1 ∈ tb := tb_in (List.mem_of_getElem? (i := 1345) (by decide +kernel)) (by decide +kernel)
theorem m_get_up (C : Cx Γ cc RX12 nL D (tyW ca) rm ret mc ms Post) (hd : decode cc pc = .ok (.getfield 102, 3)) (kk : G Γ cn sn (pc + 3) lv (.ref (o 21) :: st) (cM ca o I J)) : G Γ cn sn pc lv (.ref (o 0) :: st) (cM ca o I J) := g_get C inM 0 (cM_0 ca o I J) rfl 41 (by decide) wdM_up (fun _ _ _ _ h => h) rfl hd kk
theorem wdM_want0 : Cond.fieldLink RX12 105 RX12 (TX12 42).2.1 (TX12 42).2.2.1 ∈ tb := tb_in (List.mem_of_getElem? (i := 1346) (by decide +kernel)) (by decide +kernel)
theorem m_get_want0 (C : Cx Γ cc RX12 nL D (tyW ca) rm ret mc ms Post) (hd : decode cc pc = .ok (.getfield 105, 3)) (kk : G Γ cn sn (pc + 3) lv (.ref (o 22) :: st) (cM ca o I J)) : G Γ cn sn pc lv (.ref (o 0) :: st) (cM ca o I J) := g_get C inM 0 (cM_0 ca o I J) rfl 42 (by decide) wdM_want0 (fun _ _ _ _ h => h) rfl hd kk
theorem wdM_want1 : Cond.fieldLink RX12 108 RX12 (TX12 43).2.1 (TX12 43).2.2.1 ∈ tb := tb_in (List.mem_of_getElem? (i := 1347) (by decide +kernel)) (by decide +kernel)
theorem m_get_want1 (C : Cx Γ cc RX12 nL D (tyW ca) rm ret mc ms Post) (hd : decode cc pc = .ok (.getfield 108, 3)) (kk : G Γ cn sn (pc + 3) lv (.ref (o 23) :: st) (cM ca o I J)) : G Γ cn sn pc lv (.ref (o 0) :: st) (cM ca o I J) := g_get C inM 0 (cM_0 ca o I J) rfl 43 (by decide) wdM_want1 (fun _ _ _ _ h => h) rfl hd kk
theorem wdM_levels : Cond.fieldLink RX12 309 RX12 (TX12 44).2.1 (TX12 44).2.2.1 ∈ tb := tb_in (List.mem_of_getElem? (i := 1348) (by decide +kernel)) (by decide +kernel)
theorem m_get_levels (C : Cx Γ cc RX12 nL D (tyW ca) rm ret mc ms Post) (hd : decode cc pc = .ok (.getfield 309, 3)) (kk : G Γ cn sn (pc + 3) lv (.int (I 0 9) :: st) (cM ca o I J)) : G Γ cn sn pc lv (.ref (o 0) :: st) (cM ca o I J) := g_get C inM 0 (cM_0 ca o I J) rfl 44 (by decide) wdM_levels (fun _ _ _ _ h => h) rfl hd kk
theorem m_put_levels (C : Cx Γ cc RX12 nL D (tyW ca) rm ret mc ms Post) {v : Int32} (hd : decode cc pc = .ok (.putfield 309, 3)) (kk : G Γ cn sn (pc + 3) lv st (cM ca o (upI I 0 9 v) J)) : G Γ cn sn pc lv (.int v :: .ref (o 0) :: st) (cM ca o I J) := g_put C inM tyX12 tyX12_ok nmX12 0 (cM_0 ca o I J) rfl 44 (by decide) wdM_levels (fun _ _ _ _ h => h) rfl (ty := .int) (by decide +kernel) rfl rfl (by show _ < 56; decide) hd _ (cM_set0I ca o I J rfl) kk
theorem wdM_wrongCrease : Cond.fieldLink RX12 312 RX12 (TX12 45).2.1 (TX12 45).2.2.1 ∈ tb := tb_in (List.mem_of_getElem? (i := 1349) (by decide +kernel)) (by decide +kernel)
theorem m_get_wrongCrease (C : Cx Γ cc RX12 nL D (tyW ca) rm ret mc ms Post) (hd : decode cc pc = .ok (.getfield 312, 3)) (kk : G Γ cn sn (pc + 3) lv (.int (I 0 10) :: st) (cM ca o I J)) : G Γ cn sn pc lv (.ref (o 0) :: st) (cM ca o I J) := g_get C inM 0 (cM_0 ca o I J) rfl 45 (by decide) wdM_wrongCrease (fun _ _ _ _ h => h) rfl hd kk
theorem m_put_wrongCrease (C : Cx Γ cc RX12 nL D (tyW ca) rm ret mc ms Post) {v : Int32} (hd : decode cc pc = .ok (.putfield 312, 3)) (kk : G Γ cn sn (pc + 3) lv st (cM ca o (upI I 0 10 v) J)) : G Γ cn sn pc lv (.int v :: .ref (o 0) :: st) (cM ca o I J) := g_put C inM tyX12 tyX12_ok nmX12 0 (cM_0 ca o I J) rfl 45 (by decide) wdM_wrongCrease (fun _ _ _ _ h => h) rfl (ty := .int) (by decide +kernel) rfl rfl (by show _ < 56; decide) hd _ (cM_set0I ca o I J rfl) kk
theorem wdM_leaf : Cond.fieldLink RX12 111 RX12 (TX12 46).2.1 (TX12 46).2.2.1 ∈ tb := tb_in (List.mem_of_getElem? (i := 1350) (by decide +kernel)) (by decide +kernel)
theorem m_get_leaf (C : Cx Γ cc RX12 nL D (tyW ca) rm ret mc ms Post) (hd : decode cc pc = .ok (.getfield 111, 3)) (kk : G Γ cn sn (pc + 3) lv (.ref (o 24) :: st) (cM ca o I J)) : G Γ cn sn pc lv (.ref (o 0) :: st) (cM ca o I J) := g_get C inM 0 (cM_0 ca o I J) rfl 46 (by decide) wdM_leaf (fun _ _ _ _ h => h) rfl hd kk
theorem wdM_at : Cond.fieldLink RX12 114 RX12 (TX12 47).2.1 (TX12 47).2.2.1 ∈ tb := tb_in (List.mem_of_getElem? (i := 1351) (by decide +kernel)) (by decide +kernel)
theorem m_get_at (C : Cx Γ cc RX12 nL D (tyW ca) rm ret mc ms Post) (hd : decode cc pc = .ok (.getfield 114, 3)) (kk : G Γ cn sn (pc + 3) lv (.ref (o 25) :: st) (cM ca o I J)) : G Γ cn sn pc lv (.ref (o 0) :: st) (cM ca o I J) := g_get C inM 0 (cM_0 ca o I J) rfl 47 (by decide) wdM_at (fun _ _ _ _ h => h) rfl hd kk
theorem wdM_found : Cond.fieldLink RX12 117 RX12 (TX12 48).2.1 (TX12 48).2.2.1 ∈ tb := tb_in (List.mem_of_getElem? (i := 1352) (by decide +kernel)) (by decide +kernel)
theorem m_get_found (C : Cx Γ cc RX12 nL D (tyW ca) rm ret mc ms Post) (hd : decode cc pc = .ok (.getfield 117, 3)) (kk : G Γ cn sn (pc + 3) lv (.ref (o 26) :: st) (cM ca o I J)) : G Γ cn sn pc lv (.ref (o 0) :: st) (cM ca o I J) := g_get C inM 0 (cM_0 ca o I J) rfl 48 (by decide) wdM_found (fun _ _ _ _ h => h) rfl hd kk
theorem wdM_foundOf : Cond.fieldLink RX12 335 RX12 (TX12 49).2.1 (TX12 49).2.2.1 ∈ tb := tb_in (List.mem_of_getElem? (i := 1353) (by decide +kernel)) (by decide +kernel)
theorem m_get_foundOf (C : Cx Γ cc RX12 nL D (tyW ca) rm ret mc ms Post) (hd : decode cc pc = .ok (.getfield 335, 3)) (kk : G Γ cn sn (pc + 3) lv (.int (I 0 11) :: st) (cM ca o I J)) : G Γ cn sn pc lv (.ref (o 0) :: st) (cM ca o I J) := g_get C inM 0 (cM_0 ca o I J) rfl 49 (by decide) wdM_foundOf (fun _ _ _ _ h => h) rfl hd kk
theorem m_put_foundOf (C : Cx Γ cc RX12 nL D (tyW ca) rm ret mc ms Post) {v : Int32} (hd : decode cc pc = .ok (.putfield 335, 3)) (kk : G Γ cn sn (pc + 3) lv st (cM ca o (upI I 0 11 v) J)) : G Γ cn sn pc lv (.int v :: .ref (o 0) :: st) (cM ca o I J) := g_put C inM tyX12 tyX12_ok nmX12 0 (cM_0 ca o I J) rfl 49 (by decide) wdM_foundOf (fun _ _ _ _ h => h) rfl (ty := .int) (by decide +kernel) rfl rfl (by show _ < 56; decide) hd _ (cM_set0I ca o I J rfl) kk
theorem wdM_foundMany : Cond.fieldLink RX12 328 RX12 (TX12 50).2.1 (TX12 50).2.2.1 ∈ tb := tb_in (List.mem_of_getElem? (i := 1354) (by decide +kernel)) (by decide +kernel)
theorem m_get_foundMany (C : Cx Γ cc RX12 nL D (tyW ca) rm ret mc ms Post) (hd : decode cc pc = .ok (.getfield 328, 3)) (kk : G Γ cn sn (pc + 3) lv (.int (I 0 12) :: st) (cM ca o I J)) : G Γ cn sn pc lv (.ref (o 0) :: st) (cM ca o I J) := g_get C inM 0 (cM_0 ca o I J) rfl 50 (by decide) wdM_foundMany (fun _ _ _ _ h => h) rfl hd kk
theorem m_put_foundMany (C : Cx Γ cc RX12 nL D (tyW ca) rm ret mc ms Post) {v : Int32} (hd : decode cc pc = .ok (.putfield 328, 3)) (kk : G Γ cn sn (pc + 3) lv st (cM ca o (upI I 0 12 v) J)) : G Γ cn sn pc lv (.int v :: .ref (o 0) :: st) (cM ca o I J) := g_put C inM tyX12 tyX12_ok nmX12 0 (cM_0 ca o I J) rfl 50 (by decide) wdM_foundMany (fun _ _ _ _ h => h) rfl (ty := .int) (by decide +kernel) rfl rfl (by show _ < 56; decide) hd _ (cM_set0I ca o I J rfl) kk
theorem wdM_heap : Cond.fieldLink RX12 120 RX12 (TX12 51).2.1 (TX12 51).2.2.1 ∈ tb := tb_in (List.mem_of_getElem? (i := 1355) (by decide +kernel)) (by decide +kernel)
theorem m_get_heap (C : Cx Γ cc RX12 nL D (tyW ca) rm ret mc ms Post) (hd : decode cc pc = .ok (.getfield 120, 3)) (kk : G Γ cn sn (pc + 3) lv (.ref (o 27) :: st) (cM ca o I J)) : G Γ cn sn pc lv (.ref (o 0) :: st) (cM ca o I J) := g_get C inM 0 (cM_0 ca o I J) rfl 51 (by decide) wdM_heap (fun _ _ _ _ h => h) rfl hd kk
theorem wdM_deep : Cond.fieldLink RX12 123 RX12 (TX12 52).2.1 (TX12 52).2.2.1 ∈ tb := tb_in (List.mem_of_getElem? (i := 1356) (by decide +kernel)) (by decide +kernel)
theorem m_get_deep (C : Cx Γ cc RX12 nL D (tyW ca) rm ret mc ms Post) (hd : decode cc pc = .ok (.getfield 123, 3)) (kk : G Γ cn sn (pc + 3) lv (.ref (o 28) :: st) (cM ca o I J)) : G Γ cn sn pc lv (.ref (o 0) :: st) (cM ca o I J) := g_get C inM 0 (cM_0 ca o I J) rfl 52 (by decide) wdM_deep (fun _ _ _ _ h => h) rfl hd kk
theorem wdM_trace : Cond.fieldLink RX12 126 RX12 (TX12 53).2.1 (TX12 53).2.2.1 ∈ tb := tb_in (List.mem_of_getElem? (i := 1357) (by decide +kernel)) (by decide +kernel)
theorem m_get_trace (C : Cx Γ cc RX12 nL D (tyW ca) rm ret mc ms Post) (hd : decode cc pc = .ok (.getfield 126, 3)) (kk : G Γ cn sn (pc + 3) lv (.ref (o 29) :: st) (cM ca o I J)) : G Γ cn sn pc lv (.ref (o 0) :: st) (cM ca o I J) := g_get C inM 0 (cM_0 ca o I J) rfl 53 (by decide) wdM_trace (fun _ _ _ _ h => h) rfl hd kk
theorem wdM_ran : Cond.fieldLink RX12 341 RX12 (TX12 54).2.1 (TX12 54).2.2.1 ∈ tb := tb_in (List.mem_of_getElem? (i := 1358) (by decide +kernel)) (by decide +kernel)
theorem m_get_ran (C : Cx Γ cc RX12 nL D (tyW ca) rm ret mc ms Post) (hd : decode cc pc = .ok (.getfield 341, 3)) (kk : G Γ cn sn (pc + 3) lv (.int (I 0 13) :: st) (cM ca o I J)) : G Γ cn sn pc lv (.ref (o 0) :: st) (cM ca o I J) := g_get C inM 0 (cM_0 ca o I J) rfl 54 (by decide) wdM_ran (fun _ _ _ _ h => h) rfl hd kk
theorem m_put_ran (C : Cx Γ cc RX12 nL D (tyW ca) rm ret mc ms Post) {v : Int32} (hd : decode cc pc = .ok (.putfield 341, 3)) (kk : G Γ cn sn (pc + 3) lv st (cM ca o (upI I 0 13 v) J)) : G Γ cn sn pc lv (.int v :: .ref (o 0) :: st) (cM ca o I J) := g_put C inM tyX12 tyX12_ok nmX12 0 (cM_0 ca o I J) rfl 54 (by decide) wdM_ran (fun _ _ _ _ h => h) rfl (ty := .int) (by decide +kernel) rfl rfl (by show _ < 56; decide) hd _ (cM_set0I ca o I J rfl) kk
theorem wdM_isKept : Cond.fieldLink RX12 356 RX12 (TX12 55).2.1 (TX12 55).2.2.1 ∈ tb := tb_in (List.mem_of_getElem? (i := 1359) (by decide +kernel)) (by decide +kernel)
theorem m_get_isKept (C : Cx Γ cc RX12 nL D (tyW ca) rm ret mc ms Post) (hd : decode cc pc = .ok (.getfield 356, 3)) (kk : G Γ cn sn (pc + 3) lv (.int (I 0 14) :: st) (cM ca o I J)) : G Γ cn sn pc lv (.ref (o 0) :: st) (cM ca o I J) := g_get C inM 0 (cM_0 ca o I J) rfl 55 (by decide) wdM_isKept (fun _ _ _ _ h => h) rfl hd kk
theorem m_put_isKept (C : Cx Γ cc RX12 nL D (tyW ca) rm ret mc ms Post) (b : Bool) {v : Int32} (hv : v = bI b) (hd : decode cc pc = .ok (.putfield 356, 3)) (kk : G Γ cn sn (pc + 3) lv st (cM ca o (upI I 0 14 v) J)) : G Γ cn sn pc lv (.int v :: .ref (o 0) :: st) (cM ca o I J) := by
  subst hv
  exact g_put C inM tyX12 tyX12_ok nmX12 0 (cM_0 ca o I J) rfl 55 (by decide) wdM_isKept (fun _ _ _ _ h => h) rfl (ty := .boolean) (by decide +kernel) (bI_narrow b) (by cases b <;> rfl) (by show _ < 56; decide) hd _ (cM_set0I ca o I J rfl) kk
end MROWS
