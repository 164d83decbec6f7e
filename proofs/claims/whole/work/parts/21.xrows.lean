theorem inCJ4 : ∀ w ∈ u_ws RJ4 TJ4 4, w ∈ tb := fun w h => (goodIn_r (big := lw_tbl) (u_ws RJ4 TJ4 4) [137, 139, 141, 143] (by decide +kernel) (by decide +kernel) w h).elim (fun h1 h2 => tb_in h1 (List.all_eq_true.mp (show (u_ws RJ4 TJ4 4).all goodWord = true by decide +kernel) w h))
theorem inCX0 : ∀ w ∈ u_ws RX0 TX0 6, w ∈ tb := fun w h => (goodIn_r (big := lw_tbl) (u_ws RX0 TX0 6) [581, 582, 583, 584, 585, 586] (by decide +kernel) (by decide +kernel) w h).elim (fun h1 h2 => tb_in h1 (List.all_eq_true.mp (show (u_ws RX0 TX0 6).all goodWord = true by decide +kernel) w h))
theorem inCX1 : ∀ w ∈ u_ws RX1 TX1 7, w ∈ tb := fun w h => (goodIn_r (big := lw_tbl) (u_ws RX1 TX1 7) [205, 207, 209, 211, 213, 215, 217] (by decide +kernel) (by decide +kernel) w h).elim (fun h1 h2 => tb_in h1 (List.all_eq_true.mp (show (u_ws RX1 TX1 7).all goodWord = true by decide +kernel) w h))
theorem inCX2 : ∀ w ∈ u_ws RX2 TX2 6, w ∈ tb := fun w h => (goodIn_r (big := lw_tbl) (u_ws RX2 TX2 6) [570, 571, 572, 573, 574, 568] (by decide +kernel) (by decide +kernel) w h).elim (fun h1 h2 => tb_in h1 (List.all_eq_true.mp (show (u_ws RX2 TX2 6).all goodWord = true by decide +kernel) w h))
theorem inCX3 : ∀ w ∈ u_ws RX3 TX3 5, w ∈ tb := fun w h => (goodIn_r (big := lw_tbl) (u_ws RX3 TX3 5) [593, 594, 595, 596, 597] (by decide +kernel) (by decide +kernel) w h).elim (fun h1 h2 => tb_in h1 (List.all_eq_true.mp (show (u_ws RX3 TX3 5).all goodWord = true by decide +kernel) w h))
theorem inCX4 : ∀ w ∈ u_ws RX4 TX4 6, w ∈ tb := fun w h => (goodIn_r (big := lw_tbl) (u_ws RX4 TX4 6) [232, 234, 236, 238, 240, 242] (by decide +kernel) (by decide +kernel) w h).elim (fun h1 h2 => tb_in h1 (List.all_eq_true.mp (show (u_ws RX4 TX4 6).all goodWord = true by decide +kernel) w h))
theorem inCX5 : ∀ w ∈ u_ws RX5 TX5 5, w ∈ tb := fun w h => (goodIn_r (big := lw_tbl) (u_ws RX5 TX5 5) [604, 605, 606, 607, 608] (by decide +kernel) (by decide +kernel) w h).elim (fun h1 h2 => tb_in h1 (List.all_eq_true.mp (show (u_ws RX5 TX5 5).all goodWord = true by decide +kernel) w h))
theorem inCX6 : ∀ w ∈ u_ws RX6 TX6 9, w ∈ tb := fun w h => (goodIn_r (big := lw_tbl) (u_ws RX6 TX6 9) [167, 169, 171, 173, 175, 177, 179, 181, 183] (by decide +kernel) (by decide +kernel) w h).elim (fun h1 h2 => tb_in h1 (List.all_eq_true.mp (show (u_ws RX6 TX6 9).all goodWord = true by decide +kernel) w h))
theorem inCX7 : ∀ w ∈ u_ws RX7 TX7 5, w ∈ tb := fun w h => (goodIn_r (big := lw_tbl) (u_ws RX7 TX7 5) [538, 540, 542, 544, 546] (by decide +kernel) (by decide +kernel) w h).elim (fun h1 h2 => tb_in h1 (List.all_eq_true.mp (show (u_ws RX7 TX7 5).all goodWord = true by decide +kernel) w h))
theorem inCX8 : ∀ w ∈ u_ws RX8 TX8 3, w ∈ tb := fun w h => (goodIn_r (big := lw_tbl) (u_ws RX8 TX8 3) [257, 259, 261] (by decide +kernel) (by decide +kernel) w h).elim (fun h1 h2 => tb_in h1 (List.all_eq_true.mp (show (u_ws RX8 TX8 3).all goodWord = true by decide +kernel) w h))
theorem inCX9 : ∀ w ∈ u_ws RX9 TX9 5, w ∈ tb := fun w h => (goodIn_r (big := lw_tbl) (u_ws RX9 TX9 5) [612, 613, 614, 615, 616] (by decide +kernel) (by decide +kernel) w h).elim (fun h1 h2 => tb_in h1 (List.all_eq_true.mp (show (u_ws RX9 TX9 5).all goodWord = true by decide +kernel) w h))
theorem inCX10 : ∀ w ∈ u_ws RX10 TX10 5, w ∈ tb := fun w h => (goodIn_r (big := lw_tbl) (u_ws RX10 TX10 5) [555, 556, 557, 558, 559] (by decide +kernel) (by decide +kernel) w h).elim (fun h1 h2 => tb_in h1 (List.all_eq_true.mp (show (u_ws RX10 TX10 5).all goodWord = true by decide +kernel) w h))
theorem inCX11 : ∀ w ∈ u_ws RX11 TX11 12, w ∈ tb := fun w h => (goodIn_r (big := lw_tbl) (u_ws RX11 TX11 12) [277, 279, 281, 283, 285, 287, 289, 291, 293, 295, 297, 299] (by decide +kernel) (by decide +kernel) w h).elim (fun h1 h2 => tb_in h1 (List.all_eq_true.mp (show (u_ws RX11 TX11 12).all goodWord = true by decide +kernel) w h))
theorem sE_0 {v : gV} (h1 : ¬ sC v = 1) (h2 : ¬ sC v = 2) (h3 : ¬ sC v = 3) (h4 : ¬ sC v = 4) (h5 : ¬ sC v = 5) (h6 : ¬ sC v = 6) : sE v = .inr (10, [.int (sK v), .int (sN v), .int (sA v), .int (sL v), .long (sW v)]) := by
  unfold sE
  split <;> first | omega | rfl
theorem sE_1 {v : gV} (h : sC v = 1) : sE v = .inr (8, [.int (sK v), .int (sN v), .int (sA v), .int (sL v), .long (sW v)]) := by
  unfold sE
  rw [h]
  try rfl
theorem sE_2 {v : gV} (h : sC v = 2) : sE v = .inr (11, [.int (sK v), .int (sN v), .int (sA v), .int (sL v), .long (sW v)]) := by
  unfold sE
  rw [h]
  try rfl
theorem sE_3 {v : gV} (h : sC v = 3) : sE v = .inr (3, [.int (sK v), .int (sN v), .int (sA v), .int (sL v), .long (sW v), .long (sF v)]) := by
  unfold sE
  rw [h]
  try rfl
theorem sE_4 {v : gV} (h : sC v = 4) : sE v = .inr (1, [.long (sF v), .int (sK v), .int (sN v), .int (sA v), .int (sL v), .long (sW v)]) := by
  unfold sE
  rw [h]
  try rfl
theorem sE_5 {v : gV} (h : sC v = 5) : sE v = .inr (4, [.int (sK v), .int (sN v), .int (sA v), .int (sL v), .long (sW v)]) := by
  unfold sE
  rw [h]
  try rfl
theorem sE_6 {v : gV} (h : sC v = 6) : sE v = .inr (6, [.int (sK v), .int (sN v), .int (sA v), .int (sL v), .long (sW v)]) := by
  unfold sE
  rw [h]
  try rfl
theorem vp_lt {i : Int32} {n : Nat} (h : vp_in i n) : i.toNatClampNeg < n := Nat.not_le.mp fun q => h (Or.inr q)
theorem nar_rf (C : String) (r : Option Nat) : narrow (.object C) (va_rf r) = va_rf r := by cases r <;> rfl
theorem fit_rf (C : String) (r : Option Nat) : fits (.object C) (va_rf r) = true := by cases r <;> rfl
section XROWS
variable {Γ : gT} {cc : ByteArray} {own : String} {nL : Nat} {D : gD} {ca : Nat → ClassId} {rm : Room} {ret : Option FieldType} {mc ms : Nat} {Post : Option Value → va_W → Prop} {cn sn pc : Nat} {lv : List (Nat × Value)} {st : List Value} {o : Nat → Nat} {I : gI} {J : gJ} {R : gR} {L : List Nat} {S : gS}
theorem wdX_J5_15 : Cond.fieldLink RJ5 15 RJ5 (TJ4 0).2.1 (TJ4 0).2.2.1 ∈ tb := (tb_in (List.mem_of_getElem? (i := 133) (by decide +kernel)) (by decide +kernel))
theorem x_get_J5_15 (C : Cx Γ cc RJ5 nL D (tyW ca) rm ret mc ms Post)  (hd : decode cc pc = .ok (.getfield 15, 3)) (kk : G Γ cn sn (pc + 3) lv (.ref (o 2) :: st) (cX ca o I J R L S)) : G Γ cn sn pc lv (.ref (o 1) :: st) (cX ca o I J R L S) := g_get C inCJ4 (1) (cX_1 ca o I J R L S) rfl 0 (by decide) wdX_J5_15 (fun _ _ _ _ h => h) rfl hd kk
theorem wdX_J5_22 : Cond.fieldLink RJ5 22 RJ5 (TJ4 1).2.1 (TJ4 1).2.2.1 ∈ tb := (tb_in (List.mem_of_getElem? (i := 134) (by decide +kernel)) (by decide +kernel))
theorem x_get_J5_22 (C : Cx Γ cc RJ5 nL D (tyW ca) rm ret mc ms Post)  (hd : decode cc pc = .ok (.getfield 22, 3)) (kk : G Γ cn sn (pc + 3) lv (.int (I 0 4) :: st) (cX ca o I J R L S)) : G Γ cn sn pc lv (.ref (o 1) :: st) (cX ca o I J R L S) := g_get C inCJ4 (1) (cX_1 ca o I J R L S) rfl 1 (by decide) wdX_J5_22 (fun _ _ _ _ h => h) rfl hd kk
theorem wdX_J5_73 : Cond.fieldLink RJ5 73 RJ5 (TJ4 2).2.1 (TJ4 2).2.2.1 ∈ tb := (tb_in (List.mem_of_getElem? (i := 135) (by decide +kernel)) (by decide +kernel))
theorem x_get_J5_73 (C : Cx Γ cc RJ5 nL D (tyW ca) rm ret mc ms Post)  (hd : decode cc pc = .ok (.getfield 73, 3)) (kk : G Γ cn sn (pc + 3) lv (.int (I 0 12) :: st) (cX ca o I J R L S)) : G Γ cn sn pc lv (.ref (o 1) :: st) (cX ca o I J R L S) := g_get C inCJ4 (1) (cX_1 ca o I J R L S) rfl 2 (by decide) wdX_J5_73 (fun _ _ _ _ h => h) rfl hd kk
theorem x_put_J5_73 (C : Cx Γ cc RJ5 nL D (tyW ca) rm ret mc ms Post)  {v : Int32} (b0 : Bool) (hv : v = bI b0) (hd : decode cc pc = .ok (.putfield 73, 3)) (kk : G Γ cn sn (pc + 3) lv st (cX ca o (upI I 0 12 v) J R L S)) : G Γ cn sn pc lv (.int v :: .ref (o 1) :: st) (cX ca o I J R L S) := g_put C inCJ4 tyJ4 tyJ4_ok nmJ4 (1) (cX_1 ca o I J R L S) rfl 2 (by decide) wdX_J5_73 (fun _ _ _ _ h => h) rfl (ty := .boolean) (by decide +kernel) (by rw [hv]; exact bI_narrow b0) (by rw [hv]; cases b0 <;> rfl) (by show _ < 4; decide) hd _ (cX_s_sb_maybeLatin1) kk
theorem wdX_J5_79 : Cond.fieldLink RJ5 79 RJ5 (TJ4 3).2.1 (TJ4 3).2.2.1 ∈ tb := (tb_in (List.mem_of_getElem? (i := 136) (by decide +kernel)) (by decide +kernel))
theorem x_get_J5_79 (C : Cx Γ cc RJ5 nL D (tyW ca) rm ret mc ms Post)  (hd : decode cc pc = .ok (.getfield 79, 3)) (kk : G Γ cn sn (pc + 3) lv (.int (I 0 3) :: st) (cX ca o I J R L S)) : G Γ cn sn pc lv (.ref (o 1) :: st) (cX ca o I J R L S) := g_get C inCJ4 (1) (cX_1 ca o I J R L S) rfl 3 (by decide) wdX_J5_79 (fun _ _ _ _ h => h) rfl hd kk
theorem x_put_J5_79 (C : Cx Γ cc RJ5 nL D (tyW ca) rm ret mc ms Post)  {v : Int32} (hd : decode cc pc = .ok (.putfield 79, 3)) (kk : G Γ cn sn (pc + 3) lv st (cX ca o (upI I 0 3 v) J R L S)) : G Γ cn sn pc lv (.int v :: .ref (o 1) :: st) (cX ca o I J R L S) := g_put C inCJ4 tyJ4 tyJ4_ok nmJ4 (1) (cX_1 ca o I J R L S) rfl 3 (by decide) wdX_J5_79 (fun _ _ _ _ h => h) rfl (ty := .int) (by decide +kernel) rfl rfl (by show _ < 4; decide) hd _ (cX_s_sb_count) kk
theorem wdX_X6_11 : Cond.fieldLink RX6 11 RX6 (TX6 0).2.1 (TX6 0).2.2.1 ∈ tb := (tb_in (List.mem_of_getElem? (i := 155) (by decide +kernel)) (by decide +kernel))
theorem x_get_X6_11 (C : Cx Γ cc RX6 nL D (tyW ca) rm ret mc ms Post)  (hd : decode cc pc = .ok (.getfield 11, 3)) (kk : G Γ cn sn (pc + 3) lv (.ref (o 7) :: st) (cX ca o I J R L S)) : G Γ cn sn pc lv (.ref (o 3) :: st) (cX ca o I J R L S) := g_get C inCX6 (3) (cX_3 ca o I J R L S) rfl 0 (by decide) wdX_X6_11 (fun _ _ _ _ h => h) rfl hd kk
theorem wdX_X11_195 : Cond.fieldLink RX11 195 RX6 (TX6 0).2.1 (TX6 0).2.2.1 ∈ tb := (tb_in (List.mem_of_getElem? (i := 156) (by decide +kernel)) (by decide +kernel))
theorem x_get_X11_195 (C : Cx Γ cc RX11 nL D (tyW ca) rm ret mc ms Post)  (hd : decode cc pc = .ok (.getfield 195, 3)) (kk : G Γ cn sn (pc + 3) lv (.ref (o 7) :: st) (cX ca o I J R L S)) : G Γ cn sn pc lv (.ref (o 3) :: st) (cX ca o I J R L S) := g_get C inCX6 (3) (cX_3 ca o I J R L S) rfl 0 (by decide) wdX_X11_195 (fun _ _ _ _ h => h) rfl hd kk
theorem wdX_X6_21 : Cond.fieldLink RX6 21 RX6 (TX6 1).2.1 (TX6 1).2.2.1 ∈ tb := (tb_in (List.mem_of_getElem? (i := 157) (by decide +kernel)) (by decide +kernel))
theorem x_get_X6_21 (C : Cx Γ cc RX6 nL D (tyW ca) rm ret mc ms Post)  (hd : decode cc pc = .ok (.getfield 21, 3)) (kk : G Γ cn sn (pc + 3) lv (.int (I 0 5) :: st) (cX ca o I J R L S)) : G Γ cn sn pc lv (.ref (o 3) :: st) (cX ca o I J R L S) := g_get C inCX6 (3) (cX_3 ca o I J R L S) rfl 1 (by decide) wdX_X6_21 (fun _ _ _ _ h => h) rfl hd kk
theorem x_put_X6_21 (C : Cx Γ cc RX6 nL D (tyW ca) rm ret mc ms Post)  {v : Int32} (hd : decode cc pc = .ok (.putfield 21, 3)) (kk : G Γ cn sn (pc + 3) lv st (cX ca o (upI I 0 5 v) J R L S)) : G Γ cn sn pc lv (.int v :: .ref (o 3) :: st) (cX ca o I J R L S) := g_put C inCX6 tyX6 tyX6_ok nmX6 (3) (cX_3 ca o I J R L S) rfl 1 (by decide) wdX_X6_21 (fun _ _ _ _ h => h) rfl (ty := .int) (by decide +kernel) rfl rfl (by show _ < 9; decide) hd _ (cX_s_reader_count) kk
theorem wdX_X11_200 : Cond.fieldLink RX11 200 RX6 (TX6 1).2.1 (TX6 1).2.2.1 ∈ tb := (tb_in (List.mem_of_getElem? (i := 158) (by decide +kernel)) (by decide +kernel))
theorem x_get_X11_200 (C : Cx Γ cc RX11 nL D (tyW ca) rm ret mc ms Post)  (hd : decode cc pc = .ok (.getfield 200, 3)) (kk : G Γ cn sn (pc + 3) lv (.int (I 0 5) :: st) (cX ca o I J R L S)) : G Γ cn sn pc lv (.ref (o 3) :: st) (cX ca o I J R L S) := g_get C inCX6 (3) (cX_3 ca o I J R L S) rfl 1 (by decide) wdX_X11_200 (fun _ _ _ _ h => h) rfl hd kk
theorem x_put_X11_200 (C : Cx Γ cc RX11 nL D (tyW ca) rm ret mc ms Post)  {v : Int32} (hd : decode cc pc = .ok (.putfield 200, 3)) (kk : G Γ cn sn (pc + 3) lv st (cX ca o (upI I 0 5 v) J R L S)) : G Γ cn sn pc lv (.int v :: .ref (o 3) :: st) (cX ca o I J R L S) := g_put C inCX6 tyX6 tyX6_ok nmX6 (3) (cX_3 ca o I J R L S) rfl 1 (by decide) wdX_X11_200 (fun _ _ _ _ h => h) rfl (ty := .int) (by decide +kernel) rfl rfl (by show _ < 9; decide) hd _ (cX_s_reader_count) kk
theorem wdX_X6_25 : Cond.fieldLink RX6 25 RX6 (TX6 2).2.1 (TX6 2).2.2.1 ∈ tb := (tb_in (List.mem_of_getElem? (i := 159) (by decide +kernel)) (by decide +kernel))
theorem x_get_X6_25 (C : Cx Γ cc RX6 nL D (tyW ca) rm ret mc ms Post)  (hd : decode cc pc = .ok (.getfield 25, 3)) (kk : G Γ cn sn (pc + 3) lv (.int (I 0 6) :: st) (cX ca o I J R L S)) : G Γ cn sn pc lv (.ref (o 3) :: st) (cX ca o I J R L S) := g_get C inCX6 (3) (cX_3 ca o I J R L S) rfl 2 (by decide) wdX_X6_25 (fun _ _ _ _ h => h) rfl hd kk
theorem x_put_X6_25 (C : Cx Γ cc RX6 nL D (tyW ca) rm ret mc ms Post)  {v : Int32} (hd : decode cc pc = .ok (.putfield 25, 3)) (kk : G Γ cn sn (pc + 3) lv st (cX ca o (upI I 0 6 v) J R L S)) : G Γ cn sn pc lv (.int v :: .ref (o 3) :: st) (cX ca o I J R L S) := g_put C inCX6 tyX6 tyX6_ok nmX6 (3) (cX_3 ca o I J R L S) rfl 2 (by decide) wdX_X6_25 (fun _ _ _ _ h => h) rfl (ty := .int) (by decide +kernel) rfl rfl (by show _ < 9; decide) hd _ (cX_s_reader_fault) kk
theorem wdX_X11_194 : Cond.fieldLink RX11 194 RX6 (TX6 2).2.1 (TX6 2).2.2.1 ∈ tb := (tb_in (List.mem_of_getElem? (i := 160) (by decide +kernel)) (by decide +kernel))
theorem x_get_X11_194 (C : Cx Γ cc RX11 nL D (tyW ca) rm ret mc ms Post)  (hd : decode cc pc = .ok (.getfield 194, 3)) (kk : G Γ cn sn (pc + 3) lv (.int (I 0 6) :: st) (cX ca o I J R L S)) : G Γ cn sn pc lv (.ref (o 3) :: st) (cX ca o I J R L S) := g_get C inCX6 (3) (cX_3 ca o I J R L S) rfl 2 (by decide) wdX_X11_194 (fun _ _ _ _ h => h) rfl hd kk
theorem x_put_X11_194 (C : Cx Γ cc RX11 nL D (tyW ca) rm ret mc ms Post)  {v : Int32} (hd : decode cc pc = .ok (.putfield 194, 3)) (kk : G Γ cn sn (pc + 3) lv st (cX ca o (upI I 0 6 v) J R L S)) : G Γ cn sn pc lv (.int v :: .ref (o 3) :: st) (cX ca o I J R L S) := g_put C inCX6 tyX6 tyX6_ok nmX6 (3) (cX_3 ca o I J R L S) rfl 2 (by decide) wdX_X11_194 (fun _ _ _ _ h => h) rfl (ty := .int) (by decide +kernel) rfl rfl (by show _ < 9; decide) hd _ (cX_s_reader_fault) kk
theorem wdX_X6_31 : Cond.fieldLink RX6 31 RX6 (TX6 3).2.1 (TX6 3).2.2.1 ∈ tb := (tb_in (List.mem_of_getElem? (i := 161) (by decide +kernel)) (by decide +kernel))
theorem x_get_X6_31 (C : Cx Γ cc RX6 nL D (tyW ca) rm ret mc ms Post)  (hd : decode cc pc = .ok (.getfield 31, 3)) (kk : G Γ cn sn (pc + 3) lv (va_re (fun s => o (20 + s)) (R 4 0) :: st) (cX ca o I J R L S)) : G Γ cn sn pc lv (.ref (o 3) :: st) (cX ca o I J R L S) := g_get C inCX6 (3) (cX_3 ca o I J R L S) rfl 3 (by decide) wdX_X6_31 (fun _ _ _ _ h => h) rfl hd kk
theorem x_put_X6_31 (C : Cx Γ cc RX6 nL D (tyW ca) rm ret mc ms Post)  {v : Option Nat} (hd : decode cc pc = .ok (.putfield 31, 3)) (kk : G Γ cn sn (pc + 3) lv st (cX ca o I J (upR R 4 0 v) L S)) : G Γ cn sn pc lv (va_re (fun s => o (20 + s)) v :: .ref (o 3) :: st) (cX ca o I J R L S) := g_put C inCX6 tyX6 tyX6_ok nmX6 (3) (cX_3 ca o I J R L S) rfl 3 (by decide) wdX_X6_31 (fun _ _ _ _ h => h) rfl (ty := .object "FoldedInHalf$Shelf") (by decide +kernel) (nar_rf _ _) (fit_rf _ _) (by show _ < 9; decide) hd _ (cX_s_reader_text) kk
theorem wdX_X6_28 : Cond.fieldLink RX6 28 RX6 (TX6 4).2.1 (TX6 4).2.2.1 ∈ tb := (tb_in (List.mem_of_getElem? (i := 162) (by decide +kernel)) (by decide +kernel))
theorem x_get_X6_28 (C : Cx Γ cc RX6 nL D (tyW ca) rm ret mc ms Post)  (hd : decode cc pc = .ok (.getfield 28, 3)) (kk : G Γ cn sn (pc + 3) lv (.int (I 0 7) :: st) (cX ca o I J R L S)) : G Γ cn sn pc lv (.ref (o 3) :: st) (cX ca o I J R L S) := g_get C inCX6 (3) (cX_3 ca o I J R L S) rfl 4 (by decide) wdX_X6_28 (fun _ _ _ _ h => h) rfl hd kk
theorem x_put_X6_28 (C : Cx Γ cc RX6 nL D (tyW ca) rm ret mc ms Post)  {v : Int32} (hd : decode cc pc = .ok (.putfield 28, 3)) (kk : G Γ cn sn (pc + 3) lv st (cX ca o (upI I 0 7 v) J R L S)) : G Γ cn sn pc lv (.int v :: .ref (o 3) :: st) (cX ca o I J R L S) := g_put C inCX6 tyX6 tyX6_ok nmX6 (3) (cX_3 ca o I J R L S) rfl 4 (by decide) wdX_X6_28 (fun _ _ _ _ h => h) rfl (ty := .int) (by decide +kernel) rfl rfl (by show _ < 9; decide) hd _ (cX_s_reader_at) kk
theorem wdX_X6_71 : Cond.fieldLink RX6 71 RX6 (TX6 5).2.1 (TX6 5).2.2.1 ∈ tb := (tb_in (List.mem_of_getElem? (i := 163) (by decide +kernel)) (by decide +kernel))
theorem x_get_X6_71 (C : Cx Γ cc RX6 nL D (tyW ca) rm ret mc ms Post)  (hd : decode cc pc = .ok (.getfield 71, 3)) (kk : G Γ cn sn (pc + 3) lv (.int (I 0 8) :: st) (cX ca o I J R L S)) : G Γ cn sn pc lv (.ref (o 3) :: st) (cX ca o I J R L S) := g_get C inCX6 (3) (cX_3 ca o I J R L S) rfl 5 (by decide) wdX_X6_71 (fun _ _ _ _ h => h) rfl hd kk
theorem x_put_X6_71 (C : Cx Γ cc RX6 nL D (tyW ca) rm ret mc ms Post)  {v : Int32} (hd : decode cc pc = .ok (.putfield 71, 3)) (kk : G Γ cn sn (pc + 3) lv st (cX ca o (upI I 0 8 v) J R L S)) : G Γ cn sn pc lv (.int v :: .ref (o 3) :: st) (cX ca o I J R L S) := g_put C inCX6 tyX6 tyX6_ok nmX6 (3) (cX_3 ca o I J R L S) rfl 5 (by decide) wdX_X6_71 (fun _ _ _ _ h => h) rfl (ty := .int) (by decide +kernel) rfl rfl (by show _ < 9; decide) hd _ (cX_s_reader_number) kk
theorem wdX_X6_108 : Cond.fieldLink RX6 108 RX6 (TX6 6).2.1 (TX6 6).2.2.1 ∈ tb := (tb_in (List.mem_of_getElem? (i := 164) (by decide +kernel)) (by decide +kernel))
theorem x_get_X6_108 (C : Cx Γ cc RX6 nL D (tyW ca) rm ret mc ms Post)  (hd : decode cc pc = .ok (.getfield 108, 3)) (kk : G Γ cn sn (pc + 3) lv (.int (I 0 9) :: st) (cX ca o I J R L S)) : G Γ cn sn pc lv (.ref (o 3) :: st) (cX ca o I J R L S) := g_get C inCX6 (3) (cX_3 ca o I J R L S) rfl 6 (by decide) wdX_X6_108 (fun _ _ _ _ h => h) rfl hd kk
theorem x_put_X6_108 (C : Cx Γ cc RX6 nL D (tyW ca) rm ret mc ms Post)  {v : Int32} (hd : decode cc pc = .ok (.putfield 108, 3)) (kk : G Γ cn sn (pc + 3) lv st (cX ca o (upI I 0 9 v) J R L S)) : G Γ cn sn pc lv (.int v :: .ref (o 3) :: st) (cX ca o I J R L S) := g_put C inCX6 tyX6 tyX6_ok nmX6 (3) (cX_3 ca o I J R L S) rfl 6 (by decide) wdX_X6_108 (fun _ _ _ _ h => h) rfl (ty := .int) (by decide +kernel) rfl rfl (by show _ < 9; decide) hd _ (cX_s_reader_numberAt) kk
theorem wdX_X6_82 : Cond.fieldLink RX6 82 RX6 (TX6 7).2.1 (TX6 7).2.2.1 ∈ tb := (tb_in (List.mem_of_getElem? (i := 165) (by decide +kernel)) (by decide +kernel))
theorem x_get_X6_82 (C : Cx Γ cc RX6 nL D (tyW ca) rm ret mc ms Post)  (hd : decode cc pc = .ok (.getfield 82, 3)) (kk : G Γ cn sn (pc + 3) lv (.int (I 0 10) :: st) (cX ca o I J R L S)) : G Γ cn sn pc lv (.ref (o 3) :: st) (cX ca o I J R L S) := g_get C inCX6 (3) (cX_3 ca o I J R L S) rfl 7 (by decide) wdX_X6_82 (fun _ _ _ _ h => h) rfl hd kk
theorem x_put_X6_82 (C : Cx Γ cc RX6 nL D (tyW ca) rm ret mc ms Post)  {v : Int32} (hd : decode cc pc = .ok (.putfield 82, 3)) (kk : G Γ cn sn (pc + 3) lv st (cX ca o (upI I 0 10 v) J R L S)) : G Γ cn sn pc lv (.int v :: .ref (o 3) :: st) (cX ca o I J R L S) := g_put C inCX6 tyX6 tyX6_ok nmX6 (3) (cX_3 ca o I J R L S) rfl 7 (by decide) wdX_X6_82 (fun _ _ _ _ h => h) rfl (ty := .int) (by decide +kernel) rfl rfl (by show _ < 9; decide) hd _ (cX_s_reader_levels) kk
theorem wdX_X6_85 : Cond.fieldLink RX6 85 RX6 (TX6 8).2.1 (TX6 8).2.2.1 ∈ tb := (tb_in (List.mem_of_getElem? (i := 166) (by decide +kernel)) (by decide +kernel))
theorem x_get_X6_85 (C : Cx Γ cc RX6 nL D (tyW ca) rm ret mc ms Post)  (hd : decode cc pc = .ok (.getfield 85, 3)) (kk : G Γ cn sn (pc + 3) lv (.long (J 0 0) :: st) (cX ca o I J R L S)) : G Γ cn sn pc lv (.ref (o 3) :: st) (cX ca o I J R L S) := g_get C inCX6 (3) (cX_3 ca o I J R L S) rfl 8 (by decide) wdX_X6_85 (fun _ _ _ _ h => h) rfl hd kk
theorem x_put_X6_85 (C : Cx Γ cc RX6 nL D (tyW ca) rm ret mc ms Post)  {v : Int64} (hd : decode cc pc = .ok (.putfield 85, 3)) (kk : G Γ cn sn (pc + 3) lv st (cX ca o I (upJ J 0 0 v) R L S)) : G Γ cn sn pc lv (.long v :: .ref (o 3) :: st) (cX ca o I J R L S) := g_put C inCX6 tyX6 tyX6_ok nmX6 (3) (cX_3 ca o I J R L S) rfl 8 (by decide) wdX_X6_85 (fun _ _ _ _ h => h) rfl (ty := .long) (by decide +kernel) rfl rfl (by show _ < 9; decide) hd _ (cX_s_reader_word) kk
theorem wdX_X0_29 : Cond.fieldLink RX0 29 RX1 (TX1 0).2.1 (TX1 0).2.2.1 ∈ tb := (tb_in (List.mem_of_getElem? (i := 192) (by decide +kernel)) (by decide +kernel))
theorem x_get_X0_29 (C : Cx Γ cc RX0 nL D (tyW ca) rm ret mc ms Post) {b : Nat} (hb : b < 2) (hd : decode cc pc = .ok (.getfield 29, 3)) (kk : G Γ cn sn (pc + 3) lv (.long (J 1 b) :: st) (cX ca o I J R L S)) : G Γ cn sn pc lv (.ref (o (10 + b)) :: st) (cX ca o I J R L S) := g_get C inCX1 (9 + b) (cX_B ca o I J R L S hb) rfl 0 (by decide) wdX_X0_29 (fun _ _ _ _ h => h) rfl hd kk
theorem x_put_X0_29 (C : Cx Γ cc RX0 nL D (tyW ca) rm ret mc ms Post) {b : Nat} (hb : b < 2) {v : Int64} (hd : decode cc pc = .ok (.putfield 29, 3)) (kk : G Γ cn sn (pc + 3) lv st (cX ca o I (upJ J 1 b v) R L S)) : G Γ cn sn pc lv (.long v :: .ref (o (10 + b)) :: st) (cX ca o I J R L S) := g_put C inCX1 tyX1 tyX1_ok nmX1 (9 + b) (cX_B ca o I J R L S hb) rfl 0 (by decide) wdX_X0_29 (fun _ _ _ _ h => h) rfl (ty := .long) (by decide +kernel) rfl rfl (by show _ < 7; decide) hd _ (cX_s_bug_x hb) kk
theorem wdX_X1_47 : Cond.fieldLink RX1 47 RX1 (TX1 0).2.1 (TX1 0).2.2.1 ∈ tb := (tb_in (List.mem_of_getElem? (i := 193) (by decide +kernel)) (by decide +kernel))
theorem x_get_X1_47 (C : Cx Γ cc RX1 nL D (tyW ca) rm ret mc ms Post) {b : Nat} (hb : b < 2) (hd : decode cc pc = .ok (.getfield 47, 3)) (kk : G Γ cn sn (pc + 3) lv (.long (J 1 b) :: st) (cX ca o I J R L S)) : G Γ cn sn pc lv (.ref (o (10 + b)) :: st) (cX ca o I J R L S) := g_get C inCX1 (9 + b) (cX_B ca o I J R L S hb) rfl 0 (by decide) wdX_X1_47 (fun _ _ _ _ h => h) rfl hd kk
theorem x_put_X1_47 (C : Cx Γ cc RX1 nL D (tyW ca) rm ret mc ms Post) {b : Nat} (hb : b < 2) {v : Int64} (hd : decode cc pc = .ok (.putfield 47, 3)) (kk : G Γ cn sn (pc + 3) lv st (cX ca o I (upJ J 1 b v) R L S)) : G Γ cn sn pc lv (.long v :: .ref (o (10 + b)) :: st) (cX ca o I J R L S) := g_put C inCX1 tyX1 tyX1_ok nmX1 (9 + b) (cX_B ca o I J R L S hb) rfl 0 (by decide) wdX_X1_47 (fun _ _ _ _ h => h) rfl (ty := .long) (by decide +kernel) rfl rfl (by show _ < 7; decide) hd _ (cX_s_bug_x hb) kk
theorem wdX_X2_28 : Cond.fieldLink RX2 28 RX1 (TX1 0).2.1 (TX1 0).2.2.1 ∈ tb := (tb_in (List.mem_of_getElem? (i := 194) (by decide +kernel)) (by decide +kernel))
theorem x_get_X2_28 (C : Cx Γ cc RX2 nL D (tyW ca) rm ret mc ms Post) {b : Nat} (hb : b < 2) (hd : decode cc pc = .ok (.getfield 28, 3)) (kk : G Γ cn sn (pc + 3) lv (.long (J 1 b) :: st) (cX ca o I J R L S)) : G Γ cn sn pc lv (.ref (o (10 + b)) :: st) (cX ca o I J R L S) := g_get C inCX1 (9 + b) (cX_B ca o I J R L S hb) rfl 0 (by decide) wdX_X2_28 (fun _ _ _ _ h => h) rfl hd kk
theorem x_put_X2_28 (C : Cx Γ cc RX2 nL D (tyW ca) rm ret mc ms Post) {b : Nat} (hb : b < 2) {v : Int64} (hd : decode cc pc = .ok (.putfield 28, 3)) (kk : G Γ cn sn (pc + 3) lv st (cX ca o I (upJ J 1 b v) R L S)) : G Γ cn sn pc lv (.long v :: .ref (o (10 + b)) :: st) (cX ca o I J R L S) := g_put C inCX1 tyX1 tyX1_ok nmX1 (9 + b) (cX_B ca o I J R L S hb) rfl 0 (by decide) wdX_X2_28 (fun _ _ _ _ h => h) rfl (ty := .long) (by decide +kernel) rfl rfl (by show _ < 7; decide) hd _ (cX_s_bug_x hb) kk
theorem wdX_X11_215 : Cond.fieldLink RX11 215 RX1 (TX1 0).2.1 (TX1 0).2.2.1 ∈ tb := (tb_in (List.mem_of_getElem? (i := 195) (by decide +kernel)) (by decide +kernel))
theorem x_get_X11_215 (C : Cx Γ cc RX11 nL D (tyW ca) rm ret mc ms Post) {b : Nat} (hb : b < 2) (hd : decode cc pc = .ok (.getfield 215, 3)) (kk : G Γ cn sn (pc + 3) lv (.long (J 1 b) :: st) (cX ca o I J R L S)) : G Γ cn sn pc lv (.ref (o (10 + b)) :: st) (cX ca o I J R L S) := g_get C inCX1 (9 + b) (cX_B ca o I J R L S hb) rfl 0 (by decide) wdX_X11_215 (fun _ _ _ _ h => h) rfl hd kk
theorem x_put_X11_215 (C : Cx Γ cc RX11 nL D (tyW ca) rm ret mc ms Post) {b : Nat} (hb : b < 2) {v : Int64} (hd : decode cc pc = .ok (.putfield 215, 3)) (kk : G Γ cn sn (pc + 3) lv st (cX ca o I (upJ J 1 b v) R L S)) : G Γ cn sn pc lv (.long v :: .ref (o (10 + b)) :: st) (cX ca o I J R L S) := g_put C inCX1 tyX1 tyX1_ok nmX1 (9 + b) (cX_B ca o I J R L S hb) rfl 0 (by decide) wdX_X11_215 (fun _ _ _ _ h => h) rfl (ty := .long) (by decide +kernel) rfl rfl (by show _ < 7; decide) hd _ (cX_s_bug_x hb) kk
theorem wdX_X0_35 : Cond.fieldLink RX0 35 RX1 (TX1 1).2.1 (TX1 1).2.2.1 ∈ tb := (tb_in (List.mem_of_getElem? (i := 196) (by decide +kernel)) (by decide +kernel))
theorem x_get_X0_35 (C : Cx Γ cc RX0 nL D (tyW ca) rm ret mc ms Post) {b : Nat} (hb : b < 2) (hd : decode cc pc = .ok (.getfield 35, 3)) (kk : G Γ cn sn (pc + 3) lv (.long (J 2 b) :: st) (cX ca o I J R L S)) : G Γ cn sn pc lv (.ref (o (10 + b)) :: st) (cX ca o I J R L S) := g_get C inCX1 (9 + b) (cX_B ca o I J R L S hb) rfl 1 (by decide) wdX_X0_35 (fun _ _ _ _ h => h) rfl hd kk
theorem x_put_X0_35 (C : Cx Γ cc RX0 nL D (tyW ca) rm ret mc ms Post) {b : Nat} (hb : b < 2) {v : Int64} (hd : decode cc pc = .ok (.putfield 35, 3)) (kk : G Γ cn sn (pc + 3) lv st (cX ca o I (upJ J 2 b v) R L S)) : G Γ cn sn pc lv (.long v :: .ref (o (10 + b)) :: st) (cX ca o I J R L S) := g_put C inCX1 tyX1 tyX1_ok nmX1 (9 + b) (cX_B ca o I J R L S hb) rfl 1 (by decide) wdX_X0_35 (fun _ _ _ _ h => h) rfl (ty := .long) (by decide +kernel) rfl rfl (by show _ < 7; decide) hd _ (cX_s_bug_y hb) kk
theorem wdX_X1_51 : Cond.fieldLink RX1 51 RX1 (TX1 1).2.1 (TX1 1).2.2.1 ∈ tb := (tb_in (List.mem_of_getElem? (i := 197) (by decide +kernel)) (by decide +kernel))
theorem x_get_X1_51 (C : Cx Γ cc RX1 nL D (tyW ca) rm ret mc ms Post) {b : Nat} (hb : b < 2) (hd : decode cc pc = .ok (.getfield 51, 3)) (kk : G Γ cn sn (pc + 3) lv (.long (J 2 b) :: st) (cX ca o I J R L S)) : G Γ cn sn pc lv (.ref (o (10 + b)) :: st) (cX ca o I J R L S) := g_get C inCX1 (9 + b) (cX_B ca o I J R L S hb) rfl 1 (by decide) wdX_X1_51 (fun _ _ _ _ h => h) rfl hd kk
theorem x_put_X1_51 (C : Cx Γ cc RX1 nL D (tyW ca) rm ret mc ms Post) {b : Nat} (hb : b < 2) {v : Int64} (hd : decode cc pc = .ok (.putfield 51, 3)) (kk : G Γ cn sn (pc + 3) lv st (cX ca o I (upJ J 2 b v) R L S)) : G Γ cn sn pc lv (.long v :: .ref (o (10 + b)) :: st) (cX ca o I J R L S) := g_put C inCX1 tyX1 tyX1_ok nmX1 (9 + b) (cX_B ca o I J R L S hb) rfl 1 (by decide) wdX_X1_51 (fun _ _ _ _ h => h) rfl (ty := .long) (by decide +kernel) rfl rfl (by show _ < 7; decide) hd _ (cX_s_bug_y hb) kk
theorem wdX_X2_33 : Cond.fieldLink RX2 33 RX1 (TX1 1).2.1 (TX1 1).2.2.1 ∈ tb := (tb_in (List.mem_of_getElem? (i := 198) (by decide +kernel)) (by decide +kernel))
theorem x_get_X2_33 (C : Cx Γ cc RX2 nL D (tyW ca) rm ret mc ms Post) {b : Nat} (hb : b < 2) (hd : decode cc pc = .ok (.getfield 33, 3)) (kk : G Γ cn sn (pc + 3) lv (.long (J 2 b) :: st) (cX ca o I J R L S)) : G Γ cn sn pc lv (.ref (o (10 + b)) :: st) (cX ca o I J R L S) := g_get C inCX1 (9 + b) (cX_B ca o I J R L S hb) rfl 1 (by decide) wdX_X2_33 (fun _ _ _ _ h => h) rfl hd kk
theorem x_put_X2_33 (C : Cx Γ cc RX2 nL D (tyW ca) rm ret mc ms Post) {b : Nat} (hb : b < 2) {v : Int64} (hd : decode cc pc = .ok (.putfield 33, 3)) (kk : G Γ cn sn (pc + 3) lv st (cX ca o I (upJ J 2 b v) R L S)) : G Γ cn sn pc lv (.long v :: .ref (o (10 + b)) :: st) (cX ca o I J R L S) := g_put C inCX1 tyX1 tyX1_ok nmX1 (9 + b) (cX_B ca o I J R L S hb) rfl 1 (by decide) wdX_X2_33 (fun _ _ _ _ h => h) rfl (ty := .long) (by decide +kernel) rfl rfl (by show _ < 7; decide) hd _ (cX_s_bug_y hb) kk
theorem wdX_X11_218 : Cond.fieldLink RX11 218 RX1 (TX1 1).2.1 (TX1 1).2.2.1 ∈ tb := (tb_in (List.mem_of_getElem? (i := 199) (by decide +kernel)) (by decide +kernel))
theorem x_get_X11_218 (C : Cx Γ cc RX11 nL D (tyW ca) rm ret mc ms Post) {b : Nat} (hb : b < 2) (hd : decode cc pc = .ok (.getfield 218, 3)) (kk : G Γ cn sn (pc + 3) lv (.long (J 2 b) :: st) (cX ca o I J R L S)) : G Γ cn sn pc lv (.ref (o (10 + b)) :: st) (cX ca o I J R L S) := g_get C inCX1 (9 + b) (cX_B ca o I J R L S hb) rfl 1 (by decide) wdX_X11_218 (fun _ _ _ _ h => h) rfl hd kk
theorem x_put_X11_218 (C : Cx Γ cc RX11 nL D (tyW ca) rm ret mc ms Post) {b : Nat} (hb : b < 2) {v : Int64} (hd : decode cc pc = .ok (.putfield 218, 3)) (kk : G Γ cn sn (pc + 3) lv st (cX ca o I (upJ J 2 b v) R L S)) : G Γ cn sn pc lv (.long v :: .ref (o (10 + b)) :: st) (cX ca o I J R L S) := g_put C inCX1 tyX1 tyX1_ok nmX1 (9 + b) (cX_B ca o I J R L S hb) rfl 1 (by decide) wdX_X11_218 (fun _ _ _ _ h => h) rfl (ty := .long) (by decide +kernel) rfl rfl (by show _ < 7; decide) hd _ (cX_s_bug_y hb) kk
theorem wdX_X1_18 : Cond.fieldLink RX1 18 RX1 (TX1 2).2.1 (TX1 2).2.2.1 ∈ tb := (tb_in (List.mem_of_getElem? (i := 200) (by decide +kernel)) (by decide +kernel))
theorem x_get_X1_18 (C : Cx Γ cc RX1 nL D (tyW ca) rm ret mc ms Post) {b : Nat} (hb : b < 2) (hd : decode cc pc = .ok (.getfield 18, 3)) (kk : G Γ cn sn (pc + 3) lv (va_rf (R 3 b) :: st) (cX ca o I J R L S)) : G Γ cn sn pc lv (.ref (o (10 + b)) :: st) (cX ca o I J R L S) := g_get C inCX1 (9 + b) (cX_B ca o I J R L S hb) rfl 2 (by decide) wdX_X1_18 (fun _ _ _ _ h => h) rfl hd kk
theorem x_put_X1_18 (C : Cx Γ cc RX1 nL D (tyW ca) rm ret mc ms Post) {b : Nat} (hb : b < 2) {v : Option Nat} (hd : decode cc pc = .ok (.putfield 18, 3)) (kk : G Γ cn sn (pc + 3) lv st (cX ca o I J (upR R 3 b v) L S)) : G Γ cn sn pc lv (va_rf v :: .ref (o (10 + b)) :: st) (cX ca o I J R L S) := g_put C inCX1 tyX1 tyX1_ok nmX1 (9 + b) (cX_B ca o I J R L S hb) rfl 2 (by decide) wdX_X1_18 (fun _ _ _ _ h => h) rfl (ty := .object "FoldedInHalf$Strip") (by decide +kernel) (nar_rf _ _) (fit_rf _ _) (by show _ < 7; decide) hd _ (cX_s_bug_strip hb) kk
theorem wdX_X1_22 : Cond.fieldLink RX1 22 RX1 (TX1 3).2.1 (TX1 3).2.2.1 ∈ tb := (tb_in (List.mem_of_getElem? (i := 201) (by decide +kernel)) (by decide +kernel))
theorem x_get_X1_22 (C : Cx Γ cc RX1 nL D (tyW ca) rm ret mc ms Post) {b : Nat} (hb : b < 2) (hd : decode cc pc = .ok (.getfield 22, 3)) (kk : G Γ cn sn (pc + 3) lv (.int (I 1 b) :: st) (cX ca o I J R L S)) : G Γ cn sn pc lv (.ref (o (10 + b)) :: st) (cX ca o I J R L S) := g_get C inCX1 (9 + b) (cX_B ca o I J R L S hb) rfl 3 (by decide) wdX_X1_22 (fun _ _ _ _ h => h) rfl hd kk
theorem x_put_X1_22 (C : Cx Γ cc RX1 nL D (tyW ca) rm ret mc ms Post) {b : Nat} (hb : b < 2) {v : Int32} (hd : decode cc pc = .ok (.putfield 22, 3)) (kk : G Γ cn sn (pc + 3) lv st (cX ca o (upI I 1 b v) J R L S)) : G Γ cn sn pc lv (.int v :: .ref (o (10 + b)) :: st) (cX ca o I J R L S) := g_put C inCX1 tyX1 tyX1_ok nmX1 (9 + b) (cX_B ca o I J R L S hb) rfl 3 (by decide) wdX_X1_22 (fun _ _ _ _ h => h) rfl (ty := .int) (by decide +kernel) rfl rfl (by show _ < 7; decide) hd _ (cX_s_bug_gone hb) kk
theorem wdX_X1_26 : Cond.fieldLink RX1 26 RX1 (TX1 4).2.1 (TX1 4).2.2.1 ∈ tb := (tb_in (List.mem_of_getElem? (i := 202) (by decide +kernel)) (by decide +kernel))
theorem x_get_X1_26 (C : Cx Γ cc RX1 nL D (tyW ca) rm ret mc ms Post) {b : Nat} (hb : b < 2) (hd : decode cc pc = .ok (.getfield 26, 3)) (kk : G Γ cn sn (pc + 3) lv (.int (I 2 b) :: st) (cX ca o I J R L S)) : G Γ cn sn pc lv (.ref (o (10 + b)) :: st) (cX ca o I J R L S) := g_get C inCX1 (9 + b) (cX_B ca o I J R L S hb) rfl 4 (by decide) wdX_X1_26 (fun _ _ _ _ h => h) rfl hd kk
theorem x_put_X1_26 (C : Cx Γ cc RX1 nL D (tyW ca) rm ret mc ms Post) {b : Nat} (hb : b < 2) {v : Int32} (hd : decode cc pc = .ok (.putfield 26, 3)) (kk : G Γ cn sn (pc + 3) lv st (cX ca o (upI I 2 b v) J R L S)) : G Γ cn sn pc lv (.int v :: .ref (o (10 + b)) :: st) (cX ca o I J R L S) := g_put C inCX1 tyX1 tyX1_ok nmX1 (9 + b) (cX_B ca o I J R L S hb) rfl 4 (by decide) wdX_X1_26 (fun _ _ _ _ h => h) rfl (ty := .int) (by decide +kernel) rfl rfl (by show _ < 7; decide) hd _ (cX_s_bug_way hb) kk
theorem wdX_X1_9 : Cond.fieldLink RX1 9 RX1 (TX1 5).2.1 (TX1 5).2.2.1 ∈ tb := (tb_in (List.mem_of_getElem? (i := 203) (by decide +kernel)) (by decide +kernel))
theorem x_get_X1_9 (C : Cx Γ cc RX1 nL D (tyW ca) rm ret mc ms Post) {b : Nat} (hb : b < 2) (hd : decode cc pc = .ok (.getfield 9, 3)) (kk : G Γ cn sn (pc + 3) lv (.ref (o (40 + (6 + b))) :: st) (cX ca o I J R L S)) : G Γ cn sn pc lv (.ref (o (10 + b)) :: st) (cX ca o I J R L S) := g_get C inCX1 (9 + b) (cX_B ca o I J R L S hb) rfl 5 (by decide) wdX_X1_9 (fun _ _ _ _ h => h) rfl hd kk
theorem wdX_X1_15 : Cond.fieldLink RX1 15 RX1 (TX1 6).2.1 (TX1 6).2.2.1 ∈ tb := (tb_in (List.mem_of_getElem? (i := 204) (by decide +kernel)) (by decide +kernel))
theorem x_get_X1_15 (C : Cx Γ cc RX1 nL D (tyW ca) rm ret mc ms Post) {b : Nat} (hb : b < 2) (hd : decode cc pc = .ok (.getfield 15, 3)) (kk : G Γ cn sn (pc + 3) lv (.ref (o (40 + (8 + b))) :: st) (cX ca o I J R L S)) : G Γ cn sn pc lv (.ref (o (10 + b)) :: st) (cX ca o I J R L S) := g_get C inCX1 (9 + b) (cX_B ca o I J R L S hb) rfl 6 (by decide) wdX_X1_15 (fun _ _ _ _ h => h) rfl hd kk
theorem wdX_X4_9 : Cond.fieldLink RX4 9 RX4 (TX4 0).2.1 (TX4 0).2.2.1 ∈ tb := (tb_in (List.mem_of_getElem? (i := 226) (by decide +kernel)) (by decide +kernel))
theorem x_get_X4_9 (C : Cx Γ cc RX4 nL D (tyW ca) rm ret mc ms Post)  (hd : decode cc pc = .ok (.getfield 9, 3)) (kk : G Γ cn sn (pc + 3) lv (.ref (o 50) :: st) (cX ca o I J R L S)) : G Γ cn sn pc lv (.ref (o 4) :: st) (cX ca o I J R L S) := g_get C inCX4 (4) (cX_4 ca o I J R L S) rfl 0 (by decide) wdX_X4_9 (fun _ _ _ _ h => h) rfl hd kk
theorem wdX_X4_15 : Cond.fieldLink RX4 15 RX4 (TX4 1).2.1 (TX4 1).2.2.1 ∈ tb := (tb_in (List.mem_of_getElem? (i := 227) (by decide +kernel)) (by decide +kernel))
theorem x_get_X4_15 (C : Cx Γ cc RX4 nL D (tyW ca) rm ret mc ms Post)  (hd : decode cc pc = .ok (.getfield 15, 3)) (kk : G Γ cn sn (pc + 3) lv (.ref (o 51) :: st) (cX ca o I J R L S)) : G Γ cn sn pc lv (.ref (o 4) :: st) (cX ca o I J R L S) := g_get C inCX4 (4) (cX_4 ca o I J R L S) rfl 1 (by decide) wdX_X4_15 (fun _ _ _ _ h => h) rfl hd kk
theorem wdX_X4_18 : Cond.fieldLink RX4 18 RX4 (TX4 2).2.1 (TX4 2).2.2.1 ∈ tb := (tb_in (List.mem_of_getElem? (i := 228) (by decide +kernel)) (by decide +kernel))
theorem x_get_X4_18 (C : Cx Γ cc RX4 nL D (tyW ca) rm ret mc ms Post)  (hd : decode cc pc = .ok (.getfield 18, 3)) (kk : G Γ cn sn (pc + 3) lv (.ref (o 52) :: st) (cX ca o I J R L S)) : G Γ cn sn pc lv (.ref (o 4) :: st) (cX ca o I J R L S) := g_get C inCX4 (4) (cX_4 ca o I J R L S) rfl 2 (by decide) wdX_X4_18 (fun _ _ _ _ h => h) rfl hd kk
theorem wdX_X4_21 : Cond.fieldLink RX4 21 RX4 (TX4 3).2.1 (TX4 3).2.2.1 ∈ tb := (tb_in (List.mem_of_getElem? (i := 229) (by decide +kernel)) (by decide +kernel))
theorem x_get_X4_21 (C : Cx Γ cc RX4 nL D (tyW ca) rm ret mc ms Post)  (hd : decode cc pc = .ok (.getfield 21, 3)) (kk : G Γ cn sn (pc + 3) lv (.ref (o 53) :: st) (cX ca o I J R L S)) : G Γ cn sn pc lv (.ref (o 4) :: st) (cX ca o I J R L S) := g_get C inCX4 (4) (cX_4 ca o I J R L S) rfl 3 (by decide) wdX_X4_21 (fun _ _ _ _ h => h) rfl hd kk
theorem wdX_X4_24 : Cond.fieldLink RX4 24 RX4 (TX4 4).2.1 (TX4 4).2.2.1 ∈ tb := (tb_in (List.mem_of_getElem? (i := 230) (by decide +kernel)) (by decide +kernel))
theorem x_get_X4_24 (C : Cx Γ cc RX4 nL D (tyW ca) rm ret mc ms Post)  (hd : decode cc pc = .ok (.getfield 24, 3)) (kk : G Γ cn sn (pc + 3) lv (.ref (o 54) :: st) (cX ca o I J R L S)) : G Γ cn sn pc lv (.ref (o 4) :: st) (cX ca o I J R L S) := g_get C inCX4 (4) (cX_4 ca o I J R L S) rfl 4 (by decide) wdX_X4_24 (fun _ _ _ _ h => h) rfl hd kk
theorem wdX_X4_40 : Cond.fieldLink RX4 40 RX4 (TX4 5).2.1 (TX4 5).2.2.1 ∈ tb := (tb_in (List.mem_of_getElem? (i := 231) (by decide +kernel)) (by decide +kernel))
theorem x_get_X4_40 (C : Cx Γ cc RX4 nL D (tyW ca) rm ret mc ms Post)  (hd : decode cc pc = .ok (.getfield 40, 3)) (kk : G Γ cn sn (pc + 3) lv (.int (I 0 11) :: st) (cX ca o I J R L S)) : G Γ cn sn pc lv (.ref (o 4) :: st) (cX ca o I J R L S) := g_get C inCX4 (4) (cX_4 ca o I J R L S) rfl 5 (by decide) wdX_X4_40 (fun _ _ _ _ h => h) rfl hd kk
theorem x_put_X4_40 (C : Cx Γ cc RX4 nL D (tyW ca) rm ret mc ms Post)  {v : Int32} (hd : decode cc pc = .ok (.putfield 40, 3)) (kk : G Γ cn sn (pc + 3) lv st (cX ca o (upI I 0 11 v) J R L S)) : G Γ cn sn pc lv (.int v :: .ref (o 4) :: st) (cX ca o I J R L S) := g_put C inCX4 tyX4 tyX4_ok nmX4 (4) (cX_4 ca o I J R L S) rfl 5 (by decide) wdX_X4_40 (fun _ _ _ _ h => h) rfl (ty := .int) (by decide +kernel) rfl rfl (by show _ < 6; decide) hd _ (cX_s_leaves_used) kk
theorem wdX_X8_9 : Cond.fieldLink RX8 9 RX8 (TX8 0).2.1 (TX8 0).2.2.1 ∈ tb := (tb_in (List.mem_of_getElem? (i := 250) (by decide +kernel)) (by decide +kernel))
theorem x_get_X8_9 (C : Cx Γ cc RX8 nL D (tyW ca) rm ret mc ms Post) {s : Nat} (hs : s < 8) (hd : decode cc pc = .ok (.getfield 9, 3)) (kk : G Γ cn sn (pc + 3) lv (.int (I 3 s) :: st) (cX ca o I J R L S)) : G Γ cn sn pc lv (.ref (o (20 + s)) :: st) (cX ca o I J R L S) := g_get C inCX8 (21 + s) (cX_H ca o I J R L S hs) rfl 0 (by decide) wdX_X8_9 (fun _ _ _ _ h => h) rfl hd kk
theorem x_put_X8_9 (C : Cx Γ cc RX8 nL D (tyW ca) rm ret mc ms Post) {s : Nat} (hs : s < 8) {v : Int32} (hd : decode cc pc = .ok (.putfield 9, 3)) (kk : G Γ cn sn (pc + 3) lv st (cX ca o (upI I 3 s v) J R L S)) : G Γ cn sn pc lv (.int v :: .ref (o (20 + s)) :: st) (cX ca o I J R L S) := g_put C inCX8 tyX8 tyX8_ok nmX8 (21 + s) (cX_H ca o I J R L S hs) rfl 0 (by decide) wdX_X8_9 (fun _ _ _ _ h => h) rfl (ty := .int) (by decide +kernel) rfl rfl (by show _ < 3; decide) hd _ (cX_s_shelf_holding hs) kk
theorem wdX_X11_112 : Cond.fieldLink RX11 112 RX8 (TX8 0).2.1 (TX8 0).2.2.1 ∈ tb := (tb_in (List.mem_of_getElem? (i := 251) (by decide +kernel)) (by decide +kernel))
theorem x_get_X11_112 (C : Cx Γ cc RX11 nL D (tyW ca) rm ret mc ms Post) {s : Nat} (hs : s < 8) (hd : decode cc pc = .ok (.getfield 112, 3)) (kk : G Γ cn sn (pc + 3) lv (.int (I 3 s) :: st) (cX ca o I J R L S)) : G Γ cn sn pc lv (.ref (o (20 + s)) :: st) (cX ca o I J R L S) := g_get C inCX8 (21 + s) (cX_H ca o I J R L S hs) rfl 0 (by decide) wdX_X11_112 (fun _ _ _ _ h => h) rfl hd kk
theorem x_put_X11_112 (C : Cx Γ cc RX11 nL D (tyW ca) rm ret mc ms Post) {s : Nat} (hs : s < 8) {v : Int32} (hd : decode cc pc = .ok (.putfield 112, 3)) (kk : G Γ cn sn (pc + 3) lv st (cX ca o (upI I 3 s v) J R L S)) : G Γ cn sn pc lv (.int v :: .ref (o (20 + s)) :: st) (cX ca o I J R L S) := g_put C inCX8 tyX8 tyX8_ok nmX8 (21 + s) (cX_H ca o I J R L S hs) rfl 0 (by decide) wdX_X11_112 (fun _ _ _ _ h => h) rfl (ty := .int) (by decide +kernel) rfl rfl (by show _ < 3; decide) hd _ (cX_s_shelf_holding hs) kk
theorem wdX_X8_19 : Cond.fieldLink RX8 19 RX8 (TX8 1).2.1 (TX8 1).2.2.1 ∈ tb := (tb_in (List.mem_of_getElem? (i := 252) (by decide +kernel)) (by decide +kernel))
theorem x_get_X8_19 (C : Cx Γ cc RX8 nL D (tyW ca) rm ret mc ms Post) {s : Nat} (hs : s < 8) (hd : decode cc pc = .ok (.getfield 19, 3)) (kk : G Γ cn sn (pc + 3) lv (.int (I 4 s) :: st) (cX ca o I J R L S)) : G Γ cn sn pc lv (.ref (o (20 + s)) :: st) (cX ca o I J R L S) := g_get C inCX8 (21 + s) (cX_H ca o I J R L S hs) rfl 1 (by decide) wdX_X8_19 (fun _ _ _ _ h => h) rfl hd kk
theorem x_put_X8_19 (C : Cx Γ cc RX8 nL D (tyW ca) rm ret mc ms Post) {s : Nat} (hs : s < 8) {v : Int32} (hd : decode cc pc = .ok (.putfield 19, 3)) (kk : G Γ cn sn (pc + 3) lv st (cX ca o (upI I 4 s v) J R L S)) : G Γ cn sn pc lv (.int v :: .ref (o (20 + s)) :: st) (cX ca o I J R L S) := g_put C inCX8 tyX8 tyX8_ok nmX8 (21 + s) (cX_H ca o I J R L S hs) rfl 1 (by decide) wdX_X8_19 (fun _ _ _ _ h => h) rfl (ty := .int) (by decide +kernel) rfl rfl (by show _ < 3; decide) hd _ (cX_s_shelf_size hs) kk
theorem wdX_X6_53 : Cond.fieldLink RX6 53 RX8 (TX8 1).2.1 (TX8 1).2.2.1 ∈ tb := (tb_in (List.mem_of_getElem? (i := 253) (by decide +kernel)) (by decide +kernel))
theorem x_get_X6_53 (C : Cx Γ cc RX6 nL D (tyW ca) rm ret mc ms Post) {s : Nat} (hs : s < 8) (hd : decode cc pc = .ok (.getfield 53, 3)) (kk : G Γ cn sn (pc + 3) lv (.int (I 4 s) :: st) (cX ca o I J R L S)) : G Γ cn sn pc lv (.ref (o (20 + s)) :: st) (cX ca o I J R L S) := g_get C inCX8 (21 + s) (cX_H ca o I J R L S hs) rfl 1 (by decide) wdX_X6_53 (fun _ _ _ _ h => h) rfl hd kk
theorem x_put_X6_53 (C : Cx Γ cc RX6 nL D (tyW ca) rm ret mc ms Post) {s : Nat} (hs : s < 8) {v : Int32} (hd : decode cc pc = .ok (.putfield 53, 3)) (kk : G Γ cn sn (pc + 3) lv st (cX ca o (upI I 4 s v) J R L S)) : G Γ cn sn pc lv (.int v :: .ref (o (20 + s)) :: st) (cX ca o I J R L S) := g_put C inCX8 tyX8 tyX8_ok nmX8 (21 + s) (cX_H ca o I J R L S hs) rfl 1 (by decide) wdX_X6_53 (fun _ _ _ _ h => h) rfl (ty := .int) (by decide +kernel) rfl rfl (by show _ < 3; decide) hd _ (cX_s_shelf_size hs) kk
theorem wdX_X11_115 : Cond.fieldLink RX11 115 RX8 (TX8 1).2.1 (TX8 1).2.2.1 ∈ tb := (tb_in (List.mem_of_getElem? (i := 254) (by decide +kernel)) (by decide +kernel))
theorem x_get_X11_115 (C : Cx Γ cc RX11 nL D (tyW ca) rm ret mc ms Post) {s : Nat} (hs : s < 8) (hd : decode cc pc = .ok (.getfield 115, 3)) (kk : G Γ cn sn (pc + 3) lv (.int (I 4 s) :: st) (cX ca o I J R L S)) : G Γ cn sn pc lv (.ref (o (20 + s)) :: st) (cX ca o I J R L S) := g_get C inCX8 (21 + s) (cX_H ca o I J R L S hs) rfl 1 (by decide) wdX_X11_115 (fun _ _ _ _ h => h) rfl hd kk
theorem x_put_X11_115 (C : Cx Γ cc RX11 nL D (tyW ca) rm ret mc ms Post) {s : Nat} (hs : s < 8) {v : Int32} (hd : decode cc pc = .ok (.putfield 115, 3)) (kk : G Γ cn sn (pc + 3) lv st (cX ca o (upI I 4 s v) J R L S)) : G Γ cn sn pc lv (.int v :: .ref (o (20 + s)) :: st) (cX ca o I J R L S) := g_put C inCX8 tyX8 tyX8_ok nmX8 (21 + s) (cX_H ca o I J R L S hs) rfl 1 (by decide) wdX_X11_115 (fun _ _ _ _ h => h) rfl (ty := .int) (by decide +kernel) rfl rfl (by show _ < 3; decide) hd _ (cX_s_shelf_size hs) kk
theorem wdX_X8_15 : Cond.fieldLink RX8 15 RX8 (TX8 2).2.1 (TX8 2).2.2.1 ∈ tb := (tb_in (List.mem_of_getElem? (i := 255) (by decide +kernel)) (by decide +kernel))
theorem x_get_X8_15 (C : Cx Γ cc RX8 nL D (tyW ca) rm ret mc ms Post) {s : Nat} (hs : s < 8) (hd : decode cc pc = .ok (.getfield 15, 3)) (kk : G Γ cn sn (pc + 3) lv (.ref (o (30 + s)) :: st) (cX ca o I J R L S)) : G Γ cn sn pc lv (.ref (o (20 + s)) :: st) (cX ca o I J R L S) := g_get C inCX8 (21 + s) (cX_H ca o I J R L S hs) rfl 2 (by decide) wdX_X8_15 (fun _ _ _ _ h => h) rfl hd kk
theorem wdX_X11_95 : Cond.fieldLink RX11 95 RX8 (TX8 2).2.1 (TX8 2).2.2.1 ∈ tb := (tb_in (List.mem_of_getElem? (i := 256) (by decide +kernel)) (by decide +kernel))
theorem x_get_X11_95 (C : Cx Γ cc RX11 nL D (tyW ca) rm ret mc ms Post) {s : Nat} (hs : s < 8) (hd : decode cc pc = .ok (.getfield 95, 3)) (kk : G Γ cn sn (pc + 3) lv (.ref (o (30 + s)) :: st) (cX ca o I J R L S)) : G Γ cn sn pc lv (.ref (o (20 + s)) :: st) (cX ca o I J R L S) := g_get C inCX8 (21 + s) (cX_H ca o I J R L S hs) rfl 2 (by decide) wdX_X11_95 (fun _ _ _ _ h => h) rfl hd kk
theorem wdX_X11_11 : Cond.fieldLink RX11 11 RX11 (TX11 0).2.1 (TX11 0).2.2.1 ∈ tb := (tb_in (List.mem_of_getElem? (i := 265) (by decide +kernel)) (by decide +kernel))
theorem x_get_X11_11 (C : Cx Γ cc RX11 nL D (tyW ca) rm ret mc ms Post)  (hd : decode cc pc = .ok (.getfield 11, 3)) (kk : G Γ cn sn (pc + 3) lv (.ref (o 5) :: st) (cX ca o I J R L S)) : G Γ cn sn pc lv (.ref (o 0) :: st) (cX ca o I J R L S) := g_get C inCX11 (0) (cX_0 ca o I J R L S) rfl 0 (by decide) wdX_X11_11 (fun _ _ _ _ h => h) rfl hd kk
theorem wdX_X11_164 : Cond.fieldLink RX11 164 RX11 (TX11 1).2.1 (TX11 1).2.2.1 ∈ tb := (tb_in (List.mem_of_getElem? (i := 266) (by decide +kernel)) (by decide +kernel))
theorem x_get_X11_164 (C : Cx Γ cc RX11 nL D (tyW ca) rm ret mc ms Post)  (hd : decode cc pc = .ok (.getfield 164, 3)) (kk : G Γ cn sn (pc + 3) lv (.int (I 0 0) :: st) (cX ca o I J R L S)) : G Γ cn sn pc lv (.ref (o 0) :: st) (cX ca o I J R L S) := g_get C inCX11 (0) (cX_0 ca o I J R L S) rfl 1 (by decide) wdX_X11_164 (fun _ _ _ _ h => h) rfl hd kk
theorem x_put_X11_164 (C : Cx Γ cc RX11 nL D (tyW ca) rm ret mc ms Post)  {v : Int32} (hd : decode cc pc = .ok (.putfield 164, 3)) (kk : G Γ cn sn (pc + 3) lv st (cX ca o (upI I 0 0 v) J R L S)) : G Γ cn sn pc lv (.int v :: .ref (o 0) :: st) (cX ca o I J R L S) := g_put C inCX11 tyX11 tyX11_ok nmX11 (0) (cX_0 ca o I J R L S) rfl 1 (by decide) wdX_X11_164 (fun _ _ _ _ h => h) rfl (ty := .int) (by decide +kernel) rfl rfl (by show _ < 12; decide) hd _ (cX_s_main_count) kk
theorem wdX_X11_15 : Cond.fieldLink RX11 15 RX11 (TX11 2).2.1 (TX11 2).2.2.1 ∈ tb := (tb_in (List.mem_of_getElem? (i := 267) (by decide +kernel)) (by decide +kernel))
theorem x_get_X11_15 (C : Cx Γ cc RX11 nL D (tyW ca) rm ret mc ms Post)  (hd : decode cc pc = .ok (.getfield 15, 3)) (kk : G Γ cn sn (pc + 3) lv (.ref (o 6) :: st) (cX ca o I J R L S)) : G Γ cn sn pc lv (.ref (o 0) :: st) (cX ca o I J R L S) := g_get C inCX11 (0) (cX_0 ca o I J R L S) rfl 2 (by decide) wdX_X11_15 (fun _ _ _ _ h => h) rfl hd kk
theorem wdX_X11_18 : Cond.fieldLink RX11 18 RX11 (TX11 3).2.1 (TX11 3).2.2.1 ∈ tb := (tb_in (List.mem_of_getElem? (i := 268) (by decide +kernel)) (by decide +kernel))
theorem x_get_X11_18 (C : Cx Γ cc RX11 nL D (tyW ca) rm ret mc ms Post)  (hd : decode cc pc = .ok (.getfield 18, 3)) (kk : G Γ cn sn (pc + 3) lv (.int (I 0 1) :: st) (cX ca o I J R L S)) : G Γ cn sn pc lv (.ref (o 0) :: st) (cX ca o I J R L S) := g_get C inCX11 (0) (cX_0 ca o I J R L S) rfl 3 (by decide) wdX_X11_18 (fun _ _ _ _ h => h) rfl hd kk
theorem x_put_X11_18 (C : Cx Γ cc RX11 nL D (tyW ca) rm ret mc ms Post)  {v : Int32} (hd : decode cc pc = .ok (.putfield 18, 3)) (kk : G Γ cn sn (pc + 3) lv st (cX ca o (upI I 0 1 v) J R L S)) : G Γ cn sn pc lv (.int v :: .ref (o 0) :: st) (cX ca o I J R L S) := g_put C inCX11 tyX11 tyX11_ok nmX11 (0) (cX_0 ca o I J R L S) rfl 3 (by decide) wdX_X11_18 (fun _ _ _ _ h => h) rfl (ty := .int) (by decide +kernel) rfl rfl (by show _ < 12; decide) hd _ (cX_s_main_imageCount) kk
theorem wdX_X11_24 : Cond.fieldLink RX11 24 RX11 (TX11 4).2.1 (TX11 4).2.2.1 ∈ tb := (tb_in (List.mem_of_getElem? (i := 269) (by decide +kernel)) (by decide +kernel))
theorem x_get_X11_24 (C : Cx Γ cc RX11 nL D (tyW ca) rm ret mc ms Post)  (hd : decode cc pc = .ok (.getfield 24, 3)) (kk : G Γ cn sn (pc + 3) lv (.ref (o 8) :: st) (cX ca o I J R L S)) : G Γ cn sn pc lv (.ref (o 0) :: st) (cX ca o I J R L S) := g_get C inCX11 (0) (cX_0 ca o I J R L S) rfl 4 (by decide) wdX_X11_24 (fun _ _ _ _ h => h) rfl hd kk
theorem wdX_X11_28 : Cond.fieldLink RX11 28 RX11 (TX11 5).2.1 (TX11 5).2.2.1 ∈ tb := (tb_in (List.mem_of_getElem? (i := 270) (by decide +kernel)) (by decide +kernel))
theorem x_get_X11_28 (C : Cx Γ cc RX11 nL D (tyW ca) rm ret mc ms Post)  (hd : decode cc pc = .ok (.getfield 28, 3)) (kk : G Γ cn sn (pc + 3) lv (.ref (o 45) :: st) (cX ca o I J R L S)) : G Γ cn sn pc lv (.ref (o 0) :: st) (cX ca o I J R L S) := g_get C inCX11 (0) (cX_0 ca o I J R L S) rfl 5 (by decide) wdX_X11_28 (fun _ _ _ _ h => h) rfl hd kk
theorem wdX_X11_32 : Cond.fieldLink RX11 32 RX11 (TX11 6).2.1 (TX11 6).2.2.1 ∈ tb := (tb_in (List.mem_of_getElem? (i := 271) (by decide +kernel)) (by decide +kernel))
theorem x_get_X11_32 (C : Cx Γ cc RX11 nL D (tyW ca) rm ret mc ms Post)  (hd : decode cc pc = .ok (.getfield 32, 3)) (kk : G Γ cn sn (pc + 3) lv (.int (I 0 2) :: st) (cX ca o I J R L S)) : G Γ cn sn pc lv (.ref (o 0) :: st) (cX ca o I J R L S) := g_get C inCX11 (0) (cX_0 ca o I J R L S) rfl 6 (by decide) wdX_X11_32 (fun _ _ _ _ h => h) rfl hd kk
theorem x_put_X11_32 (C : Cx Γ cc RX11 nL D (tyW ca) rm ret mc ms Post)  {v : Int32} (hd : decode cc pc = .ok (.putfield 32, 3)) (kk : G Γ cn sn (pc + 3) lv st (cX ca o (upI I 0 2 v) J R L S)) : G Γ cn sn pc lv (.int v :: .ref (o 0) :: st) (cX ca o I J R L S) := g_put C inCX11 tyX11 tyX11_ok nmX11 (0) (cX_0 ca o I J R L S) rfl 6 (by decide) wdX_X11_32 (fun _ _ _ _ h => h) rfl (ty := .int) (by decide +kernel) rfl rfl (by show _ < 12; decide) hd _ (cX_s_main_fault) kk
theorem wdX_X11_38 : Cond.fieldLink RX11 38 RX11 (TX11 7).2.1 (TX11 7).2.2.1 ∈ tb := (tb_in (List.mem_of_getElem? (i := 272) (by decide +kernel)) (by decide +kernel))
theorem x_get_X11_38 (C : Cx Γ cc RX11 nL D (tyW ca) rm ret mc ms Post)  (hd : decode cc pc = .ok (.getfield 38, 3)) (kk : G Γ cn sn (pc + 3) lv (.ref (o 1) :: st) (cX ca o I J R L S)) : G Γ cn sn pc lv (.ref (o 0) :: st) (cX ca o I J R L S) := g_get C inCX11 (0) (cX_0 ca o I J R L S) rfl 7 (by decide) wdX_X11_38 (fun _ _ _ _ h => h) rfl hd kk
theorem wdX_X11_45 : Cond.fieldLink RX11 45 RX11 (TX11 8).2.1 (TX11 8).2.2.1 ∈ tb := (tb_in (List.mem_of_getElem? (i := 273) (by decide +kernel)) (by decide +kernel))
theorem x_get_X11_45 (C : Cx Γ cc RX11 nL D (tyW ca) rm ret mc ms Post)  (hd : decode cc pc = .ok (.getfield 45, 3)) (kk : G Γ cn sn (pc + 3) lv (.ref (o 3) :: st) (cX ca o I J R L S)) : G Γ cn sn pc lv (.ref (o 0) :: st) (cX ca o I J R L S) := g_get C inCX11 (0) (cX_0 ca o I J R L S) rfl 8 (by decide) wdX_X11_45 (fun _ _ _ _ h => h) rfl hd kk
theorem wdX_X11_54 : Cond.fieldLink RX11 54 RX11 (TX11 9).2.1 (TX11 9).2.2.1 ∈ tb := (tb_in (List.mem_of_getElem? (i := 274) (by decide +kernel)) (by decide +kernel))
theorem x_get_X11_54 (C : Cx Γ cc RX11 nL D (tyW ca) rm ret mc ms Post)  (hd : decode cc pc = .ok (.getfield 54, 3)) (kk : G Γ cn sn (pc + 3) lv (.ref (o 10) :: st) (cX ca o I J R L S)) : G Γ cn sn pc lv (.ref (o 0) :: st) (cX ca o I J R L S) := g_get C inCX11 (0) (cX_0 ca o I J R L S) rfl 9 (by decide) wdX_X11_54 (fun _ _ _ _ h => h) rfl hd kk
theorem wdX_X11_58 : Cond.fieldLink RX11 58 RX11 (TX11 10).2.1 (TX11 10).2.2.1 ∈ tb := (tb_in (List.mem_of_getElem? (i := 275) (by decide +kernel)) (by decide +kernel))
theorem x_get_X11_58 (C : Cx Γ cc RX11 nL D (tyW ca) rm ret mc ms Post)  (hd : decode cc pc = .ok (.getfield 58, 3)) (kk : G Γ cn sn (pc + 3) lv (.ref (o 11) :: st) (cX ca o I J R L S)) : G Γ cn sn pc lv (.ref (o 0) :: st) (cX ca o I J R L S) := g_get C inCX11 (0) (cX_0 ca o I J R L S) rfl 10 (by decide) wdX_X11_58 (fun _ _ _ _ h => h) rfl hd kk
theorem wdX_X11_64 : Cond.fieldLink RX11 64 RX11 (TX11 11).2.1 (TX11 11).2.2.1 ∈ tb := (tb_in (List.mem_of_getElem? (i := 276) (by decide +kernel)) (by decide +kernel))
theorem x_get_X11_64 (C : Cx Γ cc RX11 nL D (tyW ca) rm ret mc ms Post)  (hd : decode cc pc = .ok (.getfield 64, 3)) (kk : G Γ cn sn (pc + 3) lv (.ref (o 4) :: st) (cX ca o I J R L S)) : G Γ cn sn pc lv (.ref (o 0) :: st) (cX ca o I J R L S) := g_get C inCX11 (0) (cX_0 ca o I J R L S) rfl 11 (by decide) wdX_X11_64 (fun _ _ _ _ h => h) rfl hd kk
theorem wdX_X9_9 : Cond.fieldLink RX9 9 RX9 "kind" "I" ∈ tb := (tb_in (List.mem_of_getElem? (i := 515) (by decide +kernel)) (by decide +kernel))
theorem x_get_X9_9 (C : Cx Γ cc RX9 nL D (tyW ca) rm ret mc ms Post) {q : Nat} (hq : q ∈ L) (hd : decode cc pc = .ok (.getfield 9, 3)) (kk : G Γ cn sn (pc + 3) lv (.int (sK (S q)) :: st) (cX ca o I J R L S)) : G Γ cn sn pc lv (.ref q :: st) (cX ca o I J R L S) := by
  obtain ⟨i, hi⟩ := cX_L ca o I J R L S hq
  by_cases h1 : sC (S q) = 1
  · refine g_get C inCX7 i (hi.trans (congrArg (fun z => some (q, z)) (sE_1 h1))) rfl 0 (by decide) wdX_X9_9 (fun _ _ _ _ h => h) rfl hd kk
  by_cases h2 : sC (S q) = 2
  · refine g_get C inCX10 i (hi.trans (congrArg (fun z => some (q, z)) (sE_2 h2))) rfl 0 (by decide) wdX_X9_9 (fun _ _ _ _ h => h) rfl hd kk
  by_cases h3 : sC (S q) = 3
  · refine g_get C inCX2 i (hi.trans (congrArg (fun z => some (q, z)) (sE_3 h3))) rfl 0 (by decide) wdX_X9_9 (fun _ _ _ _ h => h) rfl hd kk
  by_cases h4 : sC (S q) = 4
  · refine g_get C inCX0 i (hi.trans (congrArg (fun z => some (q, z)) (sE_4 h4))) rfl 1 (by decide) wdX_X9_9 (fun _ _ _ _ h => h) rfl hd kk
  by_cases h5 : sC (S q) = 5
  · refine g_get C inCX3 i (hi.trans (congrArg (fun z => some (q, z)) (sE_5 h5))) rfl 0 (by decide) wdX_X9_9 (fun _ _ _ _ h => h) rfl hd kk
  by_cases h6 : sC (S q) = 6
  · refine g_get C inCX5 i (hi.trans (congrArg (fun z => some (q, z)) (sE_6 h6))) rfl 0 (by decide) wdX_X9_9 (fun _ _ _ _ h => h) rfl hd kk
  refine g_get C inCX9 i (hi.trans (congrArg (fun z => some (q, z)) (sE_0 h1 h2 h3 h4 h5 h6))) rfl 0 (by decide) wdX_X9_9 (fun _ _ _ _ h => h) rfl hd kk
theorem wdX_X6_99 : Cond.fieldLink RX6 99 RX9 "kind" "I" ∈ tb := (tb_in (List.mem_of_getElem? (i := 516) (by decide +kernel)) (by decide +kernel))
theorem x_get_X6_99 (C : Cx Γ cc RX6 nL D (tyW ca) rm ret mc ms Post) {q : Nat} (hq : q ∈ L) (hd : decode cc pc = .ok (.getfield 99, 3)) (kk : G Γ cn sn (pc + 3) lv (.int (sK (S q)) :: st) (cX ca o I J R L S)) : G Γ cn sn pc lv (.ref q :: st) (cX ca o I J R L S) := by
  obtain ⟨i, hi⟩ := cX_L ca o I J R L S hq
  by_cases h1 : sC (S q) = 1
  · refine g_get C inCX7 i (hi.trans (congrArg (fun z => some (q, z)) (sE_1 h1))) rfl 0 (by decide) wdX_X6_99 (fun _ _ _ _ h => h) rfl hd kk
  by_cases h2 : sC (S q) = 2
  · refine g_get C inCX10 i (hi.trans (congrArg (fun z => some (q, z)) (sE_2 h2))) rfl 0 (by decide) wdX_X6_99 (fun _ _ _ _ h => h) rfl hd kk
  by_cases h3 : sC (S q) = 3
  · refine g_get C inCX2 i (hi.trans (congrArg (fun z => some (q, z)) (sE_3 h3))) rfl 0 (by decide) wdX_X6_99 (fun _ _ _ _ h => h) rfl hd kk
  by_cases h4 : sC (S q) = 4
  · refine g_get C inCX0 i (hi.trans (congrArg (fun z => some (q, z)) (sE_4 h4))) rfl 1 (by decide) wdX_X6_99 (fun _ _ _ _ h => h) rfl hd kk
  by_cases h5 : sC (S q) = 5
  · refine g_get C inCX3 i (hi.trans (congrArg (fun z => some (q, z)) (sE_5 h5))) rfl 0 (by decide) wdX_X6_99 (fun _ _ _ _ h => h) rfl hd kk
  by_cases h6 : sC (S q) = 6
  · refine g_get C inCX5 i (hi.trans (congrArg (fun z => some (q, z)) (sE_6 h6))) rfl 0 (by decide) wdX_X6_99 (fun _ _ _ _ h => h) rfl hd kk
  refine g_get C inCX9 i (hi.trans (congrArg (fun z => some (q, z)) (sE_0 h1 h2 h3 h4 h5 h6))) rfl 0 (by decide) wdX_X6_99 (fun _ _ _ _ h => h) rfl hd kk
theorem wdX_X11_124 : Cond.fieldLink RX11 124 RX9 "kind" "I" ∈ tb := (tb_in (List.mem_of_getElem? (i := 517) (by decide +kernel)) (by decide +kernel))
theorem x_get_X11_124 (C : Cx Γ cc RX11 nL D (tyW ca) rm ret mc ms Post) {q : Nat} (hq : q ∈ L) (hd : decode cc pc = .ok (.getfield 124, 3)) (kk : G Γ cn sn (pc + 3) lv (.int (sK (S q)) :: st) (cX ca o I J R L S)) : G Γ cn sn pc lv (.ref q :: st) (cX ca o I J R L S) := by
  obtain ⟨i, hi⟩ := cX_L ca o I J R L S hq
  by_cases h1 : sC (S q) = 1
  · refine g_get C inCX7 i (hi.trans (congrArg (fun z => some (q, z)) (sE_1 h1))) rfl 0 (by decide) wdX_X11_124 (fun _ _ _ _ h => h) rfl hd kk
  by_cases h2 : sC (S q) = 2
  · refine g_get C inCX10 i (hi.trans (congrArg (fun z => some (q, z)) (sE_2 h2))) rfl 0 (by decide) wdX_X11_124 (fun _ _ _ _ h => h) rfl hd kk
  by_cases h3 : sC (S q) = 3
  · refine g_get C inCX2 i (hi.trans (congrArg (fun z => some (q, z)) (sE_3 h3))) rfl 0 (by decide) wdX_X11_124 (fun _ _ _ _ h => h) rfl hd kk
  by_cases h4 : sC (S q) = 4
  · refine g_get C inCX0 i (hi.trans (congrArg (fun z => some (q, z)) (sE_4 h4))) rfl 1 (by decide) wdX_X11_124 (fun _ _ _ _ h => h) rfl hd kk
  by_cases h5 : sC (S q) = 5
  · refine g_get C inCX3 i (hi.trans (congrArg (fun z => some (q, z)) (sE_5 h5))) rfl 0 (by decide) wdX_X11_124 (fun _ _ _ _ h => h) rfl hd kk
  by_cases h6 : sC (S q) = 6
  · refine g_get C inCX5 i (hi.trans (congrArg (fun z => some (q, z)) (sE_6 h6))) rfl 0 (by decide) wdX_X11_124 (fun _ _ _ _ h => h) rfl hd kk
  refine g_get C inCX9 i (hi.trans (congrArg (fun z => some (q, z)) (sE_0 h1 h2 h3 h4 h5 h6))) rfl 0 (by decide) wdX_X11_124 (fun _ _ _ _ h => h) rfl hd kk
theorem wdX_X9_15 : Cond.fieldLink RX9 15 RX9 "number" "I" ∈ tb := (tb_in (List.mem_of_getElem? (i := 518) (by decide +kernel)) (by decide +kernel))
theorem x_get_X9_15 (C : Cx Γ cc RX9 nL D (tyW ca) rm ret mc ms Post) {q : Nat} (hq : q ∈ L) (hd : decode cc pc = .ok (.getfield 15, 3)) (kk : G Γ cn sn (pc + 3) lv (.int (sN (S q)) :: st) (cX ca o I J R L S)) : G Γ cn sn pc lv (.ref q :: st) (cX ca o I J R L S) := by
  obtain ⟨i, hi⟩ := cX_L ca o I J R L S hq
  by_cases h1 : sC (S q) = 1
  · refine g_get C inCX7 i (hi.trans (congrArg (fun z => some (q, z)) (sE_1 h1))) rfl 1 (by decide) wdX_X9_15 (fun _ _ _ _ h => h) rfl hd kk
  by_cases h2 : sC (S q) = 2
  · refine g_get C inCX10 i (hi.trans (congrArg (fun z => some (q, z)) (sE_2 h2))) rfl 1 (by decide) wdX_X9_15 (fun _ _ _ _ h => h) rfl hd kk
  by_cases h3 : sC (S q) = 3
  · refine g_get C inCX2 i (hi.trans (congrArg (fun z => some (q, z)) (sE_3 h3))) rfl 1 (by decide) wdX_X9_15 (fun _ _ _ _ h => h) rfl hd kk
  by_cases h4 : sC (S q) = 4
  · refine g_get C inCX0 i (hi.trans (congrArg (fun z => some (q, z)) (sE_4 h4))) rfl 2 (by decide) wdX_X9_15 (fun _ _ _ _ h => h) rfl hd kk
  by_cases h5 : sC (S q) = 5
  · refine g_get C inCX3 i (hi.trans (congrArg (fun z => some (q, z)) (sE_5 h5))) rfl 1 (by decide) wdX_X9_15 (fun _ _ _ _ h => h) rfl hd kk
  by_cases h6 : sC (S q) = 6
  · refine g_get C inCX5 i (hi.trans (congrArg (fun z => some (q, z)) (sE_6 h6))) rfl 1 (by decide) wdX_X9_15 (fun _ _ _ _ h => h) rfl hd kk
  refine g_get C inCX9 i (hi.trans (congrArg (fun z => some (q, z)) (sE_0 h1 h2 h3 h4 h5 h6))) rfl 1 (by decide) wdX_X9_15 (fun _ _ _ _ h => h) rfl hd kk
theorem wdX_X0_59 : Cond.fieldLink RX0 59 RX0 "number" "I" ∈ tb := (tb_in (List.mem_of_getElem? (i := 519) (by decide +kernel)) (by decide +kernel))
theorem wdS_X0_59 : Cond.sameField RX0 RX9 "number" "I" ∈ tb := (tb_in (List.mem_of_getElem? (i := 520) (by decide +kernel)) (by decide +kernel))
theorem x_get_X0_59 (C : Cx Γ cc RX0 nL D (tyW ca) rm ret mc ms Post) {q : Nat} (hq : q ∈ L) (hc : sC (S q) = 4) (hd : decode cc pc = .ok (.getfield 59, 3)) (kk : G Γ cn sn (pc + 3) lv (.int (sN (S q)) :: st) (cX ca o I J R L S)) : G Γ cn sn pc lv (.ref q :: st) (cX ca o I J R L S) := by
  obtain ⟨i, hi⟩ := cX_L ca o I J R L S hq
  by_cases h4 : sC (S q) = 4
  · refine g_get C inCX0 i (hi.trans (congrArg (fun z => some (q, z)) (sE_4 h4))) rfl 2 (by decide) wdX_X0_59 (fun _ _ hts x h => u_same (hts _ wdS_X0_59) x h) rfl hd kk
  exact absurd hc (by omega)
theorem wdX_X9_18 : Cond.fieldLink RX9 18 RX9 "a" "I" ∈ tb := (tb_in (List.mem_of_getElem? (i := 521) (by decide +kernel)) (by decide +kernel))
theorem x_get_X9_18 (C : Cx Γ cc RX9 nL D (tyW ca) rm ret mc ms Post) {q : Nat} (hq : q ∈ L) (hd : decode cc pc = .ok (.getfield 18, 3)) (kk : G Γ cn sn (pc + 3) lv (.int (sA (S q)) :: st) (cX ca o I J R L S)) : G Γ cn sn pc lv (.ref q :: st) (cX ca o I J R L S) := by
  obtain ⟨i, hi⟩ := cX_L ca o I J R L S hq
  by_cases h1 : sC (S q) = 1
  · refine g_get C inCX7 i (hi.trans (congrArg (fun z => some (q, z)) (sE_1 h1))) rfl 2 (by decide) wdX_X9_18 (fun _ _ _ _ h => h) rfl hd kk
  by_cases h2 : sC (S q) = 2
  · refine g_get C inCX10 i (hi.trans (congrArg (fun z => some (q, z)) (sE_2 h2))) rfl 2 (by decide) wdX_X9_18 (fun _ _ _ _ h => h) rfl hd kk
  by_cases h3 : sC (S q) = 3
  · refine g_get C inCX2 i (hi.trans (congrArg (fun z => some (q, z)) (sE_3 h3))) rfl 2 (by decide) wdX_X9_18 (fun _ _ _ _ h => h) rfl hd kk
  by_cases h4 : sC (S q) = 4
  · refine g_get C inCX0 i (hi.trans (congrArg (fun z => some (q, z)) (sE_4 h4))) rfl 3 (by decide) wdX_X9_18 (fun _ _ _ _ h => h) rfl hd kk
  by_cases h5 : sC (S q) = 5
  · refine g_get C inCX3 i (hi.trans (congrArg (fun z => some (q, z)) (sE_5 h5))) rfl 2 (by decide) wdX_X9_18 (fun _ _ _ _ h => h) rfl hd kk
  by_cases h6 : sC (S q) = 6
  · refine g_get C inCX5 i (hi.trans (congrArg (fun z => some (q, z)) (sE_6 h6))) rfl 2 (by decide) wdX_X9_18 (fun _ _ _ _ h => h) rfl hd kk
  refine g_get C inCX9 i (hi.trans (congrArg (fun z => some (q, z)) (sE_0 h1 h2 h3 h4 h5 h6))) rfl 2 (by decide) wdX_X9_18 (fun _ _ _ _ h => h) rfl hd kk
theorem wdX_X7_9 : Cond.fieldLink RX7 9 RX7 "a" "I" ∈ tb := (tb_in (List.mem_of_getElem? (i := 522) (by decide +kernel)) (by decide +kernel))
theorem wdS_X7_9 : Cond.sameField RX7 RX9 "a" "I" ∈ tb := (tb_in (List.mem_of_getElem? (i := 523) (by decide +kernel)) (by decide +kernel))
theorem x_get_X7_9 (C : Cx Γ cc RX7 nL D (tyW ca) rm ret mc ms Post) {q : Nat} (hq : q ∈ L) (hc : sC (S q) = 1) (hd : decode cc pc = .ok (.getfield 9, 3)) (kk : G Γ cn sn (pc + 3) lv (.int (sA (S q)) :: st) (cX ca o I J R L S)) : G Γ cn sn pc lv (.ref q :: st) (cX ca o I J R L S) := by
  obtain ⟨i, hi⟩ := cX_L ca o I J R L S hq
  by_cases h1 : sC (S q) = 1
  · refine g_get C inCX7 i (hi.trans (congrArg (fun z => some (q, z)) (sE_1 h1))) rfl 2 (by decide) wdX_X7_9 (fun _ _ hts x h => u_same (hts _ wdS_X7_9) x h) rfl hd kk
  exact absurd hc (by omega)
theorem wdX_X5_43 : Cond.fieldLink RX5 43 RX5 "a" "I" ∈ tb := (tb_in (List.mem_of_getElem? (i := 524) (by decide +kernel)) (by decide +kernel))
theorem wdS_X5_43 : Cond.sameField RX5 RX9 "a" "I" ∈ tb := (tb_in (List.mem_of_getElem? (i := 525) (by decide +kernel)) (by decide +kernel))
theorem x_get_X5_43 (C : Cx Γ cc RX5 nL D (tyW ca) rm ret mc ms Post) {q : Nat} (hq : q ∈ L) (hc : sC (S q) = 6) (hd : decode cc pc = .ok (.getfield 43, 3)) (kk : G Γ cn sn (pc + 3) lv (.int (sA (S q)) :: st) (cX ca o I J R L S)) : G Γ cn sn pc lv (.ref q :: st) (cX ca o I J R L S) := by
  obtain ⟨i, hi⟩ := cX_L ca o I J R L S hq
  by_cases h6 : sC (S q) = 6
  · refine g_get C inCX5 i (hi.trans (congrArg (fun z => some (q, z)) (sE_6 h6))) rfl 2 (by decide) wdX_X5_43 (fun _ _ hts x h => u_same (hts _ wdS_X5_43) x h) rfl hd kk
  exact absurd hc (by omega)
theorem wdX_X6_102 : Cond.fieldLink RX6 102 RX9 "a" "I" ∈ tb := (tb_in (List.mem_of_getElem? (i := 526) (by decide +kernel)) (by decide +kernel))
theorem x_get_X6_102 (C : Cx Γ cc RX6 nL D (tyW ca) rm ret mc ms Post) {q : Nat} (hq : q ∈ L) (hd : decode cc pc = .ok (.getfield 102, 3)) (kk : G Γ cn sn (pc + 3) lv (.int (sA (S q)) :: st) (cX ca o I J R L S)) : G Γ cn sn pc lv (.ref q :: st) (cX ca o I J R L S) := by
  obtain ⟨i, hi⟩ := cX_L ca o I J R L S hq
  by_cases h1 : sC (S q) = 1
  · refine g_get C inCX7 i (hi.trans (congrArg (fun z => some (q, z)) (sE_1 h1))) rfl 2 (by decide) wdX_X6_102 (fun _ _ _ _ h => h) rfl hd kk
  by_cases h2 : sC (S q) = 2
  · refine g_get C inCX10 i (hi.trans (congrArg (fun z => some (q, z)) (sE_2 h2))) rfl 2 (by decide) wdX_X6_102 (fun _ _ _ _ h => h) rfl hd kk
  by_cases h3 : sC (S q) = 3
  · refine g_get C inCX2 i (hi.trans (congrArg (fun z => some (q, z)) (sE_3 h3))) rfl 2 (by decide) wdX_X6_102 (fun _ _ _ _ h => h) rfl hd kk
  by_cases h4 : sC (S q) = 4
  · refine g_get C inCX0 i (hi.trans (congrArg (fun z => some (q, z)) (sE_4 h4))) rfl 3 (by decide) wdX_X6_102 (fun _ _ _ _ h => h) rfl hd kk
  by_cases h5 : sC (S q) = 5
  · refine g_get C inCX3 i (hi.trans (congrArg (fun z => some (q, z)) (sE_5 h5))) rfl 2 (by decide) wdX_X6_102 (fun _ _ _ _ h => h) rfl hd kk
  by_cases h6 : sC (S q) = 6
  · refine g_get C inCX5 i (hi.trans (congrArg (fun z => some (q, z)) (sE_6 h6))) rfl 2 (by decide) wdX_X6_102 (fun _ _ _ _ h => h) rfl hd kk
  refine g_get C inCX9 i (hi.trans (congrArg (fun z => some (q, z)) (sE_0 h1 h2 h3 h4 h5 h6))) rfl 2 (by decide) wdX_X6_102 (fun _ _ _ _ h => h) rfl hd kk
theorem wdX_X11_138 : Cond.fieldLink RX11 138 RX9 "a" "I" ∈ tb := (tb_in (List.mem_of_getElem? (i := 527) (by decide +kernel)) (by decide +kernel))
theorem x_get_X11_138 (C : Cx Γ cc RX11 nL D (tyW ca) rm ret mc ms Post) {q : Nat} (hq : q ∈ L) (hd : decode cc pc = .ok (.getfield 138, 3)) (kk : G Γ cn sn (pc + 3) lv (.int (sA (S q)) :: st) (cX ca o I J R L S)) : G Γ cn sn pc lv (.ref q :: st) (cX ca o I J R L S) := by
  obtain ⟨i, hi⟩ := cX_L ca o I J R L S hq
  by_cases h1 : sC (S q) = 1
  · refine g_get C inCX7 i (hi.trans (congrArg (fun z => some (q, z)) (sE_1 h1))) rfl 2 (by decide) wdX_X11_138 (fun _ _ _ _ h => h) rfl hd kk
  by_cases h2 : sC (S q) = 2
  · refine g_get C inCX10 i (hi.trans (congrArg (fun z => some (q, z)) (sE_2 h2))) rfl 2 (by decide) wdX_X11_138 (fun _ _ _ _ h => h) rfl hd kk
  by_cases h3 : sC (S q) = 3
  · refine g_get C inCX2 i (hi.trans (congrArg (fun z => some (q, z)) (sE_3 h3))) rfl 2 (by decide) wdX_X11_138 (fun _ _ _ _ h => h) rfl hd kk
  by_cases h4 : sC (S q) = 4
  · refine g_get C inCX0 i (hi.trans (congrArg (fun z => some (q, z)) (sE_4 h4))) rfl 3 (by decide) wdX_X11_138 (fun _ _ _ _ h => h) rfl hd kk
  by_cases h5 : sC (S q) = 5
  · refine g_get C inCX3 i (hi.trans (congrArg (fun z => some (q, z)) (sE_5 h5))) rfl 2 (by decide) wdX_X11_138 (fun _ _ _ _ h => h) rfl hd kk
  by_cases h6 : sC (S q) = 6
  · refine g_get C inCX5 i (hi.trans (congrArg (fun z => some (q, z)) (sE_6 h6))) rfl 2 (by decide) wdX_X11_138 (fun _ _ _ _ h => h) rfl hd kk
  refine g_get C inCX9 i (hi.trans (congrArg (fun z => some (q, z)) (sE_0 h1 h2 h3 h4 h5 h6))) rfl 2 (by decide) wdX_X11_138 (fun _ _ _ _ h => h) rfl hd kk
theorem wdX_X9_21 : Cond.fieldLink RX9 21 RX9 "levels" "I" ∈ tb := (tb_in (List.mem_of_getElem? (i := 528) (by decide +kernel)) (by decide +kernel))
theorem x_get_X9_21 (C : Cx Γ cc RX9 nL D (tyW ca) rm ret mc ms Post) {q : Nat} (hq : q ∈ L) (hd : decode cc pc = .ok (.getfield 21, 3)) (kk : G Γ cn sn (pc + 3) lv (.int (sL (S q)) :: st) (cX ca o I J R L S)) : G Γ cn sn pc lv (.ref q :: st) (cX ca o I J R L S) := by
  obtain ⟨i, hi⟩ := cX_L ca o I J R L S hq
  by_cases h1 : sC (S q) = 1
  · refine g_get C inCX7 i (hi.trans (congrArg (fun z => some (q, z)) (sE_1 h1))) rfl 3 (by decide) wdX_X9_21 (fun _ _ _ _ h => h) rfl hd kk
  by_cases h2 : sC (S q) = 2
  · refine g_get C inCX10 i (hi.trans (congrArg (fun z => some (q, z)) (sE_2 h2))) rfl 3 (by decide) wdX_X9_21 (fun _ _ _ _ h => h) rfl hd kk
  by_cases h3 : sC (S q) = 3
  · refine g_get C inCX2 i (hi.trans (congrArg (fun z => some (q, z)) (sE_3 h3))) rfl 3 (by decide) wdX_X9_21 (fun _ _ _ _ h => h) rfl hd kk
  by_cases h4 : sC (S q) = 4
  · refine g_get C inCX0 i (hi.trans (congrArg (fun z => some (q, z)) (sE_4 h4))) rfl 4 (by decide) wdX_X9_21 (fun _ _ _ _ h => h) rfl hd kk
  by_cases h5 : sC (S q) = 5
  · refine g_get C inCX3 i (hi.trans (congrArg (fun z => some (q, z)) (sE_5 h5))) rfl 3 (by decide) wdX_X9_21 (fun _ _ _ _ h => h) rfl hd kk
  by_cases h6 : sC (S q) = 6
  · refine g_get C inCX5 i (hi.trans (congrArg (fun z => some (q, z)) (sE_6 h6))) rfl 3 (by decide) wdX_X9_21 (fun _ _ _ _ h => h) rfl hd kk
  refine g_get C inCX9 i (hi.trans (congrArg (fun z => some (q, z)) (sE_0 h1 h2 h3 h4 h5 h6))) rfl 3 (by decide) wdX_X9_21 (fun _ _ _ _ h => h) rfl hd kk
theorem wdX_X10_9 : Cond.fieldLink RX10 9 RX10 "levels" "I" ∈ tb := (tb_in (List.mem_of_getElem? (i := 529) (by decide +kernel)) (by decide +kernel))
theorem wdS_X10_9 : Cond.sameField RX10 RX9 "levels" "I" ∈ tb := (tb_in (List.mem_of_getElem? (i := 530) (by decide +kernel)) (by decide +kernel))
theorem x_get_X10_9 (C : Cx Γ cc RX10 nL D (tyW ca) rm ret mc ms Post) {q : Nat} (hq : q ∈ L) (hc : sC (S q) = 2) (hd : decode cc pc = .ok (.getfield 9, 3)) (kk : G Γ cn sn (pc + 3) lv (.int (sL (S q)) :: st) (cX ca o I J R L S)) : G Γ cn sn pc lv (.ref q :: st) (cX ca o I J R L S) := by
  obtain ⟨i, hi⟩ := cX_L ca o I J R L S hq
  by_cases h2 : sC (S q) = 2
  · refine g_get C inCX10 i (hi.trans (congrArg (fun z => some (q, z)) (sE_2 h2))) rfl 3 (by decide) wdX_X10_9 (fun _ _ hts x h => u_same (hts _ wdS_X10_9) x h) rfl hd kk
  exact absurd hc (by omega)
theorem wdX_X6_98 : Cond.fieldLink RX6 98 RX9 "levels" "I" ∈ tb := (tb_in (List.mem_of_getElem? (i := 531) (by decide +kernel)) (by decide +kernel))
theorem x_get_X6_98 (C : Cx Γ cc RX6 nL D (tyW ca) rm ret mc ms Post) {q : Nat} (hq : q ∈ L) (hd : decode cc pc = .ok (.getfield 98, 3)) (kk : G Γ cn sn (pc + 3) lv (.int (sL (S q)) :: st) (cX ca o I J R L S)) : G Γ cn sn pc lv (.ref q :: st) (cX ca o I J R L S) := by
  obtain ⟨i, hi⟩ := cX_L ca o I J R L S hq
  by_cases h1 : sC (S q) = 1
  · refine g_get C inCX7 i (hi.trans (congrArg (fun z => some (q, z)) (sE_1 h1))) rfl 3 (by decide) wdX_X6_98 (fun _ _ _ _ h => h) rfl hd kk
  by_cases h2 : sC (S q) = 2
  · refine g_get C inCX10 i (hi.trans (congrArg (fun z => some (q, z)) (sE_2 h2))) rfl 3 (by decide) wdX_X6_98 (fun _ _ _ _ h => h) rfl hd kk
  by_cases h3 : sC (S q) = 3
  · refine g_get C inCX2 i (hi.trans (congrArg (fun z => some (q, z)) (sE_3 h3))) rfl 3 (by decide) wdX_X6_98 (fun _ _ _ _ h => h) rfl hd kk
  by_cases h4 : sC (S q) = 4
  · refine g_get C inCX0 i (hi.trans (congrArg (fun z => some (q, z)) (sE_4 h4))) rfl 4 (by decide) wdX_X6_98 (fun _ _ _ _ h => h) rfl hd kk
  by_cases h5 : sC (S q) = 5
  · refine g_get C inCX3 i (hi.trans (congrArg (fun z => some (q, z)) (sE_5 h5))) rfl 3 (by decide) wdX_X6_98 (fun _ _ _ _ h => h) rfl hd kk
  by_cases h6 : sC (S q) = 6
  · refine g_get C inCX5 i (hi.trans (congrArg (fun z => some (q, z)) (sE_6 h6))) rfl 3 (by decide) wdX_X6_98 (fun _ _ _ _ h => h) rfl hd kk
  refine g_get C inCX9 i (hi.trans (congrArg (fun z => some (q, z)) (sE_0 h1 h2 h3 h4 h5 h6))) rfl 3 (by decide) wdX_X6_98 (fun _ _ _ _ h => h) rfl hd kk
theorem wdX_X11_135 : Cond.fieldLink RX11 135 RX9 "levels" "I" ∈ tb := (tb_in (List.mem_of_getElem? (i := 532) (by decide +kernel)) (by decide +kernel))
theorem x_get_X11_135 (C : Cx Γ cc RX11 nL D (tyW ca) rm ret mc ms Post) {q : Nat} (hq : q ∈ L) (hd : decode cc pc = .ok (.getfield 135, 3)) (kk : G Γ cn sn (pc + 3) lv (.int (sL (S q)) :: st) (cX ca o I J R L S)) : G Γ cn sn pc lv (.ref q :: st) (cX ca o I J R L S) := by
  obtain ⟨i, hi⟩ := cX_L ca o I J R L S hq
  by_cases h1 : sC (S q) = 1
  · refine g_get C inCX7 i (hi.trans (congrArg (fun z => some (q, z)) (sE_1 h1))) rfl 3 (by decide) wdX_X11_135 (fun _ _ _ _ h => h) rfl hd kk
  by_cases h2 : sC (S q) = 2
  · refine g_get C inCX10 i (hi.trans (congrArg (fun z => some (q, z)) (sE_2 h2))) rfl 3 (by decide) wdX_X11_135 (fun _ _ _ _ h => h) rfl hd kk
  by_cases h3 : sC (S q) = 3
  · refine g_get C inCX2 i (hi.trans (congrArg (fun z => some (q, z)) (sE_3 h3))) rfl 3 (by decide) wdX_X11_135 (fun _ _ _ _ h => h) rfl hd kk
  by_cases h4 : sC (S q) = 4
  · refine g_get C inCX0 i (hi.trans (congrArg (fun z => some (q, z)) (sE_4 h4))) rfl 4 (by decide) wdX_X11_135 (fun _ _ _ _ h => h) rfl hd kk
  by_cases h5 : sC (S q) = 5
  · refine g_get C inCX3 i (hi.trans (congrArg (fun z => some (q, z)) (sE_5 h5))) rfl 3 (by decide) wdX_X11_135 (fun _ _ _ _ h => h) rfl hd kk
  by_cases h6 : sC (S q) = 6
  · refine g_get C inCX5 i (hi.trans (congrArg (fun z => some (q, z)) (sE_6 h6))) rfl 3 (by decide) wdX_X11_135 (fun _ _ _ _ h => h) rfl hd kk
  refine g_get C inCX9 i (hi.trans (congrArg (fun z => some (q, z)) (sE_0 h1 h2 h3 h4 h5 h6))) rfl 3 (by decide) wdX_X11_135 (fun _ _ _ _ h => h) rfl hd kk
theorem wdX_X9_24 : Cond.fieldLink RX9 24 RX9 "word" "J" ∈ tb := (tb_in (List.mem_of_getElem? (i := 533) (by decide +kernel)) (by decide +kernel))
theorem x_get_X9_24 (C : Cx Γ cc RX9 nL D (tyW ca) rm ret mc ms Post) {q : Nat} (hq : q ∈ L) (hd : decode cc pc = .ok (.getfield 24, 3)) (kk : G Γ cn sn (pc + 3) lv (.long (sW (S q)) :: st) (cX ca o I J R L S)) : G Γ cn sn pc lv (.ref q :: st) (cX ca o I J R L S) := by
  obtain ⟨i, hi⟩ := cX_L ca o I J R L S hq
  by_cases h1 : sC (S q) = 1
  · refine g_get C inCX7 i (hi.trans (congrArg (fun z => some (q, z)) (sE_1 h1))) rfl 4 (by decide) wdX_X9_24 (fun _ _ _ _ h => h) rfl hd kk
  by_cases h2 : sC (S q) = 2
  · refine g_get C inCX10 i (hi.trans (congrArg (fun z => some (q, z)) (sE_2 h2))) rfl 4 (by decide) wdX_X9_24 (fun _ _ _ _ h => h) rfl hd kk
  by_cases h3 : sC (S q) = 3
  · refine g_get C inCX2 i (hi.trans (congrArg (fun z => some (q, z)) (sE_3 h3))) rfl 4 (by decide) wdX_X9_24 (fun _ _ _ _ h => h) rfl hd kk
  by_cases h4 : sC (S q) = 4
  · refine g_get C inCX0 i (hi.trans (congrArg (fun z => some (q, z)) (sE_4 h4))) rfl 5 (by decide) wdX_X9_24 (fun _ _ _ _ h => h) rfl hd kk
  by_cases h5 : sC (S q) = 5
  · refine g_get C inCX3 i (hi.trans (congrArg (fun z => some (q, z)) (sE_5 h5))) rfl 4 (by decide) wdX_X9_24 (fun _ _ _ _ h => h) rfl hd kk
  by_cases h6 : sC (S q) = 6
  · refine g_get C inCX5 i (hi.trans (congrArg (fun z => some (q, z)) (sE_6 h6))) rfl 4 (by decide) wdX_X9_24 (fun _ _ _ _ h => h) rfl hd kk
  refine g_get C inCX9 i (hi.trans (congrArg (fun z => some (q, z)) (sE_0 h1 h2 h3 h4 h5 h6))) rfl 4 (by decide) wdX_X9_24 (fun _ _ _ _ h => h) rfl hd kk
theorem wdX_X3_7 : Cond.fieldLink RX3 7 RX3 "word" "J" ∈ tb := (tb_in (List.mem_of_getElem? (i := 534) (by decide +kernel)) (by decide +kernel))
theorem wdS_X3_7 : Cond.sameField RX3 RX9 "word" "J" ∈ tb := (tb_in (List.mem_of_getElem? (i := 535) (by decide +kernel)) (by decide +kernel))
theorem x_get_X3_7 (C : Cx Γ cc RX3 nL D (tyW ca) rm ret mc ms Post) {q : Nat} (hq : q ∈ L) (hc : sC (S q) = 5 ∨ sC (S q) = 6) (hd : decode cc pc = .ok (.getfield 7, 3)) (kk : G Γ cn sn (pc + 3) lv (.long (sW (S q)) :: st) (cX ca o I J R L S)) : G Γ cn sn pc lv (.ref q :: st) (cX ca o I J R L S) := by
  obtain ⟨i, hi⟩ := cX_L ca o I J R L S hq
  by_cases h5 : sC (S q) = 5
  · refine g_get C inCX3 i (hi.trans (congrArg (fun z => some (q, z)) (sE_5 h5))) rfl 4 (by decide) wdX_X3_7 (fun _ _ hts x h => u_same (hts _ wdS_X3_7) x h) rfl hd kk
  by_cases h6 : sC (S q) = 6
  · refine g_get C inCX5 i (hi.trans (congrArg (fun z => some (q, z)) (sE_6 h6))) rfl 4 (by decide) wdX_X3_7 (fun _ _ hts x h => u_same (hts _ wdS_X3_7) x h) rfl hd kk
  exact absurd hc (by omega)
theorem wdX_X6_105 : Cond.fieldLink RX6 105 RX9 "word" "J" ∈ tb := (tb_in (List.mem_of_getElem? (i := 536) (by decide +kernel)) (by decide +kernel))
theorem x_get_X6_105 (C : Cx Γ cc RX6 nL D (tyW ca) rm ret mc ms Post) {q : Nat} (hq : q ∈ L) (hd : decode cc pc = .ok (.getfield 105, 3)) (kk : G Γ cn sn (pc + 3) lv (.long (sW (S q)) :: st) (cX ca o I J R L S)) : G Γ cn sn pc lv (.ref q :: st) (cX ca o I J R L S) := by
  obtain ⟨i, hi⟩ := cX_L ca o I J R L S hq
  by_cases h1 : sC (S q) = 1
  · refine g_get C inCX7 i (hi.trans (congrArg (fun z => some (q, z)) (sE_1 h1))) rfl 4 (by decide) wdX_X6_105 (fun _ _ _ _ h => h) rfl hd kk
  by_cases h2 : sC (S q) = 2
  · refine g_get C inCX10 i (hi.trans (congrArg (fun z => some (q, z)) (sE_2 h2))) rfl 4 (by decide) wdX_X6_105 (fun _ _ _ _ h => h) rfl hd kk
  by_cases h3 : sC (S q) = 3
  · refine g_get C inCX2 i (hi.trans (congrArg (fun z => some (q, z)) (sE_3 h3))) rfl 4 (by decide) wdX_X6_105 (fun _ _ _ _ h => h) rfl hd kk
  by_cases h4 : sC (S q) = 4
  · refine g_get C inCX0 i (hi.trans (congrArg (fun z => some (q, z)) (sE_4 h4))) rfl 5 (by decide) wdX_X6_105 (fun _ _ _ _ h => h) rfl hd kk
  by_cases h5 : sC (S q) = 5
  · refine g_get C inCX3 i (hi.trans (congrArg (fun z => some (q, z)) (sE_5 h5))) rfl 4 (by decide) wdX_X6_105 (fun _ _ _ _ h => h) rfl hd kk
  by_cases h6 : sC (S q) = 6
  · refine g_get C inCX5 i (hi.trans (congrArg (fun z => some (q, z)) (sE_6 h6))) rfl 4 (by decide) wdX_X6_105 (fun _ _ _ _ h => h) rfl hd kk
  refine g_get C inCX9 i (hi.trans (congrArg (fun z => some (q, z)) (sE_0 h1 h2 h3 h4 h5 h6))) rfl 4 (by decide) wdX_X6_105 (fun _ _ _ _ h => h) rfl hd kk
theorem wdX_X11_182 : Cond.fieldLink RX11 182 RX9 "word" "J" ∈ tb := (tb_in (List.mem_of_getElem? (i := 537) (by decide +kernel)) (by decide +kernel))
theorem x_get_X11_182 (C : Cx Γ cc RX11 nL D (tyW ca) rm ret mc ms Post) {q : Nat} (hq : q ∈ L) (hd : decode cc pc = .ok (.getfield 182, 3)) (kk : G Γ cn sn (pc + 3) lv (.long (sW (S q)) :: st) (cX ca o I J R L S)) : G Γ cn sn pc lv (.ref q :: st) (cX ca o I J R L S) := by
  obtain ⟨i, hi⟩ := cX_L ca o I J R L S hq
  by_cases h1 : sC (S q) = 1
  · refine g_get C inCX7 i (hi.trans (congrArg (fun z => some (q, z)) (sE_1 h1))) rfl 4 (by decide) wdX_X11_182 (fun _ _ _ _ h => h) rfl hd kk
  by_cases h2 : sC (S q) = 2
  · refine g_get C inCX10 i (hi.trans (congrArg (fun z => some (q, z)) (sE_2 h2))) rfl 4 (by decide) wdX_X11_182 (fun _ _ _ _ h => h) rfl hd kk
  by_cases h3 : sC (S q) = 3
  · refine g_get C inCX2 i (hi.trans (congrArg (fun z => some (q, z)) (sE_3 h3))) rfl 4 (by decide) wdX_X11_182 (fun _ _ _ _ h => h) rfl hd kk
  by_cases h4 : sC (S q) = 4
  · refine g_get C inCX0 i (hi.trans (congrArg (fun z => some (q, z)) (sE_4 h4))) rfl 5 (by decide) wdX_X11_182 (fun _ _ _ _ h => h) rfl hd kk
  by_cases h5 : sC (S q) = 5
  · refine g_get C inCX3 i (hi.trans (congrArg (fun z => some (q, z)) (sE_5 h5))) rfl 4 (by decide) wdX_X11_182 (fun _ _ _ _ h => h) rfl hd kk
  by_cases h6 : sC (S q) = 6
  · refine g_get C inCX5 i (hi.trans (congrArg (fun z => some (q, z)) (sE_6 h6))) rfl 4 (by decide) wdX_X11_182 (fun _ _ _ _ h => h) rfl hd kk
  refine g_get C inCX9 i (hi.trans (congrArg (fun z => some (q, z)) (sE_0 h1 h2 h3 h4 h5 h6))) rfl 4 (by decide) wdX_X11_182 (fun _ _ _ _ h => h) rfl hd kk
theorem wdX_X2_7 : Cond.fieldLink RX2 7 RX2 "from" "J" ∈ tb := (tb_in (List.mem_of_getElem? (i := 567) (by decide +kernel)) (by decide +kernel))
theorem x_get_X2_7 (C : Cx Γ cc RX2 nL D (tyW ca) rm ret mc ms Post) {q : Nat} (hq : q ∈ L) (hc : sC (S q) = 3 ∨ sC (S q) = 4) (hd : decode cc pc = .ok (.getfield 7, 3)) (kk : G Γ cn sn (pc + 3) lv (.long (sF (S q)) :: st) (cX ca o I J R L S)) : G Γ cn sn pc lv (.ref q :: st) (cX ca o I J R L S) := by
  obtain ⟨i, hi⟩ := cX_L ca o I J R L S hq
  by_cases h3 : sC (S q) = 3
  · refine g_get C inCX2 i (hi.trans (congrArg (fun z => some (q, z)) (sE_3 h3))) rfl 5 (by decide) wdX_X2_7 (fun _ _ _ _ h => h) rfl hd kk
  by_cases h4 : sC (S q) = 4
  · refine g_get C inCX0 i (hi.trans (congrArg (fun z => some (q, z)) (sE_4 h4))) rfl 0 (by decide) wdX_X2_7 (fun _ _ _ _ h => h) rfl hd kk
  exact absurd hc (by omega)
theorem x_iald (C : Cx Γ cc own nL D (tyW ca) rm ret mc ms Post) {k : Nat} (h : 5 ≤ k ∧ k ≤ 14) {i : Int32} (hin : vp_in i (lenX k)) (hd : decode cc pc = .ok (.iaload, 1)) (kk : G Γ cn sn (pc + 1) lv (.int (I k i.toNatClampNeg) :: st) (cX ca o I J R L S)) : G Γ cn sn pc lv (.int i :: .ref (o (40 + k)) :: st) (cX ca o I J R L S) := by
  obtain ⟨j, rfl⟩ : ∃ j, k = 5 + j := ⟨k - 5, by omega⟩
  refine g_iald C (11 + j) 0 ((cX_I ca o I J R L S (by omega)).trans ?_) rfl hin hd kk
  rw [cIA, show 45 + j = 40 + (5 + j) by omega]
theorem x_iast (C : Cx Γ cc own nL D (tyW ca) rm ret mc ms Post) {k : Nat} (h : 5 ≤ k ∧ k ≤ 14) {i x : Int32} (hin : vp_in i (lenX k)) (hd : decode cc pc = .ok (.iastore, 1)) (kk : G Γ cn sn (pc + 1) lv st (cX ca o (upI I k i.toNatClampNeg x) J R L S)) : G Γ cn sn pc lv (.int x :: .int i :: .ref (o (40 + k)) :: st) (cX ca o I J R L S) := by
  obtain ⟨j, rfl⟩ : ∃ j, k = 5 + j := ⟨k - 5, by omega⟩
  rw [show 40 + (5 + j) = 45 + j by omega]
  exact g_iast C (11 + j) 0 (cX_I ca o I J R L S (by omega)) rfl hin hd _ (cX_s_ia (by omega)) kk
theorem x_alen (C : Cx Γ cc own nL D (tyW ca) rm ret mc ms Post) {k : Nat} (h : 5 ≤ k ∧ k ≤ 14) {v : Int32} (hv : Int32.ofNat (lenX k) = v) (hd : decode cc pc = .ok (.arraylength, 1)) (kk : G Γ cn sn (pc + 1) lv (.int v :: st) (cX ca o I J R L S)) : G Γ cn sn pc lv (.ref (o (40 + k)) :: st) (cX ca o I J R L S) := by
  obtain ⟨j, rfl⟩ : ∃ j, k = 5 + j := ⟨k - 5, by omega⟩
  rw [show 40 + (5 + j) = 45 + j by omega]
  exact g_alen C (11 + j) 0 (cX_I ca o I J R L S (by omega)) (ty := .int) rfl hv hd kk
theorem x_lald (C : Cx Γ cc own nL D (tyW ca) rm ret mc ms Post) {s : Nat} (hs : s < 8) {i : Int32} (hin : vp_in i 160) (hd : decode cc pc = .ok (.laload, 1)) (kk : G Γ cn sn (pc + 1) lv (.long (J (3 + s) i.toNatClampNeg) :: st) (cX ca o I J R L S)) : G Γ cn sn pc lv (.int i :: .ref (o (30 + s)) :: st) (cX ca o I J R L S) := g_lald C (29 + s) 1 (cX_T ca o I J R L S hs) rfl hin hd kk
theorem x_last (C : Cx Γ cc own nL D (tyW ca) rm ret mc ms Post) {s : Nat} (hs : s < 8) {i : Int32} {x : Int64} (hin : vp_in i 160) (hd : decode cc pc = .ok (.lastore, 1)) (kk : G Γ cn sn (pc + 1) lv st (cX ca o I (upJ J (3 + s) i.toNatClampNeg x) R L S)) : G Γ cn sn pc lv (.long x :: .int i :: .ref (o (30 + s)) :: st) (cX ca o I J R L S) := g_last C (29 + s) 1 (cX_T ca o I J R L S hs) rfl hin hd _ (cX_s_ja hs) kk
theorem x_llen (C : Cx Γ cc own nL D (tyW ca) rm ret mc ms Post) {s : Nat} (hs : s < 8) (hd : decode cc pc = .ok (.arraylength, 1)) (kk : G Γ cn sn (pc + 1) lv (.int 160 :: st) (cX ca o I J R L S)) : G Γ cn sn pc lv (.ref (o (30 + s)) :: st) (cX ca o I J R L S) := g_alen C (29 + s) 1 (cX_T ca o I J R L S hs) (ty := .long) rfl rfl hd kk
theorem x_aald (C : Cx Γ cc own nL D (tyW ca) rm ret mc ms Post) {k : Nat} (hk : k < 3) {i : Int32} (hin : vp_in i 8) (hd : decode cc pc = .ok (.aaload, 1)) (kk : G Γ cn sn (pc + 1) lv (va_rf (R k i.toNatClampNeg) :: st) (cX ca o I J R L S)) : G Γ cn sn pc lv (.int i :: .ref (o (5 + k)) :: st) (cX ca o I J R L S) := g_aald C (6 + k) 3 (cX_R ca o I J R L S hk) rfl hin hd kk
theorem x_rlen (C : Cx Γ cc own nL D (tyW ca) rm ret mc ms Post) {k : Nat} (hk : k < 3) (hd : decode cc pc = .ok (.arraylength, 1)) (kk : G Γ cn sn (pc + 1) lv (.int 8 :: st) (cX ca o I J R L S)) : G Γ cn sn pc lv (.ref (o (5 + k)) :: st) (cX ca o I J R L S) := g_alen C (6 + k) 3 (cX_R ca o I J R L S hk) (ty := .object RX9) rfl rfl hd kk
theorem x_shelf (C : Cx Γ cc own nL D (tyW ca) rm ret mc ms Post) {i : Int32} (hin : vp_in i 8) (hd : decode cc pc = .ok (.aaload, 1)) (kk : G Γ cn sn (pc + 1) lv (.ref (o (20 + i.toNatClampNeg)) :: st) (cX ca o I J R L S)) : G Γ cn sn pc lv (.int i :: .ref (o 8) :: st) (cX ca o I J R L S) := g_aald C 5 4 (cX_5 ca o I J R L S) rfl hin hd kk
theorem x_slen (C : Cx Γ cc own nL D (tyW ca) rm ret mc ms Post) (hd : decode cc pc = .ok (.arraylength, 1)) (kk : G Γ cn sn (pc + 1) lv (.int 8 :: st) (cX ca o I J R L S)) : G Γ cn sn pc lv (.ref (o 8) :: st) (cX ca o I J R L S) := g_alen C 5 4 (cX_5 ca o I J R L S) (ty := .object RX8) rfl rfl hd kk
theorem x_bald (C : Cx Γ cc own nL D (tyW ca) rm ret mc ms Post) {i : Int32} (hin : vp_in i 16) (hd : decode cc pc = .ok (.baload, 1)) (kk : G Γ cn sn (pc + 1) lv (.int (I 15 i.toNatClampNeg) :: st) (cX ca o I J R L S)) : G Γ cn sn pc lv (.int i :: .ref (o 2) :: st) (cX ca o I J R L S) := g_bald C 2 2 (cX_2 ca o I J R L S) rfl hin hd kk
theorem x_bast (C : Cx Γ cc own nL D (tyW ca) rm ret mc ms Post) {i x : Int32} (hin : vp_in i 16) (hd : decode cc pc = .ok (.bastore, 1)) (kk : G Γ cn sn (pc + 1) lv st (cX ca o (upI I 15 i.toNatClampNeg (vp_nar .byte x)) J R L S)) : G Γ cn sn pc lv (.int x :: .int i :: .ref (o 2) :: st) (cX ca o I J R L S) := g_bast C 2 2 (cX_2 ca o I J R L S) rfl hin hd _ cX_s_ba kk
theorem x_blen (C : Cx Γ cc own nL D (tyW ca) rm ret mc ms Post) (hd : decode cc pc = .ok (.arraylength, 1)) (kk : G Γ cn sn (pc + 1) lv (.int 16 :: st) (cX ca o I J R L S)) : G Γ cn sn pc lv (.ref (o 2) :: st) (cX ca o I J R L S) := g_alen C 2 2 (cX_2 ca o I J R L S) (ty := .byte) rfl rfl hd kk
theorem g_ifnull (C : Cx Γ cc own nL D (tyW ca) rm ret mc ms Post) {r : Option Nat} {ws : va_W} {off : Int} (tgt : Nat) (hd : decode cc pc = .ok (.ifnull off, 3)) (ht : (pc : Int) + off = (tgt : Int)) (kt : r = none → G Γ cn sn tgt lv st ws) (kf : ¬ r = none → G Γ cn sn (pc + 3) lv st ws) : G Γ cn sn pc lv (va_rf r :: st) ws := by
  obtain ⟨p, l, e, R, s, m, args, below, meth, c, nL', D', A, Q⟩ := Γ
  obtain ⟨rfl, rfl, hx, hb, hml, hown, hlk, hts, hK, hA, rfl, hrr, rfl⟩ := C
  intro H locs ls hP hD hS hl
  cases r with
  | none => exact lv_ifnullN hx hb hd ht (kt rfl H locs ls hP hD hS hl)
  | some x => exact lv_ifnull hx hb hd (kf (fun z => by cases z) H locs ls hP hD hS hl)
/-- a strip (or nothing) laid into an array of strips -/
theorem x_aast (C : Cx Γ cc own nL D (tyW ca) rm ret mc ms Post) {k : Nat} (hk : k < 3) {i : Int32} {r : Option Nat} (hr : ∀ q, r = some q → q ∈ L) (hin : vp_in i 8) (hd : decode cc pc = .ok (.aastore, 1)) (kk : G Γ cn sn (pc + 1) lv st (cX ca o I J (upR R k i.toNatClampNeg r) L S)) : G Γ cn sn pc lv (va_rf r :: .int i :: .ref (o (5 + k)) :: st) (cX ca o I J R L S) := by
  obtain ⟨p, l, e, R', s, m, args, below, meth, c, nL', D', A, Q⟩ := Γ
  obtain ⟨rfl, rfl, hx, hb, hml, hown, hlk, hts, hK, hA, rfl, hrr, rfl⟩ := C
  intro H locs ls hP hD hS hl
  have hRk := cX_R ca o I J R L S hk
  cases r with
  | none => exact va_astqN hx hb hK hP hD hS (6 + k) 3 hRk rfl hin hd (fun H1 locs1 hP hD hS => kk H1 locs1 ls (by rw [cX_s_ra hk] at hP; exact hP) (by rw [cX_s_ra hk] at hD; exact hD) hS hl)
  | some q =>
    obtain ⟨i', hi⟩ := cX_L ca o I J R L S (hr q rfl)
    by_cases h1 : sC (S q) = 1
    · exact va_astqO hx hb hK hP hD hS (6 + k) 3 i' 8 hRk rfl (hA.2.2.2.2.2.2.2.1 _ (by decide)) (hi.trans (congrArg (fun z => some (q, z)) (sE_1 h1))) rfl hin hd (fun H1 locs1 hP hD hS => kk H1 locs1 ls (by rw [cX_s_ra hk] at hP; exact hP) (by rw [cX_s_ra hk] at hD; exact hD) hS hl)
    by_cases h2 : sC (S q) = 2
    · exact va_astqO hx hb hK hP hD hS (6 + k) 3 i' 11 hRk rfl (hA.2.2.2.2.2.2.2.1 _ (by decide)) (hi.trans (congrArg (fun z => some (q, z)) (sE_2 h2))) rfl hin hd (fun H1 locs1 hP hD hS => kk H1 locs1 ls (by rw [cX_s_ra hk] at hP; exact hP) (by rw [cX_s_ra hk] at hD; exact hD) hS hl)
    by_cases h3 : sC (S q) = 3
    · exact va_astqO hx hb hK hP hD hS (6 + k) 3 i' 3 hRk rfl (hA.2.2.2.2.2.2.2.1 _ (by decide)) (hi.trans (congrArg (fun z => some (q, z)) (sE_3 h3))) rfl hin hd (fun H1 locs1 hP hD hS => kk H1 locs1 ls (by rw [cX_s_ra hk] at hP; exact hP) (by rw [cX_s_ra hk] at hD; exact hD) hS hl)
    by_cases h4 : sC (S q) = 4
    · exact va_astqO hx hb hK hP hD hS (6 + k) 3 i' 1 hRk rfl (hA.2.2.2.2.2.2.2.1 _ (by decide)) (hi.trans (congrArg (fun z => some (q, z)) (sE_4 h4))) rfl hin hd (fun H1 locs1 hP hD hS => kk H1 locs1 ls (by rw [cX_s_ra hk] at hP; exact hP) (by rw [cX_s_ra hk] at hD; exact hD) hS hl)
    by_cases h5 : sC (S q) = 5
    · exact va_astqO hx hb hK hP hD hS (6 + k) 3 i' 4 hRk rfl (hA.2.2.2.2.2.2.2.1 _ (by decide)) (hi.trans (congrArg (fun z => some (q, z)) (sE_5 h5))) rfl hin hd (fun H1 locs1 hP hD hS => kk H1 locs1 ls (by rw [cX_s_ra hk] at hP; exact hP) (by rw [cX_s_ra hk] at hD; exact hD) hS hl)
    by_cases h6 : sC (S q) = 6
    · exact va_astqO hx hb hK hP hD hS (6 + k) 3 i' 6 hRk rfl (hA.2.2.2.2.2.2.2.1 _ (by decide)) (hi.trans (congrArg (fun z => some (q, z)) (sE_6 h6))) rfl hin hd (fun H1 locs1 hP hD hS => kk H1 locs1 ls (by rw [cX_s_ra hk] at hP; exact hP) (by rw [cX_s_ra hk] at hD; exact hD) hS hl)
    exact va_astq hx hb hK hP hD hS (6 + k) 3 i' 10 hRk rfl (hi.trans (congrArg (fun z => some (q, z)) (sE_0 h1 h2 h3 h4 h5 h6))) rfl hin hd (fun H1 locs1 hP hD hS => kk H1 locs1 ls (by rw [cX_s_ra hk] at hP; exact hP) (by rw [cX_s_ra hk] at hD; exact hD) hS hl)
end XROWS
