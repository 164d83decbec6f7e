/-! ===== the class's cells ===== -/
theorem vup_s {α : Type} (f : Nat → α) (k : Nat) (x : α) : va_up f k x k = x := if_pos rfl
theorem vup_n {α : Type} {f : Nat → α} {k j : Nat} {x : α} (h : j ≠ k) : va_up f k x j = f j := if_neg h
/-- a strip's cell -/
def sE (v : gV) : va_E := match sC v with
  | 1 => .inr (8, [.int (sK v), .int (sN v), .int (sA v), .int (sL v), .long (sW v)])
  | 2 => .inr (11, [.int (sK v), .int (sN v), .int (sA v), .int (sL v), .long (sW v)])
  | 3 => .inr (3, [.int (sK v), .int (sN v), .int (sA v), .int (sL v), .long (sW v), .long (sF v)])
  | 4 => .inr (1, [.long (sF v), .int (sK v), .int (sN v), .int (sA v), .int (sL v), .long (sW v)])
  | 5 => .inr (4, [.int (sK v), .int (sN v), .int (sA v), .int (sL v), .long (sW v)])
  | 6 => .inr (6, [.int (sK v), .int (sN v), .int (sA v), .int (sL v), .long (sW v)])
  | _ => .inr (10, [.int (sK v), .int (sN v), .int (sA v), .int (sL v), .long (sW v)])
section CX
variable (ca : Nat → ClassId) (o : Nat → Nat) (I : gI) (J : gJ) (R : gR) (L : List Nat) (S : gS)
def fMn : List Value := [.ref (o 5), .int (I 0 0), .ref (o 6), .int (I 0 1), .ref (o 8), .ref (o 45), .int (I 0 2), .ref (o 1), .ref (o 3), .ref (o 10), .ref (o 11), .ref (o 4)]
def fSb : List Value := [.ref (o 2), .int (I 0 4), .int (I 0 12), .int (I 0 3)]
def fRd : List Value := [.ref (o 7), .int (I 0 5), .int (I 0 6), va_re (fun s => o (20 + s)) (R 4 0), .int (I 0 7), .int (I 0 8), .int (I 0 9), .int (I 0 10), .long (J 0 0)]
def fLv : List Value := [.ref (o 50), .ref (o 51), .ref (o 52), .ref (o 53), .ref (o 54), .int (I 0 11)]
def fBg (b : Nat) : List Value := [.long (J 1 b), .long (J 2 b), va_rf (R 3 b), .int (I 1 b), .int (I 2 b), .ref (o (40 + (6 + b))), .ref (o (40 + (8 + b)))]
def fSh (s : Nat) : List Value := [.int (I 3 s), .int (I 4 s), .ref (o (30 + s))]
def cRA (k : Nat) : Nat × va_E := (o (5 + k), .inl (ca 3, 8, .inr (.inr (.inr (.inr (R k))))))
def cBg (b : Nat) : Nat × va_E := (o (10 + b), .inr (2, fBg o I J R b))
def cIA (k : Nat) : Nat × va_E := (o (45 + k), .inl (ca 0, lenX (5 + k), .inl (I (5 + k))))
def cSh (s : Nat) : Nat × va_E := (o (20 + s), .inr (9, fSh o I s))
def cIt (s : Nat) : Nat × va_E := (o (30 + s), .inl (ca 1, 160, .inr (.inl (J (3 + s)))))
def cX : va_W := [(o 0, .inr (12, fMn o I)), (o 1, .inr (0, fSb o I)), (o 2, .inl (ca 2, 16, .inl (I 15))), (o 3, .inr (7, fRd o I J R)), (o 4, .inr (5, fLv o I)), (o 8, .inl (ca 4, 8, .inr (.inr (.inr (.inr (fun s => some (o (20 + s))))))))] ++ ((List.range 3).map (cRA ca o R) ++ ((List.range 2).map (cBg o I J R) ++ ((List.range 10).map (cIA ca o I) ++ ((List.range 8).map (cSh o I) ++ ((List.range 8).map (cIt ca o J) ++ L.map (fun a => (a, sE (S a))))))))
theorem cX_0 : (cX ca o I J R L S)[0]? = some (o 0, .inr (12, fMn o I)) := rfl
theorem cX_1 : (cX ca o I J R L S)[1]? = some (o 1, .inr (0, fSb o I)) := rfl
theorem cX_2 : (cX ca o I J R L S)[2]? = some (o 2, .inl (ca 2, 16, .inl (I 15))) := rfl
theorem cX_3 : (cX ca o I J R L S)[3]? = some (o 3, .inr (7, fRd o I J R)) := rfl
theorem cX_4 : (cX ca o I J R L S)[4]? = some (o 4, .inr (5, fLv o I)) := rfl
theorem cX_5 : (cX ca o I J R L S)[5]? = some (o 8, .inl (ca 4, 8, .inr (.inr (.inr (.inr (fun s => some (o (20 + s)))))))) := rfl
theorem cX_R {k : Nat} (h : k < 3) : (cX ca o I J R L S)[6 + k]? = some (cRA ca o R k) := by
  rcases (show k = 0 ∨ k = 1 ∨ k = 2 by omega) with rfl | rfl | rfl <;> rfl
theorem cX_B {b : Nat} (h : b < 2) : (cX ca o I J R L S)[9 + b]? = some (cBg o I J R b) := by
  rcases (show b = 0 ∨ b = 1 by omega) with rfl | rfl <;> rfl
theorem cX_I {k : Nat} (h : k < 10) : (cX ca o I J R L S)[11 + k]? = some (cIA ca o I k) := by
  rcases (show k = 0 ∨ k = 1 ∨ k = 2 ∨ k = 3 ∨ k = 4 ∨ k = 5 ∨ k = 6 ∨ k = 7 ∨ k = 8 ∨ k = 9 by omega) with rfl | rfl | rfl | rfl | rfl | rfl | rfl | rfl | rfl | rfl <;> rfl
theorem cX_H {s : Nat} (h : s < 8) : (cX ca o I J R L S)[21 + s]? = some (cSh o I s) := by
  rcases (show s = 0 ∨ s = 1 ∨ s = 2 ∨ s = 3 ∨ s = 4 ∨ s = 5 ∨ s = 6 ∨ s = 7 by omega) with rfl | rfl | rfl | rfl | rfl | rfl | rfl | rfl <;> rfl
theorem cX_T {s : Nat} (h : s < 8) : (cX ca o I J R L S)[29 + s]? = some (cIt ca o J s) := by
  rcases (show s = 0 ∨ s = 1 ∨ s = 2 ∨ s = 3 ∨ s = 4 ∨ s = 5 ∨ s = 6 ∨ s = 7 by omega) with rfl | rfl | rfl | rfl | rfl | rfl | rfl | rfl <;> rfl
theorem cX_P (i : Nat) : (cX ca o I J R L S)[37 + i]? = (L[i]?).map (fun a => (a, sE (S a))) := by
  rw [← List.getElem?_map]
  unfold cX
  rw [← List.append_assoc, ← List.append_assoc, ← List.append_assoc, ← List.append_assoc, ← List.append_assoc, List.getElem?_append_right (by simp)]
  simp
theorem cX_len : (cX ca o I J R L S).length = 37 + L.length := by
  simp [cX]
  omega
theorem cX_L {q : Nat} (h : q ∈ L) : ∃ i : Nat, (cX ca o I J R L S)[i]? = some (q, sE (S q)) := by
  obtain ⟨i, hi⟩ := List.getElem?_of_mem h
  exact ⟨37 + i, by rw [cX_P, hi]; try rfl⟩
end CX
theorem cX_ext {w : va_W} {ca : Nat → ClassId} {o : Nat → Nat} {I : gI} {J : gJ} {R : gR} {L : List Nat} {S : gS} (h0 : w[0]? = some (o 0, .inr (12, fMn o I))) (h1 : w[1]? = some (o 1, .inr (0, fSb o I))) (h2 : w[2]? = some (o 2, .inl (ca 2, 16, .inl (I 15)))) (h3 : w[3]? = some (o 3, .inr (7, fRd o I J R))) (h4 : w[4]? = some (o 4, .inr (5, fLv o I))) (h5 : w[5]? = some (o 8, .inl (ca 4, 8, .inr (.inr (.inr (.inr (fun s => some (o (20 + s)))))))))
    (hR : ∀ k, k < 3 → w[6 + k]? = some (cRA ca o R k)) (hB : ∀ b, b < 2 → w[9 + b]? = some (cBg o I J R b)) (hI : ∀ k, k < 10 → w[11 + k]? = some (cIA ca o I k)) (hH : ∀ s, s < 8 → w[21 + s]? = some (cSh o I s)) (hT : ∀ s, s < 8 → w[29 + s]? = some (cIt ca o J s)) (hP : ∀ i, w[37 + i]? = (L[i]?).map (fun a => (a, sE (S a)))) : w = cX ca o I J R L S := by
  apply List.ext_getElem?
  intro n
  rcases Nat.lt_or_ge n 37 with h | h
  · rcases (show n = 0 ∨ n = 1 ∨ n = 2 ∨ n = 3 ∨ n = 4 ∨ n = 5 ∨ (6 ≤ n ∧ n < 9) ∨ (9 ≤ n ∧ n < 11) ∨ (11 ≤ n ∧ n < 21) ∨ (21 ≤ n ∧ n < 29) ∨ (29 ≤ n ∧ n < 37) by omega) with rfl | rfl | rfl | rfl | rfl | rfl | ⟨a, b⟩ | ⟨a, b⟩ | ⟨a, b⟩ | ⟨a, b⟩ | ⟨a, b⟩
    · rw [h0]; try rfl
    · rw [h1]; try rfl
    · rw [h2]; try rfl
    · rw [h3]; try rfl
    · rw [h4]; try rfl
    · rw [h5]; try rfl
    · obtain ⟨k, rfl⟩ : ∃ k, n = 6 + k := ⟨n - 6, by omega⟩
      rw [hR k (by omega), cX_R ca o I J R L S (by omega)]
    · obtain ⟨k, rfl⟩ : ∃ k, n = 9 + k := ⟨n - 9, by omega⟩
      rw [hB k (by omega), cX_B ca o I J R L S (by omega)]
    · obtain ⟨k, rfl⟩ : ∃ k, n = 11 + k := ⟨n - 11, by omega⟩
      rw [hI k (by omega), cX_I ca o I J R L S (by omega)]
    · obtain ⟨k, rfl⟩ : ∃ k, n = 21 + k := ⟨n - 21, by omega⟩
      rw [hH k (by omega), cX_H ca o I J R L S (by omega)]
    · obtain ⟨k, rfl⟩ : ∃ k, n = 29 + k := ⟨n - 29, by omega⟩
      rw [hT k (by omega), cX_T ca o I J R L S (by omega)]
  · obtain ⟨k, rfl⟩ : ∃ k, n = 37 + k := ⟨n - 37, by omega⟩
    rw [hP k, cX_P ca o I J R L S k]

theorem n5 {a k : Nat} (h : k < 5) : 5 + a ≠ k := by omega
theorem n3 {a k : Nat} (h : k < 3) : 3 + a ≠ k := by omega
theorem cX_s_main_count {ca : Nat → ClassId} {o : Nat → Nat} {I : gI} {J : gJ} {R : gR} {L : List Nat} {S : gS} {v : Int32} : (cX ca o I J R L S).set 0 (o 0, .inr (12, (fMn o I).set 1 (.int v))) = cX ca o (upI I 0 0 v) J R L S := by
  apply cX_ext
  · rw [List.getElem?_set_self (by rw [cX_len]; omega)]; try rfl
  · rw [List.getElem?_set_ne (by omega), cX_1]; try rfl
  · rw [List.getElem?_set_ne (by omega), cX_2]; try rfl
  · rw [List.getElem?_set_ne (by omega), cX_3]; try rfl
  · rw [List.getElem?_set_ne (by omega), cX_4]; try rfl
  · rw [List.getElem?_set_ne (by omega), cX_5]; try rfl
  · intro a ha; rw [List.getElem?_set_ne (by omega), cX_R _ _ _ _ _ _ _ ha]
  · intro a ha; rw [List.getElem?_set_ne (by omega), cX_B _ _ _ _ _ _ _ ha]; try rfl
  · intro a ha; rw [List.getElem?_set_ne (by omega), cX_I _ _ _ _ _ _ _ ha, cIA, cIA, upI_n (n5 (by omega))]
  · intro a ha; rw [List.getElem?_set_ne (by omega), cX_H _ _ _ _ _ _ _ ha]; try rfl
  · intro a ha; rw [List.getElem?_set_ne (by omega), cX_T _ _ _ _ _ _ _ ha]
  · intro i; rw [List.getElem?_set_ne (by omega), cX_P]
theorem cX_s_main_imageCount {ca : Nat → ClassId} {o : Nat → Nat} {I : gI} {J : gJ} {R : gR} {L : List Nat} {S : gS} {v : Int32} : (cX ca o I J R L S).set 0 (o 0, .inr (12, (fMn o I).set 3 (.int v))) = cX ca o (upI I 0 1 v) J R L S := by
  apply cX_ext
  · rw [List.getElem?_set_self (by rw [cX_len]; omega)]; try rfl
  · rw [List.getElem?_set_ne (by omega), cX_1]; try rfl
  · rw [List.getElem?_set_ne (by omega), cX_2]; try rfl
  · rw [List.getElem?_set_ne (by omega), cX_3]; try rfl
  · rw [List.getElem?_set_ne (by omega), cX_4]; try rfl
  · rw [List.getElem?_set_ne (by omega), cX_5]; try rfl
  · intro a ha; rw [List.getElem?_set_ne (by omega), cX_R _ _ _ _ _ _ _ ha]
  · intro a ha; rw [List.getElem?_set_ne (by omega), cX_B _ _ _ _ _ _ _ ha]; try rfl
  · intro a ha; rw [List.getElem?_set_ne (by omega), cX_I _ _ _ _ _ _ _ ha, cIA, cIA, upI_n (n5 (by omega))]
  · intro a ha; rw [List.getElem?_set_ne (by omega), cX_H _ _ _ _ _ _ _ ha]; try rfl
  · intro a ha; rw [List.getElem?_set_ne (by omega), cX_T _ _ _ _ _ _ _ ha]
  · intro i; rw [List.getElem?_set_ne (by omega), cX_P]
theorem cX_s_main_fault {ca : Nat → ClassId} {o : Nat → Nat} {I : gI} {J : gJ} {R : gR} {L : List Nat} {S : gS} {v : Int32} : (cX ca o I J R L S).set 0 (o 0, .inr (12, (fMn o I).set 6 (.int v))) = cX ca o (upI I 0 2 v) J R L S := by
  apply cX_ext
  · rw [List.getElem?_set_self (by rw [cX_len]; omega)]; try rfl
  · rw [List.getElem?_set_ne (by omega), cX_1]; try rfl
  · rw [List.getElem?_set_ne (by omega), cX_2]; try rfl
  · rw [List.getElem?_set_ne (by omega), cX_3]; try rfl
  · rw [List.getElem?_set_ne (by omega), cX_4]; try rfl
  · rw [List.getElem?_set_ne (by omega), cX_5]; try rfl
  · intro a ha; rw [List.getElem?_set_ne (by omega), cX_R _ _ _ _ _ _ _ ha]
  · intro a ha; rw [List.getElem?_set_ne (by omega), cX_B _ _ _ _ _ _ _ ha]; try rfl
  · intro a ha; rw [List.getElem?_set_ne (by omega), cX_I _ _ _ _ _ _ _ ha, cIA, cIA, upI_n (n5 (by omega))]
  · intro a ha; rw [List.getElem?_set_ne (by omega), cX_H _ _ _ _ _ _ _ ha]; try rfl
  · intro a ha; rw [List.getElem?_set_ne (by omega), cX_T _ _ _ _ _ _ _ ha]
  · intro i; rw [List.getElem?_set_ne (by omega), cX_P]
theorem cX_s_sb_count {ca : Nat → ClassId} {o : Nat → Nat} {I : gI} {J : gJ} {R : gR} {L : List Nat} {S : gS} {v : Int32} : (cX ca o I J R L S).set 1 (o 1, .inr (0, (fSb o I).set 3 (.int v))) = cX ca o (upI I 0 3 v) J R L S := by
  apply cX_ext
  · rw [List.getElem?_set_ne (by omega), cX_0]; try rfl
  · rw [List.getElem?_set_self (by rw [cX_len]; omega)]; try rfl
  · rw [List.getElem?_set_ne (by omega), cX_2]; try rfl
  · rw [List.getElem?_set_ne (by omega), cX_3]; try rfl
  · rw [List.getElem?_set_ne (by omega), cX_4]; try rfl
  · rw [List.getElem?_set_ne (by omega), cX_5]; try rfl
  · intro a ha; rw [List.getElem?_set_ne (by omega), cX_R _ _ _ _ _ _ _ ha]
  · intro a ha; rw [List.getElem?_set_ne (by omega), cX_B _ _ _ _ _ _ _ ha]; try rfl
  · intro a ha; rw [List.getElem?_set_ne (by omega), cX_I _ _ _ _ _ _ _ ha, cIA, cIA, upI_n (n5 (by omega))]
  · intro a ha; rw [List.getElem?_set_ne (by omega), cX_H _ _ _ _ _ _ _ ha]; try rfl
  · intro a ha; rw [List.getElem?_set_ne (by omega), cX_T _ _ _ _ _ _ _ ha]
  · intro i; rw [List.getElem?_set_ne (by omega), cX_P]
theorem cX_s_sb_coder {ca : Nat → ClassId} {o : Nat → Nat} {I : gI} {J : gJ} {R : gR} {L : List Nat} {S : gS} {v : Int32} : (cX ca o I J R L S).set 1 (o 1, .inr (0, (fSb o I).set 1 (.int v))) = cX ca o (upI I 0 4 v) J R L S := by
  apply cX_ext
  · rw [List.getElem?_set_ne (by omega), cX_0]; try rfl
  · rw [List.getElem?_set_self (by rw [cX_len]; omega)]; try rfl
  · rw [List.getElem?_set_ne (by omega), cX_2]; try rfl
  · rw [List.getElem?_set_ne (by omega), cX_3]; try rfl
  · rw [List.getElem?_set_ne (by omega), cX_4]; try rfl
  · rw [List.getElem?_set_ne (by omega), cX_5]; try rfl
  · intro a ha; rw [List.getElem?_set_ne (by omega), cX_R _ _ _ _ _ _ _ ha]
  · intro a ha; rw [List.getElem?_set_ne (by omega), cX_B _ _ _ _ _ _ _ ha]; try rfl
  · intro a ha; rw [List.getElem?_set_ne (by omega), cX_I _ _ _ _ _ _ _ ha, cIA, cIA, upI_n (n5 (by omega))]
  · intro a ha; rw [List.getElem?_set_ne (by omega), cX_H _ _ _ _ _ _ _ ha]; try rfl
  · intro a ha; rw [List.getElem?_set_ne (by omega), cX_T _ _ _ _ _ _ _ ha]
  · intro i; rw [List.getElem?_set_ne (by omega), cX_P]
theorem cX_s_sb_maybeLatin1 {ca : Nat → ClassId} {o : Nat → Nat} {I : gI} {J : gJ} {R : gR} {L : List Nat} {S : gS} {v : Int32} : (cX ca o I J R L S).set 1 (o 1, .inr (0, (fSb o I).set 2 (.int v))) = cX ca o (upI I 0 12 v) J R L S := by
  apply cX_ext
  · rw [List.getElem?_set_ne (by omega), cX_0]; try rfl
  · rw [List.getElem?_set_self (by rw [cX_len]; omega)]; try rfl
  · rw [List.getElem?_set_ne (by omega), cX_2]; try rfl
  · rw [List.getElem?_set_ne (by omega), cX_3]; try rfl
  · rw [List.getElem?_set_ne (by omega), cX_4]; try rfl
  · rw [List.getElem?_set_ne (by omega), cX_5]; try rfl
  · intro a ha; rw [List.getElem?_set_ne (by omega), cX_R _ _ _ _ _ _ _ ha]
  · intro a ha; rw [List.getElem?_set_ne (by omega), cX_B _ _ _ _ _ _ _ ha]; try rfl
  · intro a ha; rw [List.getElem?_set_ne (by omega), cX_I _ _ _ _ _ _ _ ha, cIA, cIA, upI_n (n5 (by omega))]
  · intro a ha; rw [List.getElem?_set_ne (by omega), cX_H _ _ _ _ _ _ _ ha]; try rfl
  · intro a ha; rw [List.getElem?_set_ne (by omega), cX_T _ _ _ _ _ _ _ ha]
  · intro i; rw [List.getElem?_set_ne (by omega), cX_P]
theorem cX_s_reader_count {ca : Nat → ClassId} {o : Nat → Nat} {I : gI} {J : gJ} {R : gR} {L : List Nat} {S : gS} {v : Int32} : (cX ca o I J R L S).set 3 (o 3, .inr (7, (fRd o I J R).set 1 (.int v))) = cX ca o (upI I 0 5 v) J R L S := by
  apply cX_ext
  · rw [List.getElem?_set_ne (by omega), cX_0]; try rfl
  · rw [List.getElem?_set_ne (by omega), cX_1]; try rfl
  · rw [List.getElem?_set_ne (by omega), cX_2]; try rfl
  · rw [List.getElem?_set_self (by rw [cX_len]; omega)]; try rfl
  · rw [List.getElem?_set_ne (by omega), cX_4]; try rfl
  · rw [List.getElem?_set_ne (by omega), cX_5]; try rfl
  · intro a ha; rw [List.getElem?_set_ne (by omega), cX_R _ _ _ _ _ _ _ ha]
  · intro a ha; rw [List.getElem?_set_ne (by omega), cX_B _ _ _ _ _ _ _ ha]; try rfl
  · intro a ha; rw [List.getElem?_set_ne (by omega), cX_I _ _ _ _ _ _ _ ha, cIA, cIA, upI_n (n5 (by omega))]
  · intro a ha; rw [List.getElem?_set_ne (by omega), cX_H _ _ _ _ _ _ _ ha]; try rfl
  · intro a ha; rw [List.getElem?_set_ne (by omega), cX_T _ _ _ _ _ _ _ ha]
  · intro i; rw [List.getElem?_set_ne (by omega), cX_P]
theorem cX_s_reader_fault {ca : Nat → ClassId} {o : Nat → Nat} {I : gI} {J : gJ} {R : gR} {L : List Nat} {S : gS} {v : Int32} : (cX ca o I J R L S).set 3 (o 3, .inr (7, (fRd o I J R).set 2 (.int v))) = cX ca o (upI I 0 6 v) J R L S := by
  apply cX_ext
  · rw [List.getElem?_set_ne (by omega), cX_0]; try rfl
  · rw [List.getElem?_set_ne (by omega), cX_1]; try rfl
  · rw [List.getElem?_set_ne (by omega), cX_2]; try rfl
  · rw [List.getElem?_set_self (by rw [cX_len]; omega)]; try rfl
  · rw [List.getElem?_set_ne (by omega), cX_4]; try rfl
  · rw [List.getElem?_set_ne (by omega), cX_5]; try rfl
  · intro a ha; rw [List.getElem?_set_ne (by omega), cX_R _ _ _ _ _ _ _ ha]
  · intro a ha; rw [List.getElem?_set_ne (by omega), cX_B _ _ _ _ _ _ _ ha]; try rfl
  · intro a ha; rw [List.getElem?_set_ne (by omega), cX_I _ _ _ _ _ _ _ ha, cIA, cIA, upI_n (n5 (by omega))]
  · intro a ha; rw [List.getElem?_set_ne (by omega), cX_H _ _ _ _ _ _ _ ha]; try rfl
  · intro a ha; rw [List.getElem?_set_ne (by omega), cX_T _ _ _ _ _ _ _ ha]
  · intro i; rw [List.getElem?_set_ne (by omega), cX_P]
theorem cX_s_reader_at {ca : Nat → ClassId} {o : Nat → Nat} {I : gI} {J : gJ} {R : gR} {L : List Nat} {S : gS} {v : Int32} : (cX ca o I J R L S).set 3 (o 3, .inr (7, (fRd o I J R).set 4 (.int v))) = cX ca o (upI I 0 7 v) J R L S := by
  apply cX_ext
  · rw [List.getElem?_set_ne (by omega), cX_0]; try rfl
  · rw [List.getElem?_set_ne (by omega), cX_1]; try rfl
  · rw [List.getElem?_set_ne (by omega), cX_2]; try rfl
  · rw [List.getElem?_set_self (by rw [cX_len]; omega)]; try rfl
  · rw [List.getElem?_set_ne (by omega), cX_4]; try rfl
  · rw [List.getElem?_set_ne (by omega), cX_5]; try rfl
  · intro a ha; rw [List.getElem?_set_ne (by omega), cX_R _ _ _ _ _ _ _ ha]
  · intro a ha; rw [List.getElem?_set_ne (by omega), cX_B _ _ _ _ _ _ _ ha]; try rfl
  · intro a ha; rw [List.getElem?_set_ne (by omega), cX_I _ _ _ _ _ _ _ ha, cIA, cIA, upI_n (n5 (by omega))]
  · intro a ha; rw [List.getElem?_set_ne (by omega), cX_H _ _ _ _ _ _ _ ha]; try rfl
  · intro a ha; rw [List.getElem?_set_ne (by omega), cX_T _ _ _ _ _ _ _ ha]
  · intro i; rw [List.getElem?_set_ne (by omega), cX_P]
theorem cX_s_reader_number {ca : Nat → ClassId} {o : Nat → Nat} {I : gI} {J : gJ} {R : gR} {L : List Nat} {S : gS} {v : Int32} : (cX ca o I J R L S).set 3 (o 3, .inr (7, (fRd o I J R).set 5 (.int v))) = cX ca o (upI I 0 8 v) J R L S := by
  apply cX_ext
  · rw [List.getElem?_set_ne (by omega), cX_0]; try rfl
  · rw [List.getElem?_set_ne (by omega), cX_1]; try rfl
  · rw [List.getElem?_set_ne (by omega), cX_2]; try rfl
  · rw [List.getElem?_set_self (by rw [cX_len]; omega)]; try rfl
  · rw [List.getElem?_set_ne (by omega), cX_4]; try rfl
  · rw [List.getElem?_set_ne (by omega), cX_5]; try rfl
  · intro a ha; rw [List.getElem?_set_ne (by omega), cX_R _ _ _ _ _ _ _ ha]
  · intro a ha; rw [List.getElem?_set_ne (by omega), cX_B _ _ _ _ _ _ _ ha]; try rfl
  · intro a ha; rw [List.getElem?_set_ne (by omega), cX_I _ _ _ _ _ _ _ ha, cIA, cIA, upI_n (n5 (by omega))]
  · intro a ha; rw [List.getElem?_set_ne (by omega), cX_H _ _ _ _ _ _ _ ha]; try rfl
  · intro a ha; rw [List.getElem?_set_ne (by omega), cX_T _ _ _ _ _ _ _ ha]
  · intro i; rw [List.getElem?_set_ne (by omega), cX_P]
theorem cX_s_reader_numberAt {ca : Nat → ClassId} {o : Nat → Nat} {I : gI} {J : gJ} {R : gR} {L : List Nat} {S : gS} {v : Int32} : (cX ca o I J R L S).set 3 (o 3, .inr (7, (fRd o I J R).set 6 (.int v))) = cX ca o (upI I 0 9 v) J R L S := by
  apply cX_ext
  · rw [List.getElem?_set_ne (by omega), cX_0]; try rfl
  · rw [List.getElem?_set_ne (by omega), cX_1]; try rfl
  · rw [List.getElem?_set_ne (by omega), cX_2]; try rfl
  · rw [List.getElem?_set_self (by rw [cX_len]; omega)]; try rfl
  · rw [List.getElem?_set_ne (by omega), cX_4]; try rfl
  · rw [List.getElem?_set_ne (by omega), cX_5]; try rfl
  · intro a ha; rw [List.getElem?_set_ne (by omega), cX_R _ _ _ _ _ _ _ ha]
  · intro a ha; rw [List.getElem?_set_ne (by omega), cX_B _ _ _ _ _ _ _ ha]; try rfl
  · intro a ha; rw [List.getElem?_set_ne (by omega), cX_I _ _ _ _ _ _ _ ha, cIA, cIA, upI_n (n5 (by omega))]
  · intro a ha; rw [List.getElem?_set_ne (by omega), cX_H _ _ _ _ _ _ _ ha]; try rfl
  · intro a ha; rw [List.getElem?_set_ne (by omega), cX_T _ _ _ _ _ _ _ ha]
  · intro i; rw [List.getElem?_set_ne (by omega), cX_P]
theorem cX_s_reader_levels {ca : Nat → ClassId} {o : Nat → Nat} {I : gI} {J : gJ} {R : gR} {L : List Nat} {S : gS} {v : Int32} : (cX ca o I J R L S).set 3 (o 3, .inr (7, (fRd o I J R).set 7 (.int v))) = cX ca o (upI I 0 10 v) J R L S := by
  apply cX_ext
  · rw [List.getElem?_set_ne (by omega), cX_0]; try rfl
  · rw [List.getElem?_set_ne (by omega), cX_1]; try rfl
  · rw [List.getElem?_set_ne (by omega), cX_2]; try rfl
  · rw [List.getElem?_set_self (by rw [cX_len]; omega)]; try rfl
  · rw [List.getElem?_set_ne (by omega), cX_4]; try rfl
  · rw [List.getElem?_set_ne (by omega), cX_5]; try rfl
  · intro a ha; rw [List.getElem?_set_ne (by omega), cX_R _ _ _ _ _ _ _ ha]
  · intro a ha; rw [List.getElem?_set_ne (by omega), cX_B _ _ _ _ _ _ _ ha]; try rfl
  · intro a ha; rw [List.getElem?_set_ne (by omega), cX_I _ _ _ _ _ _ _ ha, cIA, cIA, upI_n (n5 (by omega))]
  · intro a ha; rw [List.getElem?_set_ne (by omega), cX_H _ _ _ _ _ _ _ ha]; try rfl
  · intro a ha; rw [List.getElem?_set_ne (by omega), cX_T _ _ _ _ _ _ _ ha]
  · intro i; rw [List.getElem?_set_ne (by omega), cX_P]
theorem cX_s_leaves_used {ca : Nat → ClassId} {o : Nat → Nat} {I : gI} {J : gJ} {R : gR} {L : List Nat} {S : gS} {v : Int32} : (cX ca o I J R L S).set 4 (o 4, .inr (5, (fLv o I).set 5 (.int v))) = cX ca o (upI I 0 11 v) J R L S := by
  apply cX_ext
  · rw [List.getElem?_set_ne (by omega), cX_0]; try rfl
  · rw [List.getElem?_set_ne (by omega), cX_1]; try rfl
  · rw [List.getElem?_set_ne (by omega), cX_2]; try rfl
  · rw [List.getElem?_set_ne (by omega), cX_3]; try rfl
  · rw [List.getElem?_set_self (by rw [cX_len]; omega)]; try rfl
  · rw [List.getElem?_set_ne (by omega), cX_5]; try rfl
  · intro a ha; rw [List.getElem?_set_ne (by omega), cX_R _ _ _ _ _ _ _ ha]
  · intro a ha; rw [List.getElem?_set_ne (by omega), cX_B _ _ _ _ _ _ _ ha]; try rfl
  · intro a ha; rw [List.getElem?_set_ne (by omega), cX_I _ _ _ _ _ _ _ ha, cIA, cIA, upI_n (n5 (by omega))]
  · intro a ha; rw [List.getElem?_set_ne (by omega), cX_H _ _ _ _ _ _ _ ha]; try rfl
  · intro a ha; rw [List.getElem?_set_ne (by omega), cX_T _ _ _ _ _ _ _ ha]
  · intro i; rw [List.getElem?_set_ne (by omega), cX_P]
theorem cX_s_reader_word {ca : Nat → ClassId} {o : Nat → Nat} {I : gI} {J : gJ} {R : gR} {L : List Nat} {S : gS} {v : Int64}  : (cX ca o I J R L S).set (3) (o 3, .inr (7, (fRd o I J R).set 8 (.long v))) = cX ca o I (upJ J 0 0 v) R L S := by
  apply cX_ext
  · rw [List.getElem?_set_ne (by omega), cX_0]
  · rw [List.getElem?_set_ne (by omega), cX_1]
  · rw [List.getElem?_set_ne (by omega), cX_2]
  · rw [List.getElem?_set_self (by rw [cX_len]; omega)]; try rfl
  · rw [List.getElem?_set_ne (by omega), cX_4]
  · rw [List.getElem?_set_ne (by omega), cX_5]
  · intro a ha; rw [List.getElem?_set_ne (by omega), cX_R _ _ _ _ _ _ _ ha]
  · intro a ha; rw [List.getElem?_set_ne (by omega), cX_B _ _ _ _ _ _ _ ha]; try rfl
  · intro a ha; rw [List.getElem?_set_ne (by omega), cX_I _ _ _ _ _ _ _ ha]
  · intro a ha; rw [List.getElem?_set_ne (by omega), cX_H _ _ _ _ _ _ _ ha]
  · intro a ha; rw [List.getElem?_set_ne (by omega), cX_T _ _ _ _ _ _ _ ha]; rw [cIt, cIt, upJ_n (n3 (by omega))]
  · intro i; rw [List.getElem?_set_ne (by omega), cX_P]
theorem cX_s_reader_text {ca : Nat → ClassId} {o : Nat → Nat} {I : gI} {J : gJ} {R : gR} {L : List Nat} {S : gS} {v : Option Nat}  : (cX ca o I J R L S).set (3) (o 3, .inr (7, (fRd o I J R).set 3 (va_re (fun s => o (20 + s)) v))) = cX ca o I J (upR R 4 0 v) L S := by
  apply cX_ext
  · rw [List.getElem?_set_ne (by omega), cX_0]
  · rw [List.getElem?_set_ne (by omega), cX_1]
  · rw [List.getElem?_set_ne (by omega), cX_2]
  · rw [List.getElem?_set_self (by rw [cX_len]; omega)]; try rfl
  · rw [List.getElem?_set_ne (by omega), cX_4]
  · rw [List.getElem?_set_ne (by omega), cX_5]
  · intro a ha; rw [List.getElem?_set_ne (by omega), cX_R _ _ _ _ _ _ _ ha]; rw [cRA, cRA, upR_n (by omega)]
  · intro a ha; rw [List.getElem?_set_ne (by omega), cX_B _ _ _ _ _ _ _ ha]; try rfl
  · intro a ha; rw [List.getElem?_set_ne (by omega), cX_I _ _ _ _ _ _ _ ha]
  · intro a ha; rw [List.getElem?_set_ne (by omega), cX_H _ _ _ _ _ _ _ ha]
  · intro a ha; rw [List.getElem?_set_ne (by omega), cX_T _ _ _ _ _ _ _ ha]
  · intro i; rw [List.getElem?_set_ne (by omega), cX_P]
theorem cX_s_bug_x {ca : Nat → ClassId} {o : Nat → Nat} {I : gI} {J : gJ} {R : gR} {L : List Nat} {S : gS} {b : Nat} {v : Int64} (hb : b < 2) : (cX ca o I J R L S).set (9 + b) (o (10 + b), .inr (2, (fBg o I J R b).set 0 (.long v))) = cX ca o I (upJ J 1 b v) R L S := by
  apply cX_ext
  · rw [List.getElem?_set_ne (by omega), cX_0]
  · rw [List.getElem?_set_ne (by omega), cX_1]
  · rw [List.getElem?_set_ne (by omega), cX_2]
  · rw [List.getElem?_set_ne (by omega), cX_3]; try rfl
  · rw [List.getElem?_set_ne (by omega), cX_4]
  · rw [List.getElem?_set_ne (by omega), cX_5]
  · intro a ha; rw [List.getElem?_set_ne (by omega), cX_R _ _ _ _ _ _ _ ha]
  · intro a ha
    by_cases e : a = b
    · subst e
      rw [List.getElem?_set_self (by rw [cX_len]; omega)]
      show (some (o (10 + a), Sum.inr (2, [.long v, .long (J 2 a), va_rf (R 3 a), .int (I 1 a), .int (I 2 a), .ref (o (40 + (6 + a))), .ref (o (40 + (8 + a)))])) : Option (Nat × va_E)) = some (o (10 + a), Sum.inr (2, [.long (upJ J 1 a v 1 a), .long (J 2 a), va_rf (R 3 a), .int (I 1 a), .int (I 2 a), .ref (o (40 + (6 + a))), .ref (o (40 + (8 + a)))]))
      rw [show upJ J 1 a v 1 a = v by rw [upJ_s, upl_s]]
    · rw [List.getElem?_set_ne (by omega), cX_B _ _ _ _ _ _ _ ha]
      show (some (o (10 + a), Sum.inr (2, [.long (J 1 a), .long (J 2 a), va_rf (R 3 a), .int (I 1 a), .int (I 2 a), .ref (o (40 + (6 + a))), .ref (o (40 + (8 + a)))])) : Option (Nat × va_E)) = some (o (10 + a), Sum.inr (2, [.long (upJ J 1 b v 1 a), .long (J 2 a), va_rf (R 3 a), .int (I 1 a), .int (I 2 a), .ref (o (40 + (6 + a))), .ref (o (40 + (8 + a)))]))
      rw [(by rw [upJ_s, upl_n e] : J 1 a = upJ J 1 b v 1 a).symm]
  · intro a ha; rw [List.getElem?_set_ne (by omega), cX_I _ _ _ _ _ _ _ ha]
  · intro a ha; rw [List.getElem?_set_ne (by omega), cX_H _ _ _ _ _ _ _ ha]
  · intro a ha; rw [List.getElem?_set_ne (by omega), cX_T _ _ _ _ _ _ _ ha]; rw [cIt, cIt, upJ_n (n3 (by omega))]
  · intro i; rw [List.getElem?_set_ne (by omega), cX_P]
theorem cX_s_bug_y {ca : Nat → ClassId} {o : Nat → Nat} {I : gI} {J : gJ} {R : gR} {L : List Nat} {S : gS} {b : Nat} {v : Int64} (hb : b < 2) : (cX ca o I J R L S).set (9 + b) (o (10 + b), .inr (2, (fBg o I J R b).set 1 (.long v))) = cX ca o I (upJ J 2 b v) R L S := by
  apply cX_ext
  · rw [List.getElem?_set_ne (by omega), cX_0]
  · rw [List.getElem?_set_ne (by omega), cX_1]
  · rw [List.getElem?_set_ne (by omega), cX_2]
  · rw [List.getElem?_set_ne (by omega), cX_3]; try rfl
  · rw [List.getElem?_set_ne (by omega), cX_4]
  · rw [List.getElem?_set_ne (by omega), cX_5]
  · intro a ha; rw [List.getElem?_set_ne (by omega), cX_R _ _ _ _ _ _ _ ha]
  · intro a ha
    by_cases e : a = b
    · subst e
      rw [List.getElem?_set_self (by rw [cX_len]; omega)]
      show (some (o (10 + a), Sum.inr (2, [.long (J 1 a), .long v, va_rf (R 3 a), .int (I 1 a), .int (I 2 a), .ref (o (40 + (6 + a))), .ref (o (40 + (8 + a)))])) : Option (Nat × va_E)) = some (o (10 + a), Sum.inr (2, [.long (J 1 a), .long (upJ J 2 a v 2 a), va_rf (R 3 a), .int (I 1 a), .int (I 2 a), .ref (o (40 + (6 + a))), .ref (o (40 + (8 + a)))]))
      rw [show upJ J 2 a v 2 a = v by rw [upJ_s, upl_s]]
    · rw [List.getElem?_set_ne (by omega), cX_B _ _ _ _ _ _ _ ha]
      show (some (o (10 + a), Sum.inr (2, [.long (J 1 a), .long (J 2 a), va_rf (R 3 a), .int (I 1 a), .int (I 2 a), .ref (o (40 + (6 + a))), .ref (o (40 + (8 + a)))])) : Option (Nat × va_E)) = some (o (10 + a), Sum.inr (2, [.long (J 1 a), .long (upJ J 2 b v 2 a), va_rf (R 3 a), .int (I 1 a), .int (I 2 a), .ref (o (40 + (6 + a))), .ref (o (40 + (8 + a)))]))
      rw [(by rw [upJ_s, upl_n e] : J 2 a = upJ J 2 b v 2 a).symm]
  · intro a ha; rw [List.getElem?_set_ne (by omega), cX_I _ _ _ _ _ _ _ ha]
  · intro a ha; rw [List.getElem?_set_ne (by omega), cX_H _ _ _ _ _ _ _ ha]
  · intro a ha; rw [List.getElem?_set_ne (by omega), cX_T _ _ _ _ _ _ _ ha]; rw [cIt, cIt, upJ_n (n3 (by omega))]
  · intro i; rw [List.getElem?_set_ne (by omega), cX_P]
theorem cX_s_bug_strip {ca : Nat → ClassId} {o : Nat → Nat} {I : gI} {J : gJ} {R : gR} {L : List Nat} {S : gS} {b : Nat} {v : Option Nat} (hb : b < 2) : (cX ca o I J R L S).set (9 + b) (o (10 + b), .inr (2, (fBg o I J R b).set 2 (va_rf v))) = cX ca o I J (upR R 3 b v) L S := by
  apply cX_ext
  · rw [List.getElem?_set_ne (by omega), cX_0]
  · rw [List.getElem?_set_ne (by omega), cX_1]
  · rw [List.getElem?_set_ne (by omega), cX_2]
  · rw [List.getElem?_set_ne (by omega), cX_3]; try rfl
  · rw [List.getElem?_set_ne (by omega), cX_4]
  · rw [List.getElem?_set_ne (by omega), cX_5]
  · intro a ha; rw [List.getElem?_set_ne (by omega), cX_R _ _ _ _ _ _ _ ha]; rw [cRA, cRA, upR_n (by omega)]
  · intro a ha
    by_cases e : a = b
    · subst e
      rw [List.getElem?_set_self (by rw [cX_len]; omega)]
      show (some (o (10 + a), Sum.inr (2, [.long (J 1 a), .long (J 2 a), va_rf v, .int (I 1 a), .int (I 2 a), .ref (o (40 + (6 + a))), .ref (o (40 + (8 + a)))])) : Option (Nat × va_E)) = some (o (10 + a), Sum.inr (2, [.long (J 1 a), .long (J 2 a), va_rf (upR R 3 a v 3 a), .int (I 1 a), .int (I 2 a), .ref (o (40 + (6 + a))), .ref (o (40 + (8 + a)))]))
      rw [show upR R 3 a v 3 a = v by rw [upR_s, vup_s]]
    · rw [List.getElem?_set_ne (by omega), cX_B _ _ _ _ _ _ _ ha]
      show (some (o (10 + a), Sum.inr (2, [.long (J 1 a), .long (J 2 a), va_rf (R 3 a), .int (I 1 a), .int (I 2 a), .ref (o (40 + (6 + a))), .ref (o (40 + (8 + a)))])) : Option (Nat × va_E)) = some (o (10 + a), Sum.inr (2, [.long (J 1 a), .long (J 2 a), va_rf (upR R 3 b v 3 a), .int (I 1 a), .int (I 2 a), .ref (o (40 + (6 + a))), .ref (o (40 + (8 + a)))]))
      rw [(by rw [upR_s, vup_n e] : R 3 a = upR R 3 b v 3 a).symm]
  · intro a ha; rw [List.getElem?_set_ne (by omega), cX_I _ _ _ _ _ _ _ ha]
  · intro a ha; rw [List.getElem?_set_ne (by omega), cX_H _ _ _ _ _ _ _ ha]
  · intro a ha; rw [List.getElem?_set_ne (by omega), cX_T _ _ _ _ _ _ _ ha]
  · intro i; rw [List.getElem?_set_ne (by omega), cX_P]
theorem cX_s_bug_gone {ca : Nat → ClassId} {o : Nat → Nat} {I : gI} {J : gJ} {R : gR} {L : List Nat} {S : gS} {b : Nat} {v : Int32} (hb : b < 2) : (cX ca o I J R L S).set (9 + b) (o (10 + b), .inr (2, (fBg o I J R b).set 3 (.int v))) = cX ca o (upI I 1 b v) J R L S := by
  apply cX_ext
  · rw [List.getElem?_set_ne (by omega), cX_0]; try rfl
  · rw [List.getElem?_set_ne (by omega), cX_1]; try rfl
  · rw [List.getElem?_set_ne (by omega), cX_2]; try rfl
  · rw [List.getElem?_set_ne (by omega), cX_3]; try rfl
  · rw [List.getElem?_set_ne (by omega), cX_4]; try rfl
  · rw [List.getElem?_set_ne (by omega), cX_5]
  · intro a ha; rw [List.getElem?_set_ne (by omega), cX_R _ _ _ _ _ _ _ ha]
  · intro a ha
    by_cases e : a = b
    · subst e
      rw [List.getElem?_set_self (by rw [cX_len]; omega)]
      show (some (o (10 + a), Sum.inr (2, [.long (J 1 a), .long (J 2 a), va_rf (R 3 a), .int v, .int (I 2 a), .ref (o (40 + (6 + a))), .ref (o (40 + (8 + a)))])) : Option (Nat × va_E)) = some (o (10 + a), Sum.inr (2, [.long (J 1 a), .long (J 2 a), va_rf (R 3 a), .int (upI I 1 a v 1 a), .int (I 2 a), .ref (o (40 + (6 + a))), .ref (o (40 + (8 + a)))]))
      rw [show upI I 1 a v 1 a = v by rw [upI_s, upd_s]]
    · rw [List.getElem?_set_ne (by omega), cX_B _ _ _ _ _ _ _ ha]
      show (some (o (10 + a), Sum.inr (2, [.long (J 1 a), .long (J 2 a), va_rf (R 3 a), .int (I 1 a), .int (I 2 a), .ref (o (40 + (6 + a))), .ref (o (40 + (8 + a)))])) : Option (Nat × va_E)) = some (o (10 + a), Sum.inr (2, [.long (J 1 a), .long (J 2 a), va_rf (R 3 a), .int (upI I 1 b v 1 a), .int (I 2 a), .ref (o (40 + (6 + a))), .ref (o (40 + (8 + a)))]))
      rw [(by rw [upI_s, upd_n e] : I 1 a = upI I 1 b v 1 a).symm]
  · intro a ha; rw [List.getElem?_set_ne (by omega), cX_I _ _ _ _ _ _ _ ha]; rw [cIA, cIA, upI_n (n5 (by omega))]
  · intro a ha; rw [List.getElem?_set_ne (by omega), cX_H _ _ _ _ _ _ _ ha]; try rfl
  · intro a ha; rw [List.getElem?_set_ne (by omega), cX_T _ _ _ _ _ _ _ ha]
  · intro i; rw [List.getElem?_set_ne (by omega), cX_P]
theorem cX_s_bug_way {ca : Nat → ClassId} {o : Nat → Nat} {I : gI} {J : gJ} {R : gR} {L : List Nat} {S : gS} {b : Nat} {v : Int32} (hb : b < 2) : (cX ca o I J R L S).set (9 + b) (o (10 + b), .inr (2, (fBg o I J R b).set 4 (.int v))) = cX ca o (upI I 2 b v) J R L S := by
  apply cX_ext
  · rw [List.getElem?_set_ne (by omega), cX_0]; try rfl
  · rw [List.getElem?_set_ne (by omega), cX_1]; try rfl
  · rw [List.getElem?_set_ne (by omega), cX_2]; try rfl
  · rw [List.getElem?_set_ne (by omega), cX_3]; try rfl
  · rw [List.getElem?_set_ne (by omega), cX_4]; try rfl
  · rw [List.getElem?_set_ne (by omega), cX_5]
  · intro a ha; rw [List.getElem?_set_ne (by omega), cX_R _ _ _ _ _ _ _ ha]
  · intro a ha
    by_cases e : a = b
    · subst e
      rw [List.getElem?_set_self (by rw [cX_len]; omega)]
      show (some (o (10 + a), Sum.inr (2, [.long (J 1 a), .long (J 2 a), va_rf (R 3 a), .int (I 1 a), .int v, .ref (o (40 + (6 + a))), .ref (o (40 + (8 + a)))])) : Option (Nat × va_E)) = some (o (10 + a), Sum.inr (2, [.long (J 1 a), .long (J 2 a), va_rf (R 3 a), .int (I 1 a), .int (upI I 2 a v 2 a), .ref (o (40 + (6 + a))), .ref (o (40 + (8 + a)))]))
      rw [show upI I 2 a v 2 a = v by rw [upI_s, upd_s]]
    · rw [List.getElem?_set_ne (by omega), cX_B _ _ _ _ _ _ _ ha]
      show (some (o (10 + a), Sum.inr (2, [.long (J 1 a), .long (J 2 a), va_rf (R 3 a), .int (I 1 a), .int (I 2 a), .ref (o (40 + (6 + a))), .ref (o (40 + (8 + a)))])) : Option (Nat × va_E)) = some (o (10 + a), Sum.inr (2, [.long (J 1 a), .long (J 2 a), va_rf (R 3 a), .int (I 1 a), .int (upI I 2 b v 2 a), .ref (o (40 + (6 + a))), .ref (o (40 + (8 + a)))]))
      rw [(by rw [upI_s, upd_n e] : I 2 a = upI I 2 b v 2 a).symm]
  · intro a ha; rw [List.getElem?_set_ne (by omega), cX_I _ _ _ _ _ _ _ ha]; rw [cIA, cIA, upI_n (n5 (by omega))]
  · intro a ha; rw [List.getElem?_set_ne (by omega), cX_H _ _ _ _ _ _ _ ha]; try rfl
  · intro a ha; rw [List.getElem?_set_ne (by omega), cX_T _ _ _ _ _ _ _ ha]
  · intro i; rw [List.getElem?_set_ne (by omega), cX_P]
theorem cX_s_shelf_holding {ca : Nat → ClassId} {o : Nat → Nat} {I : gI} {J : gJ} {R : gR} {L : List Nat} {S : gS} {s : Nat} {v : Int32} (hs : s < 8) : (cX ca o I J R L S).set (21 + s) (o (20 + s), .inr (9, (fSh o I s).set 0 (.int v))) = cX ca o (upI I 3 s v) J R L S := by
  apply cX_ext
  · rw [List.getElem?_set_ne (by omega), cX_0]; try rfl
  · rw [List.getElem?_set_ne (by omega), cX_1]; try rfl
  · rw [List.getElem?_set_ne (by omega), cX_2]; try rfl
  · rw [List.getElem?_set_ne (by omega), cX_3]; try rfl
  · rw [List.getElem?_set_ne (by omega), cX_4]; try rfl
  · rw [List.getElem?_set_ne (by omega), cX_5]
  · intro a ha; rw [List.getElem?_set_ne (by omega), cX_R _ _ _ _ _ _ _ ha]
  · intro a ha; rw [List.getElem?_set_ne (by omega), cX_B _ _ _ _ _ _ _ ha]; try rfl
  · intro a ha; rw [List.getElem?_set_ne (by omega), cX_I _ _ _ _ _ _ _ ha]; rw [cIA, cIA, upI_n (n5 (by omega))]
  · intro a ha
    by_cases e : a = s
    · subst e
      rw [List.getElem?_set_self (by rw [cX_len]; omega)]
      show (some (o (20 + a), Sum.inr (9, [.int v, .int (I 4 a), .ref (o (30 + a))])) : Option (Nat × va_E)) = some (o (20 + a), Sum.inr (9, [.int (upI I 3 a v 3 a), .int (I 4 a), .ref (o (30 + a))]))
      rw [show upI I 3 a v 3 a = v by rw [upI_s, upd_s]]
    · rw [List.getElem?_set_ne (by omega), cX_H _ _ _ _ _ _ _ ha]
      show (some (o (20 + a), Sum.inr (9, [.int (I 3 a), .int (I 4 a), .ref (o (30 + a))])) : Option (Nat × va_E)) = some (o (20 + a), Sum.inr (9, [.int (upI I 3 s v 3 a), .int (I 4 a), .ref (o (30 + a))]))
      rw [show upI I 3 s v 3 a = I 3 a by rw [upI_s, upd_n e]]
  · intro a ha; rw [List.getElem?_set_ne (by omega), cX_T _ _ _ _ _ _ _ ha]
  · intro i; rw [List.getElem?_set_ne (by omega), cX_P]
theorem cX_s_shelf_size {ca : Nat → ClassId} {o : Nat → Nat} {I : gI} {J : gJ} {R : gR} {L : List Nat} {S : gS} {s : Nat} {v : Int32} (hs : s < 8) : (cX ca o I J R L S).set (21 + s) (o (20 + s), .inr (9, (fSh o I s).set 1 (.int v))) = cX ca o (upI I 4 s v) J R L S := by
  apply cX_ext
  · rw [List.getElem?_set_ne (by omega), cX_0]; try rfl
  · rw [List.getElem?_set_ne (by omega), cX_1]; try rfl
  · rw [List.getElem?_set_ne (by omega), cX_2]; try rfl
  · rw [List.getElem?_set_ne (by omega), cX_3]; try rfl
  · rw [List.getElem?_set_ne (by omega), cX_4]; try rfl
  · rw [List.getElem?_set_ne (by omega), cX_5]
  · intro a ha; rw [List.getElem?_set_ne (by omega), cX_R _ _ _ _ _ _ _ ha]
  · intro a ha; rw [List.getElem?_set_ne (by omega), cX_B _ _ _ _ _ _ _ ha]; try rfl
  · intro a ha; rw [List.getElem?_set_ne (by omega), cX_I _ _ _ _ _ _ _ ha]; rw [cIA, cIA, upI_n (n5 (by omega))]
  · intro a ha
    by_cases e : a = s
    · subst e
      rw [List.getElem?_set_self (by rw [cX_len]; omega)]
      show (some (o (20 + a), Sum.inr (9, [.int (I 3 a), .int v, .ref (o (30 + a))])) : Option (Nat × va_E)) = some (o (20 + a), Sum.inr (9, [.int (I 3 a), .int (upI I 4 a v 4 a), .ref (o (30 + a))]))
      rw [show upI I 4 a v 4 a = v by rw [upI_s, upd_s]]
    · rw [List.getElem?_set_ne (by omega), cX_H _ _ _ _ _ _ _ ha]
      show (some (o (20 + a), Sum.inr (9, [.int (I 3 a), .int (I 4 a), .ref (o (30 + a))])) : Option (Nat × va_E)) = some (o (20 + a), Sum.inr (9, [.int (I 3 a), .int (upI I 4 s v 4 a), .ref (o (30 + a))]))
      rw [show upI I 4 s v 4 a = I 4 a by rw [upI_s, upd_n e]]
  · intro a ha; rw [List.getElem?_set_ne (by omega), cX_T _ _ _ _ _ _ _ ha]
  · intro i; rw [List.getElem?_set_ne (by omega), cX_P]
theorem cX_s_ia {ca : Nat → ClassId} {o : Nat → Nat} {I : gI} {J : gJ} {R : gR} {L : List Nat} {S : gS} {kk i : Nat} {v : Int32} (hk : kk < 10) : (cX ca o I J R L S).set (11 + kk) (o (45 + kk), .inl (ca 0, lenX (5 + kk), .inl (upd (I (5 + kk)) i v))) = cX ca o (upI I (5 + kk) i v) J R L S := by
  apply cX_ext
  · rw [List.getElem?_set_ne (by omega), cX_0]; try simp only [fMn, upI_n (show (0 : Nat) ≠ 5 + kk by omega)]
  · rw [List.getElem?_set_ne (by omega), cX_1]; try simp only [fSb, upI_n (show (0 : Nat) ≠ 5 + kk by omega)]
  · rw [List.getElem?_set_ne (by omega), cX_2]; rw [upI_n (show (15 : Nat) ≠ 5 + kk by omega)]
  · rw [List.getElem?_set_ne (by omega), cX_3]; try simp only [fRd, upI_n (show (0 : Nat) ≠ 5 + kk by omega)]
  · rw [List.getElem?_set_ne (by omega), cX_4]; try simp only [fLv, upI_n (show (0 : Nat) ≠ 5 + kk by omega)]
  · rw [List.getElem?_set_ne (by omega), cX_5]
  · intro a ha; rw [List.getElem?_set_ne (by omega), cX_R _ _ _ _ _ _ _ ha]
  · intro a ha; rw [List.getElem?_set_ne (by omega), cX_B _ _ _ _ _ _ _ ha]; try simp only [cBg, fBg, upI_n (show (1 : Nat) ≠ 5 + kk by omega), upI_n (show (2 : Nat) ≠ 5 + kk by omega)]
  · intro a ha
    by_cases e : a = kk
    · subst e
      rw [List.getElem?_set_self (by rw [cX_len]; omega)]; try simp only [cIA, upI_s]
    · rw [List.getElem?_set_ne (by omega), cX_I _ _ _ _ _ _ _ ha]; try simp only [cIA, upI_n (show 5 + a ≠ 5 + kk by omega)]
  · intro a ha; rw [List.getElem?_set_ne (by omega), cX_H _ _ _ _ _ _ _ ha]; try simp only [cSh, fSh, upI_n (show (3 : Nat) ≠ 5 + kk by omega), upI_n (show (4 : Nat) ≠ 5 + kk by omega)]
  · intro a ha; rw [List.getElem?_set_ne (by omega), cX_T _ _ _ _ _ _ _ ha]
  · intro i; rw [List.getElem?_set_ne (by omega), cX_P]
theorem cX_s_ba {ca : Nat → ClassId} {o : Nat → Nat} {I : gI} {J : gJ} {R : gR} {L : List Nat} {S : gS} {i : Nat} {v : Int32}  : (cX ca o I J R L S).set (2) (o 2, .inl (ca 2, 16, .inl (upd (I 15) i v))) = cX ca o (upI I 15 i v) J R L S := by
  apply cX_ext
  · rw [List.getElem?_set_ne (by omega), cX_0]; try rfl
  · rw [List.getElem?_set_ne (by omega), cX_1]; try rfl
  · rw [List.getElem?_set_self (by rw [cX_len]; omega)]; try rfl
  · rw [List.getElem?_set_ne (by omega), cX_3]; try rfl
  · rw [List.getElem?_set_ne (by omega), cX_4]; try rfl
  · rw [List.getElem?_set_ne (by omega), cX_5]
  · intro a ha; rw [List.getElem?_set_ne (by omega), cX_R _ _ _ _ _ _ _ ha]
  · intro a ha; rw [List.getElem?_set_ne (by omega), cX_B _ _ _ _ _ _ _ ha]; try rfl
  · intro a ha; rw [List.getElem?_set_ne (by omega), cX_I _ _ _ _ _ _ _ ha]; try simp only [cIA, upI_n (show 5 + a ≠ 15 by omega)]
  · intro a ha; rw [List.getElem?_set_ne (by omega), cX_H _ _ _ _ _ _ _ ha]; try rfl
  · intro a ha; rw [List.getElem?_set_ne (by omega), cX_T _ _ _ _ _ _ _ ha]
  · intro i; rw [List.getElem?_set_ne (by omega), cX_P]
theorem cX_s_ja {ca : Nat → ClassId} {o : Nat → Nat} {I : gI} {J : gJ} {R : gR} {L : List Nat} {S : gS} {s i : Nat} {v : Int64} (hs : s < 8) : (cX ca o I J R L S).set (29 + s) (o (30 + s), .inl (ca 1, 160, .inr (.inl (vp_updL (J (3 + s)) i v)))) = cX ca o I (upJ J (3 + s) i v) R L S := by
  apply cX_ext
  · rw [List.getElem?_set_ne (by omega), cX_0]
  · rw [List.getElem?_set_ne (by omega), cX_1]
  · rw [List.getElem?_set_ne (by omega), cX_2]
  · rw [List.getElem?_set_ne (by omega), cX_3]; try simp only [fRd, upJ_n (show (0 : Nat) ≠ 3 + s by omega)]
  · rw [List.getElem?_set_ne (by omega), cX_4]
  · rw [List.getElem?_set_ne (by omega), cX_5]
  · intro a ha; rw [List.getElem?_set_ne (by omega), cX_R _ _ _ _ _ _ _ ha]
  · intro a ha; rw [List.getElem?_set_ne (by omega), cX_B _ _ _ _ _ _ _ ha]; try simp only [cBg, fBg, upJ_n (show (1 : Nat) ≠ 3 + s by omega), upJ_n (show (2 : Nat) ≠ 3 + s by omega)]
  · intro a ha; rw [List.getElem?_set_ne (by omega), cX_I _ _ _ _ _ _ _ ha]
  · intro a ha; rw [List.getElem?_set_ne (by omega), cX_H _ _ _ _ _ _ _ ha]
  · intro a ha
    by_cases e : a = s
    · subst e
      rw [List.getElem?_set_self (by rw [cX_len]; omega)]; try simp only [cIt, upJ_s]
    · rw [List.getElem?_set_ne (by omega), cX_T _ _ _ _ _ _ _ ha]; try simp only [cIt, upJ_n (show 3 + a ≠ 3 + s by omega)]
  · intro i; rw [List.getElem?_set_ne (by omega), cX_P]
theorem cX_s_jf {ca : Nat → ClassId} {o : Nat → Nat} {I : gI} {J : gJ} {R : gR} {L : List Nat} {S : gS} {s : Nat} {f : Nat → Int64} (hs : s < 8) : (cX ca o I J R L S).set (29 + s) (o (30 + s), .inl (ca 1, 160, .inr (.inl f))) = cX ca o I (stJ J (3 + s) f) R L S := by
  apply cX_ext
  · rw [List.getElem?_set_ne (by omega), cX_0]
  · rw [List.getElem?_set_ne (by omega), cX_1]
  · rw [List.getElem?_set_ne (by omega), cX_2]
  · rw [List.getElem?_set_ne (by omega), cX_3]; try simp only [fRd, stJ_n (show (0 : Nat) ≠ 3 + s by omega)]
  · rw [List.getElem?_set_ne (by omega), cX_4]
  · rw [List.getElem?_set_ne (by omega), cX_5]
  · intro a ha; rw [List.getElem?_set_ne (by omega), cX_R _ _ _ _ _ _ _ ha]
  · intro a ha; rw [List.getElem?_set_ne (by omega), cX_B _ _ _ _ _ _ _ ha]; try simp only [cBg, fBg, stJ_n (show (1 : Nat) ≠ 3 + s by omega), stJ_n (show (2 : Nat) ≠ 3 + s by omega)]
  · intro a ha; rw [List.getElem?_set_ne (by omega), cX_I _ _ _ _ _ _ _ ha]
  · intro a ha; rw [List.getElem?_set_ne (by omega), cX_H _ _ _ _ _ _ _ ha]
  · intro a ha
    by_cases e : a = s
    · subst e
      rw [List.getElem?_set_self (by rw [cX_len]; omega)]; try simp only [cIt, stJ_s]
    · rw [List.getElem?_set_ne (by omega), cX_T _ _ _ _ _ _ _ ha]; try simp only [cIt, stJ_n (show 3 + a ≠ 3 + s by omega)]
  · intro i; rw [List.getElem?_set_ne (by omega), cX_P]
theorem cX_s_ra {ca : Nat → ClassId} {o : Nat → Nat} {I : gI} {J : gJ} {R : gR} {L : List Nat} {S : gS} {k i : Nat} {v : Option Nat} (hk : k < 3) : (cX ca o I J R L S).set (6 + k) (o (5 + k), .inl (ca 3, 8, .inr (.inr (.inr (.inr (va_up (R k) i v)))))) = cX ca o I J (upR R k i v) L S := by
  apply cX_ext
  · rw [List.getElem?_set_ne (by omega), cX_0]
  · rw [List.getElem?_set_ne (by omega), cX_1]
  · rw [List.getElem?_set_ne (by omega), cX_2]
  · rw [List.getElem?_set_ne (by omega), cX_3]; try simp only [fRd, upR_n (show (4 : Nat) ≠ k by omega)]
  · rw [List.getElem?_set_ne (by omega), cX_4]
  · rw [List.getElem?_set_ne (by omega), cX_5]
  · intro a ha
    by_cases e : a = k
    · subst e
      rw [List.getElem?_set_self (by rw [cX_len]; omega)]; try simp only [cRA, upR_s]
    · rw [List.getElem?_set_ne (by omega), cX_R _ _ _ _ _ _ _ ha]; try simp only [cRA, upR_n e]
  · intro a ha; rw [List.getElem?_set_ne (by omega), cX_B _ _ _ _ _ _ _ ha]; try simp only [cBg, fBg, upR_n (show (3 : Nat) ≠ k by omega)]
  · intro a ha; rw [List.getElem?_set_ne (by omega), cX_I _ _ _ _ _ _ _ ha]
  · intro a ha; rw [List.getElem?_set_ne (by omega), cX_H _ _ _ _ _ _ _ ha]
  · intro a ha; rw [List.getElem?_set_ne (by omega), cX_T _ _ _ _ _ _ _ ha]
  · intro i; rw [List.getElem?_set_ne (by omega), cX_P]
/-- a new strip -/
theorem cX_new (ca : Nat → ClassId) (o : Nat → Nat) (I : gI) (J : gJ) (R : gR) (L : List Nat) (S : gS) {q : Nat} {v : gV} (hq : q ∉ L) : cX ca o I J R L S ++ [(q, sE v)] = cX ca o I J R (L ++ [q]) (va_up S q v) := by
  unfold cX
  simp only [List.append_assoc, List.map_append, List.map_cons, List.map_nil, vup_s]
  rw [show L.map (fun a => (a, sE (va_up S q v a))) = L.map (fun a => (a, sE (S a))) from List.map_congr_left (fun a ha => by rw [show va_up S q v a = S a from vup_n (fun (e : a = q) => hq (e ▸ ha))])]
/-- a strip's cell written in its constructor -/
theorem cX_setS (ca : Nat → ClassId) (o : Nat → Nat) (I : gI) (J : gJ) (R : gR) (L : List Nat) (S : gS) {i q : Nat} {v : gV} (hi : L[i]? = some q) (hu : ∀ j, L[j]? = some q → j = i) : (cX ca o I J R L S).set (37 + i) (q, sE v) = cX ca o I J R L (va_up S q v) := by
  have hl : i < L.length := (List.getElem?_eq_some_iff.mp hi).1
  apply cX_ext
  · rw [List.getElem?_set_ne (by omega), cX_0]
  · rw [List.getElem?_set_ne (by omega), cX_1]
  · rw [List.getElem?_set_ne (by omega), cX_2]
  · rw [List.getElem?_set_ne (by omega), cX_3]
  · rw [List.getElem?_set_ne (by omega), cX_4]
  · rw [List.getElem?_set_ne (by omega), cX_5]
  · intro a ha; rw [List.getElem?_set_ne (by omega), cX_R _ _ _ _ _ _ _ ha]
  · intro a ha; rw [List.getElem?_set_ne (by omega), cX_B _ _ _ _ _ _ _ ha]
  · intro a ha; rw [List.getElem?_set_ne (by omega), cX_I _ _ _ _ _ _ _ ha]
  · intro a ha; rw [List.getElem?_set_ne (by omega), cX_H _ _ _ _ _ _ _ ha]
  · intro a ha; rw [List.getElem?_set_ne (by omega), cX_T _ _ _ _ _ _ _ ha]
  · intro j
    by_cases e : j = i
    · subst e
      rw [List.getElem?_set_self (by rw [cX_len]; omega), hi]
      show some (q, sE v) = some (q, sE (va_up S q v q))
      rw [vup_s]
    · rw [List.getElem?_set_ne (by omega), cX_P]
      cases hj : L[j]? with
      | none => rfl
      | some b =>
        have hb : b ≠ q := fun z => e (hu j (z ▸ hj))
        show some (b, sE (S b)) = some (b, sE (va_up S q v b))
        rw [vup_n hb]
