theorem g_lmod (x y : Int64) : x - x / y * y = x % y := by
  apply Int64.toInt_inj.mp
  have h1 := Int64.le_toInt (x % y)
  have h2 := Int64.toInt_lt (x % y)
  rw [Int64.toInt_sub, Int64.toInt_mul, Int64.toInt_div, Int.bmod_mul_bmod, Int.sub_bmod_bmod, Int.mul_comm (x.toInt.tdiv y.toInt), ← Int.tmod_def, ← Int64.toInt_mod]
  exact Int.bmod_eq_of_le_mul_two (by omega) (by omega)
theorem g_tri (x y : Int64) : (x < y ∧ lg_cmp x y = -1) ∨ (x = y ∧ lg_cmp x y = 0) ∨ (y < x ∧ lg_cmp x y = 1) := by
  unfold lg_cmp
  rcases Int.lt_trichotomy x.toInt y.toInt with h | h | h
  · refine Or.inl ⟨Int64.lt_iff_toInt_lt.mpr h, ?_⟩
    rw [if_neg (fun z => by have := Int64.lt_iff_toInt_lt.mp z; omega), if_neg (fun z => by rw [z] at h; omega)]
  · refine Or.inr (Or.inl ⟨Int64.toInt_inj.mp h, ?_⟩)
    rw [if_neg (fun z => by have := Int64.lt_iff_toInt_lt.mp z; omega), if_pos (Int64.toInt_inj.mp h)]
  · refine Or.inr (Or.inr ⟨Int64.lt_iff_toInt_lt.mpr h, ?_⟩)
    rw [if_pos (Int64.lt_iff_toInt_lt.mpr h)]
section GROWS
variable {Γ : gT} {cc : ByteArray} {own : String} {nL : Nat} {D : gD} {tys : List (ClassId × FieldType)} {rm : Room} {ret : Option FieldType} {mc ms : Nat} {Post : Option Value → va_W → Prop} {cn sn pc : Nat} {lv : List (Nat × Value)} {st : List Value} {ws : va_W}
theorem g_iconst_m1 (C : Cx Γ cc own nL D tys rm ret mc ms Post) (hd : decode cc pc = .ok (.iconst (-1), 1)) (k : G Γ cn sn (pc + 1) lv (.int (-1) :: st) ws) : G Γ cn sn pc lv (st) ws := by
  obtain ⟨p, l, e, R, s, m, args, below, meth, c, nL', D', A, Q⟩ := Γ
  obtain ⟨rfl, rfl, hx, hb, hml, hown, hlk, hts, hK, hA, rfl, hr, rfl⟩ := C
  intro H locs ls hP hD hS hl
  exact lv_iconst hx hb hd (by decide) (k H locs ls hP hD hS hl)
theorem g_iconst_0 (C : Cx Γ cc own nL D tys rm ret mc ms Post) (hd : decode cc pc = .ok (.iconst 0, 1)) (k : G Γ cn sn (pc + 1) lv (.int 0 :: st) ws) : G Γ cn sn pc lv (st) ws := by
  obtain ⟨p, l, e, R, s, m, args, below, meth, c, nL', D', A, Q⟩ := Γ
  obtain ⟨rfl, rfl, hx, hb, hml, hown, hlk, hts, hK, hA, rfl, hr, rfl⟩ := C
  intro H locs ls hP hD hS hl
  exact lv_iconst hx hb hd (by decide) (k H locs ls hP hD hS hl)
theorem g_iconst_1 (C : Cx Γ cc own nL D tys rm ret mc ms Post) (hd : decode cc pc = .ok (.iconst 1, 1)) (k : G Γ cn sn (pc + 1) lv (.int 1 :: st) ws) : G Γ cn sn pc lv (st) ws := by
  obtain ⟨p, l, e, R, s, m, args, below, meth, c, nL', D', A, Q⟩ := Γ
  obtain ⟨rfl, rfl, hx, hb, hml, hown, hlk, hts, hK, hA, rfl, hr, rfl⟩ := C
  intro H locs ls hP hD hS hl
  exact lv_iconst hx hb hd (by decide) (k H locs ls hP hD hS hl)
theorem g_iconst_2 (C : Cx Γ cc own nL D tys rm ret mc ms Post) (hd : decode cc pc = .ok (.iconst 2, 1)) (k : G Γ cn sn (pc + 1) lv (.int 2 :: st) ws) : G Γ cn sn pc lv (st) ws := by
  obtain ⟨p, l, e, R, s, m, args, below, meth, c, nL', D', A, Q⟩ := Γ
  obtain ⟨rfl, rfl, hx, hb, hml, hown, hlk, hts, hK, hA, rfl, hr, rfl⟩ := C
  intro H locs ls hP hD hS hl
  exact lv_iconst hx hb hd (by decide) (k H locs ls hP hD hS hl)
theorem g_iconst_3 (C : Cx Γ cc own nL D tys rm ret mc ms Post) (hd : decode cc pc = .ok (.iconst 3, 1)) (k : G Γ cn sn (pc + 1) lv (.int 3 :: st) ws) : G Γ cn sn pc lv (st) ws := by
  obtain ⟨p, l, e, R, s, m, args, below, meth, c, nL', D', A, Q⟩ := Γ
  obtain ⟨rfl, rfl, hx, hb, hml, hown, hlk, hts, hK, hA, rfl, hr, rfl⟩ := C
  intro H locs ls hP hD hS hl
  exact lv_iconst hx hb hd (by decide) (k H locs ls hP hD hS hl)
theorem g_iconst_4 (C : Cx Γ cc own nL D tys rm ret mc ms Post) (hd : decode cc pc = .ok (.iconst 4, 1)) (k : G Γ cn sn (pc + 1) lv (.int 4 :: st) ws) : G Γ cn sn pc lv (st) ws := by
  obtain ⟨p, l, e, R, s, m, args, below, meth, c, nL', D', A, Q⟩ := Γ
  obtain ⟨rfl, rfl, hx, hb, hml, hown, hlk, hts, hK, hA, rfl, hr, rfl⟩ := C
  intro H locs ls hP hD hS hl
  exact lv_iconst hx hb hd (by decide) (k H locs ls hP hD hS hl)
theorem g_iconst_5 (C : Cx Γ cc own nL D tys rm ret mc ms Post) (hd : decode cc pc = .ok (.iconst 5, 1)) (k : G Γ cn sn (pc + 1) lv (.int 5 :: st) ws) : G Γ cn sn pc lv (st) ws := by
  obtain ⟨p, l, e, R, s, m, args, below, meth, c, nL', D', A, Q⟩ := Γ
  obtain ⟨rfl, rfl, hx, hb, hml, hown, hlk, hts, hK, hA, rfl, hr, rfl⟩ := C
  intro H locs ls hP hD hS hl
  exact lv_iconst hx hb hd (by decide) (k H locs ls hP hD hS hl)
theorem g_lconst_0 (C : Cx Γ cc own nL D tys rm ret mc ms Post) (hd : decode cc pc = .ok (.lconst 0, 1)) (k : G Γ cn sn (pc + 1) lv (.long 0 :: st) ws) : G Γ cn sn pc lv (st) ws := by
  obtain ⟨p, l, e, R, s, m, args, below, meth, c, nL', D', A, Q⟩ := Γ
  obtain ⟨rfl, rfl, hx, hb, hml, hown, hlk, hts, hK, hA, rfl, hr, rfl⟩ := C
  intro H locs ls hP hD hS hl
  exact lv_lconst hx hb hd (by decide) (k H locs ls hP hD hS hl)
theorem g_lconst_1 (C : Cx Γ cc own nL D tys rm ret mc ms Post) (hd : decode cc pc = .ok (.lconst 1, 1)) (k : G Γ cn sn (pc + 1) lv (.long 1 :: st) ws) : G Γ cn sn pc lv (st) ws := by
  obtain ⟨p, l, e, R, s, m, args, below, meth, c, nL', D', A, Q⟩ := Γ
  obtain ⟨rfl, rfl, hx, hb, hml, hown, hlk, hts, hK, hA, rfl, hr, rfl⟩ := C
  intro H locs ls hP hD hS hl
  exact lv_lconst hx hb hd (by decide) (k H locs ls hP hD hS hl)
theorem g_bipush (C : Cx Γ cc own nL D tys rm ret mc ms Post) {n : Int} {v : Int32} (hd : decode cc pc = .ok (.bipush n, 2)) (hv : (Int8.ofInt n).toInt32 = v) (k : G Γ cn sn (pc + 2) lv (.int v :: st) ws) : G Γ cn sn pc lv (st) ws := by
  obtain ⟨p, l, e, R, s, m, args, below, meth, c, nL', D', A, Q⟩ := Γ
  obtain ⟨rfl, rfl, hx, hb, hml, hown, hlk, hts, hK, hA, rfl, hr, rfl⟩ := C
  intro H locs ls hP hD hS hl
  exact lv_bipush hx hb hd hv (k H locs ls hP hD hS hl)
theorem g_sipush (C : Cx Γ cc own nL D tys rm ret mc ms Post) {n : Int} {v : Int32} (hd : decode cc pc = .ok (.sipush n, 3)) (hv : (Int16.ofInt n).toInt32 = v) (k : G Γ cn sn (pc + 3) lv (.int v :: st) ws) : G Γ cn sn pc lv (st) ws := by
  obtain ⟨p, l, e, R, s, m, args, below, meth, c, nL', D', A, Q⟩ := Γ
  obtain ⟨rfl, rfl, hx, hb, hml, hown, hlk, hts, hK, hA, rfl, hr, rfl⟩ := C
  intro H locs ls hP hD hS hl
  exact lv_sipush hx hb hd hv (k H locs ls hP hD hS hl)
theorem g_ldc (C : Cx Γ cc own nL D tys rm ret mc ms Post) {index : Nat} {v : Int32} (hw : Cond.constant own index v ∈ tb) (hd : decode cc pc = .ok (.ldc index, 2)) (k : G Γ cn sn (pc + 2) lv (.int v :: st) ws) : G Γ cn sn pc lv (st) ws := by
  obtain ⟨p, l, e, R, s, m, args, below, meth, c, nL', D', A, Q⟩ := Γ
  obtain ⟨rfl, rfl, hx, hb, hml, hown, hlk, hts, hK, hA, rfl, hr, rfl⟩ := C
  intro H locs ls hP hD hS hl
  exact lv_ldc hx hb hown (hts _ hw) hd (k H locs ls hP hD hS hl)
theorem g_ldcw (C : Cx Γ cc own nL D tys rm ret mc ms Post) {index : Nat} {v : Int32} (hw : Cond.constant own index v ∈ tb) (hd : decode cc pc = .ok (.ldc_w index, 3)) (k : G Γ cn sn (pc + 3) lv (.int v :: st) ws) : G Γ cn sn pc lv (st) ws := by
  obtain ⟨p, l, e, R, s, m, args, below, meth, c, nL', D', A, Q⟩ := Γ
  obtain ⟨rfl, rfl, hx, hb, hml, hown, hlk, hts, hK, hA, rfl, hr, rfl⟩ := C
  intro H locs ls hP hD hS hl
  exact lv_ldcw hx hb hown (hts _ hw) hd (k H locs ls hP hD hS hl)
theorem g_ldc2 (C : Cx Γ cc own nL D tys rm ret mc ms Post) {index : Nat} {v : Int64} (hw : Cond.constantLong own index v ∈ tb) (hd : decode cc pc = .ok (.ldc2_w index, 3)) (k : G Γ cn sn (pc + 3) lv (.long v :: st) ws) : G Γ cn sn pc lv (st) ws := by
  obtain ⟨p, l, e, R, s, m, args, below, meth, c, nL', D', A, Q⟩ := Γ
  obtain ⟨rfl, rfl, hx, hb, hml, hown, hlk, hts, hK, hA, rfl, hr, rfl⟩ := C
  intro H locs ls hP hD hS hl
  exact lv_ldc2 hx hb hown (hts _ hw) hd (k H locs ls hP hD hS hl)
theorem g_iload_n (C : Cx Γ cc own nL D tys rm ret mc ms Post) {f : Fin 4} {i : Nat} {x : Int32} (hd : decode cc pc = .ok (.iload_n f, 1)) (hi : (f : Nat) = i) (hv : gl_at lv i = some (.int x)) (k : G Γ cn sn (pc + 1) lv (.int x :: st) ws) : G Γ cn sn pc lv (st) ws := by
  obtain ⟨p, l, e, R, s, m, args, below, meth, c, nL', D', A, Q⟩ := Γ
  obtain ⟨rfl, rfl, hx, hb, hml, hown, hlk, hts, hK, hA, rfl, hr, rfl⟩ := C
  intro H locs ls hP hD hS hl
  exact lv_iload_n hx hb hd hi (gl_has hl hv) (k H locs ls hP hD hS hl)
theorem g_iload (C : Cx Γ cc own nL D tys rm ret mc ms Post) {i : Nat} {x : Int32} (hd : decode cc pc = .ok (.iload i, 2)) (hv : gl_at lv i = some (.int x)) (k : G Γ cn sn (pc + 2) lv (.int x :: st) ws) : G Γ cn sn pc lv (st) ws := by
  obtain ⟨p, l, e, R, s, m, args, below, meth, c, nL', D', A, Q⟩ := Γ
  obtain ⟨rfl, rfl, hx, hb, hml, hown, hlk, hts, hK, hA, rfl, hr, rfl⟩ := C
  intro H locs ls hP hD hS hl
  exact lv_iload hx hb hd (gl_has hl hv) (k H locs ls hP hD hS hl)
theorem g_lload_n (C : Cx Γ cc own nL D tys rm ret mc ms Post) {f : Fin 4} {i : Nat} {x : Int64} (hd : decode cc pc = .ok (.lload_n f, 1)) (hi : (f : Nat) = i) (hv : gl_at lv i = some (.long x)) (k : G Γ cn sn (pc + 1) lv (.long x :: st) ws) : G Γ cn sn pc lv (st) ws := by
  obtain ⟨p, l, e, R, s, m, args, below, meth, c, nL', D', A, Q⟩ := Γ
  obtain ⟨rfl, rfl, hx, hb, hml, hown, hlk, hts, hK, hA, rfl, hr, rfl⟩ := C
  intro H locs ls hP hD hS hl
  exact lv_lload_n hx hb hd hi (gl_has hl hv) (k H locs ls hP hD hS hl)
theorem g_lload (C : Cx Γ cc own nL D tys rm ret mc ms Post) {i : Nat} {x : Int64} (hd : decode cc pc = .ok (.lload i, 2)) (hv : gl_at lv i = some (.long x)) (k : G Γ cn sn (pc + 2) lv (.long x :: st) ws) : G Γ cn sn pc lv (st) ws := by
  obtain ⟨p, l, e, R, s, m, args, below, meth, c, nL', D', A, Q⟩ := Γ
  obtain ⟨rfl, rfl, hx, hb, hml, hown, hlk, hts, hK, hA, rfl, hr, rfl⟩ := C
  intro H locs ls hP hD hS hl
  exact lv_lload hx hb hd (gl_has hl hv) (k H locs ls hP hD hS hl)
theorem g_aload_n (C : Cx Γ cc own nL D tys rm ret mc ms Post) {f : Fin 4} {i : Nat} {x : Nat} (hd : decode cc pc = .ok (.aload_n f, 1)) (hi : (f : Nat) = i) (hv : gl_at lv i = some (.ref x)) (k : G Γ cn sn (pc + 1) lv (.ref x :: st) ws) : G Γ cn sn pc lv (st) ws := by
  obtain ⟨p, l, e, R, s, m, args, below, meth, c, nL', D', A, Q⟩ := Γ
  obtain ⟨rfl, rfl, hx, hb, hml, hown, hlk, hts, hK, hA, rfl, hr, rfl⟩ := C
  intro H locs ls hP hD hS hl
  exact lv_aload_n hx hb hd hi (gl_has hl hv) (k H locs ls hP hD hS hl)
theorem g_aload (C : Cx Γ cc own nL D tys rm ret mc ms Post) {i : Nat} {x : Nat} (hd : decode cc pc = .ok (.aload i, 2)) (hv : gl_at lv i = some (.ref x)) (k : G Γ cn sn (pc + 2) lv (.ref x :: st) ws) : G Γ cn sn pc lv (st) ws := by
  obtain ⟨p, l, e, R, s, m, args, below, meth, c, nL', D', A, Q⟩ := Γ
  obtain ⟨rfl, rfl, hx, hb, hml, hown, hlk, hts, hK, hA, rfl, hr, rfl⟩ := C
  intro H locs ls hP hD hS hl
  exact lv_aload hx hb hd (gl_has hl hv) (k H locs ls hP hD hS hl)
theorem g_aloadq_n (C : Cx Γ cc own nL D tys rm ret mc ms Post) {f : Fin 4} {i : Nat} {x : Option Nat} (hd : decode cc pc = .ok (.aload_n f, 1)) (hi : (f : Nat) = i) (hv : gl_at lv i = some (va_rf x)) (k : G Γ cn sn (pc + 1) lv (va_rf x :: st) ws) : G Γ cn sn pc lv (st) ws := by
  obtain ⟨p, l, e, R, s, m, args, below, meth, c, nL', D', A, Q⟩ := Γ
  obtain ⟨rfl, rfl, hx, hb, hml, hown, hlk, hts, hK, hA, rfl, hr, rfl⟩ := C
  intro H locs ls hP hD hS hl
  cases x with
  | none => exact lv_aload_nN hx hb hd hi (gl_has hl hv) (k H locs ls hP hD hS hl)
  | some x => exact lv_aload_n hx hb hd hi (gl_has hl hv) (k H locs ls hP hD hS hl)
theorem g_aloadq (C : Cx Γ cc own nL D tys rm ret mc ms Post) {i : Nat} {x : Option Nat} (hd : decode cc pc = .ok (.aload i, 2)) (hv : gl_at lv i = some (va_rf x)) (k : G Γ cn sn (pc + 2) lv (va_rf x :: st) ws) : G Γ cn sn pc lv (st) ws := by
  obtain ⟨p, l, e, R, s, m, args, below, meth, c, nL', D', A, Q⟩ := Γ
  obtain ⟨rfl, rfl, hx, hb, hml, hown, hlk, hts, hK, hA, rfl, hr, rfl⟩ := C
  intro H locs ls hP hD hS hl
  cases x with
  | none => exact lv_aloadN hx hb hd (gl_has hl hv) (k H locs ls hP hD hS hl)
  | some x => exact lv_aload hx hb hd (gl_has hl hv) (k H locs ls hP hD hS hl)
theorem g_istore_n (C : Cx Γ cc own nL D tys rm ret mc ms Post) {f : Fin 4} {i : Nat} {x : Int32} (lv' : List (Nat × Value)) (hd : decode cc pc = .ok (.istore_n f, 1)) (hi : (f : Nat) = i) (hn : i < nL) (he : gl_put i (.int x) lv = lv') (k : G Γ cn sn (pc + 1) lv' st ws) : G Γ cn sn pc lv (.int x :: st) ws := by
  obtain ⟨p, l, e, R, s, m, args, below, meth, c, nL', D', A, Q⟩ := Γ
  obtain ⟨rfl, rfl, hx, hb, hml, hown, hlk, hts, hK, hA, rfl, hr, rfl⟩ := C
  intro H locs ls hP hD hS hl
  subst hi
  obtain ⟨ls', e', h'⟩ := gl_store1 (v := .int x) hl hn rfl
  rw [he] at h'
  intro T hT X
  obtain ⟨t, a, b⟩ := k H locs ls' hP hD hS h' T hT X
  refine ⟨t, ?_, b⟩
  jvm_step X.here [X.here.top, ↓top_set X.here.top, hx, hb, hd, e']
  exact a
theorem g_istore (C : Cx Γ cc own nL D tys rm ret mc ms Post) {i : Nat} {x : Int32} (lv' : List (Nat × Value)) (hd : decode cc pc = .ok (.istore i, 2)) (hn : i < nL) (he : gl_put i (.int x) lv = lv') (k : G Γ cn sn (pc + 2) lv' st ws) : G Γ cn sn pc lv (.int x :: st) ws := by
  obtain ⟨p, l, e, R, s, m, args, below, meth, c, nL', D', A, Q⟩ := Γ
  obtain ⟨rfl, rfl, hx, hb, hml, hown, hlk, hts, hK, hA, rfl, hr, rfl⟩ := C
  intro H locs ls hP hD hS hl
  obtain ⟨ls', e', h'⟩ := gl_store1 (v := .int x) hl hn rfl
  rw [he] at h'
  intro T hT X
  obtain ⟨t, a, b⟩ := k H locs ls' hP hD hS h' T hT X
  refine ⟨t, ?_, b⟩
  jvm_step X.here [X.here.top, ↓top_set X.here.top, hx, hb, hd, e']
  exact a
theorem g_lstore_n (C : Cx Γ cc own nL D tys rm ret mc ms Post) {f : Fin 4} {i : Nat} {x : Int64} (lv' : List (Nat × Value)) (hd : decode cc pc = .ok (.lstore_n f, 1)) (hi : (f : Nat) = i) (hn : i + 1 < nL) (he : gl_put i (.long x) lv = lv') (k : G Γ cn sn (pc + 1) lv' st ws) : G Γ cn sn pc lv (.long x :: st) ws := by
  obtain ⟨p, l, e, R, s, m, args, below, meth, c, nL', D', A, Q⟩ := Γ
  obtain ⟨rfl, rfl, hx, hb, hml, hown, hlk, hts, hK, hA, rfl, hr, rfl⟩ := C
  intro H locs ls hP hD hS hl
  subst hi
  obtain ⟨ls', e', h'⟩ := gl_store2 (v := .long x) hl hn rfl
  rw [he] at h'
  intro T hT X
  obtain ⟨t, a, b⟩ := k H locs ls' hP hD hS h' T hT X
  refine ⟨t, ?_, b⟩
  jvm_step X.here [X.here.top, ↓top_set X.here.top, hx, hb, hd, e']
  exact a
theorem g_lstore (C : Cx Γ cc own nL D tys rm ret mc ms Post) {i : Nat} {x : Int64} (lv' : List (Nat × Value)) (hd : decode cc pc = .ok (.lstore i, 2)) (hn : i + 1 < nL) (he : gl_put i (.long x) lv = lv') (k : G Γ cn sn (pc + 2) lv' st ws) : G Γ cn sn pc lv (.long x :: st) ws := by
  obtain ⟨p, l, e, R, s, m, args, below, meth, c, nL', D', A, Q⟩ := Γ
  obtain ⟨rfl, rfl, hx, hb, hml, hown, hlk, hts, hK, hA, rfl, hr, rfl⟩ := C
  intro H locs ls hP hD hS hl
  obtain ⟨ls', e', h'⟩ := gl_store2 (v := .long x) hl hn rfl
  rw [he] at h'
  intro T hT X
  obtain ⟨t, a, b⟩ := k H locs ls' hP hD hS h' T hT X
  refine ⟨t, ?_, b⟩
  jvm_step X.here [X.here.top, ↓top_set X.here.top, hx, hb, hd, e']
  exact a
theorem g_astore_n (C : Cx Γ cc own nL D tys rm ret mc ms Post) {f : Fin 4} {i : Nat} {x : Nat} (lv' : List (Nat × Value)) (hd : decode cc pc = .ok (.astore_n f, 1)) (hi : (f : Nat) = i) (hn : i < nL) (he : gl_put i (.ref x) lv = lv') (k : G Γ cn sn (pc + 1) lv' st ws) : G Γ cn sn pc lv (.ref x :: st) ws := by
  obtain ⟨p, l, e, R, s, m, args, below, meth, c, nL', D', A, Q⟩ := Γ
  obtain ⟨rfl, rfl, hx, hb, hml, hown, hlk, hts, hK, hA, rfl, hr, rfl⟩ := C
  intro H locs ls hP hD hS hl
  subst hi
  obtain ⟨ls', e', h'⟩ := gl_store1 (v := .ref x) hl hn rfl
  rw [he] at h'
  intro T hT X
  obtain ⟨t, a, b⟩ := k H locs ls' hP hD hS h' T hT X
  refine ⟨t, ?_, b⟩
  jvm_step X.here [X.here.top, ↓top_set X.here.top, hx, hb, hd, e']
  exact ⟨rfl, a⟩
theorem g_astore (C : Cx Γ cc own nL D tys rm ret mc ms Post) {i : Nat} {x : Nat} (lv' : List (Nat × Value)) (hd : decode cc pc = .ok (.astore i, 2)) (hn : i < nL) (he : gl_put i (.ref x) lv = lv') (k : G Γ cn sn (pc + 2) lv' st ws) : G Γ cn sn pc lv (.ref x :: st) ws := by
  obtain ⟨p, l, e, R, s, m, args, below, meth, c, nL', D', A, Q⟩ := Γ
  obtain ⟨rfl, rfl, hx, hb, hml, hown, hlk, hts, hK, hA, rfl, hr, rfl⟩ := C
  intro H locs ls hP hD hS hl
  obtain ⟨ls', e', h'⟩ := gl_store1 (v := .ref x) hl hn rfl
  rw [he] at h'
  intro T hT X
  obtain ⟨t, a, b⟩ := k H locs ls' hP hD hS h' T hT X
  refine ⟨t, ?_, b⟩
  jvm_step X.here [X.here.top, ↓top_set X.here.top, hx, hb, hd, e']
  exact ⟨rfl, a⟩
theorem g_iinc (C : Cx Γ cc own nL D tys rm ret mc ms Post) {i : Nat} {n : Int} {x : Int32} (v : Int32) (lv' : List (Nat × Value)) (hd : decode cc pc = .ok (.iinc i n, 3)) (hv : gl_at lv i = some (.int x)) (ev : Int32.ofInt n = v) (hn : i < nL) (he : gl_put i (.int (x + v)) lv = lv') (k : G Γ cn sn (pc + 3) lv' st ws) : G Γ cn sn pc lv (st) ws := by
  obtain ⟨p, l, e, R, s, m, args, below, meth, c, nL', D', A, Q⟩ := Γ
  obtain ⟨rfl, rfl, hx, hb, hml, hown, hlk, hts, hK, hA, rfl, hr, rfl⟩ := C
  intro H locs ls hP hD hS hl
  subst ev
  obtain ⟨ls', e', h'⟩ := gl_store1 (v := .int (x + Int32.ofInt n)) hl hn rfl
  rw [he] at h'
  have hg := gl_has hl hv
  intro T hT X
  obtain ⟨t, a, b⟩ := k H locs ls' hP hD hS h' T hT X
  refine ⟨t, ?_, b⟩
  jvm_step X.here [X.here.top, ↓top_set X.here.top, hx, hb, hd, hg, e']
  exact a
theorem g_iadd (C : Cx Γ cc own nL D tys rm ret mc ms Post) {x y : Int32} (hd : decode cc pc = .ok (.iadd, 1))  (k : G Γ cn sn (pc + 1) lv (.int (x + y) :: st) ws) : G Γ cn sn pc lv (.int y :: .int x :: st) ws := by
  obtain ⟨p, l, e, R, s, m, args, below, meth, c, nL', D', A, Q⟩ := Γ
  obtain ⟨rfl, rfl, hx, hb, hml, hown, hlk, hts, hK, hA, rfl, hr, rfl⟩ := C
  intro H locs ls hP hD hS hl
  exact lv_iadd hx hb hd (k H locs ls hP hD hS hl)
theorem g_isub (C : Cx Γ cc own nL D tys rm ret mc ms Post) {x y : Int32} (hd : decode cc pc = .ok (.isub, 1))  (k : G Γ cn sn (pc + 1) lv (.int (x - y) :: st) ws) : G Γ cn sn pc lv (.int y :: .int x :: st) ws := by
  obtain ⟨p, l, e, R, s, m, args, below, meth, c, nL', D', A, Q⟩ := Γ
  obtain ⟨rfl, rfl, hx, hb, hml, hown, hlk, hts, hK, hA, rfl, hr, rfl⟩ := C
  intro H locs ls hP hD hS hl
  exact lv_isub hx hb hd (k H locs ls hP hD hS hl)
theorem g_imul (C : Cx Γ cc own nL D tys rm ret mc ms Post) {x y : Int32} (hd : decode cc pc = .ok (.imul, 1))  (k : G Γ cn sn (pc + 1) lv (.int (x * y) :: st) ws) : G Γ cn sn pc lv (.int y :: .int x :: st) ws := by
  obtain ⟨p, l, e, R, s, m, args, below, meth, c, nL', D', A, Q⟩ := Γ
  obtain ⟨rfl, rfl, hx, hb, hml, hown, hlk, hts, hK, hA, rfl, hr, rfl⟩ := C
  intro H locs ls hP hD hS hl
  exact lv_imul hx hb hd (k H locs ls hP hD hS hl)
theorem g_iand (C : Cx Γ cc own nL D tys rm ret mc ms Post) {x y : Int32} (hd : decode cc pc = .ok (.iand, 1))  (k : G Γ cn sn (pc + 1) lv (.int (x &&& y) :: st) ws) : G Γ cn sn pc lv (.int y :: .int x :: st) ws := by
  obtain ⟨p, l, e, R, s, m, args, below, meth, c, nL', D', A, Q⟩ := Γ
  obtain ⟨rfl, rfl, hx, hb, hml, hown, hlk, hts, hK, hA, rfl, hr, rfl⟩ := C
  intro H locs ls hP hD hS hl
  exact lv_iand hx hb hd (k H locs ls hP hD hS hl)
theorem g_ior (C : Cx Γ cc own nL D tys rm ret mc ms Post) {x y : Int32} (hd : decode cc pc = .ok (.ior, 1))  (k : G Γ cn sn (pc + 1) lv (.int (x ||| y) :: st) ws) : G Γ cn sn pc lv (.int y :: .int x :: st) ws := by
  obtain ⟨p, l, e, R, s, m, args, below, meth, c, nL', D', A, Q⟩ := Γ
  obtain ⟨rfl, rfl, hx, hb, hml, hown, hlk, hts, hK, hA, rfl, hr, rfl⟩ := C
  intro H locs ls hP hD hS hl
  exact lv_ior hx hb hd (k H locs ls hP hD hS hl)
theorem g_ixor (C : Cx Γ cc own nL D tys rm ret mc ms Post) {x y : Int32} (hd : decode cc pc = .ok (.ixor, 1))  (k : G Γ cn sn (pc + 1) lv (.int (x ^^^ y) :: st) ws) : G Γ cn sn pc lv (.int y :: .int x :: st) ws := by
  obtain ⟨p, l, e, R, s, m, args, below, meth, c, nL', D', A, Q⟩ := Γ
  obtain ⟨rfl, rfl, hx, hb, hml, hown, hlk, hts, hK, hA, rfl, hr, rfl⟩ := C
  intro H locs ls hP hD hS hl
  exact lv_ixor hx hb hd (k H locs ls hP hD hS hl)
theorem g_ishl (C : Cx Γ cc own nL D tys rm ret mc ms Post) {x y : Int32} (hd : decode cc pc = .ok (.ishl, 1))  (k : G Γ cn sn (pc + 1) lv (.int (x <<< (y &&& 31)) :: st) ws) : G Γ cn sn pc lv (.int y :: .int x :: st) ws := by
  obtain ⟨p, l, e, R, s, m, args, below, meth, c, nL', D', A, Q⟩ := Γ
  obtain ⟨rfl, rfl, hx, hb, hml, hown, hlk, hts, hK, hA, rfl, hr, rfl⟩ := C
  intro H locs ls hP hD hS hl
  exact lv_ishl hx hb hd (k H locs ls hP hD hS hl)
theorem g_ishr (C : Cx Γ cc own nL D tys rm ret mc ms Post) {x y : Int32} (hd : decode cc pc = .ok (.ishr, 1))  (k : G Γ cn sn (pc + 1) lv (.int (x >>> (y &&& 31)) :: st) ws) : G Γ cn sn pc lv (.int y :: .int x :: st) ws := by
  obtain ⟨p, l, e, R, s, m, args, below, meth, c, nL', D', A, Q⟩ := Γ
  obtain ⟨rfl, rfl, hx, hb, hml, hown, hlk, hts, hK, hA, rfl, hr, rfl⟩ := C
  intro H locs ls hP hD hS hl
  exact lv_ishr hx hb hd (k H locs ls hP hD hS hl)
theorem g_ladd (C : Cx Γ cc own nL D tys rm ret mc ms Post) {x y : Int64} (hd : decode cc pc = .ok (.ladd, 1))  (k : G Γ cn sn (pc + 1) lv (.long (x + y) :: st) ws) : G Γ cn sn pc lv (.long y :: .long x :: st) ws := by
  obtain ⟨p, l, e, R, s, m, args, below, meth, c, nL', D', A, Q⟩ := Γ
  obtain ⟨rfl, rfl, hx, hb, hml, hown, hlk, hts, hK, hA, rfl, hr, rfl⟩ := C
  intro H locs ls hP hD hS hl
  exact lv_ladd hx hb hd (k H locs ls hP hD hS hl)
theorem g_lsub (C : Cx Γ cc own nL D tys rm ret mc ms Post) {x y : Int64} (hd : decode cc pc = .ok (.lsub, 1))  (k : G Γ cn sn (pc + 1) lv (.long (x - y) :: st) ws) : G Γ cn sn pc lv (.long y :: .long x :: st) ws := by
  obtain ⟨p, l, e, R, s, m, args, below, meth, c, nL', D', A, Q⟩ := Γ
  obtain ⟨rfl, rfl, hx, hb, hml, hown, hlk, hts, hK, hA, rfl, hr, rfl⟩ := C
  intro H locs ls hP hD hS hl
  exact lv_lsub hx hb hd (k H locs ls hP hD hS hl)
theorem g_lmul (C : Cx Γ cc own nL D tys rm ret mc ms Post) {x y : Int64} (hd : decode cc pc = .ok (.lmul, 1))  (k : G Γ cn sn (pc + 1) lv (.long (x * y) :: st) ws) : G Γ cn sn pc lv (.long y :: .long x :: st) ws := by
  obtain ⟨p, l, e, R, s, m, args, below, meth, c, nL', D', A, Q⟩ := Γ
  obtain ⟨rfl, rfl, hx, hb, hml, hown, hlk, hts, hK, hA, rfl, hr, rfl⟩ := C
  intro H locs ls hP hD hS hl
  exact lv_lmul hx hb hd (k H locs ls hP hD hS hl)
theorem g_land (C : Cx Γ cc own nL D tys rm ret mc ms Post) {x y : Int64} (hd : decode cc pc = .ok (.land, 1))  (k : G Γ cn sn (pc + 1) lv (.long (x &&& y) :: st) ws) : G Γ cn sn pc lv (.long y :: .long x :: st) ws := by
  obtain ⟨p, l, e, R, s, m, args, below, meth, c, nL', D', A, Q⟩ := Γ
  obtain ⟨rfl, rfl, hx, hb, hml, hown, hlk, hts, hK, hA, rfl, hr, rfl⟩ := C
  intro H locs ls hP hD hS hl
  exact lv_land hx hb hd (k H locs ls hP hD hS hl)
theorem g_lor (C : Cx Γ cc own nL D tys rm ret mc ms Post) {x y : Int64} (hd : decode cc pc = .ok (.lor, 1))  (k : G Γ cn sn (pc + 1) lv (.long (x ||| y) :: st) ws) : G Γ cn sn pc lv (.long y :: .long x :: st) ws := by
  obtain ⟨p, l, e, R, s, m, args, below, meth, c, nL', D', A, Q⟩ := Γ
  obtain ⟨rfl, rfl, hx, hb, hml, hown, hlk, hts, hK, hA, rfl, hr, rfl⟩ := C
  intro H locs ls hP hD hS hl
  exact lv_lor hx hb hd (k H locs ls hP hD hS hl)
theorem g_lxor (C : Cx Γ cc own nL D tys rm ret mc ms Post) {x y : Int64} (hd : decode cc pc = .ok (.lxor, 1))  (k : G Γ cn sn (pc + 1) lv (.long (x ^^^ y) :: st) ws) : G Γ cn sn pc lv (.long y :: .long x :: st) ws := by
  obtain ⟨p, l, e, R, s, m, args, below, meth, c, nL', D', A, Q⟩ := Γ
  obtain ⟨rfl, rfl, hx, hb, hml, hown, hlk, hts, hK, hA, rfl, hr, rfl⟩ := C
  intro H locs ls hP hD hS hl
  exact lv_lxor hx hb hd (k H locs ls hP hD hS hl)
theorem g_iushr (C : Cx Γ cc own nL D tys rm ret mc ms Post) {x y : Int32} (hd : decode cc pc = .ok (.iushr, 1))  (k : G Γ cn sn (pc + 1) lv (.int ((x.toUInt32 >>> (y.toUInt32 &&& Int32.toUInt32 31)).toInt32) :: st) ws) : G Γ cn sn pc lv (.int y :: .int x :: st) ws := by
  obtain ⟨p, l, e, R, s, m, args, below, meth, c, nL', D', A, Q⟩ := Γ
  obtain ⟨rfl, rfl, hx, hb, hml, hown, hlk, hts, hK, hA, rfl, hr, rfl⟩ := C
  intro H locs ls hP hD hS hl
  exact lv_iushr hx hb hd rfl (k H locs ls hP hD hS hl)
theorem g_lshl (C : Cx Γ cc own nL D tys rm ret mc ms Post) {x : Int64} {y : Int32} (hd : decode cc pc = .ok (.lshl, 1))  (k : G Γ cn sn (pc + 1) lv (.long (x <<< (y.toInt64 &&& 63)) :: st) ws) : G Γ cn sn pc lv (.int y :: .long x :: st) ws := by
  obtain ⟨p, l, e, R, s, m, args, below, meth, c, nL', D', A, Q⟩ := Γ
  obtain ⟨rfl, rfl, hx, hb, hml, hown, hlk, hts, hK, hA, rfl, hr, rfl⟩ := C
  intro H locs ls hP hD hS hl
  exact lv_lshl hx hb hd rfl (k H locs ls hP hD hS hl)
theorem g_lshr (C : Cx Γ cc own nL D tys rm ret mc ms Post) {x : Int64} {y : Int32} (hd : decode cc pc = .ok (.lshr, 1))  (k : G Γ cn sn (pc + 1) lv (.long (x >>> (y.toInt64 &&& 63)) :: st) ws) : G Γ cn sn pc lv (.int y :: .long x :: st) ws := by
  obtain ⟨p, l, e, R, s, m, args, below, meth, c, nL', D', A, Q⟩ := Γ
  obtain ⟨rfl, rfl, hx, hb, hml, hown, hlk, hts, hK, hA, rfl, hr, rfl⟩ := C
  intro H locs ls hP hD hS hl
  exact lv_lshr hx hb hd rfl (k H locs ls hP hD hS hl)
theorem g_lushr (C : Cx Γ cc own nL D tys rm ret mc ms Post) {x : Int64} {y : Int32} (hd : decode cc pc = .ok (.lushr, 1))  (k : G Γ cn sn (pc + 1) lv (.long ((x.toUInt64 >>> (y.toInt64.toUInt64 &&& Int64.toUInt64 63)).toInt64) :: st) ws) : G Γ cn sn pc lv (.int y :: .long x :: st) ws := by
  obtain ⟨p, l, e, R, s, m, args, below, meth, c, nL', D', A, Q⟩ := Γ
  obtain ⟨rfl, rfl, hx, hb, hml, hown, hlk, hts, hK, hA, rfl, hr, rfl⟩ := C
  intro H locs ls hP hD hS hl
  exact lv_lushr hx hb hd rfl (k H locs ls hP hD hS hl)
theorem g_idiv (C : Cx Γ cc own nL D tys rm ret mc ms Post) {x y : Int32} (hd : decode cc pc = .ok (.idiv, 1)) (hne : ¬ y = 0) (k : G Γ cn sn (pc + 1) lv (.int (x / y) :: st) ws) : G Γ cn sn pc lv (.int y :: .int x :: st) ws := by
  obtain ⟨p, l, e, R, s, m, args, below, meth, c, nL', D', A, Q⟩ := Γ
  obtain ⟨rfl, rfl, hx, hb, hml, hown, hlk, hts, hK, hA, rfl, hr, rfl⟩ := C
  intro H locs ls hP hD hS hl
  exact lv_idiv hx hb hd hne (k H locs ls hP hD hS hl)
theorem g_ldiv (C : Cx Γ cc own nL D tys rm ret mc ms Post) {x y : Int64} (hd : decode cc pc = .ok (.ldiv, 1)) (hne : ¬ y = 0) (k : G Γ cn sn (pc + 1) lv (.long (x / y) :: st) ws) : G Γ cn sn pc lv (.long y :: .long x :: st) ws := by
  obtain ⟨p, l, e, R, s, m, args, below, meth, c, nL', D', A, Q⟩ := Γ
  obtain ⟨rfl, rfl, hx, hb, hml, hown, hlk, hts, hK, hA, rfl, hr, rfl⟩ := C
  intro H locs ls hP hD hS hl
  exact lv_ldiv hx hb hd hne (k H locs ls hP hD hS hl)
theorem g_irem (C : Cx Γ cc own nL D tys rm ret mc ms Post) {x y : Int32} (hd : decode cc pc = .ok (.irem, 1)) (hne : ¬ y = 0) (k : G Γ cn sn (pc + 1) lv (.int (x % y) :: st) ws) : G Γ cn sn pc lv (.int y :: .int x :: st) ws := by
  obtain ⟨p, l, e, R, s, m, args, below, meth, c, nL', D', A, Q⟩ := Γ
  obtain ⟨rfl, rfl, hx, hb, hml, hown, hlk, hts, hK, hA, rfl, hr, rfl⟩ := C
  intro H locs ls hP hD hS hl
  refine lv_irem hx hb hd hne ?_
  rw [irem_eq_mod]
  exact k H locs ls hP hD hS hl
theorem g_lrem (C : Cx Γ cc own nL D tys rm ret mc ms Post) {x y : Int64} (hd : decode cc pc = .ok (.lrem, 1)) (hne : ¬ y = 0) (k : G Γ cn sn (pc + 1) lv (.long (x % y) :: st) ws) : G Γ cn sn pc lv (.long y :: .long x :: st) ws := by
  obtain ⟨p, l, e, R, s, m, args, below, meth, c, nL', D', A, Q⟩ := Γ
  obtain ⟨rfl, rfl, hx, hb, hml, hown, hlk, hts, hK, hA, rfl, hr, rfl⟩ := C
  intro H locs ls hP hD hS hl
  refine lv_lrem hx hb hd hne ?_
  rw [g_lmod]
  exact k H locs ls hP hD hS hl
theorem g_ineg (C : Cx Γ cc own nL D tys rm ret mc ms Post) {x : Int32} (hd : decode cc pc = .ok (.ineg, 1))  (k : G Γ cn sn (pc + 1) lv (.int (-x) :: st) ws) : G Γ cn sn pc lv (.int x :: st) ws := by
  obtain ⟨p, l, e, R, s, m, args, below, meth, c, nL', D', A, Q⟩ := Γ
  obtain ⟨rfl, rfl, hx, hb, hml, hown, hlk, hts, hK, hA, rfl, hr, rfl⟩ := C
  intro H locs ls hP hD hS hl
  exact lv_ineg hx hb hd (k H locs ls hP hD hS hl)
theorem g_lneg (C : Cx Γ cc own nL D tys rm ret mc ms Post) {x : Int64} (hd : decode cc pc = .ok (.lneg, 1))  (k : G Γ cn sn (pc + 1) lv (.long (-x) :: st) ws) : G Γ cn sn pc lv (.long x :: st) ws := by
  obtain ⟨p, l, e, R, s, m, args, below, meth, c, nL', D', A, Q⟩ := Γ
  obtain ⟨rfl, rfl, hx, hb, hml, hown, hlk, hts, hK, hA, rfl, hr, rfl⟩ := C
  intro H locs ls hP hD hS hl
  exact lv_lneg hx hb hd (k H locs ls hP hD hS hl)
theorem g_i2l (C : Cx Γ cc own nL D tys rm ret mc ms Post) {x : Int32} (hd : decode cc pc = .ok (.i2l, 1))  (k : G Γ cn sn (pc + 1) lv (.long x.toInt64 :: st) ws) : G Γ cn sn pc lv (.int x :: st) ws := by
  obtain ⟨p, l, e, R, s, m, args, below, meth, c, nL', D', A, Q⟩ := Γ
  obtain ⟨rfl, rfl, hx, hb, hml, hown, hlk, hts, hK, hA, rfl, hr, rfl⟩ := C
  intro H locs ls hP hD hS hl
  exact lv_i2l hx hb hd rfl (k H locs ls hP hD hS hl)
theorem g_l2i (C : Cx Γ cc own nL D tys rm ret mc ms Post) {x : Int64} (hd : decode cc pc = .ok (.l2i, 1))  (k : G Γ cn sn (pc + 1) lv (.int x.toInt32 :: st) ws) : G Γ cn sn pc lv (.long x :: st) ws := by
  obtain ⟨p, l, e, R, s, m, args, below, meth, c, nL', D', A, Q⟩ := Γ
  obtain ⟨rfl, rfl, hx, hb, hml, hown, hlk, hts, hK, hA, rfl, hr, rfl⟩ := C
  intro H locs ls hP hD hS hl
  exact lv_l2i hx hb hd rfl (k H locs ls hP hD hS hl)
theorem g_i2b (C : Cx Γ cc own nL D tys rm ret mc ms Post) {x : Int32} (hd : decode cc pc = .ok (.i2b, 1))  (k : G Γ cn sn (pc + 1) lv (.int x.toInt8.toInt32 :: st) ws) : G Γ cn sn pc lv (.int x :: st) ws := by
  obtain ⟨p, l, e, R, s, m, args, below, meth, c, nL', D', A, Q⟩ := Γ
  obtain ⟨rfl, rfl, hx, hb, hml, hown, hlk, hts, hK, hA, rfl, hr, rfl⟩ := C
  intro H locs ls hP hD hS hl
  exact lv_i2b hx hb hd rfl (k H locs ls hP hD hS hl)
theorem g_i2s (C : Cx Γ cc own nL D tys rm ret mc ms Post) {x : Int32} (hd : decode cc pc = .ok (.i2s, 1))  (k : G Γ cn sn (pc + 1) lv (.int x.toInt16.toInt32 :: st) ws) : G Γ cn sn pc lv (.int x :: st) ws := by
  obtain ⟨p, l, e, R, s, m, args, below, meth, c, nL', D', A, Q⟩ := Γ
  obtain ⟨rfl, rfl, hx, hb, hml, hown, hlk, hts, hK, hA, rfl, hr, rfl⟩ := C
  intro H locs ls hP hD hS hl
  exact lv_i2s hx hb hd rfl (k H locs ls hP hD hS hl)
theorem g_i2c (C : Cx Γ cc own nL D tys rm ret mc ms Post) {x : Int32} (hd : decode cc pc = .ok (.i2c, 1))  (k : G Γ cn sn (pc + 1) lv (.int (x.toUInt32 % 65536).toInt32 :: st) ws) : G Γ cn sn pc lv (.int x :: st) ws := by
  obtain ⟨p, l, e, R, s, m, args, below, meth, c, nL', D', A, Q⟩ := Γ
  obtain ⟨rfl, rfl, hx, hb, hml, hown, hlk, hts, hK, hA, rfl, hr, rfl⟩ := C
  intro H locs ls hP hD hS hl
  exact lv_i2c hx hb hd rfl (k H locs ls hP hD hS hl)
theorem g_dup (C : Cx Γ cc own nL D tys rm ret mc ms Post) {v : Value} (hd : decode cc pc = .ok (.dup, 1)) (h1 : v.category = 1) (k : G Γ cn sn (pc + 1) lv (v :: v :: st) ws) : G Γ cn sn pc lv (v :: st) ws := by
  obtain ⟨p, l, e, R, s, m, args, below, meth, c, nL', D', A, Q⟩ := Γ
  obtain ⟨rfl, rfl, hx, hb, hml, hown, hlk, hts, hK, hA, rfl, hr, rfl⟩ := C
  intro H locs ls hP hD hS hl
  exact lv_dup hx hb hd h1 (k H locs ls hP hD hS hl)
theorem g_pop (C : Cx Γ cc own nL D tys rm ret mc ms Post) {v : Value} (hd : decode cc pc = .ok (.pop, 1)) (h1 : v.category = 1) (k : G Γ cn sn (pc + 1) lv (st) ws) : G Γ cn sn pc lv (v :: st) ws := by
  obtain ⟨p, l, e, R, s, m, args, below, meth, c, nL', D', A, Q⟩ := Γ
  obtain ⟨rfl, rfl, hx, hb, hml, hown, hlk, hts, hK, hA, rfl, hr, rfl⟩ := C
  intro H locs ls hP hD hS hl
  exact lv_pop hx hb hd h1 (k H locs ls hP hD hS hl)
theorem g_dup_x1 (C : Cx Γ cc own nL D tys rm ret mc ms Post) {v u : Value} (hd : decode cc pc = .ok (.dup_x1, 1)) (h1 : v.category = 1) (h2 : u.category = 1) (k : G Γ cn sn (pc + 1) lv (v :: u :: v :: st) ws) : G Γ cn sn pc lv (v :: u :: st) ws := by
  obtain ⟨p, l, e, R, s, m, args, below, meth, c, nL', D', A, Q⟩ := Γ
  obtain ⟨rfl, rfl, hx, hb, hml, hown, hlk, hts, hK, hA, rfl, hr, rfl⟩ := C
  intro H locs ls hP hD hS hl
  exact lv_dup_x1 hx hb hd h1 h2 (k H locs ls hP hD hS hl)
theorem g_dup2 (C : Cx Γ cc own nL D tys rm ret mc ms Post) {v u : Value} (hd : decode cc pc = .ok (.dup2, 1)) (h1 : v.category = 1) (h2 : u.category = 1) (k : G Γ cn sn (pc + 1) lv (v :: u :: v :: u :: st) ws) : G Γ cn sn pc lv (v :: u :: st) ws := by
  obtain ⟨p, l, e, R, s, m, args, below, meth, c, nL', D', A, Q⟩ := Γ
  obtain ⟨rfl, rfl, hx, hb, hml, hown, hlk, hts, hK, hA, rfl, hr, rfl⟩ := C
  intro H locs ls hP hD hS hl
  exact lv_dup2_11 hx hb hd h1 h2 (k H locs ls hP hD hS hl)
theorem g_null (C : Cx Γ cc own nL D tys rm ret mc ms Post)  (hd : decode cc pc = .ok (.aconst_null, 1))  (k : G Γ cn sn (pc + 1) lv (.null :: st) ws) : G Γ cn sn pc lv (st) ws := by
  obtain ⟨p, l, e, R, s, m, args, below, meth, c, nL', D', A, Q⟩ := Γ
  obtain ⟨rfl, rfl, hx, hb, hml, hown, hlk, hts, hK, hA, rfl, hr, rfl⟩ := C
  intro H locs ls hP hD hS hl
  exact lv_null hx hb hd (k H locs ls hP hD hS hl)
theorem g_icmp_eq (C : Cx Γ cc own nL D tys rm ret mc ms Post) {x y : Int32} {off : Int} (tgt : Nat) (hd : decode cc pc = .ok (.if_icmp .eq off, 3)) (ht : (pc : Int) + off = (tgt : Int)) (kt : x = y → G Γ cn sn tgt lv st ws) (kf : ¬ x = y → G Γ cn sn (pc + 3) lv st ws) : G Γ cn sn pc lv (.int y :: .int x :: st) ws := by
  obtain ⟨p, l, e, R, s, m, args, below, meth, c, nL', D', A, Q⟩ := Γ
  obtain ⟨rfl, rfl, hx, hb, hml, hown, hlk, hts, hK, hA, rfl, hr, rfl⟩ := C
  intro H locs ls hP hD hS hl
  exact lv_icmp_eq hx hb hd ht (fun z => kt z H locs ls hP hD hS hl) (fun z => kf z H locs ls hP hD hS hl)
theorem g_if_eq (C : Cx Γ cc own nL D tys rm ret mc ms Post) {x : Int32} {off : Int} (tgt : Nat) (hd : decode cc pc = .ok (.ifCond .eq off, 3)) (ht : (pc : Int) + off = (tgt : Int)) (kt : x = 0 → G Γ cn sn tgt lv st ws) (kf : ¬ x = 0 → G Γ cn sn (pc + 3) lv st ws) : G Γ cn sn pc lv (.int x :: st) ws := by
  obtain ⟨p, l, e, R, s, m, args, below, meth, c, nL', D', A, Q⟩ := Γ
  obtain ⟨rfl, rfl, hx, hb, hml, hown, hlk, hts, hK, hA, rfl, hr, rfl⟩ := C
  intro H locs ls hP hD hS hl
  exact lv_if_eq hx hb hd ht (fun z => kt z H locs ls hP hD hS hl) (fun z => kf z H locs ls hP hD hS hl)
theorem g_icmp_ne (C : Cx Γ cc own nL D tys rm ret mc ms Post) {x y : Int32} {off : Int} (tgt : Nat) (hd : decode cc pc = .ok (.if_icmp .ne off, 3)) (ht : (pc : Int) + off = (tgt : Int)) (kt : ¬ x = y → G Γ cn sn tgt lv st ws) (kf : x = y → G Γ cn sn (pc + 3) lv st ws) : G Γ cn sn pc lv (.int y :: .int x :: st) ws := by
  obtain ⟨p, l, e, R, s, m, args, below, meth, c, nL', D', A, Q⟩ := Γ
  obtain ⟨rfl, rfl, hx, hb, hml, hown, hlk, hts, hK, hA, rfl, hr, rfl⟩ := C
  intro H locs ls hP hD hS hl
  exact lv_icmp_ne hx hb hd ht (fun z => kt z H locs ls hP hD hS hl) (fun z => kf z H locs ls hP hD hS hl)
theorem g_if_ne (C : Cx Γ cc own nL D tys rm ret mc ms Post) {x : Int32} {off : Int} (tgt : Nat) (hd : decode cc pc = .ok (.ifCond .ne off, 3)) (ht : (pc : Int) + off = (tgt : Int)) (kt : ¬ x = 0 → G Γ cn sn tgt lv st ws) (kf : x = 0 → G Γ cn sn (pc + 3) lv st ws) : G Γ cn sn pc lv (.int x :: st) ws := by
  obtain ⟨p, l, e, R, s, m, args, below, meth, c, nL', D', A, Q⟩ := Γ
  obtain ⟨rfl, rfl, hx, hb, hml, hown, hlk, hts, hK, hA, rfl, hr, rfl⟩ := C
  intro H locs ls hP hD hS hl
  exact lv_if_ne hx hb hd ht (fun z => kt z H locs ls hP hD hS hl) (fun z => kf z H locs ls hP hD hS hl)
theorem g_icmp_lt (C : Cx Γ cc own nL D tys rm ret mc ms Post) {x y : Int32} {off : Int} (tgt : Nat) (hd : decode cc pc = .ok (.if_icmp .lt off, 3)) (ht : (pc : Int) + off = (tgt : Int)) (kt : x < y → G Γ cn sn tgt lv st ws) (kf : ¬ x < y → G Γ cn sn (pc + 3) lv st ws) : G Γ cn sn pc lv (.int y :: .int x :: st) ws := by
  obtain ⟨p, l, e, R, s, m, args, below, meth, c, nL', D', A, Q⟩ := Γ
  obtain ⟨rfl, rfl, hx, hb, hml, hown, hlk, hts, hK, hA, rfl, hr, rfl⟩ := C
  intro H locs ls hP hD hS hl
  exact lv_icmp_lt hx hb hd ht (fun z => kt z H locs ls hP hD hS hl) (fun z => kf z H locs ls hP hD hS hl)
theorem g_if_lt (C : Cx Γ cc own nL D tys rm ret mc ms Post) {x : Int32} {off : Int} (tgt : Nat) (hd : decode cc pc = .ok (.ifCond .lt off, 3)) (ht : (pc : Int) + off = (tgt : Int)) (kt : x < 0 → G Γ cn sn tgt lv st ws) (kf : ¬ x < 0 → G Γ cn sn (pc + 3) lv st ws) : G Γ cn sn pc lv (.int x :: st) ws := by
  obtain ⟨p, l, e, R, s, m, args, below, meth, c, nL', D', A, Q⟩ := Γ
  obtain ⟨rfl, rfl, hx, hb, hml, hown, hlk, hts, hK, hA, rfl, hr, rfl⟩ := C
  intro H locs ls hP hD hS hl
  exact lv_if_lt hx hb hd ht (fun z => kt z H locs ls hP hD hS hl) (fun z => kf z H locs ls hP hD hS hl)
theorem g_icmp_ge (C : Cx Γ cc own nL D tys rm ret mc ms Post) {x y : Int32} {off : Int} (tgt : Nat) (hd : decode cc pc = .ok (.if_icmp .ge off, 3)) (ht : (pc : Int) + off = (tgt : Int)) (kt : y ≤ x → G Γ cn sn tgt lv st ws) (kf : ¬ y ≤ x → G Γ cn sn (pc + 3) lv st ws) : G Γ cn sn pc lv (.int y :: .int x :: st) ws := by
  obtain ⟨p, l, e, R, s, m, args, below, meth, c, nL', D', A, Q⟩ := Γ
  obtain ⟨rfl, rfl, hx, hb, hml, hown, hlk, hts, hK, hA, rfl, hr, rfl⟩ := C
  intro H locs ls hP hD hS hl
  exact lv_icmp_ge hx hb hd ht (fun z => kt z H locs ls hP hD hS hl) (fun z => kf z H locs ls hP hD hS hl)
theorem g_if_ge (C : Cx Γ cc own nL D tys rm ret mc ms Post) {x : Int32} {off : Int} (tgt : Nat) (hd : decode cc pc = .ok (.ifCond .ge off, 3)) (ht : (pc : Int) + off = (tgt : Int)) (kt : 0 ≤ x → G Γ cn sn tgt lv st ws) (kf : ¬ 0 ≤ x → G Γ cn sn (pc + 3) lv st ws) : G Γ cn sn pc lv (.int x :: st) ws := by
  obtain ⟨p, l, e, R, s, m, args, below, meth, c, nL', D', A, Q⟩ := Γ
  obtain ⟨rfl, rfl, hx, hb, hml, hown, hlk, hts, hK, hA, rfl, hr, rfl⟩ := C
  intro H locs ls hP hD hS hl
  exact lv_if_ge hx hb hd ht (fun z => kt z H locs ls hP hD hS hl) (fun z => kf z H locs ls hP hD hS hl)
theorem g_icmp_gt (C : Cx Γ cc own nL D tys rm ret mc ms Post) {x y : Int32} {off : Int} (tgt : Nat) (hd : decode cc pc = .ok (.if_icmp .gt off, 3)) (ht : (pc : Int) + off = (tgt : Int)) (kt : y < x → G Γ cn sn tgt lv st ws) (kf : ¬ y < x → G Γ cn sn (pc + 3) lv st ws) : G Γ cn sn pc lv (.int y :: .int x :: st) ws := by
  obtain ⟨p, l, e, R, s, m, args, below, meth, c, nL', D', A, Q⟩ := Γ
  obtain ⟨rfl, rfl, hx, hb, hml, hown, hlk, hts, hK, hA, rfl, hr, rfl⟩ := C
  intro H locs ls hP hD hS hl
  exact lv_icmp_gt hx hb hd ht (fun z => kt z H locs ls hP hD hS hl) (fun z => kf z H locs ls hP hD hS hl)
theorem g_if_gt (C : Cx Γ cc own nL D tys rm ret mc ms Post) {x : Int32} {off : Int} (tgt : Nat) (hd : decode cc pc = .ok (.ifCond .gt off, 3)) (ht : (pc : Int) + off = (tgt : Int)) (kt : 0 < x → G Γ cn sn tgt lv st ws) (kf : ¬ 0 < x → G Γ cn sn (pc + 3) lv st ws) : G Γ cn sn pc lv (.int x :: st) ws := by
  obtain ⟨p, l, e, R, s, m, args, below, meth, c, nL', D', A, Q⟩ := Γ
  obtain ⟨rfl, rfl, hx, hb, hml, hown, hlk, hts, hK, hA, rfl, hr, rfl⟩ := C
  intro H locs ls hP hD hS hl
  exact lv_if_gt hx hb hd ht (fun z => kt z H locs ls hP hD hS hl) (fun z => kf z H locs ls hP hD hS hl)
theorem g_icmp_le (C : Cx Γ cc own nL D tys rm ret mc ms Post) {x y : Int32} {off : Int} (tgt : Nat) (hd : decode cc pc = .ok (.if_icmp .le off, 3)) (ht : (pc : Int) + off = (tgt : Int)) (kt : x ≤ y → G Γ cn sn tgt lv st ws) (kf : ¬ x ≤ y → G Γ cn sn (pc + 3) lv st ws) : G Γ cn sn pc lv (.int y :: .int x :: st) ws := by
  obtain ⟨p, l, e, R, s, m, args, below, meth, c, nL', D', A, Q⟩ := Γ
  obtain ⟨rfl, rfl, hx, hb, hml, hown, hlk, hts, hK, hA, rfl, hr, rfl⟩ := C
  intro H locs ls hP hD hS hl
  exact lv_icmp_le hx hb hd ht (fun z => kt z H locs ls hP hD hS hl) (fun z => kf z H locs ls hP hD hS hl)
theorem g_if_le (C : Cx Γ cc own nL D tys rm ret mc ms Post) {x : Int32} {off : Int} (tgt : Nat) (hd : decode cc pc = .ok (.ifCond .le off, 3)) (ht : (pc : Int) + off = (tgt : Int)) (kt : x ≤ 0 → G Γ cn sn tgt lv st ws) (kf : ¬ x ≤ 0 → G Γ cn sn (pc + 3) lv st ws) : G Γ cn sn pc lv (.int x :: st) ws := by
  obtain ⟨p, l, e, R, s, m, args, below, meth, c, nL', D', A, Q⟩ := Γ
  obtain ⟨rfl, rfl, hx, hb, hml, hown, hlk, hts, hK, hA, rfl, hr, rfl⟩ := C
  intro H locs ls hP hD hS hl
  exact lv_if_le hx hb hd ht (fun z => kt z H locs ls hP hD hS hl) (fun z => kf z H locs ls hP hD hS hl)
theorem g_goto (C : Cx Γ cc own nL D tys rm ret mc ms Post) {off : Int} (tgt : Nat) (hd : decode cc pc = .ok (.goto off, 3)) (ht : (pc : Int) + off = (tgt : Int)) (k : G Γ cn sn tgt lv st ws) : G Γ cn sn pc lv (st) ws := by
  obtain ⟨p, l, e, R, s, m, args, below, meth, c, nL', D', A, Q⟩ := Γ
  obtain ⟨rfl, rfl, hx, hb, hml, hown, hlk, hts, hK, hA, rfl, hr, rfl⟩ := C
  intro H locs ls hP hD hS hl
  exact lv_goto hx hb hd ht (k H locs ls hP hD hS hl)
theorem g_lcmp (C : Cx Γ cc own nL D tys rm ret mc ms Post) {x y : Int64} (hd : decode cc pc = .ok (.lcmp, 1)) (k : G Γ cn sn (pc + 1) lv (.int (lg_cmp x y) :: st) ws) : G Γ cn sn pc lv (.long y :: .long x :: st) ws := by
  obtain ⟨p, l, e, R, s, m, args, below, meth, c, nL', D', A, Q⟩ := Γ
  obtain ⟨rfl, rfl, hx, hb, hml, hown, hlk, hts, hK, hA, rfl, hr, rfl⟩ := C
  intro H locs ls hP hD hS hl
  exact W.lcmp hx hb hd (k H locs ls hP hD hS hl)
theorem lgc_eq (x y : Int64) : (lg_cmp x y = 0) ↔ (x = y) := by
  rcases g_tri x y with ⟨h, e⟩ | ⟨h, e⟩ | ⟨h, e⟩ <;> rw [e] <;> simp only [Int64.lt_iff_toInt_lt, Int64.le_iff_toInt_le, ← Int64.toInt_inj] at h ⊢ <;> first | exact iff_of_true (by decide) (by omega) | exact iff_of_false (by decide) (by omega)
theorem g_leq (C : Cx Γ cc own nL D tys rm ret mc ms Post) {x y : Int64} {off : Int} (tgt : Nat) (hd : decode cc pc = .ok (.lcmp, 1)) (hd2 : decode cc (pc + 1) = .ok (.ifCond .eq off, 3)) (ht : ((pc + 1 : Nat) : Int) + off = (tgt : Int)) (kt : x = y → G Γ cn sn tgt lv st ws) (kf : ¬ x = y → G Γ cn sn (pc + 4) lv st ws) : G Γ cn sn pc lv (.long y :: .long x :: st) ws :=
  g_lcmp C hd (g_if_eq C tgt hd2 ht (fun z => kt ((lgc_eq x y).mp z)) (fun z => kf (fun h => z ((lgc_eq x y).mpr h))))
theorem lgc_ne (x y : Int64) : (¬ lg_cmp x y = 0) ↔ (¬ x = y) := by
  rcases g_tri x y with ⟨h, e⟩ | ⟨h, e⟩ | ⟨h, e⟩ <;> rw [e] <;> simp only [Int64.lt_iff_toInt_lt, Int64.le_iff_toInt_le, ← Int64.toInt_inj] at h ⊢ <;> first | exact iff_of_true (by decide) (by omega) | exact iff_of_false (by decide) (by omega)
theorem g_lne (C : Cx Γ cc own nL D tys rm ret mc ms Post) {x y : Int64} {off : Int} (tgt : Nat) (hd : decode cc pc = .ok (.lcmp, 1)) (hd2 : decode cc (pc + 1) = .ok (.ifCond .ne off, 3)) (ht : ((pc + 1 : Nat) : Int) + off = (tgt : Int)) (kt : ¬ x = y → G Γ cn sn tgt lv st ws) (kf : x = y → G Γ cn sn (pc + 4) lv st ws) : G Γ cn sn pc lv (.long y :: .long x :: st) ws :=
  g_lcmp C hd (g_if_ne C tgt hd2 ht (fun z => kt ((lgc_ne x y).mp z)) (fun z => kf ((Decidable.not_not.mp fun h => absurd ((lgc_ne x y).mpr h) (fun q => q z)))))
theorem lgc_lt (x y : Int64) : (lg_cmp x y < 0) ↔ (x < y) := by
  rcases g_tri x y with ⟨h, e⟩ | ⟨h, e⟩ | ⟨h, e⟩ <;> rw [e] <;> simp only [Int64.lt_iff_toInt_lt, Int64.le_iff_toInt_le, ← Int64.toInt_inj] at h ⊢ <;> first | exact iff_of_true (by decide) (by omega) | exact iff_of_false (by decide) (by omega)
theorem g_llt (C : Cx Γ cc own nL D tys rm ret mc ms Post) {x y : Int64} {off : Int} (tgt : Nat) (hd : decode cc pc = .ok (.lcmp, 1)) (hd2 : decode cc (pc + 1) = .ok (.ifCond .lt off, 3)) (ht : ((pc + 1 : Nat) : Int) + off = (tgt : Int)) (kt : x < y → G Γ cn sn tgt lv st ws) (kf : ¬ x < y → G Γ cn sn (pc + 4) lv st ws) : G Γ cn sn pc lv (.long y :: .long x :: st) ws :=
  g_lcmp C hd (g_if_lt C tgt hd2 ht (fun z => kt ((lgc_lt x y).mp z)) (fun z => kf (fun h => z ((lgc_lt x y).mpr h))))
theorem lgc_ge (x y : Int64) : (0 ≤ lg_cmp x y) ↔ (y ≤ x) := by
  rcases g_tri x y with ⟨h, e⟩ | ⟨h, e⟩ | ⟨h, e⟩ <;> rw [e] <;> simp only [Int64.lt_iff_toInt_lt, Int64.le_iff_toInt_le, ← Int64.toInt_inj] at h ⊢ <;> first | exact iff_of_true (by decide) (by omega) | exact iff_of_false (by decide) (by omega)
theorem g_lge (C : Cx Γ cc own nL D tys rm ret mc ms Post) {x y : Int64} {off : Int} (tgt : Nat) (hd : decode cc pc = .ok (.lcmp, 1)) (hd2 : decode cc (pc + 1) = .ok (.ifCond .ge off, 3)) (ht : ((pc + 1 : Nat) : Int) + off = (tgt : Int)) (kt : y ≤ x → G Γ cn sn tgt lv st ws) (kf : ¬ y ≤ x → G Γ cn sn (pc + 4) lv st ws) : G Γ cn sn pc lv (.long y :: .long x :: st) ws :=
  g_lcmp C hd (g_if_ge C tgt hd2 ht (fun z => kt ((lgc_ge x y).mp z)) (fun z => kf (fun h => z ((lgc_ge x y).mpr h))))
theorem lgc_gt (x y : Int64) : (0 < lg_cmp x y) ↔ (y < x) := by
  rcases g_tri x y with ⟨h, e⟩ | ⟨h, e⟩ | ⟨h, e⟩ <;> rw [e] <;> simp only [Int64.lt_iff_toInt_lt, Int64.le_iff_toInt_le, ← Int64.toInt_inj] at h ⊢ <;> first | exact iff_of_true (by decide) (by omega) | exact iff_of_false (by decide) (by omega)
theorem g_lgt (C : Cx Γ cc own nL D tys rm ret mc ms Post) {x y : Int64} {off : Int} (tgt : Nat) (hd : decode cc pc = .ok (.lcmp, 1)) (hd2 : decode cc (pc + 1) = .ok (.ifCond .gt off, 3)) (ht : ((pc + 1 : Nat) : Int) + off = (tgt : Int)) (kt : y < x → G Γ cn sn tgt lv st ws) (kf : ¬ y < x → G Γ cn sn (pc + 4) lv st ws) : G Γ cn sn pc lv (.long y :: .long x :: st) ws :=
  g_lcmp C hd (g_if_gt C tgt hd2 ht (fun z => kt ((lgc_gt x y).mp z)) (fun z => kf (fun h => z ((lgc_gt x y).mpr h))))
theorem lgc_le (x y : Int64) : (lg_cmp x y ≤ 0) ↔ (x ≤ y) := by
  rcases g_tri x y with ⟨h, e⟩ | ⟨h, e⟩ | ⟨h, e⟩ <;> rw [e] <;> simp only [Int64.lt_iff_toInt_lt, Int64.le_iff_toInt_le, ← Int64.toInt_inj] at h ⊢ <;> first | exact iff_of_true (by decide) (by omega) | exact iff_of_false (by decide) (by omega)
theorem g_lle (C : Cx Γ cc own nL D tys rm ret mc ms Post) {x y : Int64} {off : Int} (tgt : Nat) (hd : decode cc pc = .ok (.lcmp, 1)) (hd2 : decode cc (pc + 1) = .ok (.ifCond .le off, 3)) (ht : ((pc + 1 : Nat) : Int) + off = (tgt : Int)) (kt : x ≤ y → G Γ cn sn tgt lv st ws) (kf : ¬ x ≤ y → G Γ cn sn (pc + 4) lv st ws) : G Γ cn sn pc lv (.long y :: .long x :: st) ws :=
  g_lcmp C hd (g_if_le C tgt hd2 ht (fun z => kt ((lgc_le x y).mp z)) (fun z => kf (fun h => z ((lgc_le x y).mpr h))))
end GROWS
