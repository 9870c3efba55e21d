/-! the base of the walks that gen.py lays: array types, whole numbers read as Int, cuts, nest words -/
abbrev ty3 (cI cD cJ : ClassId) : List (ClassId × FieldType) := [(cI, .int), (cD, .double), (cJ, .long)]
theorem fa_lt (a b : Int32) : a < b ↔ a.toInt < b.toInt := Int32.lt_iff_toInt_lt
theorem fa_le (a b : Int32) : a ≤ b ↔ a.toInt ≤ b.toInt := Int32.le_iff_toInt_le
theorem fa_eq (a b : Int32) : a = b ↔ a.toInt = b.toInt := ⟨fun h => congrArg _ h, Int32.toInt_inj.mp⟩
theorem ti_b (x : Int32) : -2147483648 ≤ x.toInt ∧ x.toInt < 2147483648 := by
  have h1 := Int32.le_toInt x
  have h2 := Int32.toInt_lt x
  omega
theorem ti_add {x a b : Int32} (h : x = a + b) : (-2147483648 ≤ x.toInt ∧ x.toInt < 2147483648) ∧ (x.toInt = a.toInt + b.toInt ∨ (x.toInt = a.toInt + b.toInt - 4294967296 ∧ 2147483648 ≤ a.toInt + b.toInt) ∨ (x.toInt = a.toInt + b.toInt + 4294967296 ∧ a.toInt + b.toInt < -2147483648)) := by
  subst h
  have h0 := ti_b (a + b)
  have h1 := ti_b a
  have h2 := ti_b b
  have h3 := Int32.toInt_add a b
  simp only [Int.bmod] at h3
  refine ⟨h0, ?_⟩
  split at h3 <;> omega
theorem ti_sub {x a b : Int32} (h : x = a - b) : (-2147483648 ≤ x.toInt ∧ x.toInt < 2147483648) ∧ (x.toInt = a.toInt - b.toInt ∨ (x.toInt = a.toInt - b.toInt - 4294967296 ∧ 2147483648 ≤ a.toInt - b.toInt) ∨ (x.toInt = a.toInt - b.toInt + 4294967296 ∧ a.toInt - b.toInt < -2147483648)) := by
  subst h
  have h0 := ti_b (a - b)
  have h1 := ti_b a
  have h2 := ti_b b
  have h3 := Int32.toInt_sub a b
  simp only [Int.bmod] at h3
  refine ⟨h0, ?_⟩
  split at h3 <;> omega
theorem zz_cap {p : Program} {l : Launch} {e : Env} {R : Room} {s : State} {m : MethodId} {args : Array Value} {below : List Frame} {meth : Method} {c : Code} {H : Heap} {locs : List Loc} {cells slots : Nat} {Q : State → Prop} {g : JFrame} (k : ∀ Z : Nat → Nat → Heap → List Loc → JFrame → Prop, (∀ {a b : Nat} {H : Heap} {locs : List Loc} {g : JFrame}, Z a b H locs g → W p l e R s m args below meth c H locs a b Q g) → (∀ {a b : Nat} {H : Heap} {locs : List Loc} {g : JFrame}, W p l e R s m args below meth c H locs a b Q g → Z a b H locs g) → W p l e R s m args below meth c H locs cells slots Q g) : W p l e R s m args below meth c H locs cells slots Q g :=
  k (fun a b H locs g => W p l e R s m args below meth c H locs a b Q g) (fun h => h) (fun h => h)
theorem zz_capD {p : Program} {l : Launch} {e : Env} {R : Room} {s : State} {m : MethodId} {args : Array Value} {below : List Frame} {meth : Method} {c : Code} {H : Heap} {locs : List Loc} {cells slots : Nat} {Q : State → Prop} {g : JFrame} {d0 : Drawn} (k : ∀ Z : Drawn → Nat → Nat → Heap → List Loc → JFrame → Prop, (∀ {d : Drawn} {a b : Nat} {H : Heap} {locs : List Loc} {g : JFrame}, Z d a b H locs g → W p l e R (s.setDrawn d) m args below meth c H locs a b Q g) → (∀ {d : Drawn} {a b : Nat} {H : Heap} {locs : List Loc} {g : JFrame}, W p l e R (s.setDrawn d) m args below meth c H locs a b Q g → Z d a b H locs g) → W p l e R (s.setDrawn d0) m args below meth c H locs cells slots Q g) : W p l e R (s.setDrawn d0) m args below meth c H locs cells slots Q g :=
  k (fun d a b H locs g => W p l e R (s.setDrawn d) m args below meth c H locs a b Q g) (fun h => h) (fun h => h)
theorem va_Ksame_I {D : va_G} {cl : List vw_C} {s : State} {cI cD cJ cX : ClassId} (hK : va_K D cl (ty3 cI cD cJ) s) (hK9 : va_K D cl (ty3 cI cD cJ ++ [(cX, .int)]) s) : cI = cX := by
  have h1 := (hK.2 0 (cI, .int) rfl).2
  have h2 := (hK9.2 3 (cX, .int) rfl).2
  exact Option.some.inj (Eq.trans (Eq.symm h1) h2)
theorem va_Ksame_D {D : va_G} {cl : List vw_C} {s : State} {cI cD cJ cX : ClassId} (hK : va_K D cl (ty3 cI cD cJ) s) (hK9 : va_K D cl (ty3 cI cD cJ ++ [(cX, .double)]) s) : cD = cX := by
  have h1 := (hK.2 1 (cD, .double) rfl).2
  have h2 := (hK9.2 3 (cX, .double) rfl).2
  exact Option.some.inj (Eq.trans (Eq.symm h1) h2)
theorem va_Ksame_J {D : va_G} {cl : List vw_C} {s : State} {cI cD cJ cX : ClassId} (hK : va_K D cl (ty3 cI cD cJ) s) (hK9 : va_K D cl (ty3 cI cD cJ ++ [(cX, .long)]) s) : cJ = cX := by
  have h1 := (hK.2 2 (cJ, .long) rfl).2
  have h2 := (hK9.2 3 (cX, .long) rfl).2
  exact Option.some.inj (Eq.trans (Eq.symm h1) h2)
def nw_0 : Cond := .methodLinkNest RX11 15 yX10_init RX11
def nw_1 : Cond := .methodLinkNest RX11 22 yX9_init RX11
def nw_2 : Cond := .methodLinkNest RX9 11 yX7_init RX11
def nw_3 : Cond := .methodLinkNest RX7 11 yX1_init RX11
def nw_4 : Cond := .methodLinkNest RX9 20 yX6_init RX11
def nw_5 : Cond := .methodLinkNest RX9 27 yX3_init RX11
def nw_6 : Cond := .methodLinkNest RX9 34 yX0_init RX11
def nw_7 : Cond := .methodLinkNest RX11 29 yX2_init RX11
def NW (U : State) : Prop := va_Nw nw_0 U ∧ va_Nw nw_1 U ∧ va_Nw nw_2 U ∧ va_Nw nw_3 U ∧ va_Nw nw_4 U ∧ va_Nw nw_5 U ∧ va_Nw nw_6 U ∧ va_Nw nw_7 U
theorem NW.same {u U : State} (h : NW u) (hv : u.vm = U.vm) : NW U := by
  obtain ⟨h0, h1, h2, h3, h4, h5, h6, h7⟩ := h
  exact ⟨va_Nw.same rfl hv h0, va_Nw.same rfl hv h1, va_Nw.same rfl hv h2, va_Nw.same rfl hv h3, va_Nw.same rfl hv h4, va_Nw.same rfl hv h5, va_Nw.same rfl hv h6, va_Nw.same rfl hv h7⟩
theorem NW.warm {s U : State} (hW : s.WarmedH U.vm) (h : NW s) : NW U := by
  obtain ⟨h0, h1, h2, h3, h4, h5, h6, h7⟩ := h
  exact ⟨va_Nw.warmM hW h0, va_Nw.warmM hW h1, va_Nw.warmM hW h2, va_Nw.warmM hW h3, va_Nw.warmM hW h4, va_Nw.warmM hW h5, va_Nw.warmM hW h6, va_Nw.warmM hW h7⟩
theorem nz01 {x : Int32} (h : x.toInt = 0 ∨ x.toInt = 1) : narrow .boolean (.int x) = .int x := by
  rcases h with h | h
  · have e : x = 0 := (fa_eq x 0).mpr (by rw [h]; decide)
    rw [e]; rfl
  · have e : x = 1 := (fa_eq x 1).mpr (by rw [h]; decide)
    rw [e]; rfl
/-- in the range of set -/
def inR (v : UInt64) : Prop := 0 < (Op.cmpValue (FP.dcmp v 18318360957983683996) CmpOp.l).toInt ∧ (Op.cmpValue (FP.dcmp v 9094988921128908188) CmpOp.g).toInt < 0
/-- a zero has no sign -/
def nzd (v : UInt64) : UInt64 := if Op.cmpValue (FP.dcmp v FP.dconst0) CmpOp.l = 0 then FP.dconst0 else v
def rbad (wh : Int32) (v : UInt64) : Prop := wh.toInt < 0 ∨ 3 < wh.toInt ∨ (wh.toInt = 3 ∧ (Op.cmpValue (FP.dcmp v FP.dconst0) CmpOp.l).toInt = 0)
def rk (wh : Int32) (a v : UInt64) : UInt64 := if wh.toInt = 0 then FP.dadd a v else if wh.toInt = 1 then FP.dsub a v else if wh.toInt = 2 then FP.dmul a v else FP.ddiv a v
theorem rk_0 {wh : Int32} {a v r : UInt64} (h : wh.toInt = 0) (ha : alike64 r (FP.dadd a v) = true) : alike64 r (rk wh a v) = true := by
  unfold rk; rw [if_pos h]; exact ha
theorem rk_1 {wh : Int32} {a v r : UInt64} (h : wh.toInt = 1) (ha : alike64 r (FP.dsub a v) = true) : alike64 r (rk wh a v) = true := by
  unfold rk; rw [if_neg (by omega), if_pos h]; exact ha
theorem rk_2 {wh : Int32} {a v r : UInt64} (h : wh.toInt = 2) (ha : alike64 r (FP.dmul a v) = true) : alike64 r (rk wh a v) = true := by
  unfold rk; rw [if_neg (by omega), if_neg (by omega), if_pos h]; exact ha
theorem rk_3 {wh : Int32} {a v r : UInt64} (h : ¬ (wh.toInt = 0 ∨ wh.toInt = 1 ∨ wh.toInt = 2)) (ha : alike64 r (FP.ddiv a v) = true) : alike64 r (rk wh a v) = true := by
  unfold rk; rw [if_neg (by omega), if_neg (by omega), if_neg (by omega)]; exact ha
/-- a method that throws nothing, with a table of its own -/
theorem vx_toMet {l : Launch} {y : MethodName} {ws : List Cond} {rm : Room} {Pc : Array Value → State → Prop} {Qc : Array Value → State → Outcome → State → Prop} {mc ms : Nat} {free : Addr → Prop} (h : vx_Met l y ws rm Pc Qc (fun _ _ _ => False) mc ms free) : Met l y ws rm Pc Qc mc ms free := by
  intro p e ha hc hk s m args below hf happ hP hK
  obtain ⟨n, o, h1, h2, h3, h4⟩ := h p e ha hc hk s m args below hf happ hP hK
  refine ⟨n, o, h1, h2, h3, ?_⟩
  rcases h4 with h4 | ⟨q, -, E, ce, L, h5, -⟩
  · exact h4
  · exact h5.elim
theorem tyOf_I {args : Array Value} {s : State} (h : (Cond.arrayClass .int).before args s = true) : ∃ cA : ClassId, ArrOfT s cA .int ∧ va_RA s cA .int := by
  obtain ⟨cA, kA, comp, h1, h2, h3⟩ := Cond.arrayClass_spec h
  exact ⟨cA, fun n z => ⟨fun k h => (by cases h), kA, h2, comp, h3⟩, h1⟩
theorem tyOf_D {args : Array Value} {s : State} (h : (Cond.arrayClass .double).before args s = true) : ∃ cA : ClassId, ArrOfT s cA .double ∧ va_RA s cA .double := by
  obtain ⟨cA, kA, comp, h1, h2, h3⟩ := Cond.arrayClass_spec h
  exact ⟨cA, fun n z => ⟨fun k h => (by cases h), kA, h2, comp, h3⟩, h1⟩
theorem tyOf_J {args : Array Value} {s : State} (h : (Cond.arrayClass .long).before args s = true) : ∃ cA : ClassId, ArrOfT s cA .long ∧ va_RA s cA .long := by
  obtain ⟨cA, kA, comp, h1, h2, h3⟩ := Cond.arrayClass_spec h
  exact ⟨cA, fun n z => ⟨fun k h => (by cases h), kA, h2, comp, h3⟩, h1⟩
/-- the words of a thrown exception, of which those that are not good stand apart -/
def isE : String := "java/lang/IllegalStateException"
def isN : List String := ["java/lang/RuntimeException", "java/lang/Exception"]
theorem newI (n : Nat) : ∀ cA : ClassId, vp_cell cA (n, .inl (fun _ => 0)) = arrV cA n (fun _ => defaultValue .int) := fun _ => rfl
theorem newJ (n : Nat) : ∀ cA : ClassId, vp_cell cA (n, .inr (.inl (fun _ => 0))) = arrV cA n (fun _ => defaultValue .long) := fun _ => rfl
theorem newD (n : Nat) : ∀ cA : ClassId, vp_cell cA (n, .inr (.inr (.inr (.inl (fun _ => 0))))) = arrV cA n (fun _ => defaultValue .double) := fun _ => rfl
def xwL : List Cond := (vx_atS RX11 99 isE isN).filter (fun w => !goodWord w)
theorem xwL_ok : ∀ w ∈ xwL, w.onTables = true ∧ w.keepsFace = true := by decide +kernel
def XW (U : State) : Prop := ∀ w ∈ xwL, w.before #[] U = true
theorem XW.same {u U : State} (h : XW u) (hv : u.vm = U.vm) : XW U := fun w hw => va_tabs (xwL_ok w hw).1 hv (h w hw)
theorem XW.warm {s U : State} (hW : s.WarmedH U.vm) (h : XW s) : XW U := fun w hw => va_tabs (xwL_ok w hw).1 (rfl : (s.setVm U.vm).vm = U.vm) (Cond.before_shiftedFace (State.Shifted.of_warmed hW) w (xwL_ok w hw).2 (h w hw))
def EXC (A : Nat → Prop) (sa : Nat) (U : State) (H : Heap) : Prop := vk_R RX11 97 "there is no format" sa U ∧ vx_Zq Jvm.Bundle.tN "UNASSIGNED_STACK" Jvm.Bundle.steD A U H ∧ vx_Zq Jvm.Bundle.tN "SUPPRESSED_SENTINEL" Jvm.Bundle.listD A U H ∧ va_Nw (.castable isE isE) U ∧ XW U
theorem EXC.same {A : Nat → Prop} {sa : Nat} {u U : State} {H : Heap} (h : EXC A sa u H) (hv : u.vm = U.vm) : EXC A sa U H := by
  obtain ⟨h1, h2, h3, h4, h5⟩ := h
  have ha : u.vm.Alike U.vm := by rw [hv]; exact Vm.Alike.refl _
  exact ⟨vk_R.same hv.symm h1, vx_Zq.moved ha h2, vx_Zq.moved ha h3, va_Nw.same rfl hv h4, h5.same hv⟩
theorem EXC.warm {A : Nat → Prop} {sa : Nat} {s U : State} {H0 H : Heap} {locs : List Loc} (hW : s.WarmedH U.vm) (h : EXC A sa s H0) (hS : va_S A H0 H locs) : EXC (fun _ => False) sa U H := by
  obtain ⟨h1, h2, h3, h4, h5⟩ := h
  exact ⟨vk_R.warm hW h1, ((vx_Zq.moved hW.alike h2).kept (fun a x y => hS.2.1 a x y)).narrow (fun q h => h.elim), ((vx_Zq.moved hW.alike h3).kept (fun a x y => hS.2.1 a x y)).narrow (fun q h => h.elim), va_Nw.warmC hW h4, h5.warm hW⟩
def xgL : List Cond := (vx_atS RX11 99 isE isN).filter goodWord
theorem exc_m : ∀ w ∈ xgL, w ∈ lw_tbl := by decide +kernel
theorem exc_k : ∀ w ∈ xgL, goodWord w = true := fun w h => (List.mem_filter.mp h).2
theorem exc_g : ∀ w ∈ Cond.classLink RX11 95 isE :: Cond.initialized isE :: vx_atS RX11 99 isE isN, vx_ot w = true := by decide +kernel
theorem exc_hat {args : Array Value} {s : State} (h1 : ∀ w ∈ xgL, w.before args s = true) (h : XW s) : ∀ w ∈ vx_atS RX11 99 isE isN, w.before args s = true :=
  vx_hat (B := xwL) h1 (fun w hw => hw) (fun w hw => va_tabs (xwL_ok w hw).1 rfl (h w hw))
theorem fa_lt64 (a b : Int64) : a < b ↔ a.toInt < b.toInt := Int64.lt_iff_toInt_lt
theorem tl_b (x : Int64) : -9223372036854775808 ≤ x.toInt ∧ x.toInt < 9223372036854775808 := by
  have h1 := Int64.le_toInt x
  have h2 := Int64.toInt_lt x
  omega
theorem tl_i2l {y : Int64} {x : Int32} (h : y = x.toInt64) : y.toInt = x.toInt := by
  rw [h]; exact Int32.toInt_toInt64 x
theorem ti_l2i {y : Int32} {x : Int64} (_ : y = x.toInt32) : -2147483648 ≤ y.toInt ∧ y.toInt < 2147483648 := ti_b y
theorem tl_add {x a b : Int64} (h : x = a + b) : (-9223372036854775808 ≤ x.toInt ∧ x.toInt < 9223372036854775808) ∧ (x.toInt = a.toInt + b.toInt ∨ (x.toInt = a.toInt + b.toInt - 18446744073709551616 ∧ 9223372036854775808 ≤ a.toInt + b.toInt) ∨ (x.toInt = a.toInt + b.toInt + 18446744073709551616 ∧ a.toInt + b.toInt < -9223372036854775808)) := by
  subst h
  have h0 := tl_b (a + b)
  have h1 := tl_b a
  have h2 := tl_b b
  have h3 := Int64.toInt_add a b
  simp only [Int.bmod] at h3
  refine ⟨h0, ?_⟩
  split at h3 <;> omega
theorem tl_sub {x a b : Int64} (h : x = a - b) : (-9223372036854775808 ≤ x.toInt ∧ x.toInt < 9223372036854775808) ∧ (x.toInt = a.toInt - b.toInt ∨ (x.toInt = a.toInt - b.toInt - 18446744073709551616 ∧ 9223372036854775808 ≤ a.toInt - b.toInt) ∨ (x.toInt = a.toInt - b.toInt + 18446744073709551616 ∧ a.toInt - b.toInt < -9223372036854775808)) := by
  subst h
  have h0 := tl_b (a - b)
  have h1 := tl_b a
  have h2 := tl_b b
  have h3 := Int64.toInt_sub a b
  simp only [Int.bmod] at h3
  refine ⟨h0, ?_⟩
  split at h3 <;> omega
theorem ti_lcmp {c : Int32} {x y : Int64} (h : c = lg_cmp x y) : (c.toInt = 1 ∧ y.toInt < x.toInt) ∨ (c.toInt = 0 ∧ x.toInt = y.toInt) ∨ (c.toInt = -1 ∧ x.toInt < y.toInt) := by
  unfold lg_cmp at h
  split at h
  · rename_i h1
    rw [h]; exact Or.inl ⟨by decide, (fa_lt64 y x).mp h1⟩
  · rename_i h1
    have h2 : ¬ y.toInt < x.toInt := fun h9 => h1 ((fa_lt64 y x).mpr h9)
    split at h
    · rename_i h3
      rw [h, h3]; exact Or.inr (Or.inl ⟨by decide, rfl⟩)
    · rename_i h3
      have h4 : x.toInt ≠ y.toInt := fun h9 => h3 (Int64.toInt_inj.mp h9)
      rw [h]; exact Or.inr (Or.inr ⟨by decide, by omega⟩)
theorem td_pos {x y : Int} (hx : 0 ≤ x) (hy : 0 < y) : 0 ≤ x.tdiv y ∧ x.tdiv y ≤ x ∧ x.tdiv y * y ≤ x ∧ x < x.tdiv y * y + y ∧ 0 ≤ x.tmod y ∧ x.tmod y ≤ x ∧ x.tmod y < y ∧ 0 ≤ x.tdiv y * y := by
  have e1 := Int.tmod_add_mul_tdiv x y
  have e2 := Int.tmod_nonneg y hx
  have e3 := Int.tmod_lt_of_pos x hy
  have e4 : 0 ≤ x.tdiv y := Int.tdiv_nonneg hx (by omega)
  have e8 : 0 ≤ x.tdiv y * y := Int.mul_nonneg e4 (by omega)
  have e5 : 0 ≤ x.tdiv y * (y - 1) := Int.mul_nonneg e4 (by omega)
  have e6 : x.tdiv y * (y - 1) = x.tdiv y * y - x.tdiv y := by rw [Int.mul_sub, Int.mul_one]
  have e7 : y * x.tdiv y = x.tdiv y * y := Int.mul_comm _ _
  omega
/-- a quotient by a number above 0 -/
theorem tl_div {z x y : Int64} (h : z = x / y) (hy : 0 < y.toInt ∧ y ≠ -1) : (0 ≤ x.toInt → 0 ≤ z.toInt ∧ z.toInt ≤ x.toInt ∧ z.toInt * y.toInt ≤ x.toInt ∧ x.toInt < z.toInt * y.toInt + y.toInt) ∧ (x.toInt ≤ 0 → z.toInt ≤ 0 ∧ x.toInt ≤ z.toInt) := by
  have h1 : z.toInt = x.toInt.tdiv y.toInt := by rw [h]; exact Int64.toInt_div_of_ne_right x y hy.2
  rw [h1]
  refine ⟨fun hx => ?_, fun hx => ?_⟩
  · have := td_pos hx hy.1
    omega
  · have g := td_pos (show 0 ≤ -x.toInt by omega) hy.1
    rw [Int.neg_tdiv] at g
    omega
theorem tl_rem {z x y : Int64} (h : z = x - x / y * y) (hy : 0 < y.toInt ∧ y ≠ -1) : (0 ≤ x.toInt → 0 ≤ z.toInt ∧ z.toInt ≤ x.toInt) ∧ (x.toInt ≤ 0 → z.toInt ≤ 0) ∧ -y.toInt < z.toInt ∧ z.toInt < y.toInt := by
  obtain ⟨q, hq⟩ : ∃ q, q = x / y := ⟨_, rfl⟩
  have h1 : q.toInt = x.toInt.tdiv y.toInt := by rw [hq]; exact Int64.toInt_div_of_ne_right x y hy.2
  have b1 := tl_b x
  have b2 := tl_b z
  have b3 := tl_b y
  have hm : (x / y * y).toInt = x.toInt.tdiv y.toInt * y.toInt := by
    rw [← hq, Int64.toInt_mul, h1]
    rcases Int.le_total 0 x.toInt with hx | hx
    · have g := td_pos hx hy.1
      simp only [Int.bmod]
      split <;> omega
    · have g := td_pos (show 0 ≤ -x.toInt by omega) hy.1
      rw [Int.neg_tdiv, Int.neg_mul] at g
      simp only [Int.bmod]
      split <;> omega
  have h3 := tl_sub h
  rw [hm] at h3
  rcases Int.le_total 0 x.toInt with hx | hx
  · have g := td_pos hx hy.1
    omega
  · have g := td_pos (show 0 ≤ -x.toInt by omega) hy.1
    rw [Int.neg_tdiv, Int.neg_mul] at g
    omega
theorem ti_div {z x y : Int32} (h : z = x / y) (hy : 0 < y.toInt ∧ y ≠ -1) : (0 ≤ x.toInt → 0 ≤ z.toInt ∧ z.toInt ≤ x.toInt ∧ z.toInt * y.toInt ≤ x.toInt ∧ x.toInt < z.toInt * y.toInt + y.toInt) ∧ (x.toInt ≤ 0 → z.toInt ≤ 0 ∧ x.toInt ≤ z.toInt) := by
  have h1 : z.toInt = x.toInt.tdiv y.toInt := by rw [h]; exact Int32.toInt_div_of_ne_right x y hy.2
  rw [h1]
  refine ⟨fun hx => ?_, fun hx => ?_⟩
  · have := td_pos hx hy.1
    omega
  · have g := td_pos (show 0 ≤ -x.toInt by omega) hy.1
    rw [Int.neg_tdiv] at g
    omega
theorem ti_rem {z x y : Int32} (h : z = x - x / y * y) (hy : 0 < y.toInt ∧ y ≠ -1) : (0 ≤ x.toInt → 0 ≤ z.toInt ∧ z.toInt ≤ x.toInt) ∧ (x.toInt ≤ 0 → z.toInt ≤ 0) ∧ -y.toInt < z.toInt ∧ z.toInt < y.toInt := by
  obtain ⟨q, hq⟩ : ∃ q, q = x / y := ⟨_, rfl⟩
  have h1 : q.toInt = x.toInt.tdiv y.toInt := by rw [hq]; exact Int32.toInt_div_of_ne_right x y hy.2
  have b1 := ti_b x
  have b2 := ti_b z
  have b3 := ti_b y
  have hm : (x / y * y).toInt = x.toInt.tdiv y.toInt * y.toInt := by
    rw [← hq, Int32.toInt_mul, h1]
    rcases Int.le_total 0 x.toInt with hx | hx
    · have g := td_pos hx hy.1
      simp only [Int.bmod]
      split <;> omega
    · have g := td_pos (show 0 ≤ -x.toInt by omega) hy.1
      rw [Int.neg_tdiv, Int.neg_mul] at g
      simp only [Int.bmod]
      split <;> omega
  have h3 := ti_sub h
  rw [hm] at h3
  rcases Int.le_total 0 x.toInt with hx | hx
  · have g := td_pos hx hy.1
    omega
  · have g := td_pos (show 0 ≤ -x.toInt by omega) hy.1
    rw [Int.neg_tdiv, Int.neg_mul] at g
    omega
theorem ti_i2c {z x : Int32} (_ : z = (x.toUInt32 % 65536).toInt32) : -2147483648 ≤ z.toInt ∧ z.toInt < 2147483648 := ti_b z
theorem ft01 {x : Int32} (h : x.toInt = 0 ∨ x.toInt = 1) : fits .boolean (.int x) = true := by
  rcases h with h | h
  · have e : x = 0 := (fa_eq x 0).mpr (by rw [h]; decide)
    rw [e]; rfl
  · have e : x = 1 := (fa_eq x 1).mpr (by rw [h]; decide)
    rw [e]; rfl
