def ow_X1_push : List Cond := [Cond.fieldLink RX1 23 "NumberFormats$Decimal" "used" "I", Cond.fieldLink RX1 7 "NumberFormats$Decimal" "limbs" "[J"]
def pw_X1_push : List Cond := Cond.code yX1_push cX1_push 3 none :: (ow_X1_push ++ (wsX10))
set_option maxRecDepth 20000 in
theorem mo_X1_push : ∀ w ∈ ow_X1_push, w ∈ lw_tbl := by decide +kernel
set_option maxRecDepth 20000 in
theorem mc_X1_push : Cond.code yX1_push cX1_push 3 none ∈ lw_tbl := by decide +kernel
theorem m_X1_push : ∀ w ∈ pw_X1_push, w ∈ lw_tbl := List.forall_mem_cons.mpr ⟨mc_X1_push, (List.forall_mem_append.mpr ⟨mo_X1_push, inX1⟩)⟩
theorem ko_X1_push : ∀ w ∈ ow_X1_push, goodWord w = true := by decide +kernel
theorem k_X1_push : pw_X1_push.all goodWord = true := List.all_eq_true.mpr (List.forall_mem_cons.mpr ⟨by decide +kernel, (List.forall_mem_append.mpr ⟨ko_X1_push, kX_X1⟩)⟩)
set_option maxHeartbeats 400000 in
set_option maxRecDepth 100000 in
theorem c_X1_push (l : Launch) (D : va_G) (cI cD cJ : ClassId) (sz : Nat) (d : Nat) (d_limbs : Nat) (d_digits : Nat) (d_used : Int32) (d_count : Int32) (d_scale : Int32) (d_limbsF : Nat → Int64) (p1 : Int64) (iv_d_used : 0 ≤ (d_used : Int32).toInt ∧ (d_used : Int32).toInt ≤ 100) (iv_d_count : 0 ≤ (d_count : Int32).toInt ∧ (d_count : Int32).toInt ≤ 910) : Met l yX1_push pw_X1_push ({ frames := 0, cells := 0, slots := 0, locals := 0 }) (va_Pc [.ref d, .long p1] (fun U => U.heap.size = sz ∧ va_P D vwCl [(d, .inr (1, [.ref d_limbs, .ref d_digits, .int d_used, .int d_count, .int d_scale])), (d_limbs, .inl (cJ, 100, .inr (.inl d_limbsF)))] U.heap ∧ va_K D vwCl (ty3 cI cD cJ) U ∧ va_D (fun _ => True) [(d, .inr (1, [.ref d_limbs, .ref d_digits, .int d_used, .int d_count, .int d_scale])), (d_limbs, .inl (cJ, 100, .inr (.inl d_limbsF)))])) (va_Qv (fun (u : Int32 × (Nat → Int64)) => match u with | (d_used2, d_limbsF2) => (0 ≤ (d_used2 : Int32).toInt ∧ (d_used2 : Int32).toInt ≤ 100)) (fun (u : Int32 × (Nat → Int64)) (t : State) => match u with | (d_used2, d_limbsF2) => va_P D vwCl [(d, .inr (1, [.ref d_limbs, .ref d_digits, .int d_used2, .int d_count, .int d_scale])), (d_limbs, .inl (cJ, 100, .inr (.inl d_limbsF2)))] t.heap ∧ va_K D vwCl (ty3 cI cD cJ) t ∧ va_D (va_A [(d, .inr (1, [.ref d_limbs, .ref d_digits, .int d_used, .int d_count, .int d_scale])), (d_limbs, .inl (cJ, 100, .inr (.inl d_limbsF)))] sz) [(d, .inr (1, [.ref d_limbs, .ref d_digits, .int d_used2, .int d_count, .int d_scale])), (d_limbs, .inl (cJ, 100, .inr (.inl d_limbsF2)))]) (va_A [(d, .inr (1, [.ref d_limbs, .ref d_digits, .int d_used, .int d_count, .int d_scale])), (d_limbs, .inl (cJ, 100, .inr (.inl d_limbsF)))] sz)) 0 0 (va_A [(d, .inr (1, [.ref d_limbs, .ref d_digits, .int d_used, .int d_count, .int d_scale])), (d_limbs, .inl (cJ, 100, .inr (.inl d_limbsF)))] sz) := by
  refine Met.ofW (cc := cX1_push) (maxL := 3) (ret := none) (by decide +kernel) rfl ?_
  intro p e s m args below meth c s₁ B hml hv
  obtain ⟨rfl, hsz, hP, hK, hD0⟩ := hv
  have hx := B.exec
  have hb := B.bytes
  have hr := B.returns
  have hts := atoms_spec (ws := pw_X1_push) B.pre
  have hown : s.vm.findClass RX1 = some m.cls := findClass_of_methodNamed B.named
  have hlocks := B.notSynchronized
  subst hsz
  have hD := hD0.self (sz := s.heap.size)
  generalize hAe : va_A [(d, .inr (1, [.ref d_limbs, .ref d_digits, .int d_used, .int d_count, .int d_scale])), (d_limbs, .inl (cJ, 100, .inr (.inl d_limbsF)))] s.heap.size = A at hD ⊢
  have hA : ∀ q : Nat, s.heap.size ≤ q → A q := fun q h => by rw [← hAe]; exact Or.inr h
  have hS : va_S A s.heap s.heap [] := va_S.rf
  have hw : ∀ (k : Nat) (w : Cond), ow_X1_push[k]? = some w → w.before _ s = true := fun k w h => hts w (List.mem_cons_of_mem _ (have h9 := List.mem_of_getElem? h; List.mem_append_left _ h9))
  have iX1 : ∀ w ∈ u_ws RX1 TX1 5, w ∈ pw_X1_push := fun w h9 => List.mem_cons_of_mem _ (List.mem_append_right _ (h9))
  have n_1 : ((1 : Int32)).toInt = 1 := by decide
  have n_100 : ((100 : Int32)).toInt = 100 := by decide
  have hl := lv_entry ([.ref d, .long p1]) (n := 3) (Nat.le_of_ble_eq_true rfl)
  rw [lg_entry_eq]
  generalize (lg_sl ([.ref d, .long p1]) ++ List.replicate (3 - (lg_sl ([.ref d, .long p1])).length) Slot.unset).toArray = ls at hl ⊢
  have hl : lv_has ls 3 [(0, .ref d), (1, .long p1)] := hl
  refine lv_aload_n hx hb dX1_push_0 rfl (lv_at hl 0 rfl) ?_
  refine va_get (D := D) (ci := 1) (v := .int d_used) (C := RX1) (T := TX1) (N := 5) hx hb hts iX1 hown hK hP 0 rfl rfl 2 (by decide) (hw 0 (.fieldLink RX1 23 "NumberFormats$Decimal" "used" "I") rfl) (fun _ h9 => h9) rfl dX1_push_1 ?_
  refine lv_aload_n hx hb dX1_push_4 rfl (lv_at hl 0 rfl) ?_
  refine va_get (D := D) (ci := 1) (v := .ref d_limbs) (C := RX1) (T := TX1) (N := 5) hx hb hts iX1 hown hK hP 0 rfl rfl 0 (by decide) (hw 1 (.fieldLink RX1 7 "NumberFormats$Decimal" "limbs" "[J") rfl) (fun _ h9 => h9) rfl dX1_push_5 ?_
  refine va_alen hx hb hK hP 1 2 rfl rfl (v := 100) rfl dX1_push_8 ?_
  refine lv_icmp_ge (tgt := 32) hx hb dX1_push_9 (by decide) (fun c_1 => ?_) (fun c_1 => ?_)
  · have ic_1 : (100 : Int32).toInt ≤ (d_used : Int32).toInt := (fa_le 100 d_used).mp c_1
    have hP9 := hP.sub (ws' := [(d, .inr (1, [.ref d_limbs, .ref d_digits, .int d_used, .int d_count, .int d_scale])), (d_limbs, .inl (cJ, 100, .inr (.inl d_limbsF)))]) [0, 1] rfl
    have hD9 := hD.sub (ws' := [(d, .inr (1, [.ref d_limbs, .ref d_digits, .int d_used, .int d_count, .int d_scale])), (d_limbs, .inl (cJ, 100, .inr (.inl d_limbsF)))]) [0, 1] (by decide) rfl
    exact W.vret hx hb hr (fun t ht hW => ⟨⟨(d_used, d_limbsF), rfl, (by (try dsimp only); first | omega | assumption), by rw [ht]; exact hP9, va_K.moved hW.alike hK, hD9⟩, hS.F ht⟩) hS.2.2 dX1_push_32
  · have ic_1 : ¬ ((100 : Int32).toInt ≤ (d_used : Int32).toInt) := fun h9 => c_1 ((fa_le 100 d_used).mpr h9)
    refine lv_aload_n hx hb dX1_push_12 rfl (lv_at hl 0 rfl) ?_
    refine va_get (D := D) (ci := 1) (v := .ref d_limbs) (C := RX1) (T := TX1) (N := 5) hx hb hts iX1 hown hK hP 0 rfl rfl 0 (by decide) (hw 1 (.fieldLink RX1 7 "NumberFormats$Decimal" "limbs" "[J") rfl) (fun _ h9 => h9) rfl dX1_push_13 ?_
    refine lv_aload_n hx hb dX1_push_16 rfl (lv_at hl 0 rfl) ?_
    refine va_get (D := D) (ci := 1) (v := .int d_used) (C := RX1) (T := TX1) (N := 5) hx hb hts iX1 hown hK hP 0 rfl rfl 2 (by decide) (hw 0 (.fieldLink RX1 23 "NumberFormats$Decimal" "used" "I") rfl) (fun _ h9 => h9) rfl dX1_push_17 ?_
    refine lv_lload_n hx hb dX1_push_20 rfl (lv_at hl 1 rfl) ?_
    have h_21 : vp_in d_used 100 := by rw [vp_in_iff]; omega
    refine va_last hx hb hK hP hD hS 1 2 rfl rfl h_21 dX1_push_21 (fun H locs hP hD hS => ?_)
    obtain ⟨f_2, ef_2⟩ : ∃ y : Nat → Int64, y = vp_updL d_limbsF (d_used : Int32).toNatClampNeg p1 := ⟨_, rfl⟩
    rw [← ef_2] at hP hD
    have hP : va_P D vwCl [(d, .inr (1, [.ref d_limbs, .ref d_digits, .int d_used, .int d_count, .int d_scale])), (d_limbs, .inl (cJ, 100, .inr (.inl f_2)))] H := hP
    have hD : va_D A [(d, .inr (1, [.ref d_limbs, .ref d_digits, .int d_used, .int d_count, .int d_scale])), (d_limbs, .inl (cJ, 100, .inr (.inl f_2)))] := hD
    refine lv_aload_n hx hb dX1_push_22 rfl (lv_at hl 0 rfl) ?_
    refine lv_dup hx hb dX1_push_23 rfl ?_
    refine va_get (D := D) (ci := 1) (v := .int d_used) (C := RX1) (T := TX1) (N := 5) hx hb hts iX1 hown hK hP 0 rfl rfl 2 (by decide) (hw 0 (.fieldLink RX1 23 "NumberFormats$Decimal" "used" "I") rfl) (fun _ h9 => h9) rfl dX1_push_24 ?_
    refine lv_iconst (v := 1) hx hb dX1_push_27 (by decide) ?_
    refine lv_iadd hx hb dX1_push_28 ?_
    refine lv_topi (fun x_3 ex_3 => ?_)
    have tx_3 := ti_add ex_3
    refine va_put (D := D) (ci := 1) (v := .int x_3) (ty := .int) (C := RX1) (T := TX1) (N := 5) hx hb hts iX1 tyX1 tyX1_ok nmX1 hown hK hP hD hS 0 rfl rfl 2 (by decide) (hw 0 (.fieldLink RX1 23 "NumberFormats$Decimal" "used" "I") rfl) (fun _ h9 => h9) rfl (by decide +kernel) rfl rfl (Nat.le_of_ble_eq_true rfl) dX1_push_29 (fun H locs hP hD hS => ?_)
    have hP : va_P D vwCl [(d, .inr (1, [.ref d_limbs, .ref d_digits, .int x_3, .int d_count, .int d_scale])), (d_limbs, .inl (cJ, 100, .inr (.inl f_2)))] H := hP
    have hD : va_D A [(d, .inr (1, [.ref d_limbs, .ref d_digits, .int x_3, .int d_count, .int d_scale])), (d_limbs, .inl (cJ, 100, .inr (.inl f_2)))] := hD
    have hP9 := hP.sub (ws' := [(d, .inr (1, [.ref d_limbs, .ref d_digits, .int x_3, .int d_count, .int d_scale])), (d_limbs, .inl (cJ, 100, .inr (.inl f_2)))]) [0, 1] rfl
    have hD9 := hD.sub (ws' := [(d, .inr (1, [.ref d_limbs, .ref d_digits, .int x_3, .int d_count, .int d_scale])), (d_limbs, .inl (cJ, 100, .inr (.inl f_2)))]) [0, 1] (by decide) rfl
    exact W.vret hx hb hr (fun t ht hW => ⟨⟨(x_3, f_2), rfl, (by (try dsimp only); first | omega | assumption), by rw [ht]; exact hP9, va_K.moved hW.alike hK, hD9⟩, hS.F ht⟩) hS.2.2 dX1_push_32

def ow_X1_multiply : List Cond := [Cond.fieldLink RX1 23 "NumberFormats$Decimal" "used" "I", Cond.methodLink RX1 29 yX1_push, Cond.instanceMethod yX1_push, Cond.selects RX1 yX1_push yX1_push, Cond.initialized RX1, Cond.fieldLink RX1 7 "NumberFormats$Decimal" "limbs" "[J", Cond.constantLong RX1 27 (1000000000)]
def pw_X1_multiply : List Cond := Cond.code yX1_multiply cX1_multiply 7 none :: (ow_X1_multiply ++ (pw_X1_push ++ (wsX10)))
set_option maxRecDepth 20000 in
theorem mo_X1_multiply : ∀ w ∈ ow_X1_multiply, w ∈ lw_tbl := by decide +kernel
set_option maxRecDepth 20000 in
theorem mc_X1_multiply : Cond.code yX1_multiply cX1_multiply 7 none ∈ lw_tbl := by decide +kernel
theorem m_X1_multiply : ∀ w ∈ pw_X1_multiply, w ∈ lw_tbl := List.forall_mem_cons.mpr ⟨mc_X1_multiply, (List.forall_mem_append.mpr ⟨mo_X1_multiply, (List.forall_mem_append.mpr ⟨m_X1_push, inX1⟩)⟩)⟩
theorem ko_X1_multiply : ∀ w ∈ ow_X1_multiply, goodWord w = true := by decide +kernel
theorem k_X1_multiply : pw_X1_multiply.all goodWord = true := List.all_eq_true.mpr (List.forall_mem_cons.mpr ⟨by decide +kernel, (List.forall_mem_append.mpr ⟨ko_X1_multiply, (List.forall_mem_append.mpr ⟨(List.all_eq_true.mp k_X1_push), kX_X1⟩)⟩)⟩)
set_option maxHeartbeats 400000 in
set_option maxRecDepth 100000 in
theorem c_X1_multiply (l : Launch) (D : va_G) (cI cD cJ : ClassId) (sz : Nat) (d : Nat) (d_limbs : Nat) (d_digits : Nat) (d_used : Int32) (d_count : Int32) (d_scale : Int32) (d_limbsF : Nat → Int64) (p1 : Int32) (iv_d_used : 0 ≤ (d_used : Int32).toInt ∧ (d_used : Int32).toInt ≤ 100) (iv_d_count : 0 ≤ (d_count : Int32).toInt ∧ (d_count : Int32).toInt ≤ 910) : Met l yX1_multiply pw_X1_multiply ({ frames := 1, cells := 0, slots := 0, locals := 22 }) (va_Pc [.ref d, .int p1] (fun U => U.heap.size = sz ∧ va_P D vwCl [(d, .inr (1, [.ref d_limbs, .ref d_digits, .int d_used, .int d_count, .int d_scale])), (d_limbs, .inl (cJ, 100, .inr (.inl d_limbsF)))] U.heap ∧ va_K D vwCl (ty3 cI cD cJ) U ∧ va_D (fun _ => True) [(d, .inr (1, [.ref d_limbs, .ref d_digits, .int d_used, .int d_count, .int d_scale])), (d_limbs, .inl (cJ, 100, .inr (.inl d_limbsF)))])) (va_Qv (fun (u : Int32 × (Nat → Int64)) => match u with | (d_used2, d_limbsF2) => (0 ≤ (d_used2 : Int32).toInt ∧ (d_used2 : Int32).toInt ≤ 100)) (fun (u : Int32 × (Nat → Int64)) (t : State) => match u with | (d_used2, d_limbsF2) => va_P D vwCl [(d, .inr (1, [.ref d_limbs, .ref d_digits, .int d_used2, .int d_count, .int d_scale])), (d_limbs, .inl (cJ, 100, .inr (.inl d_limbsF2)))] t.heap ∧ va_K D vwCl (ty3 cI cD cJ) t ∧ va_D (va_A [(d, .inr (1, [.ref d_limbs, .ref d_digits, .int d_used, .int d_count, .int d_scale])), (d_limbs, .inl (cJ, 100, .inr (.inl d_limbsF)))] sz) [(d, .inr (1, [.ref d_limbs, .ref d_digits, .int d_used2, .int d_count, .int d_scale])), (d_limbs, .inl (cJ, 100, .inr (.inl d_limbsF2)))]) (va_A [(d, .inr (1, [.ref d_limbs, .ref d_digits, .int d_used, .int d_count, .int d_scale])), (d_limbs, .inl (cJ, 100, .inr (.inl d_limbsF)))] sz)) 0 0 (va_A [(d, .inr (1, [.ref d_limbs, .ref d_digits, .int d_used, .int d_count, .int d_scale])), (d_limbs, .inl (cJ, 100, .inr (.inl d_limbsF)))] sz) := by
  refine Met.ofW (cc := cX1_multiply) (maxL := 7) (ret := none) (by decide +kernel) rfl ?_
  intro p e s m args below meth c s₁ B hml hv
  obtain ⟨rfl, hsz, hP, hK, hD0⟩ := hv
  have hx := B.exec
  have hb := B.bytes
  have hr := B.returns
  have hts := atoms_spec (ws := pw_X1_multiply) B.pre
  have hown : s.vm.findClass RX1 = some m.cls := findClass_of_methodNamed B.named
  have hlocks := B.notSynchronized
  subst hsz
  have hD := hD0.self (sz := s.heap.size)
  generalize hAe : va_A [(d, .inr (1, [.ref d_limbs, .ref d_digits, .int d_used, .int d_count, .int d_scale])), (d_limbs, .inl (cJ, 100, .inr (.inl d_limbsF)))] s.heap.size = A at hD ⊢
  have hA : ∀ q : Nat, s.heap.size ≤ q → A q := fun q h => by rw [← hAe]; exact Or.inr h
  have hS : va_S A s.heap s.heap [] := va_S.rf
  have hw : ∀ (k : Nat) (w : Cond), ow_X1_multiply[k]? = some w → w.before _ s = true := fun k w h => hts w (List.mem_cons_of_mem _ (have h9 := List.mem_of_getElem? h; List.mem_append_left _ h9))
  have i_X1_push : ∀ w ∈ pw_X1_push, w ∈ pw_X1_multiply := fun w h9 => List.mem_cons_of_mem _ (List.mem_append_right _ (List.mem_append_left _ h9))
  have iX1 : ∀ w ∈ u_ws RX1 TX1 5, w ∈ pw_X1_multiply := fun w h9 => List.mem_cons_of_mem _ (List.mem_append_right _ (List.mem_append_right _ (h9)))
  have n_0 : ((0 : Int32)).toInt = 0 := by decide
  have n_1 : ((1 : Int32)).toInt = 1 := by decide
  have n_100 : ((100 : Int32)).toInt = 100 := by decide
  have nl_0 : ((0 : Int64)).toInt = 0 := by decide
  have nl_1000000000 : ((1000000000 : Int64)).toInt = 1000000000 := by decide
  have hl := lv_entry ([.ref d, .int p1]) (n := 7) (Nat.le_of_ble_eq_true rfl)
  rw [lg_entry_eq]
  generalize (lg_sl ([.ref d, .int p1]) ++ List.replicate (7 - (lg_sl ([.ref d, .int p1])).length) Slot.unset).toArray = ls at hl ⊢
  have hl : lv_has ls 7 [(0, .ref d), (1, .int p1)] := hl
  have b_p1 := ti_b p1
  refine zz_cap (fun Z hZ1 hZ2 => ?_)
  refine lv_lconst (v := 0) hx hb dX1_multiply_0 (by decide) ?_
  refine lv_lstore_n (lv' := [(2, .long 0), (0, .ref d), (1, .int p1)]) hx hb dX1_multiply_1 rfl hl (by decide) rfl (fun ls hl => ?_)
  refine lv_iconst (v := 0) hx hb dX1_multiply_2 (by decide) ?_
  refine lv_istore (lv' := [(4, .int 0), (2, .long 0), (0, .ref d), (1, .int p1)]) hx hb dX1_multiply_3 hl (by decide) rfl (fun ls hl => ?_)
  have L_5 : ∀ (N : Nat) (x_1 : Int32) (y_2 : Int64) (f_3 : Nat → Int64) (H : Heap) (locs : List Loc) (ls : Array Slot), (0 ≤ (x_1 : Int32).toInt) → ((2147483647 - (x_1 : Int32).toInt).toNat < N) → va_P D vwCl [(d, .inr (1, [.ref d_limbs, .ref d_digits, .int d_used, .int d_count, .int d_scale])), (d_limbs, .inl (cJ, 100, .inr (.inl f_3)))] H → va_D A [(d, .inr (1, [.ref d_limbs, .ref d_digits, .int d_used, .int d_count, .int d_scale])), (d_limbs, .inl (cJ, 100, .inr (.inl f_3)))] → va_S A s.heap H locs → lv_has ls 7 [(4, .int x_1), (2, .long y_2), (0, .ref d), (1, .int p1)] → Z 0 0 H locs (F0 m 5 ls []) := by
    intro N
    induction N with
    | zero => intro _ _ _ _ _ _ _ hmu; exact absurd hmu (Nat.not_lt_zero _)
    | succ N ih_5 =>
      intro x_1 y_2 f_3 H locs ls g5_0 hmu hP hD hS hl
      refine hZ2 ?_
      refine lv_iload hx hb dX1_multiply_5 (lv_at hl 0 rfl) ?_
      refine lv_aload_n hx hb dX1_multiply_7 rfl (lv_at hl 2 rfl) ?_
      refine va_get (D := D) (ci := 1) (v := .int d_used) (C := RX1) (T := TX1) (N := 5) hx hb hts iX1 hown hK hP 0 rfl rfl 2 (by decide) (hw 0 (.fieldLink RX1 23 "NumberFormats$Decimal" "used" "I") rfl) (fun _ h9 => h9) rfl dX1_multiply_8 ?_
      have K_64 : ∀ (H : Heap) (locs : List Loc) (ls : Array Slot), va_P D vwCl [(d, .inr (1, [.ref d_limbs, .ref d_digits, .int d_used, .int d_count, .int d_scale])), (d_limbs, .inl (cJ, 100, .inr (.inl f_3)))] H → va_D A [(d, .inr (1, [.ref d_limbs, .ref d_digits, .int d_used, .int d_count, .int d_scale])), (d_limbs, .inl (cJ, 100, .inr (.inl f_3)))] → va_S A s.heap H locs → lv_has ls 7 [(2, .long y_2), (0, .ref d)] → Z 0 0 H locs (F0 m 64 ls []) := by
        intro  H locs ls  hP hD hS hl
        refine hZ2 ?_
        refine lv_lload_n hx hb dX1_multiply_64 rfl (lv_at hl 0 rfl) ?_
        refine lv_lconst (v := 0) hx hb dX1_multiply_65 (by decide) ?_
        refine W.lcmp hx hb dX1_multiply_66 ?_
        refine lv_topi (fun x_4 ex_4 => ?_)
        have tx_4 := ti_lcmp ex_4
        refine lv_if_le (tgt := 75) hx hb dX1_multiply_67 (by decide) (fun c_5 => ?_) (fun c_5 => ?_)
        · have ic_5 : (x_4 : Int32).toInt ≤ (0 : Int32).toInt := (fa_le x_4 0).mp c_5
          have hP9 := hP.sub (ws' := [(d, .inr (1, [.ref d_limbs, .ref d_digits, .int d_used, .int d_count, .int d_scale])), (d_limbs, .inl (cJ, 100, .inr (.inl f_3)))]) [0, 1] rfl
          have hD9 := hD.sub (ws' := [(d, .inr (1, [.ref d_limbs, .ref d_digits, .int d_used, .int d_count, .int d_scale])), (d_limbs, .inl (cJ, 100, .inr (.inl f_3)))]) [0, 1] (by decide) rfl
          exact W.vret hx hb hr (fun t ht hW => ⟨⟨(d_used, f_3), rfl, (by (try dsimp only); first | omega | assumption), by rw [ht]; exact hP9, va_K.moved hW.alike hK, hD9⟩, hS.F ht⟩) hS.2.2 dX1_multiply_75
        · have ic_5 : ¬ ((x_4 : Int32).toInt ≤ (0 : Int32).toInt) := fun h9 => c_5 ((fa_le x_4 0).mpr h9)
          refine lv_aload_n hx hb dX1_multiply_70 rfl (lv_at hl 1 rfl) ?_
          refine lv_lload_n hx hb dX1_multiply_71 rfl (lv_at hl 0 rfl) ?_
          have hPc := hP.sub (ws' := [(d, .inr (1, [.ref d_limbs, .ref d_digits, .int d_used, .int d_count, .int d_scale])), (d_limbs, .inl (cJ, 100, .inr (.inl f_3)))]) [0, 1] rfl
          have hDc := hD.sub (ws' := [(d, .inr (1, [.ref d_limbs, .ref d_digits, .int d_used, .int d_count, .int d_scale])), (d_limbs, .inl (cJ, 100, .inr (.inl f_3)))]) [0, 1] (by decide) rfl
          have hFc := va_free (wc := [(d, .inr (1, [.ref d_limbs, .ref d_digits, .int d_used, .int d_count, .int d_scale])), (d_limbs, .inl (cJ, 100, .inr (.inl f_3)))]) hD hS hA [0, 1] rfl
          refine va_callv (va_runV (As := [.long y_2]) (rest := []) ⟨hx, hb, hml, hown, hts⟩ (c_X1_push l D cI cD cJ H.size d d_limbs d_digits d_used d_count d_scale f_3 y_2 (by omega) (by omega)) (cwV 1 hts (goodIn_app (goodIn_r _ [2, 3, 4, 5] rfl (by decide +kernel)) (goodIn_sub i_X1_push k_X1_push)) rfl rfl rfl (by decide +kernel) ⟨Nat.le_of_ble_eq_true rfl, Nat.le_of_ble_eq_true rfl⟩) ⟨fun a U g mk q => by obtain ⟨q0, q1, qP, qK, qD⟩ := q; exact ⟨q0, q1, qP, va_K.moved (u := U) (U := U.calling g mk a) (Vm.Alike.refl U.vm) qK, qD⟩, va_recv hK hPc (ci := 1) (q0 := 0) rfl rfl, fun U hU hW => ⟨rfl, by rw [hU], by rw [hU]; exact hPc, va_K.moved hW.alike hK, hDc.weaken (fun _ _ _ _ => trivial)⟩⟩ rfl rfl hl.1 rfl (lv_room (Nat.le_of_ble_eq_true rfl)) dX1_multiply_72 ⟨Nat.le_of_ble_eq_true rfl, Nat.le_of_ble_eq_true rfl⟩) hS (fun q _ h => hFc q h) hFc (fun u t H1 locs ht hvm w_6 hB hz1 hk1 hS => ?_)
          obtain ⟨u_7, u_8⟩ := u
          obtain ⟨hP1, hK1, hD1⟩ := hB
          rw [ht] at hP1
          try dsimp only at w_6
          obtain ⟨hP, hD⟩ := va_join (wr := []) (w1 := [(d, .inr (1, [.ref d_limbs, .ref d_digits, .int u_7, .int d_count, .int d_scale])), (d_limbs, .inl (cJ, 100, .inr (.inl u_8)))]) hP hD [0, 1] [] rfl rfl (by decide) (by decide) hk1 hFc hP1 hD1
          generalize H1 = H at hP hS ⊢
          have hP : va_P D vwCl [(d, .inr (1, [.ref d_limbs, .ref d_digits, .int u_7, .int d_count, .int d_scale])), (d_limbs, .inl (cJ, 100, .inr (.inl u_8)))] H := hP
          have hD : va_D A [(d, .inr (1, [.ref d_limbs, .ref d_digits, .int u_7, .int d_count, .int d_scale])), (d_limbs, .inl (cJ, 100, .inr (.inl u_8)))] := hD
          have hP9 := hP.sub (ws' := [(d, .inr (1, [.ref d_limbs, .ref d_digits, .int u_7, .int d_count, .int d_scale])), (d_limbs, .inl (cJ, 100, .inr (.inl u_8)))]) [0, 1] rfl
          have hD9 := hD.sub (ws' := [(d, .inr (1, [.ref d_limbs, .ref d_digits, .int u_7, .int d_count, .int d_scale])), (d_limbs, .inl (cJ, 100, .inr (.inl u_8)))]) [0, 1] (by decide) rfl
          exact W.vret hx hb hr (fun t ht hW => ⟨⟨(u_7, u_8), rfl, (by (try dsimp only); first | omega | assumption), by rw [ht]; exact hP9, va_K.moved hW.alike hK, hD9⟩, hS.F ht⟩) hS.2.2 dX1_multiply_75
      refine lv_icmp_ge (tgt := 64) hx hb dX1_multiply_11 (by decide) (fun c_9 => ?_) (fun c_9 => ?_)
      · have ic_9 : (d_used : Int32).toInt ≤ (x_1 : Int32).toInt := (fa_le d_used x_1).mp c_9
        exact hZ1 (K_64  _ _ _ hP hD hS (lv_sub hl [1, 2] rfl))
      · have ic_9 : ¬ ((d_used : Int32).toInt ≤ (x_1 : Int32).toInt) := fun h9 => c_9 ((fa_le d_used x_1).mpr h9)
        refine lv_iload hx hb dX1_multiply_14 (lv_at hl 0 rfl) ?_
        refine lv_aload_n hx hb dX1_multiply_16 rfl (lv_at hl 2 rfl) ?_
        refine va_get (D := D) (ci := 1) (v := .ref d_limbs) (C := RX1) (T := TX1) (N := 5) hx hb hts iX1 hown hK hP 0 rfl rfl 0 (by decide) (hw 5 (.fieldLink RX1 7 "NumberFormats$Decimal" "limbs" "[J") rfl) (fun _ h9 => h9) rfl dX1_multiply_17 ?_
        refine va_alen hx hb hK hP 1 2 rfl rfl (v := 100) rfl dX1_multiply_20 ?_
        refine lv_icmp_ge (tgt := 64) hx hb dX1_multiply_21 (by decide) (fun c_10 => ?_) (fun c_10 => ?_)
        · have ic_10 : (100 : Int32).toInt ≤ (x_1 : Int32).toInt := (fa_le 100 x_1).mp c_10
          exact hZ1 (K_64  _ _ _ hP hD hS (lv_sub hl [1, 2] rfl))
        · have ic_10 : ¬ ((100 : Int32).toInt ≤ (x_1 : Int32).toInt) := fun h9 => c_10 ((fa_le 100 x_1).mpr h9)
          refine lv_aload_n hx hb dX1_multiply_24 rfl (lv_at hl 2 rfl) ?_
          refine va_get (D := D) (ci := 1) (v := .ref d_limbs) (C := RX1) (T := TX1) (N := 5) hx hb hts iX1 hown hK hP 0 rfl rfl 0 (by decide) (hw 5 (.fieldLink RX1 7 "NumberFormats$Decimal" "limbs" "[J") rfl) (fun _ h9 => h9) rfl dX1_multiply_25 ?_
          refine lv_iload hx hb dX1_multiply_28 (lv_at hl 0 rfl) ?_
          have h_30 : vp_in x_1 100 := by rw [vp_in_iff]; omega
          refine va_lald hx hb hK hP 1 2 rfl rfl h_30 dX1_multiply_30 ?_
          refine lv_topl (fun y_11 ey_11 => ?_)
          refine lv_iload_n hx hb dX1_multiply_31 rfl (lv_at hl 3 rfl) ?_
          refine lv_i2l hx hb dX1_multiply_32 rfl ?_
          refine lv_topl (fun y_12 ey_12 => ?_)
          have ty_12 := tl_i2l ey_12
          refine lv_lmul hx hb dX1_multiply_33 ?_
          refine lv_topl (fun y_13 ey_13 => ?_)
          refine lv_lload_n hx hb dX1_multiply_34 rfl (lv_at hl 1 rfl) ?_
          refine lv_ladd hx hb dX1_multiply_35 ?_
          refine lv_topl (fun y_14 ey_14 => ?_)
          have ty_14 := tl_add ey_14
          refine lv_lstore (lv' := [(5, .long y_14), (4, .int x_1), (2, .long y_2), (0, .ref d), (1, .int p1)]) hx hb dX1_multiply_36 hl (by decide) rfl (fun ls hl => ?_)
          refine lv_aload_n hx hb dX1_multiply_38 rfl (lv_at hl 3 rfl) ?_
          refine va_get (D := D) (ci := 1) (v := .ref d_limbs) (C := RX1) (T := TX1) (N := 5) hx hb hts iX1 hown hK hP 0 rfl rfl 0 (by decide) (hw 5 (.fieldLink RX1 7 "NumberFormats$Decimal" "limbs" "[J") rfl) (fun _ h9 => h9) rfl dX1_multiply_39 ?_
          refine lv_iload hx hb dX1_multiply_42 (lv_at hl 1 rfl) ?_
          refine lv_lload hx hb dX1_multiply_44 (lv_at hl 0 rfl) ?_
          refine lv_ldc2 (v := 1000000000) hx hb hown (hw 6 (.constantLong RX1 27 (1000000000)) rfl) dX1_multiply_46 ?_
          refine lv_lrem hx hb dX1_multiply_49 (by decide) ?_
          refine lv_topl (fun y_15 ey_15 => ?_)
          have ty_15 := tl_rem ey_15 (by decide)
          rw [nl_1000000000] at ty_15
          have h_50 : vp_in x_1 100 := by rw [vp_in_iff]; omega
          refine va_last hx hb hK hP hD hS 1 2 rfl rfl h_50 dX1_multiply_50 (fun H locs hP hD hS => ?_)
          obtain ⟨f_16, ef_16⟩ : ∃ y : Nat → Int64, y = vp_updL f_3 (x_1 : Int32).toNatClampNeg y_15 := ⟨_, rfl⟩
          rw [← ef_16] at hP hD
          have hP : va_P D vwCl [(d, .inr (1, [.ref d_limbs, .ref d_digits, .int d_used, .int d_count, .int d_scale])), (d_limbs, .inl (cJ, 100, .inr (.inl f_16)))] H := hP
          have hD : va_D A [(d, .inr (1, [.ref d_limbs, .ref d_digits, .int d_used, .int d_count, .int d_scale])), (d_limbs, .inl (cJ, 100, .inr (.inl f_16)))] := hD
          refine lv_lload hx hb dX1_multiply_51 (lv_at hl 0 rfl) ?_
          refine lv_ldc2 (v := 1000000000) hx hb hown (hw 6 (.constantLong RX1 27 (1000000000)) rfl) dX1_multiply_53 ?_
          refine lv_ldiv hx hb dX1_multiply_56 (by decide) ?_
          refine lv_topl (fun y_17 ey_17 => ?_)
          have ty_17 := tl_div ey_17 (by decide)
          rw [nl_1000000000] at ty_17
          refine lv_lstore_n (lv' := [(2, .long y_17), (5, .long y_14), (4, .int x_1), (0, .ref d), (1, .int p1)]) hx hb dX1_multiply_57 rfl hl (by decide) rfl (fun ls hl => ?_)
          obtain ⟨x_18, ex_18⟩ : ∃ y : Int32, y = x_1 + 1 := ⟨_, rfl⟩
          have tx_18 := ti_add ex_18
          refine lv_iinc (v := x_18) (lv' := [(4, .int x_18), (2, .long y_17), (5, .long y_14), (0, .ref d), (1, .int p1)]) hx hb dX1_multiply_58 hl (k := 2) rfl (by rw [ex_18]; rfl) (by decide) rfl (fun ls hl => ?_)
          refine lv_goto (tgt := 5) hx hb dX1_multiply_61 (by decide) ?_
          exact hZ1 (ih_5 x_18 y_17 f_16 _ _ _ (by omega) (by omega) hP hD hS (lv_sub hl [0, 1, 3, 4] rfl))
  exact hZ1 (L_5 (((2147483647 - (0 : Int32).toInt).toNat) + 1) 0 0 d_limbsF _ _ _ (by omega) (by omega) hP hD hS hl)

def ow_X1_multiplyOften : List Cond := [Cond.methodLink RX1 33 yX1_multiply, Cond.instanceMethod yX1_multiply, Cond.selects RX1 yX1_multiply yX1_multiply, Cond.initialized RX1, Cond.constant RX1 52 (244140625)]
def pw_X1_multiplyOften : List Cond := Cond.code yX1_multiplyOften cX1_multiplyOften 4 none :: (ow_X1_multiplyOften ++ (pw_X1_multiply))
set_option maxRecDepth 20000 in
theorem mo_X1_multiplyOften : ∀ w ∈ ow_X1_multiplyOften, w ∈ lw_tbl := by decide +kernel
set_option maxRecDepth 20000 in
theorem mc_X1_multiplyOften : Cond.code yX1_multiplyOften cX1_multiplyOften 4 none ∈ lw_tbl := by decide +kernel
theorem m_X1_multiplyOften : ∀ w ∈ pw_X1_multiplyOften, w ∈ lw_tbl := List.forall_mem_cons.mpr ⟨mc_X1_multiplyOften, (List.forall_mem_append.mpr ⟨mo_X1_multiplyOften, m_X1_multiply⟩)⟩
theorem ko_X1_multiplyOften : ∀ w ∈ ow_X1_multiplyOften, goodWord w = true := by decide +kernel
theorem k_X1_multiplyOften : pw_X1_multiplyOften.all goodWord = true := List.all_eq_true.mpr (List.forall_mem_cons.mpr ⟨by decide +kernel, (List.forall_mem_append.mpr ⟨ko_X1_multiplyOften, (List.all_eq_true.mp k_X1_multiply)⟩)⟩)
set_option maxHeartbeats 400000 in
set_option maxRecDepth 100000 in
theorem c_X1_multiplyOften (l : Launch) (D : va_G) (cI cD cJ : ClassId) (sz : Nat) (d : Nat) (d_limbs : Nat) (d_digits : Nat) (d_used : Int32) (d_count : Int32) (d_scale : Int32) (d_limbsF : Nat → Int64) (p1 : Int32) (p2 : Int32) (iv_d_used : 0 ≤ (d_used : Int32).toInt ∧ (d_used : Int32).toInt ≤ 100) (iv_d_count : 0 ≤ (d_count : Int32).toInt ∧ (d_count : Int32).toInt ≤ 910) : Met l yX1_multiplyOften pw_X1_multiplyOften ({ frames := 2, cells := 0, slots := 0, locals := 48 }) (va_Pc [.ref d, .int p1, .int p2] (fun U => U.heap.size = sz ∧ va_P D vwCl [(d, .inr (1, [.ref d_limbs, .ref d_digits, .int d_used, .int d_count, .int d_scale])), (d_limbs, .inl (cJ, 100, .inr (.inl d_limbsF)))] U.heap ∧ va_K D vwCl (ty3 cI cD cJ) U ∧ va_D (fun _ => True) [(d, .inr (1, [.ref d_limbs, .ref d_digits, .int d_used, .int d_count, .int d_scale])), (d_limbs, .inl (cJ, 100, .inr (.inl d_limbsF)))])) (va_Qv (fun (u : Int32 × (Nat → Int64)) => match u with | (d_used2, d_limbsF2) => (0 ≤ (d_used2 : Int32).toInt ∧ (d_used2 : Int32).toInt ≤ 100)) (fun (u : Int32 × (Nat → Int64)) (t : State) => match u with | (d_used2, d_limbsF2) => va_P D vwCl [(d, .inr (1, [.ref d_limbs, .ref d_digits, .int d_used2, .int d_count, .int d_scale])), (d_limbs, .inl (cJ, 100, .inr (.inl d_limbsF2)))] t.heap ∧ va_K D vwCl (ty3 cI cD cJ) t ∧ va_D (va_A [(d, .inr (1, [.ref d_limbs, .ref d_digits, .int d_used, .int d_count, .int d_scale])), (d_limbs, .inl (cJ, 100, .inr (.inl d_limbsF)))] sz) [(d, .inr (1, [.ref d_limbs, .ref d_digits, .int d_used2, .int d_count, .int d_scale])), (d_limbs, .inl (cJ, 100, .inr (.inl d_limbsF2)))]) (va_A [(d, .inr (1, [.ref d_limbs, .ref d_digits, .int d_used, .int d_count, .int d_scale])), (d_limbs, .inl (cJ, 100, .inr (.inl d_limbsF)))] sz)) 0 0 (va_A [(d, .inr (1, [.ref d_limbs, .ref d_digits, .int d_used, .int d_count, .int d_scale])), (d_limbs, .inl (cJ, 100, .inr (.inl d_limbsF)))] sz) := by
  refine Met.ofW (cc := cX1_multiplyOften) (maxL := 4) (ret := none) (by decide +kernel) rfl ?_
  intro p e s m args below meth c s₁ B hml hv
  obtain ⟨rfl, hsz, hP, hK, hD0⟩ := hv
  have hx := B.exec
  have hb := B.bytes
  have hr := B.returns
  have hts := atoms_spec (ws := pw_X1_multiplyOften) B.pre
  have hown : s.vm.findClass RX1 = some m.cls := findClass_of_methodNamed B.named
  have hlocks := B.notSynchronized
  subst hsz
  have hD := hD0.self (sz := s.heap.size)
  generalize hAe : va_A [(d, .inr (1, [.ref d_limbs, .ref d_digits, .int d_used, .int d_count, .int d_scale])), (d_limbs, .inl (cJ, 100, .inr (.inl d_limbsF)))] s.heap.size = A at hD ⊢
  have hA : ∀ q : Nat, s.heap.size ≤ q → A q := fun q h => by rw [← hAe]; exact Or.inr h
  have hS : va_S A s.heap s.heap [] := va_S.rf
  have hw : ∀ (k : Nat) (w : Cond), ow_X1_multiplyOften[k]? = some w → w.before _ s = true := fun k w h => hts w (List.mem_cons_of_mem _ (have h9 := List.mem_of_getElem? h; List.mem_append_left _ h9))
  have i_X1_multiply : ∀ w ∈ pw_X1_multiply, w ∈ pw_X1_multiplyOften := fun w h9 => List.mem_cons_of_mem _ (List.mem_append_right _ (h9))
  have n_m1 : (((-1) : Int32)).toInt = (-1) := by decide
  have n_m12 : (((-12) : Int32)).toInt = (-12) := by decide
  have n_0 : ((0 : Int32)).toInt = 0 := by decide
  have n_12 : ((12 : Int32)).toInt = 12 := by decide
  have n_2 : ((2 : Int32)).toInt = 2 := by decide
  have n_244140625 : ((244140625 : Int32)).toInt = 244140625 := by decide
  have n_4096 : ((4096 : Int32)).toInt = 4096 := by decide
  have hl := lv_entry ([.ref d, .int p1, .int p2]) (n := 4) (Nat.le_of_ble_eq_true rfl)
  rw [lg_entry_eq]
  generalize (lg_sl ([.ref d, .int p1, .int p2]) ++ List.replicate (4 - (lg_sl ([.ref d, .int p1, .int p2])).length) Slot.unset).toArray = ls at hl ⊢
  have hl : lv_has ls 4 [(0, .ref d), (1, .int p1), (2, .int p2)] := hl
  have b_p1 := ti_b p1
  have b_p2 := ti_b p2
  refine zz_cap (fun Z hZ1 hZ2 => ?_)
  refine lv_iload_n hx hb dX1_multiplyOften_0 rfl (lv_at hl 2 rfl) ?_
  refine lv_istore_n (lv' := [(3, .int p2), (0, .ref d), (1, .int p1), (2, .int p2)]) hx hb dX1_multiplyOften_1 rfl hl (by decide) rfl (fun ls hl => ?_)
  have L_2 : ∀ (N : Nat) (x_1 : Int32) (x_2 : Int32) (f_3 : Nat → Int64) (H : Heap) (locs : List Loc) (ls : Array Slot), (0 ≤ (x_2 : Int32).toInt ∧ (x_2 : Int32).toInt ≤ 100) → (((x_1 : Int32).toInt + 2147483648).toNat < N) → va_P D vwCl [(d, .inr (1, [.ref d_limbs, .ref d_digits, .int x_2, .int d_count, .int d_scale])), (d_limbs, .inl (cJ, 100, .inr (.inl f_3)))] H → va_D A [(d, .inr (1, [.ref d_limbs, .ref d_digits, .int x_2, .int d_count, .int d_scale])), (d_limbs, .inl (cJ, 100, .inr (.inl f_3)))] → va_S A s.heap H locs → lv_has ls 4 [(3, .int x_1), (0, .ref d), (1, .int p1)] → Z 0 0 H locs (F0 m 2 ls []) := by
    intro N
    induction N with
    | zero => intro _ _ _ _ _ _ _ hmu; exact absurd hmu (Nat.not_lt_zero _)
    | succ N ih_2 =>
      intro x_1 x_2 f_3 H locs ls g2_0 hmu hP hD hS hl
      refine hZ2 ?_
      refine lv_iload_n hx hb dX1_multiplyOften_2 rfl (lv_at hl 0 rfl) ?_
      refine lv_bipush (v := 12) hx hb dX1_multiplyOften_3 (by decide) ?_
      refine lv_icmp_lt (tgt := 31) hx hb dX1_multiplyOften_5 (by decide) (fun c_4 => ?_) (fun c_4 => ?_)
      · have ic_4 : (x_1 : Int32).toInt < (12 : Int32).toInt := (fa_lt x_1 12).mp c_4
        have L_31 : ∀ (N : Nat) (x_5 : Int32) (x_6 : Int32) (f_7 : Nat → Int64) (H : Heap) (locs : List Loc) (ls : Array Slot), (0 ≤ (x_6 : Int32).toInt ∧ (x_6 : Int32).toInt ≤ 100) → (((x_5 : Int32).toInt + 2147483648).toNat < N) → va_P D vwCl [(d, .inr (1, [.ref d_limbs, .ref d_digits, .int x_6, .int d_count, .int d_scale])), (d_limbs, .inl (cJ, 100, .inr (.inl f_7)))] H → va_D A [(d, .inr (1, [.ref d_limbs, .ref d_digits, .int x_6, .int d_count, .int d_scale])), (d_limbs, .inl (cJ, 100, .inr (.inl f_7)))] → va_S A s.heap H locs → lv_has ls 4 [(3, .int x_5), (0, .ref d), (1, .int p1)] → Z 0 0 H locs (F0 m 31 ls []) := by
          intro N
          induction N with
          | zero => intro _ _ _ _ _ _ _ hmu; exact absurd hmu (Nat.not_lt_zero _)
          | succ N ih_31 =>
            intro x_5 x_6 f_7 H locs ls g31_0 hmu hP hD hS hl
            refine hZ2 ?_
            refine lv_iload_n hx hb dX1_multiplyOften_31 rfl (lv_at hl 0 rfl) ?_
            refine lv_if_le (tgt := 46) hx hb dX1_multiplyOften_32 (by decide) (fun c_8 => ?_) (fun c_8 => ?_)
            · have ic_8 : (x_5 : Int32).toInt ≤ (0 : Int32).toInt := (fa_le x_5 0).mp c_8
              have hP9 := hP.sub (ws' := [(d, .inr (1, [.ref d_limbs, .ref d_digits, .int x_6, .int d_count, .int d_scale])), (d_limbs, .inl (cJ, 100, .inr (.inl f_7)))]) [0, 1] rfl
              have hD9 := hD.sub (ws' := [(d, .inr (1, [.ref d_limbs, .ref d_digits, .int x_6, .int d_count, .int d_scale])), (d_limbs, .inl (cJ, 100, .inr (.inl f_7)))]) [0, 1] (by decide) rfl
              exact W.vret hx hb hr (fun t ht hW => ⟨⟨(x_6, f_7), rfl, (by (try dsimp only); first | omega | assumption), by rw [ht]; exact hP9, va_K.moved hW.alike hK, hD9⟩, hS.F ht⟩) hS.2.2 dX1_multiplyOften_46
            · have ic_8 : ¬ ((x_5 : Int32).toInt ≤ (0 : Int32).toInt) := fun h9 => c_8 ((fa_le x_5 0).mpr h9)
              refine lv_aload_n hx hb dX1_multiplyOften_35 rfl (lv_at hl 1 rfl) ?_
              refine lv_iload_n hx hb dX1_multiplyOften_36 rfl (lv_at hl 2 rfl) ?_
              have hPc := hP.sub (ws' := [(d, .inr (1, [.ref d_limbs, .ref d_digits, .int x_6, .int d_count, .int d_scale])), (d_limbs, .inl (cJ, 100, .inr (.inl f_7)))]) [0, 1] rfl
              have hDc := hD.sub (ws' := [(d, .inr (1, [.ref d_limbs, .ref d_digits, .int x_6, .int d_count, .int d_scale])), (d_limbs, .inl (cJ, 100, .inr (.inl f_7)))]) [0, 1] (by decide) rfl
              have hFc := va_free (wc := [(d, .inr (1, [.ref d_limbs, .ref d_digits, .int x_6, .int d_count, .int d_scale])), (d_limbs, .inl (cJ, 100, .inr (.inl f_7)))]) hD hS hA [0, 1] rfl
              refine va_callv (va_runV (As := [.int p1]) (rest := []) ⟨hx, hb, hml, hown, hts⟩ (c_X1_multiply l D cI cD cJ H.size d d_limbs d_digits x_6 d_count d_scale f_7 p1 (by omega) (by omega)) (cwV 1 hts (goodIn_app (goodIn_r _ [1, 2, 3, 4] rfl (by decide +kernel)) (goodIn_sub i_X1_multiply k_X1_multiply)) rfl rfl rfl (by decide +kernel) ⟨Nat.le_of_ble_eq_true rfl, Nat.le_of_ble_eq_true rfl⟩) ⟨fun a U g mk q => by obtain ⟨q0, q1, qP, qK, qD⟩ := q; exact ⟨q0, q1, qP, va_K.moved (u := U) (U := U.calling g mk a) (Vm.Alike.refl U.vm) qK, qD⟩, va_recv hK hPc (ci := 1) (q0 := 0) rfl rfl, fun U hU hW => ⟨rfl, by rw [hU], by rw [hU]; exact hPc, va_K.moved hW.alike hK, hDc.weaken (fun _ _ _ _ => trivial)⟩⟩ rfl rfl hl.1 rfl (lv_room (Nat.le_of_ble_eq_true rfl)) dX1_multiplyOften_37 ⟨Nat.le_of_ble_eq_true rfl, Nat.le_of_ble_eq_true rfl⟩) hS (fun q _ h => hFc q h) hFc (fun u t H1 locs ht hvm w_9 hB hz1 hk1 hS => ?_)
              obtain ⟨u_10, u_11⟩ := u
              obtain ⟨hP1, hK1, hD1⟩ := hB
              rw [ht] at hP1
              try dsimp only at w_9
              obtain ⟨hP, hD⟩ := va_join (wr := []) (w1 := [(d, .inr (1, [.ref d_limbs, .ref d_digits, .int u_10, .int d_count, .int d_scale])), (d_limbs, .inl (cJ, 100, .inr (.inl u_11)))]) hP hD [0, 1] [] rfl rfl (by decide) (by decide) hk1 hFc hP1 hD1
              generalize H1 = H at hP hS ⊢
              have hP : va_P D vwCl [(d, .inr (1, [.ref d_limbs, .ref d_digits, .int u_10, .int d_count, .int d_scale])), (d_limbs, .inl (cJ, 100, .inr (.inl u_11)))] H := hP
              have hD : va_D A [(d, .inr (1, [.ref d_limbs, .ref d_digits, .int u_10, .int d_count, .int d_scale])), (d_limbs, .inl (cJ, 100, .inr (.inl u_11)))] := hD
              obtain ⟨x_12, ex_12⟩ : ∃ y : Int32, y = x_5 + (-1) := ⟨_, rfl⟩
              have tx_12 := ti_add ex_12
              refine lv_iinc (v := x_12) (lv' := [(3, .int x_12), (0, .ref d), (1, .int p1)]) hx hb dX1_multiplyOften_40 hl (k := 0) rfl (by rw [ex_12]; rfl) (by decide) rfl (fun ls hl => ?_)
              refine lv_goto (tgt := 31) hx hb dX1_multiplyOften_43 (by decide) ?_
              exact hZ1 (ih_31 x_12 u_10 u_11 _ _ _ (by omega) (by omega) hP hD hS hl)
        exact hZ1 (L_31 ((((x_1 : Int32).toInt + 2147483648).toNat) + 1) x_1 x_2 f_3 _ _ _ (by omega) (by omega) hP hD hS hl)
      · have ic_4 : ¬ ((x_1 : Int32).toInt < (12 : Int32).toInt) := fun h9 => c_4 ((fa_lt x_1 12).mpr h9)
        refine lv_aload_n hx hb dX1_multiplyOften_8 rfl (lv_at hl 1 rfl) ?_
        refine lv_iload_n hx hb dX1_multiplyOften_9 rfl (lv_at hl 2 rfl) ?_
        refine lv_iconst (v := 2) hx hb dX1_multiplyOften_10 (by decide) ?_
        have K_22 : ∀ (z_13 : Int32) (H : Heap) (locs : List Loc) (ls : Array Slot), va_P D vwCl [(d, .inr (1, [.ref d_limbs, .ref d_digits, .int x_2, .int d_count, .int d_scale])), (d_limbs, .inl (cJ, 100, .inr (.inl f_3)))] H → va_D A [(d, .inr (1, [.ref d_limbs, .ref d_digits, .int x_2, .int d_count, .int d_scale])), (d_limbs, .inl (cJ, 100, .inr (.inl f_3)))] → va_S A s.heap H locs → lv_has ls 4 [(3, .int x_1), (0, .ref d), (1, .int p1)] → Z 0 0 H locs (F0 m 22 ls [.int z_13, .ref d]) := by
          intro z_13 H locs ls  hP hD hS hl
          refine hZ2 ?_
          have hPc := hP.sub (ws' := [(d, .inr (1, [.ref d_limbs, .ref d_digits, .int x_2, .int d_count, .int d_scale])), (d_limbs, .inl (cJ, 100, .inr (.inl f_3)))]) [0, 1] rfl
          have hDc := hD.sub (ws' := [(d, .inr (1, [.ref d_limbs, .ref d_digits, .int x_2, .int d_count, .int d_scale])), (d_limbs, .inl (cJ, 100, .inr (.inl f_3)))]) [0, 1] (by decide) rfl
          have hFc := va_free (wc := [(d, .inr (1, [.ref d_limbs, .ref d_digits, .int x_2, .int d_count, .int d_scale])), (d_limbs, .inl (cJ, 100, .inr (.inl f_3)))]) hD hS hA [0, 1] rfl
          refine va_callv (va_runV (As := [.int z_13]) (rest := []) ⟨hx, hb, hml, hown, hts⟩ (c_X1_multiply l D cI cD cJ H.size d d_limbs d_digits x_2 d_count d_scale f_3 z_13 (by omega) (by omega)) (cwV 1 hts (goodIn_app (goodIn_r _ [1, 2, 3, 4] rfl (by decide +kernel)) (goodIn_sub i_X1_multiply k_X1_multiply)) rfl rfl rfl (by decide +kernel) ⟨Nat.le_of_ble_eq_true rfl, Nat.le_of_ble_eq_true rfl⟩) ⟨fun a U g mk q => by obtain ⟨q0, q1, qP, qK, qD⟩ := q; exact ⟨q0, q1, qP, va_K.moved (u := U) (U := U.calling g mk a) (Vm.Alike.refl U.vm) qK, qD⟩, va_recv hK hPc (ci := 1) (q0 := 0) rfl rfl, fun U hU hW => ⟨rfl, by rw [hU], by rw [hU]; exact hPc, va_K.moved hW.alike hK, hDc.weaken (fun _ _ _ _ => trivial)⟩⟩ rfl rfl hl.1 rfl (lv_room (Nat.le_of_ble_eq_true rfl)) dX1_multiplyOften_22 ⟨Nat.le_of_ble_eq_true rfl, Nat.le_of_ble_eq_true rfl⟩) hS (fun q _ h => hFc q h) hFc (fun u t H1 locs ht hvm w_14 hB hz1 hk1 hS => ?_)
          obtain ⟨u_15, u_16⟩ := u
          obtain ⟨hP1, hK1, hD1⟩ := hB
          rw [ht] at hP1
          try dsimp only at w_14
          obtain ⟨hP, hD⟩ := va_join (wr := []) (w1 := [(d, .inr (1, [.ref d_limbs, .ref d_digits, .int u_15, .int d_count, .int d_scale])), (d_limbs, .inl (cJ, 100, .inr (.inl u_16)))]) hP hD [0, 1] [] rfl rfl (by decide) (by decide) hk1 hFc hP1 hD1
          generalize H1 = H at hP hS ⊢
          have hP : va_P D vwCl [(d, .inr (1, [.ref d_limbs, .ref d_digits, .int u_15, .int d_count, .int d_scale])), (d_limbs, .inl (cJ, 100, .inr (.inl u_16)))] H := hP
          have hD : va_D A [(d, .inr (1, [.ref d_limbs, .ref d_digits, .int u_15, .int d_count, .int d_scale])), (d_limbs, .inl (cJ, 100, .inr (.inl u_16)))] := hD
          obtain ⟨x_17, ex_17⟩ : ∃ y : Int32, y = x_1 + (-12) := ⟨_, rfl⟩
          have tx_17 := ti_add ex_17
          refine lv_iinc (v := x_17) (lv' := [(3, .int x_17), (0, .ref d), (1, .int p1)]) hx hb dX1_multiplyOften_25 hl (k := 0) rfl (by rw [ex_17]; rfl) (by decide) rfl (fun ls hl => ?_)
          refine lv_goto (tgt := 2) hx hb dX1_multiplyOften_28 (by decide) ?_
          exact hZ1 (ih_2 x_17 u_15 u_16 _ _ _ (by omega) (by omega) hP hD hS hl)
        refine lv_icmp_ne (tgt := 20) hx hb dX1_multiplyOften_11 (by decide) (fun c_18 => ?_) (fun c_18 => ?_)
        · have ic_18 : ¬ ((p1 : Int32).toInt = (2 : Int32).toInt) := fun h9 => c_18 ((fa_eq p1 2).mpr h9)
          refine lv_ldc (v := 244140625) hx hb hown (hw 4 (.constant RX1 52 (244140625)) rfl) dX1_multiplyOften_20 ?_
          exact hZ1 (K_22 244140625 _ _ _ hP hD hS hl)
        · have ic_18 : (p1 : Int32).toInt = (2 : Int32).toInt := (fa_eq p1 2).mp c_18
          refine lv_sipush (v := 4096) hx hb dX1_multiplyOften_14 (by decide) ?_
          refine lv_goto (tgt := 22) hx hb dX1_multiplyOften_17 (by decide) ?_
          exact hZ1 (K_22 4096 _ _ _ hP hD hS hl)
  exact hZ1 (L_2 ((((p2 : Int32).toInt + 2147483648).toNat) + 1) p2 d_used d_limbsF _ _ _ (by omega) (by omega) hP hD hS (lv_sub hl [0, 1, 2] rfl))

def ow_X1_trim : List Cond := [Cond.fieldLink RX1 47 "NumberFormats$Decimal" "count" "I", Cond.fieldLink RX1 13 "NumberFormats$Decimal" "digits" "[I"]
def pw_X1_trim : List Cond := Cond.code yX1_trim cX1_trim 1 none :: (ow_X1_trim ++ (wsX10))
set_option maxRecDepth 20000 in
theorem mo_X1_trim : ∀ w ∈ ow_X1_trim, w ∈ lw_tbl := by decide +kernel
set_option maxRecDepth 20000 in
theorem mc_X1_trim : Cond.code yX1_trim cX1_trim 1 none ∈ lw_tbl := by decide +kernel
theorem m_X1_trim : ∀ w ∈ pw_X1_trim, w ∈ lw_tbl := List.forall_mem_cons.mpr ⟨mc_X1_trim, (List.forall_mem_append.mpr ⟨mo_X1_trim, inX1⟩)⟩
theorem ko_X1_trim : ∀ w ∈ ow_X1_trim, goodWord w = true := by decide +kernel
theorem k_X1_trim : pw_X1_trim.all goodWord = true := List.all_eq_true.mpr (List.forall_mem_cons.mpr ⟨by decide +kernel, (List.forall_mem_append.mpr ⟨ko_X1_trim, kX_X1⟩)⟩)
set_option maxHeartbeats 400000 in
set_option maxRecDepth 100000 in
theorem c_X1_trim (l : Launch) (D : va_G) (cI cD cJ : ClassId) (sz : Nat) (d : Nat) (d_limbs : Nat) (d_digits : Nat) (d_used : Int32) (d_count : Int32) (d_scale : Int32) (d_digitsF : Nat → Int32) (iv_d_used : 0 ≤ (d_used : Int32).toInt ∧ (d_used : Int32).toInt ≤ 100) (iv_d_count : 0 ≤ (d_count : Int32).toInt ∧ (d_count : Int32).toInt ≤ 910) : Met l yX1_trim pw_X1_trim ({ frames := 0, cells := 0, slots := 0, locals := 0 }) (va_Pc [.ref d] (fun U => U.heap.size = sz ∧ va_P D vwCl [(d, .inr (1, [.ref d_limbs, .ref d_digits, .int d_used, .int d_count, .int d_scale])), (d_digits, .inl (cI, 910, .inl d_digitsF))] U.heap ∧ va_K D vwCl (ty3 cI cD cJ) U ∧ va_D (fun _ => True) [(d, .inr (1, [.ref d_limbs, .ref d_digits, .int d_used, .int d_count, .int d_scale])), (d_digits, .inl (cI, 910, .inl d_digitsF))])) (va_Qv (fun (d_count2 : Int32) => (0 ≤ (d_count2 : Int32).toInt ∧ (d_count2 : Int32).toInt ≤ 910)) (fun (d_count2 : Int32) (t : State) => va_P D vwCl [(d, .inr (1, [.ref d_limbs, .ref d_digits, .int d_used, .int d_count2, .int d_scale])), (d_digits, .inl (cI, 910, .inl d_digitsF))] t.heap ∧ va_K D vwCl (ty3 cI cD cJ) t ∧ va_D (va_A [(d, .inr (1, [.ref d_limbs, .ref d_digits, .int d_used, .int d_count, .int d_scale])), (d_digits, .inl (cI, 910, .inl d_digitsF))] sz) [(d, .inr (1, [.ref d_limbs, .ref d_digits, .int d_used, .int d_count2, .int d_scale])), (d_digits, .inl (cI, 910, .inl d_digitsF))]) (va_A [(d, .inr (1, [.ref d_limbs, .ref d_digits, .int d_used, .int d_count, .int d_scale])), (d_digits, .inl (cI, 910, .inl d_digitsF))] sz)) 0 0 (va_A [(d, .inr (1, [.ref d_limbs, .ref d_digits, .int d_used, .int d_count, .int d_scale])), (d_digits, .inl (cI, 910, .inl d_digitsF))] sz) := by
  refine Met.ofW (cc := cX1_trim) (maxL := 1) (ret := none) (by decide +kernel) rfl ?_
  intro p e s m args below meth c s₁ B hml hv
  obtain ⟨rfl, hsz, hP, hK, hD0⟩ := hv
  have hx := B.exec
  have hb := B.bytes
  have hr := B.returns
  have hts := atoms_spec (ws := pw_X1_trim) B.pre
  have hown : s.vm.findClass RX1 = some m.cls := findClass_of_methodNamed B.named
  have hlocks := B.notSynchronized
  subst hsz
  have hD := hD0.self (sz := s.heap.size)
  generalize hAe : va_A [(d, .inr (1, [.ref d_limbs, .ref d_digits, .int d_used, .int d_count, .int d_scale])), (d_digits, .inl (cI, 910, .inl d_digitsF))] s.heap.size = A at hD ⊢
  have hA : ∀ q : Nat, s.heap.size ≤ q → A q := fun q h => by rw [← hAe]; exact Or.inr h
  have hS : va_S A s.heap s.heap [] := va_S.rf
  have hw : ∀ (k : Nat) (w : Cond), ow_X1_trim[k]? = some w → w.before _ s = true := fun k w h => hts w (List.mem_cons_of_mem _ (have h9 := List.mem_of_getElem? h; List.mem_append_left _ h9))
  have iX1 : ∀ w ∈ u_ws RX1 TX1 5, w ∈ pw_X1_trim := fun w h9 => List.mem_cons_of_mem _ (List.mem_append_right _ (h9))
  have n_0 : ((0 : Int32)).toInt = 0 := by decide
  have n_1 : ((1 : Int32)).toInt = 1 := by decide
  have n_910 : ((910 : Int32)).toInt = 910 := by decide
  have hl := lv_entry ([.ref d]) (n := 1) (Nat.le_of_ble_eq_true rfl)
  rw [lg_entry_eq]
  generalize (lg_sl ([.ref d]) ++ List.replicate (1 - (lg_sl ([.ref d])).length) Slot.unset).toArray = ls at hl ⊢
  have hl : lv_has ls 1 [(0, .ref d)] := hl
  refine zz_cap (fun Z hZ1 hZ2 => ?_)
  have L_0 : ∀ (N : Nat) (x_1 : Int32) (H : Heap) (locs : List Loc) (ls : Array Slot), (0 ≤ (x_1 : Int32).toInt ∧ (x_1 : Int32).toInt ≤ 910) → ((x_1 : Int32).toInt.toNat < N) → va_P D vwCl [(d, .inr (1, [.ref d_limbs, .ref d_digits, .int d_used, .int x_1, .int d_scale])), (d_digits, .inl (cI, 910, .inl d_digitsF))] H → va_D A [(d, .inr (1, [.ref d_limbs, .ref d_digits, .int d_used, .int x_1, .int d_scale])), (d_digits, .inl (cI, 910, .inl d_digitsF))] → va_S A s.heap H locs → lv_has ls 1 [(0, .ref d)] → Z 0 0 H locs (F0 m 0 ls []) := by
    intro N
    induction N with
    | zero => intro _ _ _ _ _ hmu; exact absurd hmu (Nat.not_lt_zero _)
    | succ N ih_0 =>
      intro x_1 H locs ls g0_0 hmu hP hD hS hl
      refine hZ2 ?_
      refine lv_aload_n hx hb dX1_trim_0 rfl (lv_at hl 0 rfl) ?_
      refine va_get (D := D) (ci := 1) (v := .int x_1) (C := RX1) (T := TX1) (N := 5) hx hb hts iX1 hown hK hP 0 rfl rfl 3 (by decide) (hw 0 (.fieldLink RX1 47 "NumberFormats$Decimal" "count" "I") rfl) (fun _ h9 => h9) rfl dX1_trim_1 ?_
      refine lv_if_le (tgt := 46) hx hb dX1_trim_4 (by decide) (fun c_2 => ?_) (fun c_2 => ?_)
      · have ic_2 : (x_1 : Int32).toInt ≤ (0 : Int32).toInt := (fa_le x_1 0).mp c_2
        have hP9 := hP.sub (ws' := [(d, .inr (1, [.ref d_limbs, .ref d_digits, .int d_used, .int x_1, .int d_scale])), (d_digits, .inl (cI, 910, .inl d_digitsF))]) [0, 1] rfl
        have hD9 := hD.sub (ws' := [(d, .inr (1, [.ref d_limbs, .ref d_digits, .int d_used, .int x_1, .int d_scale])), (d_digits, .inl (cI, 910, .inl d_digitsF))]) [0, 1] (by decide) rfl
        exact W.vret hx hb hr (fun t ht hW => ⟨⟨(x_1), rfl, (by (try dsimp only); first | omega | assumption), by rw [ht]; exact hP9, va_K.moved hW.alike hK, hD9⟩, hS.F ht⟩) hS.2.2 dX1_trim_46
      · have ic_2 : ¬ ((x_1 : Int32).toInt ≤ (0 : Int32).toInt) := fun h9 => c_2 ((fa_le x_1 0).mpr h9)
        refine lv_aload_n hx hb dX1_trim_7 rfl (lv_at hl 0 rfl) ?_
        refine va_get (D := D) (ci := 1) (v := .int x_1) (C := RX1) (T := TX1) (N := 5) hx hb hts iX1 hown hK hP 0 rfl rfl 3 (by decide) (hw 0 (.fieldLink RX1 47 "NumberFormats$Decimal" "count" "I") rfl) (fun _ h9 => h9) rfl dX1_trim_8 ?_
        refine lv_aload_n hx hb dX1_trim_11 rfl (lv_at hl 0 rfl) ?_
        refine va_get (D := D) (ci := 1) (v := .ref d_digits) (C := RX1) (T := TX1) (N := 5) hx hb hts iX1 hown hK hP 0 rfl rfl 1 (by decide) (hw 1 (.fieldLink RX1 13 "NumberFormats$Decimal" "digits" "[I") rfl) (fun _ h9 => h9) rfl dX1_trim_12 ?_
        refine va_alen hx hb hK hP 1 0 rfl rfl (v := 910) rfl dX1_trim_15 ?_
        refine lv_icmp_gt (tgt := 46) hx hb dX1_trim_16 (by decide) (fun c_3 => ?_) (fun c_3 => ?_)
        · have ic_3 : (910 : Int32).toInt < (x_1 : Int32).toInt := (fa_lt 910 x_1).mp c_3
          have hP9 := hP.sub (ws' := [(d, .inr (1, [.ref d_limbs, .ref d_digits, .int d_used, .int x_1, .int d_scale])), (d_digits, .inl (cI, 910, .inl d_digitsF))]) [0, 1] rfl
          have hD9 := hD.sub (ws' := [(d, .inr (1, [.ref d_limbs, .ref d_digits, .int d_used, .int x_1, .int d_scale])), (d_digits, .inl (cI, 910, .inl d_digitsF))]) [0, 1] (by decide) rfl
          exact W.vret hx hb hr (fun t ht hW => ⟨⟨(x_1), rfl, (by (try dsimp only); first | omega | assumption), by rw [ht]; exact hP9, va_K.moved hW.alike hK, hD9⟩, hS.F ht⟩) hS.2.2 dX1_trim_46
        · have ic_3 : ¬ ((910 : Int32).toInt < (x_1 : Int32).toInt) := fun h9 => c_3 ((fa_lt 910 x_1).mpr h9)
          refine lv_aload_n hx hb dX1_trim_19 rfl (lv_at hl 0 rfl) ?_
          refine va_get (D := D) (ci := 1) (v := .ref d_digits) (C := RX1) (T := TX1) (N := 5) hx hb hts iX1 hown hK hP 0 rfl rfl 1 (by decide) (hw 1 (.fieldLink RX1 13 "NumberFormats$Decimal" "digits" "[I") rfl) (fun _ h9 => h9) rfl dX1_trim_20 ?_
          refine lv_aload_n hx hb dX1_trim_23 rfl (lv_at hl 0 rfl) ?_
          refine va_get (D := D) (ci := 1) (v := .int x_1) (C := RX1) (T := TX1) (N := 5) hx hb hts iX1 hown hK hP 0 rfl rfl 3 (by decide) (hw 0 (.fieldLink RX1 47 "NumberFormats$Decimal" "count" "I") rfl) (fun _ h9 => h9) rfl dX1_trim_24 ?_
          refine lv_iconst (v := 1) hx hb dX1_trim_27 (by decide) ?_
          refine lv_isub hx hb dX1_trim_28 ?_
          refine lv_topi (fun x_4 ex_4 => ?_)
          have tx_4 := ti_sub ex_4
          have h_29 : vp_in x_4 910 := by rw [vp_in_iff]; omega
          refine va_iald hx hb hK hP 1 0 rfl rfl h_29 dX1_trim_29 ?_
          refine lv_topi (fun x_5 ex_5 => ?_)
          refine lv_if_ne (tgt := 46) hx hb dX1_trim_30 (by decide) (fun c_6 => ?_) (fun c_6 => ?_)
          · have ic_6 : ¬ ((x_5 : Int32).toInt = (0 : Int32).toInt) := fun h9 => c_6 ((fa_eq x_5 0).mpr h9)
            have hP9 := hP.sub (ws' := [(d, .inr (1, [.ref d_limbs, .ref d_digits, .int d_used, .int x_1, .int d_scale])), (d_digits, .inl (cI, 910, .inl d_digitsF))]) [0, 1] rfl
            have hD9 := hD.sub (ws' := [(d, .inr (1, [.ref d_limbs, .ref d_digits, .int d_used, .int x_1, .int d_scale])), (d_digits, .inl (cI, 910, .inl d_digitsF))]) [0, 1] (by decide) rfl
            exact W.vret hx hb hr (fun t ht hW => ⟨⟨(x_1), rfl, (by (try dsimp only); first | omega | assumption), by rw [ht]; exact hP9, va_K.moved hW.alike hK, hD9⟩, hS.F ht⟩) hS.2.2 dX1_trim_46
          · have ic_6 : (x_5 : Int32).toInt = (0 : Int32).toInt := (fa_eq x_5 0).mp c_6
            refine lv_aload_n hx hb dX1_trim_33 rfl (lv_at hl 0 rfl) ?_
            refine lv_dup hx hb dX1_trim_34 rfl ?_
            refine va_get (D := D) (ci := 1) (v := .int x_1) (C := RX1) (T := TX1) (N := 5) hx hb hts iX1 hown hK hP 0 rfl rfl 3 (by decide) (hw 0 (.fieldLink RX1 47 "NumberFormats$Decimal" "count" "I") rfl) (fun _ h9 => h9) rfl dX1_trim_35 ?_
            refine lv_iconst (v := 1) hx hb dX1_trim_38 (by decide) ?_
            refine lv_isub hx hb dX1_trim_39 ?_
            refine lv_topi (fun x_7 ex_7 => ?_)
            have tx_7 := ti_sub ex_7
            refine va_put (D := D) (ci := 1) (v := .int x_7) (ty := .int) (C := RX1) (T := TX1) (N := 5) hx hb hts iX1 tyX1 tyX1_ok nmX1 hown hK hP hD hS 0 rfl rfl 3 (by decide) (hw 0 (.fieldLink RX1 47 "NumberFormats$Decimal" "count" "I") rfl) (fun _ h9 => h9) rfl (by decide +kernel) rfl rfl (Nat.le_of_ble_eq_true rfl) dX1_trim_40 (fun H locs hP hD hS => ?_)
            have hP : va_P D vwCl [(d, .inr (1, [.ref d_limbs, .ref d_digits, .int d_used, .int x_7, .int d_scale])), (d_digits, .inl (cI, 910, .inl d_digitsF))] H := hP
            have hD : va_D A [(d, .inr (1, [.ref d_limbs, .ref d_digits, .int d_used, .int x_7, .int d_scale])), (d_digits, .inl (cI, 910, .inl d_digitsF))] := hD
            refine lv_goto (tgt := 0) hx hb dX1_trim_43 (by decide) ?_
            exact hZ1 (ih_0 x_7 _ _ _ (by omega) (by omega) hP hD hS hl)
  exact hZ1 (L_0 (((d_count : Int32).toInt.toNat) + 1) d_count _ _ _ (by omega) (by omega) hP hD hS hl)

def ow_X1_spread : List Cond := [Cond.fieldLink RX1 47 "NumberFormats$Decimal" "count" "I", Cond.fieldLink RX1 23 "NumberFormats$Decimal" "used" "I", Cond.methodLink RX1 53 yX1_trim, Cond.instanceMethod yX1_trim, Cond.selects RX1 yX1_trim yX1_trim, Cond.initialized RX1, Cond.fieldLink RX1 7 "NumberFormats$Decimal" "limbs" "[J", Cond.fieldLink RX1 13 "NumberFormats$Decimal" "digits" "[I", Cond.constantLong RX1 50 (10)]
def pw_X1_spread : List Cond := Cond.code yX1_spread cX1_spread 5 none :: (ow_X1_spread ++ (pw_X1_trim ++ (wsX10)))
set_option maxRecDepth 20000 in
theorem mo_X1_spread : ∀ w ∈ ow_X1_spread, w ∈ lw_tbl := by decide +kernel
set_option maxRecDepth 20000 in
theorem mc_X1_spread : Cond.code yX1_spread cX1_spread 5 none ∈ lw_tbl := by decide +kernel
theorem m_X1_spread : ∀ w ∈ pw_X1_spread, w ∈ lw_tbl := List.forall_mem_cons.mpr ⟨mc_X1_spread, (List.forall_mem_append.mpr ⟨mo_X1_spread, (List.forall_mem_append.mpr ⟨m_X1_trim, inX1⟩)⟩)⟩
theorem ko_X1_spread : ∀ w ∈ ow_X1_spread, goodWord w = true := by decide +kernel
theorem k_X1_spread : pw_X1_spread.all goodWord = true := List.all_eq_true.mpr (List.forall_mem_cons.mpr ⟨by decide +kernel, (List.forall_mem_append.mpr ⟨ko_X1_spread, (List.forall_mem_append.mpr ⟨(List.all_eq_true.mp k_X1_trim), kX_X1⟩)⟩)⟩)
set_option maxHeartbeats 400000 in
set_option maxRecDepth 100000 in
theorem c_X1_spread (l : Launch) (D : va_G) (cI cD cJ : ClassId) (sz : Nat) (d : Nat) (d_limbs : Nat) (d_digits : Nat) (d_used : Int32) (d_count : Int32) (d_scale : Int32) (d_limbsF : Nat → Int64) (d_digitsF : Nat → Int32) (iv_d_used : 0 ≤ (d_used : Int32).toInt ∧ (d_used : Int32).toInt ≤ 100) (iv_d_count : 0 ≤ (d_count : Int32).toInt ∧ (d_count : Int32).toInt ≤ 910) : Met l yX1_spread pw_X1_spread ({ frames := 1, cells := 0, slots := 0, locals := 20 }) (va_Pc [.ref d] (fun U => U.heap.size = sz ∧ va_P D vwCl [(d, .inr (1, [.ref d_limbs, .ref d_digits, .int d_used, .int d_count, .int d_scale])), (d_limbs, .inl (cJ, 100, .inr (.inl d_limbsF))), (d_digits, .inl (cI, 910, .inl d_digitsF))] U.heap ∧ va_K D vwCl (ty3 cI cD cJ) U ∧ va_D (fun _ => True) [(d, .inr (1, [.ref d_limbs, .ref d_digits, .int d_used, .int d_count, .int d_scale])), (d_limbs, .inl (cJ, 100, .inr (.inl d_limbsF))), (d_digits, .inl (cI, 910, .inl d_digitsF))])) (va_Qv (fun (u : Int32 × (Nat → Int32)) => match u with | (d_count2, d_digitsF2) => (0 ≤ (d_count2 : Int32).toInt ∧ (d_count2 : Int32).toInt ≤ 910)) (fun (u : Int32 × (Nat → Int32)) (t : State) => match u with | (d_count2, d_digitsF2) => va_P D vwCl [(d, .inr (1, [.ref d_limbs, .ref d_digits, .int d_used, .int d_count2, .int d_scale])), (d_limbs, .inl (cJ, 100, .inr (.inl d_limbsF))), (d_digits, .inl (cI, 910, .inl d_digitsF2))] t.heap ∧ va_K D vwCl (ty3 cI cD cJ) t ∧ va_D (va_A [(d, .inr (1, [.ref d_limbs, .ref d_digits, .int d_used, .int d_count, .int d_scale])), (d_limbs, .inl (cJ, 100, .inr (.inl d_limbsF))), (d_digits, .inl (cI, 910, .inl d_digitsF))] sz) [(d, .inr (1, [.ref d_limbs, .ref d_digits, .int d_used, .int d_count2, .int d_scale])), (d_limbs, .inl (cJ, 100, .inr (.inl d_limbsF))), (d_digits, .inl (cI, 910, .inl d_digitsF2))]) (va_A [(d, .inr (1, [.ref d_limbs, .ref d_digits, .int d_used, .int d_count, .int d_scale])), (d_limbs, .inl (cJ, 100, .inr (.inl d_limbsF))), (d_digits, .inl (cI, 910, .inl d_digitsF))] sz)) 0 0 (va_A [(d, .inr (1, [.ref d_limbs, .ref d_digits, .int d_used, .int d_count, .int d_scale])), (d_limbs, .inl (cJ, 100, .inr (.inl d_limbsF))), (d_digits, .inl (cI, 910, .inl d_digitsF))] sz) := by
  refine Met.ofW (cc := cX1_spread) (maxL := 5) (ret := none) (by decide +kernel) rfl ?_
  intro p e s m args below meth c s₁ B hml hv
  obtain ⟨rfl, hsz, hP, hK, hD0⟩ := hv
  have hx := B.exec
  have hb := B.bytes
  have hr := B.returns
  have hts := atoms_spec (ws := pw_X1_spread) B.pre
  have hown : s.vm.findClass RX1 = some m.cls := findClass_of_methodNamed B.named
  have hlocks := B.notSynchronized
  subst hsz
  have hD := hD0.self (sz := s.heap.size)
  generalize hAe : va_A [(d, .inr (1, [.ref d_limbs, .ref d_digits, .int d_used, .int d_count, .int d_scale])), (d_limbs, .inl (cJ, 100, .inr (.inl d_limbsF))), (d_digits, .inl (cI, 910, .inl d_digitsF))] s.heap.size = A at hD ⊢
  have hA : ∀ q : Nat, s.heap.size ≤ q → A q := fun q h => by rw [← hAe]; exact Or.inr h
  have hS : va_S A s.heap s.heap [] := va_S.rf
  have hw : ∀ (k : Nat) (w : Cond), ow_X1_spread[k]? = some w → w.before _ s = true := fun k w h => hts w (List.mem_cons_of_mem _ (have h9 := List.mem_of_getElem? h; List.mem_append_left _ h9))
  have i_X1_trim : ∀ w ∈ pw_X1_trim, w ∈ pw_X1_spread := fun w h9 => List.mem_cons_of_mem _ (List.mem_append_right _ (List.mem_append_left _ h9))
  have iX1 : ∀ w ∈ u_ws RX1 TX1 5, w ∈ pw_X1_spread := fun w h9 => List.mem_cons_of_mem _ (List.mem_append_right _ (List.mem_append_right _ (h9)))
  have n_0 : ((0 : Int32)).toInt = 0 := by decide
  have n_1 : ((1 : Int32)).toInt = 1 := by decide
  have n_100 : ((100 : Int32)).toInt = 100 := by decide
  have n_9 : ((9 : Int32)).toInt = 9 := by decide
  have n_910 : ((910 : Int32)).toInt = 910 := by decide
  have nl_10 : ((10 : Int64)).toInt = 10 := by decide
  have hl := lv_entry ([.ref d]) (n := 5) (Nat.le_of_ble_eq_true rfl)
  rw [lg_entry_eq]
  generalize (lg_sl ([.ref d]) ++ List.replicate (5 - (lg_sl ([.ref d])).length) Slot.unset).toArray = ls at hl ⊢
  have hl : lv_has ls 5 [(0, .ref d)] := hl
  refine zz_cap (fun Z hZ1 hZ2 => ?_)
  refine lv_aload_n hx hb dX1_spread_0 rfl (lv_at hl 0 rfl) ?_
  refine lv_iconst (v := 0) hx hb dX1_spread_1 (by decide) ?_
  refine va_put (D := D) (ci := 1) (v := .int 0) (ty := .int) (C := RX1) (T := TX1) (N := 5) hx hb hts iX1 tyX1 tyX1_ok nmX1 hown hK hP hD hS 0 rfl rfl 3 (by decide) (hw 0 (.fieldLink RX1 47 "NumberFormats$Decimal" "count" "I") rfl) (fun _ h9 => h9) rfl (by decide +kernel) rfl rfl (Nat.le_of_ble_eq_true rfl) dX1_spread_2 (fun H locs hP hD hS => ?_)
  have hP : va_P D vwCl [(d, .inr (1, [.ref d_limbs, .ref d_digits, .int d_used, .int 0, .int d_scale])), (d_limbs, .inl (cJ, 100, .inr (.inl d_limbsF))), (d_digits, .inl (cI, 910, .inl d_digitsF))] H := hP
  have hD : va_D A [(d, .inr (1, [.ref d_limbs, .ref d_digits, .int d_used, .int 0, .int d_scale])), (d_limbs, .inl (cJ, 100, .inr (.inl d_limbsF))), (d_digits, .inl (cI, 910, .inl d_digitsF))] := hD
  refine lv_iconst (v := 0) hx hb dX1_spread_5 (by decide) ?_
  refine lv_istore_n (lv' := [(1, .int 0), (0, .ref d)]) hx hb dX1_spread_6 rfl hl (by decide) rfl (fun ls hl => ?_)
  have L_7 : ∀ (N : Nat) (x_1 : Int32) (x_2 : Int32) (f_3 : Nat → Int32) (H : Heap) (locs : List Loc) (ls : Array Slot), (0 ≤ (x_1 : Int32).toInt) → (0 ≤ (x_2 : Int32).toInt ∧ (x_2 : Int32).toInt ≤ 910) → ((2147483647 - (x_1 : Int32).toInt).toNat < N) → va_P D vwCl [(d, .inr (1, [.ref d_limbs, .ref d_digits, .int d_used, .int x_2, .int d_scale])), (d_limbs, .inl (cJ, 100, .inr (.inl d_limbsF))), (d_digits, .inl (cI, 910, .inl f_3))] H → va_D A [(d, .inr (1, [.ref d_limbs, .ref d_digits, .int d_used, .int x_2, .int d_scale])), (d_limbs, .inl (cJ, 100, .inr (.inl d_limbsF))), (d_digits, .inl (cI, 910, .inl f_3))] → va_S A s.heap H locs → lv_has ls 5 [(1, .int x_1), (0, .ref d)] → Z 0 0 H locs (F0 m 7 ls []) := by
    intro N
    induction N with
    | zero => intro _ _ _ _ _ _ _ _ hmu; exact absurd hmu (Nat.not_lt_zero _)
    | succ N ih_7 =>
      intro x_1 x_2 f_3 H locs ls g7_0 g7_1 hmu hP hD hS hl
      refine hZ2 ?_
      refine lv_iload_n hx hb dX1_spread_7 rfl (lv_at hl 0 rfl) ?_
      refine lv_aload_n hx hb dX1_spread_8 rfl (lv_at hl 1 rfl) ?_
      refine va_get (D := D) (ci := 1) (v := .int d_used) (C := RX1) (T := TX1) (N := 5) hx hb hts iX1 hown hK hP 0 rfl rfl 2 (by decide) (hw 1 (.fieldLink RX1 23 "NumberFormats$Decimal" "used" "I") rfl) (fun _ h9 => h9) rfl dX1_spread_9 ?_
      have K_96 : ∀ (H : Heap) (locs : List Loc) (ls : Array Slot), va_P D vwCl [(d, .inr (1, [.ref d_limbs, .ref d_digits, .int d_used, .int x_2, .int d_scale])), (d_limbs, .inl (cJ, 100, .inr (.inl d_limbsF))), (d_digits, .inl (cI, 910, .inl f_3))] H → va_D A [(d, .inr (1, [.ref d_limbs, .ref d_digits, .int d_used, .int x_2, .int d_scale])), (d_limbs, .inl (cJ, 100, .inr (.inl d_limbsF))), (d_digits, .inl (cI, 910, .inl f_3))] → va_S A s.heap H locs → lv_has ls 5 [(0, .ref d)] → Z 0 0 H locs (F0 m 96 ls []) := by
        intro  H locs ls  hP hD hS hl
        refine hZ2 ?_
        refine lv_aload_n hx hb dX1_spread_96 rfl (lv_at hl 0 rfl) ?_
        have hPc := hP.sub (ws' := [(d, .inr (1, [.ref d_limbs, .ref d_digits, .int d_used, .int x_2, .int d_scale])), (d_digits, .inl (cI, 910, .inl f_3))]) [0, 2] rfl
        have hDc := hD.sub (ws' := [(d, .inr (1, [.ref d_limbs, .ref d_digits, .int d_used, .int x_2, .int d_scale])), (d_digits, .inl (cI, 910, .inl f_3))]) [0, 2] (by decide) rfl
        have hFc := va_free (wc := [(d, .inr (1, [.ref d_limbs, .ref d_digits, .int d_used, .int x_2, .int d_scale])), (d_digits, .inl (cI, 910, .inl f_3))]) hD hS hA [0, 2] rfl
        refine va_callv (va_runV (As := []) (rest := []) ⟨hx, hb, hml, hown, hts⟩ (c_X1_trim l D cI cD cJ H.size d d_limbs d_digits d_used x_2 d_scale f_3 (by omega) (by omega)) (cwV 0 hts (goodIn_app (goodIn_r _ [3, 4, 5, 6] rfl (by decide +kernel)) (goodIn_sub i_X1_trim k_X1_trim)) rfl rfl rfl (by decide +kernel) ⟨Nat.le_of_ble_eq_true rfl, Nat.le_of_ble_eq_true rfl⟩) ⟨fun a U g mk q => by obtain ⟨q0, q1, qP, qK, qD⟩ := q; exact ⟨q0, q1, qP, va_K.moved (u := U) (U := U.calling g mk a) (Vm.Alike.refl U.vm) qK, qD⟩, va_recv hK hPc (ci := 1) (q0 := 0) rfl rfl, fun U hU hW => ⟨rfl, by rw [hU], by rw [hU]; exact hPc, va_K.moved hW.alike hK, hDc.weaken (fun _ _ _ _ => trivial)⟩⟩ rfl rfl hl.1 rfl (lv_room (Nat.le_of_ble_eq_true rfl)) dX1_spread_97 ⟨Nat.le_of_ble_eq_true rfl, Nat.le_of_ble_eq_true rfl⟩) hS (fun q _ h => hFc q h) hFc (fun u t H1 locs ht hvm w_4 hB hz1 hk1 hS => ?_)
        generalize u = u_5 at w_4 hB
        obtain ⟨hP1, hK1, hD1⟩ := hB
        rw [ht] at hP1
        try dsimp only at w_4
        obtain ⟨hP, hD⟩ := va_join (wr := [(d_limbs, .inl (cJ, 100, .inr (.inl d_limbsF)))]) (w1 := [(d, .inr (1, [.ref d_limbs, .ref d_digits, .int d_used, .int u_5, .int d_scale])), (d_digits, .inl (cI, 910, .inl f_3))]) hP hD [0, 2] [1] rfl rfl (by decide) (by decide) hk1 hFc hP1 hD1
        generalize H1 = H at hP hS ⊢
        have hP : va_P D vwCl [(d_limbs, .inl (cJ, 100, .inr (.inl d_limbsF))), (d, .inr (1, [.ref d_limbs, .ref d_digits, .int d_used, .int u_5, .int d_scale])), (d_digits, .inl (cI, 910, .inl f_3))] H := hP
        have hD : va_D A [(d_limbs, .inl (cJ, 100, .inr (.inl d_limbsF))), (d, .inr (1, [.ref d_limbs, .ref d_digits, .int d_used, .int u_5, .int d_scale])), (d_digits, .inl (cI, 910, .inl f_3))] := hD
        have hP9 := hP.sub (ws' := [(d, .inr (1, [.ref d_limbs, .ref d_digits, .int d_used, .int u_5, .int d_scale])), (d_limbs, .inl (cJ, 100, .inr (.inl d_limbsF))), (d_digits, .inl (cI, 910, .inl f_3))]) [1, 0, 2] rfl
        have hD9 := hD.sub (ws' := [(d, .inr (1, [.ref d_limbs, .ref d_digits, .int d_used, .int u_5, .int d_scale])), (d_limbs, .inl (cJ, 100, .inr (.inl d_limbsF))), (d_digits, .inl (cI, 910, .inl f_3))]) [1, 0, 2] (by decide) rfl
        exact W.vret hx hb hr (fun t ht hW => ⟨⟨(u_5, f_3), rfl, (by (try dsimp only); first | omega | assumption), by rw [ht]; exact hP9, va_K.moved hW.alike hK, hD9⟩, hS.F ht⟩) hS.2.2 dX1_spread_100
      refine lv_icmp_ge (tgt := 96) hx hb dX1_spread_12 (by decide) (fun c_6 => ?_) (fun c_6 => ?_)
      · have ic_6 : (d_used : Int32).toInt ≤ (x_1 : Int32).toInt := (fa_le d_used x_1).mp c_6
        exact hZ1 (K_96  _ _ _ hP hD hS (lv_sub hl [1] rfl))
      · have ic_6 : ¬ ((d_used : Int32).toInt ≤ (x_1 : Int32).toInt) := fun h9 => c_6 ((fa_le d_used x_1).mpr h9)
        refine lv_iload_n hx hb dX1_spread_15 rfl (lv_at hl 0 rfl) ?_
        refine lv_aload_n hx hb dX1_spread_16 rfl (lv_at hl 1 rfl) ?_
        refine va_get (D := D) (ci := 1) (v := .ref d_limbs) (C := RX1) (T := TX1) (N := 5) hx hb hts iX1 hown hK hP 0 rfl rfl 0 (by decide) (hw 6 (.fieldLink RX1 7 "NumberFormats$Decimal" "limbs" "[J") rfl) (fun _ h9 => h9) rfl dX1_spread_17 ?_
        refine va_alen hx hb hK hP 1 2 rfl rfl (v := 100) rfl dX1_spread_20 ?_
        refine lv_icmp_ge (tgt := 96) hx hb dX1_spread_21 (by decide) (fun c_7 => ?_) (fun c_7 => ?_)
        · have ic_7 : (100 : Int32).toInt ≤ (x_1 : Int32).toInt := (fa_le 100 x_1).mp c_7
          exact hZ1 (K_96  _ _ _ hP hD hS (lv_sub hl [1] rfl))
        · have ic_7 : ¬ ((100 : Int32).toInt ≤ (x_1 : Int32).toInt) := fun h9 => c_7 ((fa_le 100 x_1).mpr h9)
          refine lv_aload_n hx hb dX1_spread_24 rfl (lv_at hl 1 rfl) ?_
          refine va_get (D := D) (ci := 1) (v := .ref d_limbs) (C := RX1) (T := TX1) (N := 5) hx hb hts iX1 hown hK hP 0 rfl rfl 0 (by decide) (hw 6 (.fieldLink RX1 7 "NumberFormats$Decimal" "limbs" "[J") rfl) (fun _ h9 => h9) rfl dX1_spread_25 ?_
          refine lv_iload_n hx hb dX1_spread_28 rfl (lv_at hl 0 rfl) ?_
          have h_29 : vp_in x_1 100 := by rw [vp_in_iff]; omega
          refine va_lald hx hb hK hP 1 2 rfl rfl h_29 dX1_spread_29 ?_
          refine lv_topl (fun y_8 ey_8 => ?_)
          refine lv_lstore_n (lv' := [(2, .long y_8), (1, .int x_1), (0, .ref d)]) hx hb dX1_spread_30 rfl hl (by decide) rfl (fun ls hl => ?_)
          refine lv_iconst (v := 0) hx hb dX1_spread_31 (by decide) ?_
          refine lv_istore (lv' := [(4, .int 0), (2, .long y_8), (1, .int x_1), (0, .ref d)]) hx hb dX1_spread_32 hl (by decide) rfl (fun ls hl => ?_)
          have L_34 : ∀ (N : Nat) (x_9 : Int32) (y_10 : Int64) (x_11 : Int32) (f_12 : Nat → Int32) (H : Heap) (locs : List Loc) (ls : Array Slot), (0 ≤ (x_9 : Int32).toInt) → (0 ≤ (x_11 : Int32).toInt ∧ (x_11 : Int32).toInt ≤ 910) → ((2147483647 - (x_9 : Int32).toInt).toNat < N) → va_P D vwCl [(d, .inr (1, [.ref d_limbs, .ref d_digits, .int d_used, .int x_11, .int d_scale])), (d_limbs, .inl (cJ, 100, .inr (.inl d_limbsF))), (d_digits, .inl (cI, 910, .inl f_12))] H → va_D A [(d, .inr (1, [.ref d_limbs, .ref d_digits, .int d_used, .int x_11, .int d_scale])), (d_limbs, .inl (cJ, 100, .inr (.inl d_limbsF))), (d_digits, .inl (cI, 910, .inl f_12))] → va_S A s.heap H locs → lv_has ls 5 [(4, .int x_9), (2, .long y_10), (1, .int x_1), (0, .ref d)] → Z 0 0 H locs (F0 m 34 ls []) := by
            intro N
            induction N with
            | zero => intro _ _ _ _ _ _ _ _ _ hmu; exact absurd hmu (Nat.not_lt_zero _)
            | succ N ih_34 =>
              intro x_9 y_10 x_11 f_12 H locs ls g34_0 g34_1 hmu hP hD hS hl
              refine hZ2 ?_
              refine lv_iload hx hb dX1_spread_34 (lv_at hl 0 rfl) ?_
              refine lv_bipush (v := 9) hx hb dX1_spread_36 (by decide) ?_
              refine lv_icmp_ge (tgt := 90) hx hb dX1_spread_38 (by decide) (fun c_13 => ?_) (fun c_13 => ?_)
              · have ic_13 : (9 : Int32).toInt ≤ (x_9 : Int32).toInt := (fa_le 9 x_9).mp c_13
                obtain ⟨x_14, ex_14⟩ : ∃ y : Int32, y = x_1 + 1 := ⟨_, rfl⟩
                have tx_14 := ti_add ex_14
                refine lv_iinc (v := x_14) (lv' := [(1, .int x_14), (4, .int x_9), (2, .long y_10), (0, .ref d)]) hx hb dX1_spread_90 hl (k := 2) rfl (by rw [ex_14]; rfl) (by decide) rfl (fun ls hl => ?_)
                refine lv_goto (tgt := 7) hx hb dX1_spread_93 (by decide) ?_
                exact hZ1 (ih_7 x_14 x_11 f_12 _ _ _ (by omega) (by omega) (by omega) hP hD hS (lv_sub hl [0, 3] rfl))
              · have ic_13 : ¬ ((9 : Int32).toInt ≤ (x_9 : Int32).toInt) := fun h9 => c_13 ((fa_le 9 x_9).mpr h9)
                refine lv_aload_n hx hb dX1_spread_41 rfl (lv_at hl 3 rfl) ?_
                refine va_get (D := D) (ci := 1) (v := .int x_11) (C := RX1) (T := TX1) (N := 5) hx hb hts iX1 hown hK hP 0 rfl rfl 3 (by decide) (hw 0 (.fieldLink RX1 47 "NumberFormats$Decimal" "count" "I") rfl) (fun _ h9 => h9) rfl dX1_spread_42 ?_
                refine lv_aload_n hx hb dX1_spread_45 rfl (lv_at hl 3 rfl) ?_
                refine va_get (D := D) (ci := 1) (v := .ref d_digits) (C := RX1) (T := TX1) (N := 5) hx hb hts iX1 hown hK hP 0 rfl rfl 1 (by decide) (hw 7 (.fieldLink RX1 13 "NumberFormats$Decimal" "digits" "[I") rfl) (fun _ h9 => h9) rfl dX1_spread_46 ?_
                refine va_alen hx hb hK hP 2 0 rfl rfl (v := 910) rfl dX1_spread_49 ?_
                refine lv_icmp_ge (tgt := 90) hx hb dX1_spread_50 (by decide) (fun c_15 => ?_) (fun c_15 => ?_)
                · have ic_15 : (910 : Int32).toInt ≤ (x_11 : Int32).toInt := (fa_le 910 x_11).mp c_15
                  obtain ⟨x_16, ex_16⟩ : ∃ y : Int32, y = x_1 + 1 := ⟨_, rfl⟩
                  have tx_16 := ti_add ex_16
                  refine lv_iinc (v := x_16) (lv' := [(1, .int x_16), (4, .int x_9), (2, .long y_10), (0, .ref d)]) hx hb dX1_spread_90 hl (k := 2) rfl (by rw [ex_16]; rfl) (by decide) rfl (fun ls hl => ?_)
                  refine lv_goto (tgt := 7) hx hb dX1_spread_93 (by decide) ?_
                  exact hZ1 (ih_7 x_16 x_11 f_12 _ _ _ (by omega) (by omega) (by omega) hP hD hS (lv_sub hl [0, 3] rfl))
                · have ic_15 : ¬ ((910 : Int32).toInt ≤ (x_11 : Int32).toInt) := fun h9 => c_15 ((fa_le 910 x_11).mpr h9)
                  refine lv_aload_n hx hb dX1_spread_53 rfl (lv_at hl 3 rfl) ?_
                  refine va_get (D := D) (ci := 1) (v := .ref d_digits) (C := RX1) (T := TX1) (N := 5) hx hb hts iX1 hown hK hP 0 rfl rfl 1 (by decide) (hw 7 (.fieldLink RX1 13 "NumberFormats$Decimal" "digits" "[I") rfl) (fun _ h9 => h9) rfl dX1_spread_54 ?_
                  refine lv_aload_n hx hb dX1_spread_57 rfl (lv_at hl 3 rfl) ?_
                  refine va_get (D := D) (ci := 1) (v := .int x_11) (C := RX1) (T := TX1) (N := 5) hx hb hts iX1 hown hK hP 0 rfl rfl 3 (by decide) (hw 0 (.fieldLink RX1 47 "NumberFormats$Decimal" "count" "I") rfl) (fun _ h9 => h9) rfl dX1_spread_58 ?_
                  refine lv_lload_n hx hb dX1_spread_61 rfl (lv_at hl 1 rfl) ?_
                  refine lv_ldc2 (v := 10) hx hb hown (hw 8 (.constantLong RX1 50 (10)) rfl) dX1_spread_62 ?_
                  refine lv_lrem hx hb dX1_spread_65 (by decide) ?_
                  refine lv_topl (fun y_17 ey_17 => ?_)
                  have ty_17 := tl_rem ey_17 (by decide)
                  rw [nl_10] at ty_17
                  refine lv_l2i hx hb dX1_spread_66 rfl ?_
                  refine lv_topi (fun x_18 ex_18 => ?_)
                  have tx_18 := ti_l2i ex_18
                  have h_67 : vp_in x_11 910 := by rw [vp_in_iff]; omega
                  refine va_iast hx hb hK hP hD hS 2 0 rfl rfl h_67 dX1_spread_67 (fun H locs hP hD hS => ?_)
                  obtain ⟨f_19, ef_19⟩ : ∃ y : Nat → Int32, y = upd f_12 (x_11 : Int32).toNatClampNeg x_18 := ⟨_, rfl⟩
                  rw [← ef_19] at hP hD
                  have hP : va_P D vwCl [(d, .inr (1, [.ref d_limbs, .ref d_digits, .int d_used, .int x_11, .int d_scale])), (d_limbs, .inl (cJ, 100, .inr (.inl d_limbsF))), (d_digits, .inl (cI, 910, .inl f_19))] H := hP
                  have hD : va_D A [(d, .inr (1, [.ref d_limbs, .ref d_digits, .int d_used, .int x_11, .int d_scale])), (d_limbs, .inl (cJ, 100, .inr (.inl d_limbsF))), (d_digits, .inl (cI, 910, .inl f_19))] := hD
                  refine lv_lload_n hx hb dX1_spread_68 rfl (lv_at hl 1 rfl) ?_
                  refine lv_ldc2 (v := 10) hx hb hown (hw 8 (.constantLong RX1 50 (10)) rfl) dX1_spread_69 ?_
                  refine lv_ldiv hx hb dX1_spread_72 (by decide) ?_
                  refine lv_topl (fun y_20 ey_20 => ?_)
                  have ty_20 := tl_div ey_20 (by decide)
                  rw [nl_10] at ty_20
                  refine lv_lstore_n (lv' := [(2, .long y_20), (4, .int x_9), (1, .int x_1), (0, .ref d)]) hx hb dX1_spread_73 rfl hl (by decide) rfl (fun ls hl => ?_)
                  refine lv_aload_n hx hb dX1_spread_74 rfl (lv_at hl 3 rfl) ?_
                  refine lv_dup hx hb dX1_spread_75 rfl ?_
                  refine va_get (D := D) (ci := 1) (v := .int x_11) (C := RX1) (T := TX1) (N := 5) hx hb hts iX1 hown hK hP 0 rfl rfl 3 (by decide) (hw 0 (.fieldLink RX1 47 "NumberFormats$Decimal" "count" "I") rfl) (fun _ h9 => h9) rfl dX1_spread_76 ?_
                  refine lv_iconst (v := 1) hx hb dX1_spread_79 (by decide) ?_
                  refine lv_iadd hx hb dX1_spread_80 ?_
                  refine lv_topi (fun x_21 ex_21 => ?_)
                  have tx_21 := ti_add ex_21
                  refine va_put (D := D) (ci := 1) (v := .int x_21) (ty := .int) (C := RX1) (T := TX1) (N := 5) hx hb hts iX1 tyX1 tyX1_ok nmX1 hown hK hP hD hS 0 rfl rfl 3 (by decide) (hw 0 (.fieldLink RX1 47 "NumberFormats$Decimal" "count" "I") rfl) (fun _ h9 => h9) rfl (by decide +kernel) rfl rfl (Nat.le_of_ble_eq_true rfl) dX1_spread_81 (fun H locs hP hD hS => ?_)
                  have hP : va_P D vwCl [(d, .inr (1, [.ref d_limbs, .ref d_digits, .int d_used, .int x_21, .int d_scale])), (d_limbs, .inl (cJ, 100, .inr (.inl d_limbsF))), (d_digits, .inl (cI, 910, .inl f_19))] H := hP
                  have hD : va_D A [(d, .inr (1, [.ref d_limbs, .ref d_digits, .int d_used, .int x_21, .int d_scale])), (d_limbs, .inl (cJ, 100, .inr (.inl d_limbsF))), (d_digits, .inl (cI, 910, .inl f_19))] := hD
                  obtain ⟨x_22, ex_22⟩ : ∃ y : Int32, y = x_9 + 1 := ⟨_, rfl⟩
                  have tx_22 := ti_add ex_22
                  refine lv_iinc (v := x_22) (lv' := [(4, .int x_22), (2, .long y_20), (1, .int x_1), (0, .ref d)]) hx hb dX1_spread_84 hl (k := 1) rfl (by rw [ex_22]; rfl) (by decide) rfl (fun ls hl => ?_)
                  refine lv_goto (tgt := 34) hx hb dX1_spread_87 (by decide) ?_
                  exact hZ1 (ih_34 x_22 y_20 x_21 f_19 _ _ _ (by omega) (by omega) (by omega) hP hD hS hl)
          exact hZ1 (L_34 (((2147483647 - (0 : Int32).toInt).toNat) + 1) 0 y_8 x_2 f_3 _ _ _ (by omega) (by omega) (by omega) hP hD hS hl)
  exact hZ1 (L_7 (((2147483647 - (0 : Int32).toInt).toNat) + 1) 0 0 d_digitsF _ _ _ (by omega) (by omega) (by omega) hP hD hS hl)

def ow_X1_load : List Cond := [Cond.fieldLink RX1 23 "NumberFormats$Decimal" "used" "I", Cond.methodLink RX1 33 yX1_multiply, Cond.instanceMethod yX1_multiply, Cond.selects RX1 yX1_multiply yX1_multiply, Cond.initialized RX1, Cond.methodLink RX1 37 yX1_multiplyOften, Cond.instanceMethod yX1_multiplyOften, Cond.selects RX1 yX1_multiplyOften yX1_multiplyOften, Cond.fieldLink RX1 41 "NumberFormats$Decimal" "scale" "I", Cond.methodLink RX1 44 yX1_spread, Cond.instanceMethod yX1_spread, Cond.selects RX1 yX1_spread yX1_spread, Cond.constantLong RX1 27 (1000000000), Cond.methodLink RX1 29 yX1_push, Cond.instanceMethod yX1_push, Cond.selects RX1 yX1_push yX1_push, Cond.constantDouble RX1 21 (4611686018427387904), Cond.constantDouble RX1 17 (4845873199050653696), Cond.constantDouble RX1 19 (4602678819172646912)]
def pw_X1_load : List Cond := Cond.code yX1_load cX1_load 9 none :: (ow_X1_load ++ (pw_X1_multiply ++ (pw_X1_multiplyOften ++ (pw_X1_spread ++ (pw_X1_push ++ (wsX10))))))
set_option maxRecDepth 20000 in
theorem mo_X1_load : ∀ w ∈ ow_X1_load, w ∈ lw_tbl := by decide +kernel
set_option maxRecDepth 20000 in
theorem mc_X1_load : Cond.code yX1_load cX1_load 9 none ∈ lw_tbl := by decide +kernel
theorem m_X1_load : ∀ w ∈ pw_X1_load, w ∈ lw_tbl := List.forall_mem_cons.mpr ⟨mc_X1_load, (List.forall_mem_append.mpr ⟨mo_X1_load, (List.forall_mem_append.mpr ⟨m_X1_multiply, (List.forall_mem_append.mpr ⟨m_X1_multiplyOften, (List.forall_mem_append.mpr ⟨m_X1_spread, (List.forall_mem_append.mpr ⟨m_X1_push, inX1⟩)⟩)⟩)⟩)⟩)⟩
theorem ko_X1_load : ∀ w ∈ ow_X1_load, goodWord w = true := by decide +kernel
theorem k_X1_load : pw_X1_load.all goodWord = true := List.all_eq_true.mpr (List.forall_mem_cons.mpr ⟨by decide +kernel, (List.forall_mem_append.mpr ⟨ko_X1_load, (List.forall_mem_append.mpr ⟨(List.all_eq_true.mp k_X1_multiply), (List.forall_mem_append.mpr ⟨(List.all_eq_true.mp k_X1_multiplyOften), (List.forall_mem_append.mpr ⟨(List.all_eq_true.mp k_X1_spread), (List.forall_mem_append.mpr ⟨(List.all_eq_true.mp k_X1_push), kX_X1⟩)⟩)⟩)⟩)⟩)⟩)
set_option maxHeartbeats 400000 in
set_option maxRecDepth 100000 in
theorem c_X1_load (l : Launch) (D : va_G) (cI cD cJ : ClassId) (sz : Nat) (d : Nat) (d_limbs : Nat) (d_digits : Nat) (d_used : Int32) (d_count : Int32) (d_scale : Int32) (d_limbsF : Nat → Int64) (d_digitsF : Nat → Int32) (p1 : UInt64) (p2 : Int32) (iv_d_used : 0 ≤ (d_used : Int32).toInt ∧ (d_used : Int32).toInt ≤ 100) (iv_d_count : 0 ≤ (d_count : Int32).toInt ∧ (d_count : Int32).toInt ≤ 910) : MetD lw_cs l yX1_load pw_X1_load ({ frames := 3, cells := 0, slots := 0, locals := 71 }) (va_Pc [.ref d, .double p1, .int p2] (fun U => U.heap.size = sz ∧ va_P D vwCl [(d, .inr (1, [.ref d_limbs, .ref d_digits, .int d_used, .int d_count, .int d_scale])), (d_limbs, .inl (cJ, 100, .inr (.inl d_limbsF))), (d_digits, .inl (cI, 910, .inl d_digitsF))] U.heap ∧ va_K D vwCl (ty3 cI cD cJ) U ∧ va_D (fun _ => True) [(d, .inr (1, [.ref d_limbs, .ref d_digits, .int d_used, .int d_count, .int d_scale])), (d_limbs, .inl (cJ, 100, .inr (.inl d_limbsF))), (d_digits, .inl (cI, 910, .inl d_digitsF))])) (va_Qv (fun (u : Int32 × Int32 × Int32 × (Nat → Int64) × (Nat → Int32)) => match u with | (d_used2, d_count2, d_scale2, d_limbsF2, d_digitsF2) => (0 ≤ (d_used2 : Int32).toInt ∧ (d_used2 : Int32).toInt ≤ 100) ∧ (0 ≤ (d_count2 : Int32).toInt ∧ (d_count2 : Int32).toInt ≤ 910)) (fun (u : Int32 × Int32 × Int32 × (Nat → Int64) × (Nat → Int32)) (t : State) => match u with | (d_used2, d_count2, d_scale2, d_limbsF2, d_digitsF2) => va_P D vwCl [(d, .inr (1, [.ref d_limbs, .ref d_digits, .int d_used2, .int d_count2, .int d_scale2])), (d_limbs, .inl (cJ, 100, .inr (.inl d_limbsF2))), (d_digits, .inl (cI, 910, .inl d_digitsF2))] t.heap ∧ va_K D vwCl (ty3 cI cD cJ) t ∧ va_D (va_A [(d, .inr (1, [.ref d_limbs, .ref d_digits, .int d_used, .int d_count, .int d_scale])), (d_limbs, .inl (cJ, 100, .inr (.inl d_limbsF))), (d_digits, .inl (cI, 910, .inl d_digitsF))] sz) [(d, .inr (1, [.ref d_limbs, .ref d_digits, .int d_used2, .int d_count2, .int d_scale2])), (d_limbs, .inl (cJ, 100, .inr (.inl d_limbsF2))), (d_digits, .inl (cI, 910, .inl d_digitsF2))]) (va_A [(d, .inr (1, [.ref d_limbs, .ref d_digits, .int d_used, .int d_count, .int d_scale])), (d_limbs, .inl (cJ, 100, .inr (.inl d_limbsF))), (d_digits, .inl (cI, 910, .inl d_digitsF))] sz)) 0 0 (va_A [(d, .inr (1, [.ref d_limbs, .ref d_digits, .int d_used, .int d_count, .int d_scale])), (d_limbs, .inl (cJ, 100, .inr (.inl d_limbsF))), (d_digits, .inl (cI, 910, .inl d_digitsF))] sz) := by
  refine MetD.ofW (cc := cX1_load) (maxL := 9) (ret := none) (by decide +kernel) rfl ?_
  intro p e s m args below meth c s₁ B hml hv hd0
  obtain ⟨rfl, hsz, hP, hK, hD0⟩ := hv
  have hx := B.exec
  have hb := B.bytes
  have hr := B.returns
  have hts := atoms_spec (ws := pw_X1_load) B.pre
  have hown : s.vm.findClass RX1 = some m.cls := findClass_of_methodNamed B.named
  have hlocks := B.notSynchronized
  subst hsz
  have hD := hD0.self (sz := s.heap.size)
  generalize hAe : va_A [(d, .inr (1, [.ref d_limbs, .ref d_digits, .int d_used, .int d_count, .int d_scale])), (d_limbs, .inl (cJ, 100, .inr (.inl d_limbsF))), (d_digits, .inl (cI, 910, .inl d_digitsF))] s.heap.size = A at hD ⊢
  have hA : ∀ q : Nat, s.heap.size ≤ q → A q := fun q h => by rw [← hAe]; exact Or.inr h
  have hS : va_S A s.heap s.heap [] := va_S.rf
  have hw : ∀ {d9 : Drawn} (k : Nat) (w : Cond), ow_X1_load[k]? = some w → w.before _ (s.setDrawn d9) = true := fun k w h => dr_words hts _ w (List.mem_cons_of_mem _ (have h9 := List.mem_of_getElem? h; List.mem_append_left _ h9))
  have i_X1_multiply : ∀ w ∈ pw_X1_multiply, w ∈ pw_X1_load := fun w h9 => List.mem_cons_of_mem _ (List.mem_append_right _ (List.mem_append_left _ h9))
  have i_X1_multiplyOften : ∀ w ∈ pw_X1_multiplyOften, w ∈ pw_X1_load := fun w h9 => List.mem_cons_of_mem _ (List.mem_append_right _ (List.mem_append_right _ (List.mem_append_left _ h9)))
  have i_X1_spread : ∀ w ∈ pw_X1_spread, w ∈ pw_X1_load := fun w h9 => List.mem_cons_of_mem _ (List.mem_append_right _ (List.mem_append_right _ (List.mem_append_right _ (List.mem_append_left _ h9))))
  have i_X1_push : ∀ w ∈ pw_X1_push, w ∈ pw_X1_load := fun w h9 => List.mem_cons_of_mem _ (List.mem_append_right _ (List.mem_append_right _ (List.mem_append_right _ (List.mem_append_right _ (List.mem_append_left _ h9)))))
  have iX1 : ∀ w ∈ u_ws RX1 TX1 5, w ∈ pw_X1_load := fun w h9 => List.mem_cons_of_mem _ (List.mem_append_right _ (List.mem_append_right _ (List.mem_append_right _ (List.mem_append_right _ (List.mem_append_right _ (h9))))))
  have n_m1 : (((-1) : Int32)).toInt = (-1) := by decide
  have n_0 : ((0 : Int32)).toInt = 0 := by decide
  have n_1 : ((1 : Int32)).toInt = 1 := by decide
  have n_1100 : ((1100 : Int32)).toInt = 1100 := by decide
  have n_2 : ((2 : Int32)).toInt = 2 := by decide
  have n_5 : ((5 : Int32)).toInt = 5 := by decide
  have nl_0 : ((0 : Int64)).toInt = 0 := by decide
  have nl_1000000000 : ((1000000000 : Int64)).toInt = 1000000000 := by decide
  have hl := lv_entry ([.ref d, .double p1, .int p2]) (n := 9) (Nat.le_of_ble_eq_true rfl)
  rw [lg_entry_eq]
  generalize (lg_sl ([.ref d, .double p1, .int p2]) ++ List.replicate (9 - (lg_sl ([.ref d, .double p1, .int p2])).length) Slot.unset).toArray = ls at hl ⊢
  have hl : lv_has ls 9 [(0, .ref d), (1, .double p1), (3, .int p2)] := hl
  have b_p2 := ti_b p2
  refine zz_capD (fun Z hZ1 hZ2 => ?_)
  refine lv_dload_n hx hb dX1_load_0 rfl (lv_at hl 1 rfl) ?_
  refine lv_dstore (lv' := [(4, .double p1), (0, .ref d), (1, .double p1), (3, .int p2)]) hx hb dX1_load_1 hl (by decide) rfl (fun ls hl => ?_)
  refine lv_iconst (v := 0) hx hb dX1_load_3 (by decide) ?_
  refine lv_istore (lv' := [(6, .int 0), (4, .double p1), (0, .ref d), (1, .double p1), (3, .int p2)]) hx hb dX1_load_4 hl (by decide) rfl (fun ls hl => ?_)
  refine lv_iconst (v := 0) hx hb dX1_load_6 (by decide) ?_
  refine lv_istore (lv' := [(7, .int 0), (6, .int 0), (4, .double p1), (0, .ref d), (1, .double p1), (3, .int p2)]) hx hb dX1_load_7 hl (by decide) rfl (fun ls hl => ?_)
  have L_9 : ∀ (N : Nat) (x_1 : Int32) (x_2 : Int32) (d_3 : UInt64) (H : Heap) (locs : List Loc) (ls : Array Slot) (dq9_4 : Drawn), s.drawn.sameBut dq9_4 lw_cs → (0 ≤ (x_1 : Int32).toInt) → ((2147483647 - (x_1 : Int32).toInt).toNat < N) → va_P D vwCl [(d, .inr (1, [.ref d_limbs, .ref d_digits, .int d_used, .int d_count, .int d_scale])), (d_limbs, .inl (cJ, 100, .inr (.inl d_limbsF))), (d_digits, .inl (cI, 910, .inl d_digitsF))] H → va_D A [(d, .inr (1, [.ref d_limbs, .ref d_digits, .int d_used, .int d_count, .int d_scale])), (d_limbs, .inl (cJ, 100, .inr (.inl d_limbsF))), (d_digits, .inl (cI, 910, .inl d_digitsF))] → va_S A s.heap H locs → lv_has ls 9 [(7, .int x_1), (6, .int x_2), (4, .double d_3), (0, .ref d), (3, .int p2)] → Z dq9_4 0 0 H locs (F0 m 9 ls []) := by
    intro N
    induction N with
    | zero => intro _ _ _ _ _ _ _ _ _ hmu; exact absurd hmu (Nat.not_lt_zero _)
    | succ N ih_9 =>
      intro x_1 x_2 d_3 H locs ls dq9_4 hdq9_4 g9_0 hmu hP hD hS hl
      refine hZ2 ?_
      refine lv_iload hx hb dX1_load_9 (lv_at hl 0 rfl) ?_
      refine lv_sipush (v := 1100) hx hb dX1_load_11 (by decide) ?_
      have K_43 : ∀ (H : Heap) (locs : List Loc) (ls : Array Slot) (dq43_5 : Drawn), s.drawn.sameBut dq43_5 lw_cs → va_P D vwCl [(d, .inr (1, [.ref d_limbs, .ref d_digits, .int d_used, .int d_count, .int d_scale])), (d_limbs, .inl (cJ, 100, .inr (.inl d_limbsF))), (d_digits, .inl (cI, 910, .inl d_digitsF))] H → va_D A [(d, .inr (1, [.ref d_limbs, .ref d_digits, .int d_used, .int d_count, .int d_scale])), (d_limbs, .inl (cJ, 100, .inr (.inl d_limbsF))), (d_digits, .inl (cI, 910, .inl d_digitsF))] → va_S A s.heap H locs → lv_has ls 9 [(6, .int x_2), (4, .double d_3), (0, .ref d), (3, .int p2)] → Z dq43_5 0 0 H locs (F0 m 43 ls []) := by
        intro  H locs ls dq43_5 hdq43_5  hP hD hS hl
        refine hZ2 ?_
        refine lv_iconst (v := 0) hx hb dX1_load_43 (by decide) ?_
        refine lv_istore (lv' := [(7, .int 0), (6, .int x_2), (4, .double d_3), (0, .ref d), (3, .int p2)]) hx hb dX1_load_44 hl (by decide) rfl (fun ls hl => ?_)
        have L_46 : ∀ (N : Nat) (x_6 : Int32) (x_7 : Int32) (d_8 : UInt64) (H : Heap) (locs : List Loc) (ls : Array Slot) (dq46_9 : Drawn), s.drawn.sameBut dq46_9 lw_cs → (0 ≤ (x_6 : Int32).toInt) → ((2147483647 - (x_6 : Int32).toInt).toNat < N) → va_P D vwCl [(d, .inr (1, [.ref d_limbs, .ref d_digits, .int d_used, .int d_count, .int d_scale])), (d_limbs, .inl (cJ, 100, .inr (.inl d_limbsF))), (d_digits, .inl (cI, 910, .inl d_digitsF))] H → va_D A [(d, .inr (1, [.ref d_limbs, .ref d_digits, .int d_used, .int d_count, .int d_scale])), (d_limbs, .inl (cJ, 100, .inr (.inl d_limbsF))), (d_digits, .inl (cI, 910, .inl d_digitsF))] → va_S A s.heap H locs → lv_has ls 9 [(7, .int x_6), (6, .int x_7), (4, .double d_8), (0, .ref d), (3, .int p2)] → Z dq46_9 0 0 H locs (F0 m 46 ls []) := by
          intro N
          induction N with
          | zero => intro _ _ _ _ _ _ _ _ _ hmu; exact absurd hmu (Nat.not_lt_zero _)
          | succ N ih_46 =>
            intro x_6 x_7 d_8 H locs ls dq46_9 hdq46_9 g46_0 hmu hP hD hS hl
            refine hZ2 ?_
            refine lv_iload hx hb dX1_load_46 (lv_at hl 0 rfl) ?_
            refine lv_sipush (v := 1100) hx hb dX1_load_48 (by decide) ?_
            have K_81 : ∀ (H : Heap) (locs : List Loc) (ls : Array Slot) (dq81_10 : Drawn), s.drawn.sameBut dq81_10 lw_cs → va_P D vwCl [(d, .inr (1, [.ref d_limbs, .ref d_digits, .int d_used, .int d_count, .int d_scale])), (d_limbs, .inl (cJ, 100, .inr (.inl d_limbsF))), (d_digits, .inl (cI, 910, .inl d_digitsF))] H → va_D A [(d, .inr (1, [.ref d_limbs, .ref d_digits, .int d_used, .int d_count, .int d_scale])), (d_limbs, .inl (cJ, 100, .inr (.inl d_limbsF))), (d_digits, .inl (cI, 910, .inl d_digitsF))] → va_S A s.heap H locs → lv_has ls 9 [(6, .int x_7), (4, .double d_8), (0, .ref d), (3, .int p2)] → Z dq81_10 0 0 H locs (F0 m 81 ls []) := by
              intro  H locs ls dq81_10 hdq81_10  hP hD hS hl
              refine hZ2 ?_
              refine lv_aload_n hx hb dX1_load_81 rfl (lv_at hl 2 rfl) ?_
              refine lv_iconst (v := 0) hx hb dX1_load_82 (by decide) ?_
              refine va_put (s := s.setDrawn dq81_10) (D := D) (ci := 1) (v := .int 0) (ty := .int) (C := RX1) (T := TX1) (N := 5) hx hb (dr_words hts _) iX1 tyX1 tyX1_ok nmX1 hown hK hP hD hS 0 rfl rfl 2 (by decide) (hw 0 (.fieldLink RX1 23 "NumberFormats$Decimal" "used" "I") rfl) (fun _ h9 => h9) rfl (by decide +kernel) rfl rfl (Nat.le_of_ble_eq_true rfl) dX1_load_83 (fun H locs hP hD hS => ?_)
              have hP : va_P D vwCl [(d, .inr (1, [.ref d_limbs, .ref d_digits, .int 0, .int d_count, .int d_scale])), (d_limbs, .inl (cJ, 100, .inr (.inl d_limbsF))), (d_digits, .inl (cI, 910, .inl d_digitsF))] H := hP
              have hD : va_D A [(d, .inr (1, [.ref d_limbs, .ref d_digits, .int 0, .int d_count, .int d_scale])), (d_limbs, .inl (cJ, 100, .inr (.inl d_limbsF))), (d_digits, .inl (cI, 910, .inl d_digitsF))] := hD
              refine lv_dload hx hb dX1_load_86 (lv_at hl 1 rfl) ?_
              refine lv_d2l hx hb dX1_load_88 ?_
              refine lv_topl (fun y_11 ey_11 => ?_)
              refine lv_lstore (lv' := [(7, .long y_11), (6, .int x_7), (4, .double d_8), (0, .ref d), (3, .int p2)]) hx hb dX1_load_89 hl (by decide) rfl (fun ls hl => ?_)
              have L_91 : ∀ (N : Nat) (y_12 : Int64) (x_13 : Int32) (f_14 : Nat → Int64) (H : Heap) (locs : List Loc) (ls : Array Slot) (dq91_15 : Drawn), s.drawn.sameBut dq91_15 lw_cs → (0 ≤ (x_13 : Int32).toInt ∧ (x_13 : Int32).toInt ≤ 100) → ((y_12 : Int64).toInt.toNat < N) → va_P D vwCl [(d, .inr (1, [.ref d_limbs, .ref d_digits, .int x_13, .int d_count, .int d_scale])), (d_limbs, .inl (cJ, 100, .inr (.inl f_14))), (d_digits, .inl (cI, 910, .inl d_digitsF))] H → va_D A [(d, .inr (1, [.ref d_limbs, .ref d_digits, .int x_13, .int d_count, .int d_scale])), (d_limbs, .inl (cJ, 100, .inr (.inl f_14))), (d_digits, .inl (cI, 910, .inl d_digitsF))] → va_S A s.heap H locs → lv_has ls 9 [(7, .long y_12), (6, .int x_7), (0, .ref d), (3, .int p2)] → Z dq91_15 0 0 H locs (F0 m 91 ls []) := by
                intro N
                induction N with
                | zero => intro _ _ _ _ _ _ _ _ _ hmu; exact absurd hmu (Nat.not_lt_zero _)
                | succ N ih_91 =>
                  intro y_12 x_13 f_14 H locs ls dq91_15 hdq91_15 g91_0 hmu hP hD hS hl
                  refine hZ2 ?_
                  refine lv_lload hx hb dX1_load_91 (lv_at hl 0 rfl) ?_
                  refine lv_lconst (v := 0) hx hb dX1_load_93 (by decide) ?_
                  refine W.lcmp hx hb dX1_load_94 ?_
                  refine lv_topi (fun x_16 ex_16 => ?_)
                  have tx_16 := ti_lcmp ex_16
                  refine lv_if_le (tgt := 119) hx hb dX1_load_95 (by decide) (fun c_17 => ?_) (fun c_17 => ?_)
                  · have ic_17 : (x_16 : Int32).toInt ≤ (0 : Int32).toInt := (fa_le x_16 0).mp c_17
                    refine lv_aload_n hx hb dX1_load_119 rfl (lv_at hl 2 rfl) ?_
                    refine lv_iload_n hx hb dX1_load_120 rfl (lv_at hl 3 rfl) ?_
                    have hPc := hP.sub (ws' := [(d, .inr (1, [.ref d_limbs, .ref d_digits, .int x_13, .int d_count, .int d_scale])), (d_limbs, .inl (cJ, 100, .inr (.inl f_14)))]) [0, 1] rfl
                    have hDc := hD.sub (ws' := [(d, .inr (1, [.ref d_limbs, .ref d_digits, .int x_13, .int d_count, .int d_scale])), (d_limbs, .inl (cJ, 100, .inr (.inl f_14)))]) [0, 1] (by decide) rfl
                    have hFc := va_free (wc := [(d, .inr (1, [.ref d_limbs, .ref d_digits, .int x_13, .int d_count, .int d_scale])), (d_limbs, .inl (cJ, 100, .inr (.inl f_14)))]) hD hS hA [0, 1] rfl
                    refine va_callv (va_runV (As := [.int p2]) (rest := []) ⟨hx, hb, hml, hown, (dr_words hts _)⟩ (c_X1_multiply l D cI cD cJ H.size d d_limbs d_digits x_13 d_count d_scale f_14 p2 (by omega) (by omega)) (cwV 1 (dr_words hts _) (goodIn_app (goodIn_r _ [2, 3, 4, 5] rfl (by decide +kernel)) (goodIn_sub i_X1_multiply k_X1_multiply)) rfl rfl rfl (by decide +kernel) ⟨Nat.le_of_ble_eq_true rfl, Nat.le_of_ble_eq_true rfl⟩) ⟨fun a U g mk q => by obtain ⟨q0, q1, qP, qK, qD⟩ := q; exact ⟨q0, q1, qP, va_K.moved (u := U) (U := U.calling g mk a) (Vm.Alike.refl U.vm) qK, qD⟩, va_recv hK hPc (ci := 1) (q0 := 0) rfl rfl, fun U hU hW => ⟨rfl, by rw [hU], by rw [hU]; exact hPc, va_K.moved hW.alike hK, hDc.weaken (fun _ _ _ _ => trivial)⟩⟩ rfl rfl hl.1 rfl (lv_room (Nat.le_of_ble_eq_true rfl)) dX1_load_121 ⟨Nat.le_of_ble_eq_true rfl, Nat.le_of_ble_eq_true rfl⟩) hS (fun q _ h => hFc q h) hFc (fun u t H1 locs ht hvm w_18 hB hz1 hk1 hS => ?_)
                    obtain ⟨u_19, u_20⟩ := u
                    obtain ⟨hP1, hK1, hD1⟩ := hB
                    rw [ht] at hP1
                    try dsimp only at w_18
                    obtain ⟨hP, hD⟩ := va_join (wr := [(d_digits, .inl (cI, 910, .inl d_digitsF))]) (w1 := [(d, .inr (1, [.ref d_limbs, .ref d_digits, .int u_19, .int d_count, .int d_scale])), (d_limbs, .inl (cJ, 100, .inr (.inl u_20)))]) hP hD [0, 1] [2] rfl rfl (by decide) (by decide) hk1 hFc hP1 hD1
                    generalize H1 = H at hP hS ⊢
                    have hP : va_P D vwCl [(d_digits, .inl (cI, 910, .inl d_digitsF)), (d, .inr (1, [.ref d_limbs, .ref d_digits, .int u_19, .int d_count, .int d_scale])), (d_limbs, .inl (cJ, 100, .inr (.inl u_20)))] H := hP
                    have hD : va_D A [(d_digits, .inl (cI, 910, .inl d_digitsF)), (d, .inr (1, [.ref d_limbs, .ref d_digits, .int u_19, .int d_count, .int d_scale])), (d_limbs, .inl (cJ, 100, .inr (.inl u_20)))] := hD
                    refine lv_aload_n hx hb dX1_load_124 rfl (lv_at hl 2 rfl) ?_
                    refine lv_iload hx hb dX1_load_125 (lv_at hl 1 rfl) ?_
                    have K_135 : ∀ (z_22 : Int32) (H : Heap) (locs : List Loc) (ls : Array Slot) (dq135_21 : Drawn), s.drawn.sameBut dq135_21 lw_cs → va_P D vwCl [(d_digits, .inl (cI, 910, .inl d_digitsF)), (d, .inr (1, [.ref d_limbs, .ref d_digits, .int u_19, .int d_count, .int d_scale])), (d_limbs, .inl (cJ, 100, .inr (.inl u_20)))] H → va_D A [(d_digits, .inl (cI, 910, .inl d_digitsF)), (d, .inr (1, [.ref d_limbs, .ref d_digits, .int u_19, .int d_count, .int d_scale])), (d_limbs, .inl (cJ, 100, .inr (.inl u_20)))] → va_S A s.heap H locs → lv_has ls 9 [(6, .int x_7), (0, .ref d)] → Z dq135_21 0 0 H locs (F0 m 135 ls [.int z_22, .ref d]) := by
                      intro z_22 H locs ls dq135_21 hdq135_21  hP hD hS hl
                      refine hZ2 ?_
                      refine lv_iload hx hb dX1_load_135 (lv_at hl 0 rfl) ?_
                      have K_148 : ∀ (z_24 : Int32) (H : Heap) (locs : List Loc) (ls : Array Slot) (dq148_23 : Drawn), s.drawn.sameBut dq148_23 lw_cs → va_P D vwCl [(d_digits, .inl (cI, 910, .inl d_digitsF)), (d, .inr (1, [.ref d_limbs, .ref d_digits, .int u_19, .int d_count, .int d_scale])), (d_limbs, .inl (cJ, 100, .inr (.inl u_20)))] H → va_D A [(d_digits, .inl (cI, 910, .inl d_digitsF)), (d, .inr (1, [.ref d_limbs, .ref d_digits, .int u_19, .int d_count, .int d_scale])), (d_limbs, .inl (cJ, 100, .inr (.inl u_20)))] → va_S A s.heap H locs → lv_has ls 9 [(6, .int x_7), (0, .ref d)] → Z dq148_23 0 0 H locs (F0 m 148 ls [.int z_24, .int z_22, .ref d]) := by
                        intro z_24 H locs ls dq148_23 hdq148_23  hP hD hS hl
                        refine hZ2 ?_
                        have hPc := hP.sub (ws' := [(d, .inr (1, [.ref d_limbs, .ref d_digits, .int u_19, .int d_count, .int d_scale])), (d_limbs, .inl (cJ, 100, .inr (.inl u_20)))]) [1, 2] rfl
                        have hDc := hD.sub (ws' := [(d, .inr (1, [.ref d_limbs, .ref d_digits, .int u_19, .int d_count, .int d_scale])), (d_limbs, .inl (cJ, 100, .inr (.inl u_20)))]) [1, 2] (by decide) rfl
                        have hFc := va_free (wc := [(d, .inr (1, [.ref d_limbs, .ref d_digits, .int u_19, .int d_count, .int d_scale])), (d_limbs, .inl (cJ, 100, .inr (.inl u_20)))]) hD hS hA [1, 2] rfl
                        refine va_callv (va_runV (As := [.int z_22, .int z_24]) (rest := []) ⟨hx, hb, hml, hown, (dr_words hts _)⟩ (c_X1_multiplyOften l D cI cD cJ H.size d d_limbs d_digits u_19 d_count d_scale u_20 z_22 z_24 (by omega) (by omega)) (cwV 2 (dr_words hts _) (goodIn_app (goodIn_r _ [6, 7, 8, 5] rfl (by decide +kernel)) (goodIn_sub i_X1_multiplyOften k_X1_multiplyOften)) rfl rfl rfl (by decide +kernel) ⟨Nat.le_of_ble_eq_true rfl, Nat.le_of_ble_eq_true rfl⟩) ⟨fun a U g mk q => by obtain ⟨q0, q1, qP, qK, qD⟩ := q; exact ⟨q0, q1, qP, va_K.moved (u := U) (U := U.calling g mk a) (Vm.Alike.refl U.vm) qK, qD⟩, va_recv hK hPc (ci := 1) (q0 := 0) rfl rfl, fun U hU hW => ⟨rfl, by rw [hU], by rw [hU]; exact hPc, va_K.moved hW.alike hK, hDc.weaken (fun _ _ _ _ => trivial)⟩⟩ rfl rfl hl.1 rfl (lv_room (Nat.le_of_ble_eq_true rfl)) dX1_load_148 ⟨Nat.le_of_ble_eq_true rfl, Nat.le_of_ble_eq_true rfl⟩) hS (fun q _ h => hFc q h) hFc (fun u t H1 locs ht hvm w_25 hB hz1 hk1 hS => ?_)
                        obtain ⟨u_26, u_27⟩ := u
                        obtain ⟨hP1, hK1, hD1⟩ := hB
                        rw [ht] at hP1
                        try dsimp only at w_25
                        obtain ⟨hP, hD⟩ := va_join (wr := [(d_digits, .inl (cI, 910, .inl d_digitsF))]) (w1 := [(d, .inr (1, [.ref d_limbs, .ref d_digits, .int u_26, .int d_count, .int d_scale])), (d_limbs, .inl (cJ, 100, .inr (.inl u_27)))]) hP hD [1, 2] [0] rfl rfl (by decide) (by decide) hk1 hFc hP1 hD1
                        generalize H1 = H at hP hS ⊢
                        have hP : va_P D vwCl [(d_digits, .inl (cI, 910, .inl d_digitsF)), (d, .inr (1, [.ref d_limbs, .ref d_digits, .int u_26, .int d_count, .int d_scale])), (d_limbs, .inl (cJ, 100, .inr (.inl u_27)))] H := hP
                        have hD : va_D A [(d_digits, .inl (cI, 910, .inl d_digitsF)), (d, .inr (1, [.ref d_limbs, .ref d_digits, .int u_26, .int d_count, .int d_scale])), (d_limbs, .inl (cJ, 100, .inr (.inl u_27)))] := hD
                        refine lv_aload_n hx hb dX1_load_151 rfl (lv_at hl 1 rfl) ?_
                        refine lv_iload hx hb dX1_load_152 (lv_at hl 0 rfl) ?_
                        have K_164 : ∀ (z_29 : Int32) (H : Heap) (locs : List Loc) (ls : Array Slot) (dq164_28 : Drawn), s.drawn.sameBut dq164_28 lw_cs → va_P D vwCl [(d_digits, .inl (cI, 910, .inl d_digitsF)), (d, .inr (1, [.ref d_limbs, .ref d_digits, .int u_26, .int d_count, .int d_scale])), (d_limbs, .inl (cJ, 100, .inr (.inl u_27)))] H → va_D A [(d_digits, .inl (cI, 910, .inl d_digitsF)), (d, .inr (1, [.ref d_limbs, .ref d_digits, .int u_26, .int d_count, .int d_scale])), (d_limbs, .inl (cJ, 100, .inr (.inl u_27)))] → va_S A s.heap H locs → lv_has ls 9 [(0, .ref d)] → Z dq164_28 0 0 H locs (F0 m 164 ls [.int z_29, .ref d]) := by
                          intro z_29 H locs ls dq164_28 hdq164_28  hP hD hS hl
                          refine hZ2 ?_
                          refine va_put (s := s.setDrawn dq164_28) (D := D) (ci := 1) (v := .int z_29) (ty := .int) (C := RX1) (T := TX1) (N := 5) hx hb (dr_words hts _) iX1 tyX1 tyX1_ok nmX1 hown hK hP hD hS 1 rfl rfl 4 (by decide) (hw 8 (.fieldLink RX1 41 "NumberFormats$Decimal" "scale" "I") rfl) (fun _ h9 => h9) rfl (by decide +kernel) rfl rfl (Nat.le_of_ble_eq_true rfl) dX1_load_164 (fun H locs hP hD hS => ?_)
                          have hP : va_P D vwCl [(d_digits, .inl (cI, 910, .inl d_digitsF)), (d, .inr (1, [.ref d_limbs, .ref d_digits, .int u_26, .int d_count, .int z_29])), (d_limbs, .inl (cJ, 100, .inr (.inl u_27)))] H := hP
                          have hD : va_D A [(d_digits, .inl (cI, 910, .inl d_digitsF)), (d, .inr (1, [.ref d_limbs, .ref d_digits, .int u_26, .int d_count, .int z_29])), (d_limbs, .inl (cJ, 100, .inr (.inl u_27)))] := hD
                          refine lv_aload_n hx hb dX1_load_167 rfl (lv_at hl 0 rfl) ?_
                          have hPc := hP.sub (ws' := [(d, .inr (1, [.ref d_limbs, .ref d_digits, .int u_26, .int d_count, .int z_29])), (d_limbs, .inl (cJ, 100, .inr (.inl u_27))), (d_digits, .inl (cI, 910, .inl d_digitsF))]) [1, 2, 0] rfl
                          have hDc := hD.sub (ws' := [(d, .inr (1, [.ref d_limbs, .ref d_digits, .int u_26, .int d_count, .int z_29])), (d_limbs, .inl (cJ, 100, .inr (.inl u_27))), (d_digits, .inl (cI, 910, .inl d_digitsF))]) [1, 2, 0] (by decide) rfl
                          have hFc := va_free (wc := [(d, .inr (1, [.ref d_limbs, .ref d_digits, .int u_26, .int d_count, .int z_29])), (d_limbs, .inl (cJ, 100, .inr (.inl u_27))), (d_digits, .inl (cI, 910, .inl d_digitsF))]) hD hS hA [1, 2, 0] rfl
                          refine va_callv (va_runV (As := []) (rest := []) ⟨hx, hb, hml, hown, (dr_words hts _)⟩ (c_X1_spread l D cI cD cJ H.size d d_limbs d_digits u_26 d_count z_29 u_27 d_digitsF (by omega) (by omega)) (cwV 0 (dr_words hts _) (goodIn_app (goodIn_r _ [10, 11, 12, 5] rfl (by decide +kernel)) (goodIn_sub i_X1_spread k_X1_spread)) rfl rfl rfl (by decide +kernel) ⟨Nat.le_of_ble_eq_true rfl, Nat.le_of_ble_eq_true rfl⟩) ⟨fun a U g mk q => by obtain ⟨q0, q1, qP, qK, qD⟩ := q; exact ⟨q0, q1, qP, va_K.moved (u := U) (U := U.calling g mk a) (Vm.Alike.refl U.vm) qK, qD⟩, va_recv hK hPc (ci := 1) (q0 := 0) rfl rfl, fun U hU hW => ⟨rfl, by rw [hU], by rw [hU]; exact hPc, va_K.moved hW.alike hK, hDc.weaken (fun _ _ _ _ => trivial)⟩⟩ rfl rfl hl.1 rfl (lv_room (Nat.le_of_ble_eq_true rfl)) dX1_load_168 ⟨Nat.le_of_ble_eq_true rfl, Nat.le_of_ble_eq_true rfl⟩) hS (fun q _ h => hFc q h) hFc (fun u t H1 locs ht hvm w_30 hB hz1 hk1 hS => ?_)
                          obtain ⟨u_31, u_32⟩ := u
                          obtain ⟨hP1, hK1, hD1⟩ := hB
                          rw [ht] at hP1
                          try dsimp only at w_30
                          obtain ⟨hP, hD⟩ := va_join (wr := []) (w1 := [(d, .inr (1, [.ref d_limbs, .ref d_digits, .int u_26, .int u_31, .int z_29])), (d_limbs, .inl (cJ, 100, .inr (.inl u_27))), (d_digits, .inl (cI, 910, .inl u_32))]) hP hD [1, 2, 0] [] rfl rfl (by decide) (by decide) hk1 hFc hP1 hD1
                          generalize H1 = H at hP hS ⊢
                          have hP : va_P D vwCl [(d, .inr (1, [.ref d_limbs, .ref d_digits, .int u_26, .int u_31, .int z_29])), (d_limbs, .inl (cJ, 100, .inr (.inl u_27))), (d_digits, .inl (cI, 910, .inl u_32))] H := hP
                          have hD : va_D A [(d, .inr (1, [.ref d_limbs, .ref d_digits, .int u_26, .int u_31, .int z_29])), (d_limbs, .inl (cJ, 100, .inr (.inl u_27))), (d_digits, .inl (cI, 910, .inl u_32))] := hD
                          refine W.endD hdq164_28 ?_
                          have hP9 := hP.sub (ws' := [(d, .inr (1, [.ref d_limbs, .ref d_digits, .int u_26, .int u_31, .int z_29])), (d_limbs, .inl (cJ, 100, .inr (.inl u_27))), (d_digits, .inl (cI, 910, .inl u_32))]) [0, 1, 2] rfl
                          have hD9 := hD.sub (ws' := [(d, .inr (1, [.ref d_limbs, .ref d_digits, .int u_26, .int u_31, .int z_29])), (d_limbs, .inl (cJ, 100, .inr (.inl u_27))), (d_digits, .inl (cI, 910, .inl u_32))]) [0, 1, 2] (by decide) rfl
                          exact W.vret hx hb hr (fun t ht hW => ⟨⟨(u_26, u_31, z_29, u_27, u_32), rfl, (by (try dsimp only); refine ⟨?_, ?_⟩ <;> first | omega | assumption), by rw [ht]; exact hP9, va_K.moved hW.alike hK, hD9⟩, hS.F ht⟩) hS.2.2 dX1_load_171
                        refine lv_if_le (tgt := 161) hx hb dX1_load_154 (by decide) (fun c_33 => ?_) (fun c_33 => ?_)
                        · have ic_33 : (x_7 : Int32).toInt ≤ (0 : Int32).toInt := (fa_le x_7 0).mp c_33
                          refine lv_iload hx hb dX1_load_161 (lv_at hl 0 rfl) ?_
                          refine lv_ineg hx hb dX1_load_163 ?_
                          refine lv_topi (fun x_34 ex_34 => ?_)
                          exact hZ1 (K_164 x_34 _ _ _ dq148_23 hdq148_23 hP hD hS (lv_sub hl [1] rfl))
                        · have ic_33 : ¬ ((x_7 : Int32).toInt ≤ (0 : Int32).toInt) := fun h9 => c_33 ((fa_le x_7 0).mpr h9)
                          refine lv_iconst (v := 0) hx hb dX1_load_157 (by decide) ?_
                          refine lv_goto (tgt := 164) hx hb dX1_load_158 (by decide) ?_
                          exact hZ1 (K_164 0 _ _ _ dq148_23 hdq148_23 hP hD hS (lv_sub hl [1] rfl))
                      refine lv_if_le (tgt := 145) hx hb dX1_load_137 (by decide) (fun c_35 => ?_) (fun c_35 => ?_)
                      · have ic_35 : (x_7 : Int32).toInt ≤ (0 : Int32).toInt := (fa_le x_7 0).mp c_35
                        refine lv_iload hx hb dX1_load_145 (lv_at hl 0 rfl) ?_
                        refine lv_ineg hx hb dX1_load_147 ?_
                        refine lv_topi (fun x_36 ex_36 => ?_)
                        exact hZ1 (K_148 x_36 _ _ _ dq135_21 hdq135_21 hP hD hS hl)
                      · have ic_35 : ¬ ((x_7 : Int32).toInt ≤ (0 : Int32).toInt) := fun h9 => c_35 ((fa_le x_7 0).mpr h9)
                        refine lv_iload hx hb dX1_load_140 (lv_at hl 0 rfl) ?_
                        refine lv_goto (tgt := 148) hx hb dX1_load_142 (by decide) ?_
                        exact hZ1 (K_148 x_7 _ _ _ dq135_21 hdq135_21 hP hD hS hl)
                    refine lv_if_le (tgt := 134) hx hb dX1_load_127 (by decide) (fun c_37 => ?_) (fun c_37 => ?_)
                    · have ic_37 : (x_7 : Int32).toInt ≤ (0 : Int32).toInt := (fa_le x_7 0).mp c_37
                      refine lv_iconst (v := 5) hx hb dX1_load_134 (by decide) ?_
                      exact hZ1 (K_135 5 _ _ _ dq91_15 hdq91_15 hP hD hS (lv_sub hl [1, 2] rfl))
                    · have ic_37 : ¬ ((x_7 : Int32).toInt ≤ (0 : Int32).toInt) := fun h9 => c_37 ((fa_le x_7 0).mpr h9)
                      refine lv_iconst (v := 2) hx hb dX1_load_130 (by decide) ?_
                      refine lv_goto (tgt := 135) hx hb dX1_load_131 (by decide) ?_
                      exact hZ1 (K_135 2 _ _ _ dq91_15 hdq91_15 hP hD hS (lv_sub hl [1, 2] rfl))
                  · have ic_17 : ¬ ((x_16 : Int32).toInt ≤ (0 : Int32).toInt) := fun h9 => c_17 ((fa_le x_16 0).mpr h9)
                    refine lv_aload_n hx hb dX1_load_98 rfl (lv_at hl 2 rfl) ?_
                    refine lv_lload hx hb dX1_load_99 (lv_at hl 0 rfl) ?_
                    refine lv_ldc2 (v := 1000000000) hx hb hown (hw 12 (.constantLong RX1 27 (1000000000)) rfl) dX1_load_101 ?_
                    refine lv_lrem hx hb dX1_load_104 (by decide) ?_
                    refine lv_topl (fun y_38 ey_38 => ?_)
                    have ty_38 := tl_rem ey_38 (by decide)
                    rw [nl_1000000000] at ty_38
                    have hPc := hP.sub (ws' := [(d, .inr (1, [.ref d_limbs, .ref d_digits, .int x_13, .int d_count, .int d_scale])), (d_limbs, .inl (cJ, 100, .inr (.inl f_14)))]) [0, 1] rfl
                    have hDc := hD.sub (ws' := [(d, .inr (1, [.ref d_limbs, .ref d_digits, .int x_13, .int d_count, .int d_scale])), (d_limbs, .inl (cJ, 100, .inr (.inl f_14)))]) [0, 1] (by decide) rfl
                    have hFc := va_free (wc := [(d, .inr (1, [.ref d_limbs, .ref d_digits, .int x_13, .int d_count, .int d_scale])), (d_limbs, .inl (cJ, 100, .inr (.inl f_14)))]) hD hS hA [0, 1] rfl
                    refine va_callv (va_runV (As := [.long y_38]) (rest := []) ⟨hx, hb, hml, hown, (dr_words hts _)⟩ (c_X1_push l D cI cD cJ H.size d d_limbs d_digits x_13 d_count d_scale f_14 y_38 (by omega) (by omega)) (cwV 1 (dr_words hts _) (goodIn_app (goodIn_r _ [14, 15, 16, 5] rfl (by decide +kernel)) (goodIn_sub i_X1_push k_X1_push)) rfl rfl rfl (by decide +kernel) ⟨Nat.le_of_ble_eq_true rfl, Nat.le_of_ble_eq_true rfl⟩) ⟨fun a U g mk q => by obtain ⟨q0, q1, qP, qK, qD⟩ := q; exact ⟨q0, q1, qP, va_K.moved (u := U) (U := U.calling g mk a) (Vm.Alike.refl U.vm) qK, qD⟩, va_recv hK hPc (ci := 1) (q0 := 0) rfl rfl, fun U hU hW => ⟨rfl, by rw [hU], by rw [hU]; exact hPc, va_K.moved hW.alike hK, hDc.weaken (fun _ _ _ _ => trivial)⟩⟩ rfl rfl hl.1 rfl (lv_room (Nat.le_of_ble_eq_true rfl)) dX1_load_105 ⟨Nat.le_of_ble_eq_true rfl, Nat.le_of_ble_eq_true rfl⟩) hS (fun q _ h => hFc q h) hFc (fun u t H1 locs ht hvm w_39 hB hz1 hk1 hS => ?_)
                    obtain ⟨u_40, u_41⟩ := u
                    obtain ⟨hP1, hK1, hD1⟩ := hB
                    rw [ht] at hP1
                    try dsimp only at w_39
                    obtain ⟨hP, hD⟩ := va_join (wr := [(d_digits, .inl (cI, 910, .inl d_digitsF))]) (w1 := [(d, .inr (1, [.ref d_limbs, .ref d_digits, .int u_40, .int d_count, .int d_scale])), (d_limbs, .inl (cJ, 100, .inr (.inl u_41)))]) hP hD [0, 1] [2] rfl rfl (by decide) (by decide) hk1 hFc hP1 hD1
                    generalize H1 = H at hP hS ⊢
                    have hP : va_P D vwCl [(d_digits, .inl (cI, 910, .inl d_digitsF)), (d, .inr (1, [.ref d_limbs, .ref d_digits, .int u_40, .int d_count, .int d_scale])), (d_limbs, .inl (cJ, 100, .inr (.inl u_41)))] H := hP
                    have hD : va_D A [(d_digits, .inl (cI, 910, .inl d_digitsF)), (d, .inr (1, [.ref d_limbs, .ref d_digits, .int u_40, .int d_count, .int d_scale])), (d_limbs, .inl (cJ, 100, .inr (.inl u_41)))] := hD
                    refine lv_lload hx hb dX1_load_108 (lv_at hl 0 rfl) ?_
                    refine lv_ldc2 (v := 1000000000) hx hb hown (hw 12 (.constantLong RX1 27 (1000000000)) rfl) dX1_load_110 ?_
                    refine lv_ldiv hx hb dX1_load_113 (by decide) ?_
                    refine lv_topl (fun y_42 ey_42 => ?_)
                    have ty_42 := tl_div ey_42 (by decide)
                    rw [nl_1000000000] at ty_42
                    refine lv_lstore (lv' := [(7, .long y_42), (6, .int x_7), (0, .ref d), (3, .int p2)]) hx hb dX1_load_114 hl (by decide) rfl (fun ls hl => ?_)
                    refine lv_goto (tgt := 91) hx hb dX1_load_116 (by decide) ?_
                    exact hZ1 (ih_91 y_42 u_40 u_41 _ _ _ dq91_15 hdq91_15 (by omega) (by omega) (hP.sub [1, 2, 0] rfl) (hD.sub [1, 2, 0] (by decide) rfl) hS hl)
              exact hZ1 (L_91 (((y_11 : Int64).toInt.toNat) + 1) y_11 0 d_limbsF _ _ _ dq81_10 hdq81_10 (by omega) (by omega) hP hD hS (lv_sub hl [0, 1, 3, 4] rfl))
            refine lv_icmp_ge (tgt := 81) hx hb dX1_load_51 (by decide) (fun c_43 => ?_) (fun c_43 => ?_)
            · have ic_43 : (1100 : Int32).toInt ≤ (x_6 : Int32).toInt := (fa_le 1100 x_6).mp c_43
              exact hZ1 (K_81  _ _ _ dq46_9 hdq46_9 hP hD hS (lv_sub hl [1, 2, 3, 4] rfl))
            · have ic_43 : ¬ ((1100 : Int32).toInt ≤ (x_6 : Int32).toInt) := fun h9 => c_43 ((fa_le 1100 x_6).mpr h9)
              refine lv_dload hx hb dX1_load_54 (lv_at hl 2 rfl) ?_
              refine lv_dload hx hb dX1_load_56 (lv_at hl 2 rfl) ?_
              refine lv_d2l hx hb dX1_load_58 ?_
              refine lv_topl (fun y_44 ey_44 => ?_)
              refine lv_l2d hx hb dX1_load_59 ?_
              refine lv_topd (fun d_45 ed_45 => ?_)
              refine lv_dcmp hx hb dX1_load_60 ?_
              refine lv_topi (fun x_46 ex_46 => ?_)
              refine lv_if_eq (tgt := 81) hx hb dX1_load_61 (by decide) (fun c_47 => ?_) (fun c_47 => ?_)
              · have ic_47 : (x_46 : Int32).toInt = (0 : Int32).toInt := (fa_eq x_46 0).mp c_47
                exact hZ1 (K_81  _ _ _ dq46_9 hdq46_9 hP hD hS (lv_sub hl [1, 2, 3, 4] rfl))
              · have ic_47 : ¬ ((x_46 : Int32).toInt = (0 : Int32).toInt) := fun h9 => c_47 ((fa_eq x_46 0).mpr h9)
                refine lv_dload hx hb dX1_load_64 (lv_at hl 2 rfl) ?_
                refine lv_ldc2d (v := 4611686018427387904) hx hb hown (hw 16 (.constantDouble RX1 21 (4611686018427387904)) rfl) dX1_load_66 ?_
                refine lv_dmul_any hdq46_9 lw_bits hx hb dX1_load_69 (fun d_48 dhd_49 ad_48 hd_49 => ?_)
                refine lv_dstore (lv' := [(4, .double d_48), (7, .int x_6), (6, .int x_7), (0, .ref d), (3, .int p2)]) hx hb dX1_load_70 hl (by decide) rfl (fun ls hl => ?_)
                obtain ⟨x_50, ex_50⟩ : ∃ y : Int32, y = x_7 + (-1) := ⟨_, rfl⟩
                have tx_50 := ti_add ex_50
                refine lv_iinc (v := x_50) (lv' := [(6, .int x_50), (4, .double d_48), (7, .int x_6), (0, .ref d), (3, .int p2)]) hx hb dX1_load_72 hl (k := 2) rfl (by rw [ex_50]; rfl) (by decide) rfl (fun ls hl => ?_)
                obtain ⟨x_51, ex_51⟩ : ∃ y : Int32, y = x_6 + 1 := ⟨_, rfl⟩
                have tx_51 := ti_add ex_51
                refine lv_iinc (v := x_51) (lv' := [(7, .int x_51), (6, .int x_50), (4, .double d_48), (0, .ref d), (3, .int p2)]) hx hb dX1_load_75 hl (k := 2) rfl (by rw [ex_51]; rfl) (by decide) rfl (fun ls hl => ?_)
                refine lv_goto (tgt := 46) hx hb dX1_load_78 (by decide) ?_
                exact hZ1 (ih_46 x_51 x_50 d_48 _ _ _ dhd_49 hd_49 (by omega) (by omega) hP hD hS hl)
        exact hZ1 (L_46 (((2147483647 - (0 : Int32).toInt).toNat) + 1) 0 x_2 d_3 _ _ _ dq43_5 hdq43_5 (by omega) (by omega) hP hD hS hl)
      refine lv_icmp_ge (tgt := 43) hx hb dX1_load_14 (by decide) (fun c_52 => ?_) (fun c_52 => ?_)
      · have ic_52 : (1100 : Int32).toInt ≤ (x_1 : Int32).toInt := (fa_le 1100 x_1).mp c_52
        exact hZ1 (K_43  _ _ _ dq9_4 hdq9_4 hP hD hS (lv_sub hl [1, 2, 3, 4] rfl))
      · have ic_52 : ¬ ((1100 : Int32).toInt ≤ (x_1 : Int32).toInt) := fun h9 => c_52 ((fa_le 1100 x_1).mpr h9)
        refine lv_dload hx hb dX1_load_17 (lv_at hl 2 rfl) ?_
        refine lv_ldc2d (v := 4845873199050653696) hx hb hown (hw 17 (.constantDouble RX1 17 (4845873199050653696)) rfl) dX1_load_19 ?_
        refine lv_dcmp hx hb dX1_load_22 ?_
        refine lv_topi (fun x_53 ex_53 => ?_)
        refine lv_if_lt (tgt := 43) hx hb dX1_load_23 (by decide) (fun c_54 => ?_) (fun c_54 => ?_)
        · have ic_54 : (x_53 : Int32).toInt < (0 : Int32).toInt := (fa_lt x_53 0).mp c_54
          exact hZ1 (K_43  _ _ _ dq9_4 hdq9_4 hP hD hS (lv_sub hl [1, 2, 3, 4] rfl))
        · have ic_54 : ¬ ((x_53 : Int32).toInt < (0 : Int32).toInt) := fun h9 => c_54 ((fa_lt x_53 0).mpr h9)
          refine lv_dload hx hb dX1_load_26 (lv_at hl 2 rfl) ?_
          refine lv_ldc2d (v := 4602678819172646912) hx hb hown (hw 18 (.constantDouble RX1 19 (4602678819172646912)) rfl) dX1_load_28 ?_
          refine lv_dmul_any hdq9_4 lw_bits hx hb dX1_load_31 (fun d_55 dhd_56 ad_55 hd_56 => ?_)
          refine lv_dstore (lv' := [(4, .double d_55), (7, .int x_1), (6, .int x_2), (0, .ref d), (3, .int p2)]) hx hb dX1_load_32 hl (by decide) rfl (fun ls hl => ?_)
          obtain ⟨x_57, ex_57⟩ : ∃ y : Int32, y = x_2 + 1 := ⟨_, rfl⟩
          have tx_57 := ti_add ex_57
          refine lv_iinc (v := x_57) (lv' := [(6, .int x_57), (4, .double d_55), (7, .int x_1), (0, .ref d), (3, .int p2)]) hx hb dX1_load_34 hl (k := 2) rfl (by rw [ex_57]; rfl) (by decide) rfl (fun ls hl => ?_)
          obtain ⟨x_58, ex_58⟩ : ∃ y : Int32, y = x_1 + 1 := ⟨_, rfl⟩
          have tx_58 := ti_add ex_58
          refine lv_iinc (v := x_58) (lv' := [(7, .int x_58), (6, .int x_57), (4, .double d_55), (0, .ref d), (3, .int p2)]) hx hb dX1_load_37 hl (k := 2) rfl (by rw [ex_58]; rfl) (by decide) rfl (fun ls hl => ?_)
          refine lv_goto (tgt := 9) hx hb dX1_load_40 (by decide) ?_
          exact hZ1 (ih_9 x_58 x_57 d_55 _ _ _ dhd_56 hd_56 (by omega) (by omega) hP hD hS hl)
  exact hZ1 (L_9 (((2147483647 - (0 : Int32).toInt).toNat) + 1) 0 0 p1 _ _ _ s.drawn hd0 (by omega) (by omega) hP hD hS (lv_sub hl [0, 1, 2, 3, 5] rfl))

def ow_X1_loadWhole : List Cond := [Cond.fieldLink RX1 41 "NumberFormats$Decimal" "scale" "I", Cond.fieldLink RX1 47 "NumberFormats$Decimal" "count" "I", Cond.fieldLink RX1 13 "NumberFormats$Decimal" "digits" "[I", Cond.constantLong RX1 50 (10)]
def pw_X1_loadWhole : List Cond := Cond.code yX1_loadWhole cX1_loadWhole 5 none :: (ow_X1_loadWhole ++ (wsX10))
set_option maxRecDepth 20000 in
theorem mo_X1_loadWhole : ∀ w ∈ ow_X1_loadWhole, w ∈ lw_tbl := by decide +kernel
set_option maxRecDepth 20000 in
theorem mc_X1_loadWhole : Cond.code yX1_loadWhole cX1_loadWhole 5 none ∈ lw_tbl := by decide +kernel
theorem m_X1_loadWhole : ∀ w ∈ pw_X1_loadWhole, w ∈ lw_tbl := List.forall_mem_cons.mpr ⟨mc_X1_loadWhole, (List.forall_mem_append.mpr ⟨mo_X1_loadWhole, inX1⟩)⟩
theorem ko_X1_loadWhole : ∀ w ∈ ow_X1_loadWhole, goodWord w = true := by decide +kernel
theorem k_X1_loadWhole : pw_X1_loadWhole.all goodWord = true := List.all_eq_true.mpr (List.forall_mem_cons.mpr ⟨by decide +kernel, (List.forall_mem_append.mpr ⟨ko_X1_loadWhole, kX_X1⟩)⟩)
set_option maxHeartbeats 400000 in
set_option maxRecDepth 100000 in
theorem c_X1_loadWhole (l : Launch) (D : va_G) (cI cD cJ : ClassId) (sz : Nat) (d : Nat) (d_limbs : Nat) (d_digits : Nat) (d_used : Int32) (d_count : Int32) (d_scale : Int32) (d_digitsF : Nat → Int32) (p1 : Int64) (iv_d_used : 0 ≤ (d_used : Int32).toInt ∧ (d_used : Int32).toInt ≤ 100) (iv_d_count : 0 ≤ (d_count : Int32).toInt ∧ (d_count : Int32).toInt ≤ 910) : Met l yX1_loadWhole pw_X1_loadWhole ({ frames := 0, cells := 0, slots := 0, locals := 0 }) (va_Pc [.ref d, .long p1] (fun U => U.heap.size = sz ∧ va_P D vwCl [(d, .inr (1, [.ref d_limbs, .ref d_digits, .int d_used, .int d_count, .int d_scale])), (d_digits, .inl (cI, 910, .inl d_digitsF))] U.heap ∧ va_K D vwCl (ty3 cI cD cJ) U ∧ va_D (fun _ => True) [(d, .inr (1, [.ref d_limbs, .ref d_digits, .int d_used, .int d_count, .int d_scale])), (d_digits, .inl (cI, 910, .inl d_digitsF))])) (va_Qv (fun (u : Int32 × Int32 × (Nat → Int32)) => match u with | (d_count2, d_scale2, d_digitsF2) => (0 ≤ (d_count2 : Int32).toInt ∧ (d_count2 : Int32).toInt ≤ 910)) (fun (u : Int32 × Int32 × (Nat → Int32)) (t : State) => match u with | (d_count2, d_scale2, d_digitsF2) => va_P D vwCl [(d, .inr (1, [.ref d_limbs, .ref d_digits, .int d_used, .int d_count2, .int d_scale2])), (d_digits, .inl (cI, 910, .inl d_digitsF2))] t.heap ∧ va_K D vwCl (ty3 cI cD cJ) t ∧ va_D (va_A [(d, .inr (1, [.ref d_limbs, .ref d_digits, .int d_used, .int d_count, .int d_scale])), (d_digits, .inl (cI, 910, .inl d_digitsF))] sz) [(d, .inr (1, [.ref d_limbs, .ref d_digits, .int d_used, .int d_count2, .int d_scale2])), (d_digits, .inl (cI, 910, .inl d_digitsF2))]) (va_A [(d, .inr (1, [.ref d_limbs, .ref d_digits, .int d_used, .int d_count, .int d_scale])), (d_digits, .inl (cI, 910, .inl d_digitsF))] sz)) 0 0 (va_A [(d, .inr (1, [.ref d_limbs, .ref d_digits, .int d_used, .int d_count, .int d_scale])), (d_digits, .inl (cI, 910, .inl d_digitsF))] sz) := by
  refine Met.ofW (cc := cX1_loadWhole) (maxL := 5) (ret := none) (by decide +kernel) rfl ?_
  intro p e s m args below meth c s₁ B hml hv
  obtain ⟨rfl, hsz, hP, hK, hD0⟩ := hv
  have hx := B.exec
  have hb := B.bytes
  have hr := B.returns
  have hts := atoms_spec (ws := pw_X1_loadWhole) B.pre
  have hown : s.vm.findClass RX1 = some m.cls := findClass_of_methodNamed B.named
  have hlocks := B.notSynchronized
  subst hsz
  have hD := hD0.self (sz := s.heap.size)
  generalize hAe : va_A [(d, .inr (1, [.ref d_limbs, .ref d_digits, .int d_used, .int d_count, .int d_scale])), (d_digits, .inl (cI, 910, .inl d_digitsF))] s.heap.size = A at hD ⊢
  have hA : ∀ q : Nat, s.heap.size ≤ q → A q := fun q h => by rw [← hAe]; exact Or.inr h
  have hS : va_S A s.heap s.heap [] := va_S.rf
  have hw : ∀ (k : Nat) (w : Cond), ow_X1_loadWhole[k]? = some w → w.before _ s = true := fun k w h => hts w (List.mem_cons_of_mem _ (have h9 := List.mem_of_getElem? h; List.mem_append_left _ h9))
  have iX1 : ∀ w ∈ u_ws RX1 TX1 5, w ∈ pw_X1_loadWhole := fun w h9 => List.mem_cons_of_mem _ (List.mem_append_right _ (h9))
  have n_0 : ((0 : Int32)).toInt = 0 := by decide
  have n_1 : ((1 : Int32)).toInt = 1 := by decide
  have n_910 : ((910 : Int32)).toInt = 910 := by decide
  have nl_0 : ((0 : Int64)).toInt = 0 := by decide
  have nl_10 : ((10 : Int64)).toInt = 10 := by decide
  have hl := lv_entry ([.ref d, .long p1]) (n := 5) (Nat.le_of_ble_eq_true rfl)
  rw [lg_entry_eq]
  generalize (lg_sl ([.ref d, .long p1]) ++ List.replicate (5 - (lg_sl ([.ref d, .long p1])).length) Slot.unset).toArray = ls at hl ⊢
  have hl : lv_has ls 5 [(0, .ref d), (1, .long p1)] := hl
  refine zz_cap (fun Z hZ1 hZ2 => ?_)
  refine lv_aload_n hx hb dX1_loadWhole_0 rfl (lv_at hl 0 rfl) ?_
  refine lv_iconst (v := 0) hx hb dX1_loadWhole_1 (by decide) ?_
  refine va_put (D := D) (ci := 1) (v := .int 0) (ty := .int) (C := RX1) (T := TX1) (N := 5) hx hb hts iX1 tyX1 tyX1_ok nmX1 hown hK hP hD hS 0 rfl rfl 4 (by decide) (hw 0 (.fieldLink RX1 41 "NumberFormats$Decimal" "scale" "I") rfl) (fun _ h9 => h9) rfl (by decide +kernel) rfl rfl (Nat.le_of_ble_eq_true rfl) dX1_loadWhole_2 (fun H locs hP hD hS => ?_)
  have hP : va_P D vwCl [(d, .inr (1, [.ref d_limbs, .ref d_digits, .int d_used, .int d_count, .int 0])), (d_digits, .inl (cI, 910, .inl d_digitsF))] H := hP
  have hD : va_D A [(d, .inr (1, [.ref d_limbs, .ref d_digits, .int d_used, .int d_count, .int 0])), (d_digits, .inl (cI, 910, .inl d_digitsF))] := hD
  refine lv_aload_n hx hb dX1_loadWhole_5 rfl (lv_at hl 0 rfl) ?_
  refine lv_iconst (v := 0) hx hb dX1_loadWhole_6 (by decide) ?_
  refine va_put (D := D) (ci := 1) (v := .int 0) (ty := .int) (C := RX1) (T := TX1) (N := 5) hx hb hts iX1 tyX1 tyX1_ok nmX1 hown hK hP hD hS 0 rfl rfl 3 (by decide) (hw 1 (.fieldLink RX1 47 "NumberFormats$Decimal" "count" "I") rfl) (fun _ h9 => h9) rfl (by decide +kernel) rfl rfl (Nat.le_of_ble_eq_true rfl) dX1_loadWhole_7 (fun H locs hP hD hS => ?_)
  have hP : va_P D vwCl [(d, .inr (1, [.ref d_limbs, .ref d_digits, .int d_used, .int 0, .int 0])), (d_digits, .inl (cI, 910, .inl d_digitsF))] H := hP
  have hD : va_D A [(d, .inr (1, [.ref d_limbs, .ref d_digits, .int d_used, .int 0, .int 0])), (d_digits, .inl (cI, 910, .inl d_digitsF))] := hD
  refine lv_lload_n hx hb dX1_loadWhole_10 rfl (lv_at hl 1 rfl) ?_
  refine lv_lstore_n (lv' := [(3, .long p1), (0, .ref d), (1, .long p1)]) hx hb dX1_loadWhole_11 rfl hl (by decide) rfl (fun ls hl => ?_)
  have L_12 : ∀ (N : Nat) (y_1 : Int64) (x_2 : Int32) (f_3 : Nat → Int32) (H : Heap) (locs : List Loc) (ls : Array Slot), (0 ≤ (x_2 : Int32).toInt ∧ (x_2 : Int32).toInt ≤ 910) → ((y_1 : Int64).toInt.toNat < N) → va_P D vwCl [(d, .inr (1, [.ref d_limbs, .ref d_digits, .int d_used, .int x_2, .int 0])), (d_digits, .inl (cI, 910, .inl f_3))] H → va_D A [(d, .inr (1, [.ref d_limbs, .ref d_digits, .int d_used, .int x_2, .int 0])), (d_digits, .inl (cI, 910, .inl f_3))] → va_S A s.heap H locs → lv_has ls 5 [(3, .long y_1), (0, .ref d)] → Z 0 0 H locs (F0 m 12 ls []) := by
    intro N
    induction N with
    | zero => intro _ _ _ _ _ _ _ hmu; exact absurd hmu (Nat.not_lt_zero _)
    | succ N ih_12 =>
      intro y_1 x_2 f_3 H locs ls g12_0 hmu hP hD hS hl
      refine hZ2 ?_
      refine lv_lload_n hx hb dX1_loadWhole_12 rfl (lv_at hl 0 rfl) ?_
      refine lv_lconst (v := 0) hx hb dX1_loadWhole_13 (by decide) ?_
      refine W.lcmp hx hb dX1_loadWhole_14 ?_
      refine lv_topi (fun x_4 ex_4 => ?_)
      have tx_4 := ti_lcmp ex_4
      refine lv_if_le (tgt := 64) hx hb dX1_loadWhole_15 (by decide) (fun c_5 => ?_) (fun c_5 => ?_)
      · have ic_5 : (x_4 : Int32).toInt ≤ (0 : Int32).toInt := (fa_le x_4 0).mp c_5
        have hP9 := hP.sub (ws' := [(d, .inr (1, [.ref d_limbs, .ref d_digits, .int d_used, .int x_2, .int 0])), (d_digits, .inl (cI, 910, .inl f_3))]) [0, 1] rfl
        have hD9 := hD.sub (ws' := [(d, .inr (1, [.ref d_limbs, .ref d_digits, .int d_used, .int x_2, .int 0])), (d_digits, .inl (cI, 910, .inl f_3))]) [0, 1] (by decide) rfl
        exact W.vret hx hb hr (fun t ht hW => ⟨⟨(x_2, 0, f_3), rfl, (by (try dsimp only); first | omega | assumption), by rw [ht]; exact hP9, va_K.moved hW.alike hK, hD9⟩, hS.F ht⟩) hS.2.2 dX1_loadWhole_64
      · have ic_5 : ¬ ((x_4 : Int32).toInt ≤ (0 : Int32).toInt) := fun h9 => c_5 ((fa_le x_4 0).mpr h9)
        refine lv_aload_n hx hb dX1_loadWhole_18 rfl (lv_at hl 1 rfl) ?_
        refine va_get (D := D) (ci := 1) (v := .int x_2) (C := RX1) (T := TX1) (N := 5) hx hb hts iX1 hown hK hP 0 rfl rfl 3 (by decide) (hw 1 (.fieldLink RX1 47 "NumberFormats$Decimal" "count" "I") rfl) (fun _ h9 => h9) rfl dX1_loadWhole_19 ?_
        refine lv_aload_n hx hb dX1_loadWhole_22 rfl (lv_at hl 1 rfl) ?_
        refine va_get (D := D) (ci := 1) (v := .ref d_digits) (C := RX1) (T := TX1) (N := 5) hx hb hts iX1 hown hK hP 0 rfl rfl 1 (by decide) (hw 2 (.fieldLink RX1 13 "NumberFormats$Decimal" "digits" "[I") rfl) (fun _ h9 => h9) rfl dX1_loadWhole_23 ?_
        refine va_alen hx hb hK hP 1 0 rfl rfl (v := 910) rfl dX1_loadWhole_26 ?_
        refine lv_icmp_ge (tgt := 64) hx hb dX1_loadWhole_27 (by decide) (fun c_6 => ?_) (fun c_6 => ?_)
        · have ic_6 : (910 : Int32).toInt ≤ (x_2 : Int32).toInt := (fa_le 910 x_2).mp c_6
          have hP9 := hP.sub (ws' := [(d, .inr (1, [.ref d_limbs, .ref d_digits, .int d_used, .int x_2, .int 0])), (d_digits, .inl (cI, 910, .inl f_3))]) [0, 1] rfl
          have hD9 := hD.sub (ws' := [(d, .inr (1, [.ref d_limbs, .ref d_digits, .int d_used, .int x_2, .int 0])), (d_digits, .inl (cI, 910, .inl f_3))]) [0, 1] (by decide) rfl
          exact W.vret hx hb hr (fun t ht hW => ⟨⟨(x_2, 0, f_3), rfl, (by (try dsimp only); first | omega | assumption), by rw [ht]; exact hP9, va_K.moved hW.alike hK, hD9⟩, hS.F ht⟩) hS.2.2 dX1_loadWhole_64
        · have ic_6 : ¬ ((910 : Int32).toInt ≤ (x_2 : Int32).toInt) := fun h9 => c_6 ((fa_le 910 x_2).mpr h9)
          refine lv_aload_n hx hb dX1_loadWhole_30 rfl (lv_at hl 1 rfl) ?_
          refine va_get (D := D) (ci := 1) (v := .ref d_digits) (C := RX1) (T := TX1) (N := 5) hx hb hts iX1 hown hK hP 0 rfl rfl 1 (by decide) (hw 2 (.fieldLink RX1 13 "NumberFormats$Decimal" "digits" "[I") rfl) (fun _ h9 => h9) rfl dX1_loadWhole_31 ?_
          refine lv_aload_n hx hb dX1_loadWhole_34 rfl (lv_at hl 1 rfl) ?_
          refine va_get (D := D) (ci := 1) (v := .int x_2) (C := RX1) (T := TX1) (N := 5) hx hb hts iX1 hown hK hP 0 rfl rfl 3 (by decide) (hw 1 (.fieldLink RX1 47 "NumberFormats$Decimal" "count" "I") rfl) (fun _ h9 => h9) rfl dX1_loadWhole_35 ?_
          refine lv_lload_n hx hb dX1_loadWhole_38 rfl (lv_at hl 0 rfl) ?_
          refine lv_ldc2 (v := 10) hx hb hown (hw 3 (.constantLong RX1 50 (10)) rfl) dX1_loadWhole_39 ?_
          refine lv_lrem hx hb dX1_loadWhole_42 (by decide) ?_
          refine lv_topl (fun y_7 ey_7 => ?_)
          have ty_7 := tl_rem ey_7 (by decide)
          rw [nl_10] at ty_7
          refine lv_l2i hx hb dX1_loadWhole_43 rfl ?_
          refine lv_topi (fun x_8 ex_8 => ?_)
          have tx_8 := ti_l2i ex_8
          have h_44 : vp_in x_2 910 := by rw [vp_in_iff]; omega
          refine va_iast hx hb hK hP hD hS 1 0 rfl rfl h_44 dX1_loadWhole_44 (fun H locs hP hD hS => ?_)
          obtain ⟨f_9, ef_9⟩ : ∃ y : Nat → Int32, y = upd f_3 (x_2 : Int32).toNatClampNeg x_8 := ⟨_, rfl⟩
          rw [← ef_9] at hP hD
          have hP : va_P D vwCl [(d, .inr (1, [.ref d_limbs, .ref d_digits, .int d_used, .int x_2, .int 0])), (d_digits, .inl (cI, 910, .inl f_9))] H := hP
          have hD : va_D A [(d, .inr (1, [.ref d_limbs, .ref d_digits, .int d_used, .int x_2, .int 0])), (d_digits, .inl (cI, 910, .inl f_9))] := hD
          refine lv_aload_n hx hb dX1_loadWhole_45 rfl (lv_at hl 1 rfl) ?_
          refine lv_dup hx hb dX1_loadWhole_46 rfl ?_
          refine va_get (D := D) (ci := 1) (v := .int x_2) (C := RX1) (T := TX1) (N := 5) hx hb hts iX1 hown hK hP 0 rfl rfl 3 (by decide) (hw 1 (.fieldLink RX1 47 "NumberFormats$Decimal" "count" "I") rfl) (fun _ h9 => h9) rfl dX1_loadWhole_47 ?_
          refine lv_iconst (v := 1) hx hb dX1_loadWhole_50 (by decide) ?_
          refine lv_iadd hx hb dX1_loadWhole_51 ?_
          refine lv_topi (fun x_10 ex_10 => ?_)
          have tx_10 := ti_add ex_10
          refine va_put (D := D) (ci := 1) (v := .int x_10) (ty := .int) (C := RX1) (T := TX1) (N := 5) hx hb hts iX1 tyX1 tyX1_ok nmX1 hown hK hP hD hS 0 rfl rfl 3 (by decide) (hw 1 (.fieldLink RX1 47 "NumberFormats$Decimal" "count" "I") rfl) (fun _ h9 => h9) rfl (by decide +kernel) rfl rfl (Nat.le_of_ble_eq_true rfl) dX1_loadWhole_52 (fun H locs hP hD hS => ?_)
          have hP : va_P D vwCl [(d, .inr (1, [.ref d_limbs, .ref d_digits, .int d_used, .int x_10, .int 0])), (d_digits, .inl (cI, 910, .inl f_9))] H := hP
          have hD : va_D A [(d, .inr (1, [.ref d_limbs, .ref d_digits, .int d_used, .int x_10, .int 0])), (d_digits, .inl (cI, 910, .inl f_9))] := hD
          refine lv_lload_n hx hb dX1_loadWhole_55 rfl (lv_at hl 0 rfl) ?_
          refine lv_ldc2 (v := 10) hx hb hown (hw 3 (.constantLong RX1 50 (10)) rfl) dX1_loadWhole_56 ?_
          refine lv_ldiv hx hb dX1_loadWhole_59 (by decide) ?_
          refine lv_topl (fun y_11 ey_11 => ?_)
          have ty_11 := tl_div ey_11 (by decide)
          rw [nl_10] at ty_11
          refine lv_lstore_n (lv' := [(3, .long y_11), (0, .ref d)]) hx hb dX1_loadWhole_60 rfl hl (by decide) rfl (fun ls hl => ?_)
          refine lv_goto (tgt := 12) hx hb dX1_loadWhole_61 (by decide) ?_
          exact hZ1 (ih_12 y_11 x_10 f_9 _ _ _ (by omega) (by omega) hP hD hS hl)
  exact hZ1 (L_12 (((p1 : Int64).toInt.toNat) + 1) p1 0 d_digitsF _ _ _ (by omega) (by omega) hP hD hS (lv_sub hl [0, 1] rfl))

def ow_X1_isZero : List Cond := [Cond.fieldLink RX1 47 "NumberFormats$Decimal" "count" "I"]
def pw_X1_isZero : List Cond := Cond.code yX1_isZero cX1_isZero 1 (some .boolean) :: (ow_X1_isZero ++ (wsX10))
set_option maxRecDepth 20000 in
theorem mo_X1_isZero : ∀ w ∈ ow_X1_isZero, w ∈ lw_tbl := by decide +kernel
set_option maxRecDepth 20000 in
theorem mc_X1_isZero : Cond.code yX1_isZero cX1_isZero 1 (some .boolean) ∈ lw_tbl := by decide +kernel
theorem m_X1_isZero : ∀ w ∈ pw_X1_isZero, w ∈ lw_tbl := List.forall_mem_cons.mpr ⟨mc_X1_isZero, (List.forall_mem_append.mpr ⟨mo_X1_isZero, inX1⟩)⟩
theorem ko_X1_isZero : ∀ w ∈ ow_X1_isZero, goodWord w = true := by decide +kernel
theorem k_X1_isZero : pw_X1_isZero.all goodWord = true := List.all_eq_true.mpr (List.forall_mem_cons.mpr ⟨by decide +kernel, (List.forall_mem_append.mpr ⟨ko_X1_isZero, kX_X1⟩)⟩)
set_option maxHeartbeats 400000 in
set_option maxRecDepth 100000 in
theorem c_X1_isZero (l : Launch) (D : va_G) (cI cD cJ : ClassId) (sz : Nat) (d : Nat) (d_limbs : Nat) (d_digits : Nat) (d_used : Int32) (d_count : Int32) (d_scale : Int32) (iv_d_used : 0 ≤ (d_used : Int32).toInt ∧ (d_used : Int32).toInt ≤ 100) (iv_d_count : 0 ≤ (d_count : Int32).toInt ∧ (d_count : Int32).toInt ≤ 910) : Met l yX1_isZero pw_X1_isZero ({ frames := 0, cells := 0, slots := 0, locals := 0 }) (va_Pc [.ref d] (fun U => va_P D vwCl [(d, .inr (1, [.ref d_limbs, .ref d_digits, .int d_used, .int d_count, .int d_scale]))] U.heap ∧ va_K D vwCl (ty3 cI cD cJ) U)) (va_Qi (fun (r : Int32) (u : Unit) => (r.toInt = 0 ∨ r.toInt = 1)) (fun _ _ => True) (fun _ => False)) 0 0 (fun _ => False) := by
  refine Met.ofW (cc := cX1_isZero) (maxL := 1) (ret := (some .boolean)) (by decide +kernel) rfl ?_
  intro p e s m args below meth c s₁ B hml hv
  obtain ⟨rfl, hP, hK⟩ := hv
  have hx := B.exec
  have hb := B.bytes
  have hr := B.returns
  have hts := atoms_spec (ws := pw_X1_isZero) B.pre
  have hown : s.vm.findClass RX1 = some m.cls := findClass_of_methodNamed B.named
  have hlocks := B.notSynchronized
  have hS : va_S (fun _ => False) s.heap s.heap [] := va_S.rf
  have hw : ∀ (k : Nat) (w : Cond), ow_X1_isZero[k]? = some w → w.before _ s = true := fun k w h => hts w (List.mem_cons_of_mem _ (have h9 := List.mem_of_getElem? h; List.mem_append_left _ h9))
  have iX1 : ∀ w ∈ u_ws RX1 TX1 5, w ∈ pw_X1_isZero := fun w h9 => List.mem_cons_of_mem _ (List.mem_append_right _ (h9))
  have n_0 : ((0 : Int32)).toInt = 0 := by decide
  have n_1 : ((1 : Int32)).toInt = 1 := by decide
  have hl := lv_entry ([.ref d]) (n := 1) (Nat.le_of_ble_eq_true rfl)
  rw [lg_entry_eq]
  generalize (lg_sl ([.ref d]) ++ List.replicate (1 - (lg_sl ([.ref d])).length) Slot.unset).toArray = ls at hl ⊢
  have hl : lv_has ls 1 [(0, .ref d)] := hl
  refine lv_aload_n hx hb dX1_isZero_0 rfl (lv_at hl 0 rfl) ?_
  refine va_get (D := D) (ci := 1) (v := .int d_count) (C := RX1) (T := TX1) (N := 5) hx hb hts iX1 hown hK hP 0 rfl rfl 3 (by decide) (hw 0 (.fieldLink RX1 47 "NumberFormats$Decimal" "count" "I") rfl) (fun _ h9 => h9) rfl dX1_isZero_1 ?_
  refine lv_if_ne (tgt := 11) hx hb dX1_isZero_4 (by decide) (fun c_1 => ?_) (fun c_1 => ?_)
  · have ic_1 : ¬ ((d_count : Int32).toInt = (0 : Int32).toInt) := fun h9 => c_1 ((fa_eq d_count 0).mpr h9)
    refine lv_iconst (v := 0) hx hb dX1_isZero_11 (by decide) ?_
    exact W.zret (v := 0) hx hb hr rfl (fun t ht hW => ⟨⟨0, (), rfl, (by (try dsimp only); first | omega | assumption), trivial⟩, hS.F ht⟩) hS.2.2 dX1_isZero_12
  · have ic_1 : (d_count : Int32).toInt = (0 : Int32).toInt := (fa_eq d_count 0).mp c_1
    refine lv_iconst (v := 1) hx hb dX1_isZero_7 (by decide) ?_
    refine lv_goto (tgt := 12) hx hb dX1_isZero_8 (by decide) ?_
    exact W.zret (v := 1) hx hb hr rfl (fun t ht hW => ⟨⟨1, (), rfl, (by (try dsimp only); first | omega | assumption), trivial⟩, hS.F ht⟩) hS.2.2 dX1_isZero_12

def ow_X1_shift : List Cond := [Cond.fieldLink RX1 41 "NumberFormats$Decimal" "scale" "I"]
def pw_X1_shift : List Cond := Cond.code yX1_shift cX1_shift 2 none :: (ow_X1_shift ++ (wsX10))
set_option maxRecDepth 20000 in
theorem mo_X1_shift : ∀ w ∈ ow_X1_shift, w ∈ lw_tbl := by decide +kernel
set_option maxRecDepth 20000 in
theorem mc_X1_shift : Cond.code yX1_shift cX1_shift 2 none ∈ lw_tbl := by decide +kernel
theorem m_X1_shift : ∀ w ∈ pw_X1_shift, w ∈ lw_tbl := List.forall_mem_cons.mpr ⟨mc_X1_shift, (List.forall_mem_append.mpr ⟨mo_X1_shift, inX1⟩)⟩
theorem ko_X1_shift : ∀ w ∈ ow_X1_shift, goodWord w = true := by decide +kernel
theorem k_X1_shift : pw_X1_shift.all goodWord = true := List.all_eq_true.mpr (List.forall_mem_cons.mpr ⟨by decide +kernel, (List.forall_mem_append.mpr ⟨ko_X1_shift, kX_X1⟩)⟩)
set_option maxHeartbeats 400000 in
set_option maxRecDepth 100000 in
theorem c_X1_shift (l : Launch) (D : va_G) (cI cD cJ : ClassId) (sz : Nat) (d : Nat) (d_limbs : Nat) (d_digits : Nat) (d_used : Int32) (d_count : Int32) (d_scale : Int32) (p1 : Int32) (iv_d_used : 0 ≤ (d_used : Int32).toInt ∧ (d_used : Int32).toInt ≤ 100) (iv_d_count : 0 ≤ (d_count : Int32).toInt ∧ (d_count : Int32).toInt ≤ 910) : Met l yX1_shift pw_X1_shift ({ frames := 0, cells := 0, slots := 0, locals := 0 }) (va_Pc [.ref d, .int p1] (fun U => U.heap.size = sz ∧ va_P D vwCl [(d, .inr (1, [.ref d_limbs, .ref d_digits, .int d_used, .int d_count, .int d_scale]))] U.heap ∧ va_K D vwCl (ty3 cI cD cJ) U ∧ va_D (fun _ => True) [(d, .inr (1, [.ref d_limbs, .ref d_digits, .int d_used, .int d_count, .int d_scale]))])) (va_Qv (fun (d_scale2 : Int32) => True) (fun (d_scale2 : Int32) (t : State) => va_P D vwCl [(d, .inr (1, [.ref d_limbs, .ref d_digits, .int d_used, .int d_count, .int d_scale2]))] t.heap ∧ va_K D vwCl (ty3 cI cD cJ) t ∧ va_D (va_A [(d, .inr (1, [.ref d_limbs, .ref d_digits, .int d_used, .int d_count, .int d_scale]))] sz) [(d, .inr (1, [.ref d_limbs, .ref d_digits, .int d_used, .int d_count, .int d_scale2]))]) (va_A [(d, .inr (1, [.ref d_limbs, .ref d_digits, .int d_used, .int d_count, .int d_scale]))] sz)) 0 0 (va_A [(d, .inr (1, [.ref d_limbs, .ref d_digits, .int d_used, .int d_count, .int d_scale]))] sz) := by
  refine Met.ofW (cc := cX1_shift) (maxL := 2) (ret := none) (by decide +kernel) rfl ?_
  intro p e s m args below meth c s₁ B hml hv
  obtain ⟨rfl, hsz, hP, hK, hD0⟩ := hv
  have hx := B.exec
  have hb := B.bytes
  have hr := B.returns
  have hts := atoms_spec (ws := pw_X1_shift) B.pre
  have hown : s.vm.findClass RX1 = some m.cls := findClass_of_methodNamed B.named
  have hlocks := B.notSynchronized
  subst hsz
  have hD := hD0.self (sz := s.heap.size)
  generalize hAe : va_A [(d, .inr (1, [.ref d_limbs, .ref d_digits, .int d_used, .int d_count, .int d_scale]))] s.heap.size = A at hD ⊢
  have hA : ∀ q : Nat, s.heap.size ≤ q → A q := fun q h => by rw [← hAe]; exact Or.inr h
  have hS : va_S A s.heap s.heap [] := va_S.rf
  have hw : ∀ (k : Nat) (w : Cond), ow_X1_shift[k]? = some w → w.before _ s = true := fun k w h => hts w (List.mem_cons_of_mem _ (have h9 := List.mem_of_getElem? h; List.mem_append_left _ h9))
  have iX1 : ∀ w ∈ u_ws RX1 TX1 5, w ∈ pw_X1_shift := fun w h9 => List.mem_cons_of_mem _ (List.mem_append_right _ (h9))
  have hl := lv_entry ([.ref d, .int p1]) (n := 2) (Nat.le_of_ble_eq_true rfl)
  rw [lg_entry_eq]
  generalize (lg_sl ([.ref d, .int p1]) ++ List.replicate (2 - (lg_sl ([.ref d, .int p1])).length) Slot.unset).toArray = ls at hl ⊢
  have hl : lv_has ls 2 [(0, .ref d), (1, .int p1)] := hl
  have b_p1 := ti_b p1
  refine lv_aload_n hx hb dX1_shift_0 rfl (lv_at hl 0 rfl) ?_
  refine lv_dup hx hb dX1_shift_1 rfl ?_
  refine va_get (D := D) (ci := 1) (v := .int d_scale) (C := RX1) (T := TX1) (N := 5) hx hb hts iX1 hown hK hP 0 rfl rfl 4 (by decide) (hw 0 (.fieldLink RX1 41 "NumberFormats$Decimal" "scale" "I") rfl) (fun _ h9 => h9) rfl dX1_shift_2 ?_
  refine lv_iload_n hx hb dX1_shift_5 rfl (lv_at hl 1 rfl) ?_
  refine lv_isub hx hb dX1_shift_6 ?_
  refine lv_topi (fun x_1 ex_1 => ?_)
  have tx_1 := ti_sub ex_1
  refine va_put (D := D) (ci := 1) (v := .int x_1) (ty := .int) (C := RX1) (T := TX1) (N := 5) hx hb hts iX1 tyX1 tyX1_ok nmX1 hown hK hP hD hS 0 rfl rfl 4 (by decide) (hw 0 (.fieldLink RX1 41 "NumberFormats$Decimal" "scale" "I") rfl) (fun _ h9 => h9) rfl (by decide +kernel) rfl rfl (Nat.le_of_ble_eq_true rfl) dX1_shift_7 (fun H locs hP hD hS => ?_)
  have hP : va_P D vwCl [(d, .inr (1, [.ref d_limbs, .ref d_digits, .int d_used, .int d_count, .int x_1]))] H := hP
  have hD : va_D A [(d, .inr (1, [.ref d_limbs, .ref d_digits, .int d_used, .int d_count, .int x_1]))] := hD
  have hP9 := hP.sub (ws' := [(d, .inr (1, [.ref d_limbs, .ref d_digits, .int d_used, .int d_count, .int x_1]))]) [0] rfl
  have hD9 := hD.sub (ws' := [(d, .inr (1, [.ref d_limbs, .ref d_digits, .int d_used, .int d_count, .int x_1]))]) [0] (by decide) rfl
  exact W.vret hx hb hr (fun t ht hW => ⟨⟨(x_1), rfl, trivial, by rw [ht]; exact hP9, va_K.moved hW.alike hK, hD9⟩, hS.F ht⟩) hS.2.2 dX1_shift_10

def ow_X1_digit : List Cond := [Cond.fieldLink RX1 41 "NumberFormats$Decimal" "scale" "I", Cond.fieldLink RX1 47 "NumberFormats$Decimal" "count" "I", Cond.fieldLink RX1 13 "NumberFormats$Decimal" "digits" "[I"]
def pw_X1_digit : List Cond := Cond.code yX1_digit cX1_digit 3 (some .int) :: (ow_X1_digit ++ (wsX10))
set_option maxRecDepth 20000 in
theorem mo_X1_digit : ∀ w ∈ ow_X1_digit, w ∈ lw_tbl := by decide +kernel
set_option maxRecDepth 20000 in
theorem mc_X1_digit : Cond.code yX1_digit cX1_digit 3 (some .int) ∈ lw_tbl := by decide +kernel
theorem m_X1_digit : ∀ w ∈ pw_X1_digit, w ∈ lw_tbl := List.forall_mem_cons.mpr ⟨mc_X1_digit, (List.forall_mem_append.mpr ⟨mo_X1_digit, inX1⟩)⟩
theorem ko_X1_digit : ∀ w ∈ ow_X1_digit, goodWord w = true := by decide +kernel
theorem k_X1_digit : pw_X1_digit.all goodWord = true := List.all_eq_true.mpr (List.forall_mem_cons.mpr ⟨by decide +kernel, (List.forall_mem_append.mpr ⟨ko_X1_digit, kX_X1⟩)⟩)
set_option maxHeartbeats 400000 in
set_option maxRecDepth 100000 in
theorem c_X1_digit (l : Launch) (D : va_G) (cI cD cJ : ClassId) (sz : Nat) (d : Nat) (d_limbs : Nat) (d_digits : Nat) (d_used : Int32) (d_count : Int32) (d_scale : Int32) (d_digitsF : Nat → Int32) (p1 : Int32) (iv_d_used : 0 ≤ (d_used : Int32).toInt ∧ (d_used : Int32).toInt ≤ 100) (iv_d_count : 0 ≤ (d_count : Int32).toInt ∧ (d_count : Int32).toInt ≤ 910) : Met l yX1_digit pw_X1_digit ({ frames := 0, cells := 0, slots := 0, locals := 0 }) (va_Pc [.ref d, .int p1] (fun U => va_P D vwCl [(d, .inr (1, [.ref d_limbs, .ref d_digits, .int d_used, .int d_count, .int d_scale])), (d_digits, .inl (cI, 910, .inl d_digitsF))] U.heap ∧ va_K D vwCl (ty3 cI cD cJ) U)) (va_Qi (fun (r : Int32) (u : Unit) => True) (fun _ _ => True) (fun _ => False)) 0 0 (fun _ => False) := by
  refine Met.ofW (cc := cX1_digit) (maxL := 3) (ret := (some .int)) (by decide +kernel) rfl ?_
  intro p e s m args below meth c s₁ B hml hv
  obtain ⟨rfl, hP, hK⟩ := hv
  have hx := B.exec
  have hb := B.bytes
  have hr := B.returns
  have hts := atoms_spec (ws := pw_X1_digit) B.pre
  have hown : s.vm.findClass RX1 = some m.cls := findClass_of_methodNamed B.named
  have hlocks := B.notSynchronized
  have hS : va_S (fun _ => False) s.heap s.heap [] := va_S.rf
  have hw : ∀ (k : Nat) (w : Cond), ow_X1_digit[k]? = some w → w.before _ s = true := fun k w h => hts w (List.mem_cons_of_mem _ (have h9 := List.mem_of_getElem? h; List.mem_append_left _ h9))
  have iX1 : ∀ w ∈ u_ws RX1 TX1 5, w ∈ pw_X1_digit := fun w h9 => List.mem_cons_of_mem _ (List.mem_append_right _ (h9))
  have n_0 : ((0 : Int32)).toInt = 0 := by decide
  have n_910 : ((910 : Int32)).toInt = 910 := by decide
  have hl := lv_entry ([.ref d, .int p1]) (n := 3) (Nat.le_of_ble_eq_true rfl)
  rw [lg_entry_eq]
  generalize (lg_sl ([.ref d, .int p1]) ++ List.replicate (3 - (lg_sl ([.ref d, .int p1])).length) Slot.unset).toArray = ls at hl ⊢
  have hl : lv_has ls 3 [(0, .ref d), (1, .int p1)] := hl
  have b_p1 := ti_b p1
  refine lv_iload_n hx hb dX1_digit_0 rfl (lv_at hl 1 rfl) ?_
  refine lv_aload_n hx hb dX1_digit_1 rfl (lv_at hl 0 rfl) ?_
  refine va_get (D := D) (ci := 1) (v := .int d_scale) (C := RX1) (T := TX1) (N := 5) hx hb hts iX1 hown hK hP 0 rfl rfl 4 (by decide) (hw 0 (.fieldLink RX1 41 "NumberFormats$Decimal" "scale" "I") rfl) (fun _ h9 => h9) rfl dX1_digit_2 ?_
  refine lv_iadd hx hb dX1_digit_5 ?_
  refine lv_topi (fun x_1 ex_1 => ?_)
  have tx_1 := ti_add ex_1
  refine lv_istore_n (lv' := [(2, .int x_1), (0, .ref d), (1, .int p1)]) hx hb dX1_digit_6 rfl hl (by decide) rfl (fun ls hl => ?_)
  refine lv_iload_n hx hb dX1_digit_7 rfl (lv_at hl 0 rfl) ?_
  refine lv_if_lt (tgt := 37) hx hb dX1_digit_8 (by decide) (fun c_2 => ?_) (fun c_2 => ?_)
  · have ic_2 : (x_1 : Int32).toInt < (0 : Int32).toInt := (fa_lt x_1 0).mp c_2
    refine lv_iconst (v := 0) hx hb dX1_digit_37 (by decide) ?_
    exact W.iret (v := 0) hx hb hr (fun t ht hW => ⟨⟨0, (), rfl, trivial, trivial⟩, hS.F ht⟩) hS.2.2 dX1_digit_38
  · have ic_2 : ¬ ((x_1 : Int32).toInt < (0 : Int32).toInt) := fun h9 => c_2 ((fa_lt x_1 0).mpr h9)
    refine lv_iload_n hx hb dX1_digit_11 rfl (lv_at hl 0 rfl) ?_
    refine lv_aload_n hx hb dX1_digit_12 rfl (lv_at hl 1 rfl) ?_
    refine va_get (D := D) (ci := 1) (v := .int d_count) (C := RX1) (T := TX1) (N := 5) hx hb hts iX1 hown hK hP 0 rfl rfl 3 (by decide) (hw 1 (.fieldLink RX1 47 "NumberFormats$Decimal" "count" "I") rfl) (fun _ h9 => h9) rfl dX1_digit_13 ?_
    refine lv_icmp_ge (tgt := 37) hx hb dX1_digit_16 (by decide) (fun c_3 => ?_) (fun c_3 => ?_)
    · have ic_3 : (d_count : Int32).toInt ≤ (x_1 : Int32).toInt := (fa_le d_count x_1).mp c_3
      refine lv_iconst (v := 0) hx hb dX1_digit_37 (by decide) ?_
      exact W.iret (v := 0) hx hb hr (fun t ht hW => ⟨⟨0, (), rfl, trivial, trivial⟩, hS.F ht⟩) hS.2.2 dX1_digit_38
    · have ic_3 : ¬ ((d_count : Int32).toInt ≤ (x_1 : Int32).toInt) := fun h9 => c_3 ((fa_le d_count x_1).mpr h9)
      refine lv_iload_n hx hb dX1_digit_19 rfl (lv_at hl 0 rfl) ?_
      refine lv_aload_n hx hb dX1_digit_20 rfl (lv_at hl 1 rfl) ?_
      refine va_get (D := D) (ci := 1) (v := .ref d_digits) (C := RX1) (T := TX1) (N := 5) hx hb hts iX1 hown hK hP 0 rfl rfl 1 (by decide) (hw 2 (.fieldLink RX1 13 "NumberFormats$Decimal" "digits" "[I") rfl) (fun _ h9 => h9) rfl dX1_digit_21 ?_
      refine va_alen hx hb hK hP 1 0 rfl rfl (v := 910) rfl dX1_digit_24 ?_
      refine lv_icmp_ge (tgt := 37) hx hb dX1_digit_25 (by decide) (fun c_4 => ?_) (fun c_4 => ?_)
      · have ic_4 : (910 : Int32).toInt ≤ (x_1 : Int32).toInt := (fa_le 910 x_1).mp c_4
        refine lv_iconst (v := 0) hx hb dX1_digit_37 (by decide) ?_
        exact W.iret (v := 0) hx hb hr (fun t ht hW => ⟨⟨0, (), rfl, trivial, trivial⟩, hS.F ht⟩) hS.2.2 dX1_digit_38
      · have ic_4 : ¬ ((910 : Int32).toInt ≤ (x_1 : Int32).toInt) := fun h9 => c_4 ((fa_le 910 x_1).mpr h9)
        refine lv_aload_n hx hb dX1_digit_28 rfl (lv_at hl 1 rfl) ?_
        refine va_get (D := D) (ci := 1) (v := .ref d_digits) (C := RX1) (T := TX1) (N := 5) hx hb hts iX1 hown hK hP 0 rfl rfl 1 (by decide) (hw 2 (.fieldLink RX1 13 "NumberFormats$Decimal" "digits" "[I") rfl) (fun _ h9 => h9) rfl dX1_digit_29 ?_
        refine lv_iload_n hx hb dX1_digit_32 rfl (lv_at hl 0 rfl) ?_
        have h_33 : vp_in x_1 910 := by rw [vp_in_iff]; omega
        refine va_iald hx hb hK hP 1 0 rfl rfl h_33 dX1_digit_33 ?_
        refine lv_topi (fun x_5 ex_5 => ?_)
        refine lv_goto (tgt := 38) hx hb dX1_digit_34 (by decide) ?_
        exact W.iret (v := x_5) hx hb hr (fun t ht hW => ⟨⟨x_5, (), rfl, trivial, trivial⟩, hS.F ht⟩) hS.2.2 dX1_digit_38

def ow_X1_top : List Cond := [Cond.fieldLink RX1 47 "NumberFormats$Decimal" "count" "I", Cond.fieldLink RX1 41 "NumberFormats$Decimal" "scale" "I"]
def pw_X1_top : List Cond := Cond.code yX1_top cX1_top 1 (some .int) :: (ow_X1_top ++ (wsX10))
set_option maxRecDepth 20000 in
theorem mo_X1_top : ∀ w ∈ ow_X1_top, w ∈ lw_tbl := by decide +kernel
set_option maxRecDepth 20000 in
theorem mc_X1_top : Cond.code yX1_top cX1_top 1 (some .int) ∈ lw_tbl := by decide +kernel
theorem m_X1_top : ∀ w ∈ pw_X1_top, w ∈ lw_tbl := List.forall_mem_cons.mpr ⟨mc_X1_top, (List.forall_mem_append.mpr ⟨mo_X1_top, inX1⟩)⟩
theorem ko_X1_top : ∀ w ∈ ow_X1_top, goodWord w = true := by decide +kernel
theorem k_X1_top : pw_X1_top.all goodWord = true := List.all_eq_true.mpr (List.forall_mem_cons.mpr ⟨by decide +kernel, (List.forall_mem_append.mpr ⟨ko_X1_top, kX_X1⟩)⟩)
set_option maxHeartbeats 400000 in
set_option maxRecDepth 100000 in
theorem c_X1_top (l : Launch) (D : va_G) (cI cD cJ : ClassId) (sz : Nat) (d : Nat) (d_limbs : Nat) (d_digits : Nat) (d_used : Int32) (d_count : Int32) (d_scale : Int32) (iv_d_used : 0 ≤ (d_used : Int32).toInt ∧ (d_used : Int32).toInt ≤ 100) (iv_d_count : 0 ≤ (d_count : Int32).toInt ∧ (d_count : Int32).toInt ≤ 910) : Met l yX1_top pw_X1_top ({ frames := 0, cells := 0, slots := 0, locals := 0 }) (va_Pc [.ref d] (fun U => va_P D vwCl [(d, .inr (1, [.ref d_limbs, .ref d_digits, .int d_used, .int d_count, .int d_scale]))] U.heap ∧ va_K D vwCl (ty3 cI cD cJ) U)) (va_Qi (fun (r : Int32) (u : Unit) => True) (fun _ _ => True) (fun _ => False)) 0 0 (fun _ => False) := by
  refine Met.ofW (cc := cX1_top) (maxL := 1) (ret := (some .int)) (by decide +kernel) rfl ?_
  intro p e s m args below meth c s₁ B hml hv
  obtain ⟨rfl, hP, hK⟩ := hv
  have hx := B.exec
  have hb := B.bytes
  have hr := B.returns
  have hts := atoms_spec (ws := pw_X1_top) B.pre
  have hown : s.vm.findClass RX1 = some m.cls := findClass_of_methodNamed B.named
  have hlocks := B.notSynchronized
  have hS : va_S (fun _ => False) s.heap s.heap [] := va_S.rf
  have hw : ∀ (k : Nat) (w : Cond), ow_X1_top[k]? = some w → w.before _ s = true := fun k w h => hts w (List.mem_cons_of_mem _ (have h9 := List.mem_of_getElem? h; List.mem_append_left _ h9))
  have iX1 : ∀ w ∈ u_ws RX1 TX1 5, w ∈ pw_X1_top := fun w h9 => List.mem_cons_of_mem _ (List.mem_append_right _ (h9))
  have n_1 : ((1 : Int32)).toInt = 1 := by decide
  have hl := lv_entry ([.ref d]) (n := 1) (Nat.le_of_ble_eq_true rfl)
  rw [lg_entry_eq]
  generalize (lg_sl ([.ref d]) ++ List.replicate (1 - (lg_sl ([.ref d])).length) Slot.unset).toArray = ls at hl ⊢
  have hl : lv_has ls 1 [(0, .ref d)] := hl
  refine lv_aload_n hx hb dX1_top_0 rfl (lv_at hl 0 rfl) ?_
  refine va_get (D := D) (ci := 1) (v := .int d_count) (C := RX1) (T := TX1) (N := 5) hx hb hts iX1 hown hK hP 0 rfl rfl 3 (by decide) (hw 0 (.fieldLink RX1 47 "NumberFormats$Decimal" "count" "I") rfl) (fun _ h9 => h9) rfl dX1_top_1 ?_
  refine lv_iconst (v := 1) hx hb dX1_top_4 (by decide) ?_
  refine lv_isub hx hb dX1_top_5 ?_
  refine lv_topi (fun x_1 ex_1 => ?_)
  have tx_1 := ti_sub ex_1
  refine lv_aload_n hx hb dX1_top_6 rfl (lv_at hl 0 rfl) ?_
  refine va_get (D := D) (ci := 1) (v := .int d_scale) (C := RX1) (T := TX1) (N := 5) hx hb hts iX1 hown hK hP 0 rfl rfl 4 (by decide) (hw 1 (.fieldLink RX1 41 "NumberFormats$Decimal" "scale" "I") rfl) (fun _ h9 => h9) rfl dX1_top_7 ?_
  refine lv_isub hx hb dX1_top_10 ?_
  refine lv_topi (fun x_2 ex_2 => ?_)
  have tx_2 := ti_sub ex_2
  exact W.iret (v := x_2) hx hb hr (fun t ht hW => ⟨⟨x_2, (), rfl, trivial, trivial⟩, hS.F ht⟩) hS.2.2 dX1_top_11

def ow_X1_wholeDigits : List Cond := [Cond.fieldLink RX1 47 "NumberFormats$Decimal" "count" "I", Cond.fieldLink RX1 41 "NumberFormats$Decimal" "scale" "I"]
def pw_X1_wholeDigits : List Cond := Cond.code yX1_wholeDigits cX1_wholeDigits 1 (some .int) :: (ow_X1_wholeDigits ++ (wsX10))
set_option maxRecDepth 20000 in
theorem mo_X1_wholeDigits : ∀ w ∈ ow_X1_wholeDigits, w ∈ lw_tbl := by decide +kernel
set_option maxRecDepth 20000 in
theorem mc_X1_wholeDigits : Cond.code yX1_wholeDigits cX1_wholeDigits 1 (some .int) ∈ lw_tbl := by decide +kernel
theorem m_X1_wholeDigits : ∀ w ∈ pw_X1_wholeDigits, w ∈ lw_tbl := List.forall_mem_cons.mpr ⟨mc_X1_wholeDigits, (List.forall_mem_append.mpr ⟨mo_X1_wholeDigits, inX1⟩)⟩
theorem ko_X1_wholeDigits : ∀ w ∈ ow_X1_wholeDigits, goodWord w = true := by decide +kernel
theorem k_X1_wholeDigits : pw_X1_wholeDigits.all goodWord = true := List.all_eq_true.mpr (List.forall_mem_cons.mpr ⟨by decide +kernel, (List.forall_mem_append.mpr ⟨ko_X1_wholeDigits, kX_X1⟩)⟩)
set_option maxHeartbeats 400000 in
set_option maxRecDepth 100000 in
theorem c_X1_wholeDigits (l : Launch) (D : va_G) (cI cD cJ : ClassId) (sz : Nat) (d : Nat) (d_limbs : Nat) (d_digits : Nat) (d_used : Int32) (d_count : Int32) (d_scale : Int32) (iv_d_used : 0 ≤ (d_used : Int32).toInt ∧ (d_used : Int32).toInt ≤ 100) (iv_d_count : 0 ≤ (d_count : Int32).toInt ∧ (d_count : Int32).toInt ≤ 910) : Met l yX1_wholeDigits pw_X1_wholeDigits ({ frames := 0, cells := 0, slots := 0, locals := 0 }) (va_Pc [.ref d] (fun U => va_P D vwCl [(d, .inr (1, [.ref d_limbs, .ref d_digits, .int d_used, .int d_count, .int d_scale]))] U.heap ∧ va_K D vwCl (ty3 cI cD cJ) U)) (va_Qi (fun (r : Int32) (u : Unit) => True) (fun _ _ => True) (fun _ => False)) 0 0 (fun _ => False) := by
  refine Met.ofW (cc := cX1_wholeDigits) (maxL := 1) (ret := (some .int)) (by decide +kernel) rfl ?_
  intro p e s m args below meth c s₁ B hml hv
  obtain ⟨rfl, hP, hK⟩ := hv
  have hx := B.exec
  have hb := B.bytes
  have hr := B.returns
  have hts := atoms_spec (ws := pw_X1_wholeDigits) B.pre
  have hown : s.vm.findClass RX1 = some m.cls := findClass_of_methodNamed B.named
  have hlocks := B.notSynchronized
  have hS : va_S (fun _ => False) s.heap s.heap [] := va_S.rf
  have hw : ∀ (k : Nat) (w : Cond), ow_X1_wholeDigits[k]? = some w → w.before _ s = true := fun k w h => hts w (List.mem_cons_of_mem _ (have h9 := List.mem_of_getElem? h; List.mem_append_left _ h9))
  have iX1 : ∀ w ∈ u_ws RX1 TX1 5, w ∈ pw_X1_wholeDigits := fun w h9 => List.mem_cons_of_mem _ (List.mem_append_right _ (h9))
  have n_0 : ((0 : Int32)).toInt = 0 := by decide
  have hl := lv_entry ([.ref d]) (n := 1) (Nat.le_of_ble_eq_true rfl)
  rw [lg_entry_eq]
  generalize (lg_sl ([.ref d]) ++ List.replicate (1 - (lg_sl ([.ref d])).length) Slot.unset).toArray = ls at hl ⊢
  have hl : lv_has ls 1 [(0, .ref d)] := hl
  refine lv_aload_n hx hb dX1_wholeDigits_0 rfl (lv_at hl 0 rfl) ?_
  refine va_get (D := D) (ci := 1) (v := .int d_count) (C := RX1) (T := TX1) (N := 5) hx hb hts iX1 hown hK hP 0 rfl rfl 3 (by decide) (hw 0 (.fieldLink RX1 47 "NumberFormats$Decimal" "count" "I") rfl) (fun _ h9 => h9) rfl dX1_wholeDigits_1 ?_
  refine lv_if_le (tgt := 30) hx hb dX1_wholeDigits_4 (by decide) (fun c_1 => ?_) (fun c_1 => ?_)
  · have ic_1 : (d_count : Int32).toInt ≤ (0 : Int32).toInt := (fa_le d_count 0).mp c_1
    refine lv_iconst (v := 0) hx hb dX1_wholeDigits_30 (by decide) ?_
    exact W.iret (v := 0) hx hb hr (fun t ht hW => ⟨⟨0, (), rfl, trivial, trivial⟩, hS.F ht⟩) hS.2.2 dX1_wholeDigits_31
  · have ic_1 : ¬ ((d_count : Int32).toInt ≤ (0 : Int32).toInt) := fun h9 => c_1 ((fa_le d_count 0).mpr h9)
    refine lv_aload_n hx hb dX1_wholeDigits_7 rfl (lv_at hl 0 rfl) ?_
    refine va_get (D := D) (ci := 1) (v := .int d_count) (C := RX1) (T := TX1) (N := 5) hx hb hts iX1 hown hK hP 0 rfl rfl 3 (by decide) (hw 0 (.fieldLink RX1 47 "NumberFormats$Decimal" "count" "I") rfl) (fun _ h9 => h9) rfl dX1_wholeDigits_8 ?_
    refine lv_aload_n hx hb dX1_wholeDigits_11 rfl (lv_at hl 0 rfl) ?_
    refine va_get (D := D) (ci := 1) (v := .int d_scale) (C := RX1) (T := TX1) (N := 5) hx hb hts iX1 hown hK hP 0 rfl rfl 4 (by decide) (hw 1 (.fieldLink RX1 41 "NumberFormats$Decimal" "scale" "I") rfl) (fun _ h9 => h9) rfl dX1_wholeDigits_12 ?_
    refine lv_icmp_le (tgt := 30) hx hb dX1_wholeDigits_15 (by decide) (fun c_2 => ?_) (fun c_2 => ?_)
    · have ic_2 : (d_count : Int32).toInt ≤ (d_scale : Int32).toInt := (fa_le d_count d_scale).mp c_2
      refine lv_iconst (v := 0) hx hb dX1_wholeDigits_30 (by decide) ?_
      exact W.iret (v := 0) hx hb hr (fun t ht hW => ⟨⟨0, (), rfl, trivial, trivial⟩, hS.F ht⟩) hS.2.2 dX1_wholeDigits_31
    · have ic_2 : ¬ ((d_count : Int32).toInt ≤ (d_scale : Int32).toInt) := fun h9 => c_2 ((fa_le d_count d_scale).mpr h9)
      refine lv_aload_n hx hb dX1_wholeDigits_18 rfl (lv_at hl 0 rfl) ?_
      refine va_get (D := D) (ci := 1) (v := .int d_count) (C := RX1) (T := TX1) (N := 5) hx hb hts iX1 hown hK hP 0 rfl rfl 3 (by decide) (hw 0 (.fieldLink RX1 47 "NumberFormats$Decimal" "count" "I") rfl) (fun _ h9 => h9) rfl dX1_wholeDigits_19 ?_
      refine lv_aload_n hx hb dX1_wholeDigits_22 rfl (lv_at hl 0 rfl) ?_
      refine va_get (D := D) (ci := 1) (v := .int d_scale) (C := RX1) (T := TX1) (N := 5) hx hb hts iX1 hown hK hP 0 rfl rfl 4 (by decide) (hw 1 (.fieldLink RX1 41 "NumberFormats$Decimal" "scale" "I") rfl) (fun _ h9 => h9) rfl dX1_wholeDigits_23 ?_
      refine lv_isub hx hb dX1_wholeDigits_26 ?_
      refine lv_topi (fun x_3 ex_3 => ?_)
      have tx_3 := ti_sub ex_3
      refine lv_goto (tgt := 31) hx hb dX1_wholeDigits_27 (by decide) ?_
      exact W.iret (v := x_3) hx hb hr (fun t ht hW => ⟨⟨x_3, (), rfl, trivial, trivial⟩, hS.F ht⟩) hS.2.2 dX1_wholeDigits_31

def ow_X1_addOneAt : List Cond := [Cond.fieldLink RX1 47 "NumberFormats$Decimal" "count" "I", Cond.fieldLink RX1 13 "NumberFormats$Decimal" "digits" "[I"]
def pw_X1_addOneAt : List Cond := Cond.code yX1_addOneAt cX1_addOneAt 3 none :: (ow_X1_addOneAt ++ (wsX10))
set_option maxRecDepth 20000 in
theorem mo_X1_addOneAt : ∀ w ∈ ow_X1_addOneAt, w ∈ lw_tbl := by decide +kernel
set_option maxRecDepth 20000 in
theorem mc_X1_addOneAt : Cond.code yX1_addOneAt cX1_addOneAt 3 none ∈ lw_tbl := by decide +kernel
theorem m_X1_addOneAt : ∀ w ∈ pw_X1_addOneAt, w ∈ lw_tbl := List.forall_mem_cons.mpr ⟨mc_X1_addOneAt, (List.forall_mem_append.mpr ⟨mo_X1_addOneAt, inX1⟩)⟩
theorem ko_X1_addOneAt : ∀ w ∈ ow_X1_addOneAt, goodWord w = true := by decide +kernel
theorem k_X1_addOneAt : pw_X1_addOneAt.all goodWord = true := List.all_eq_true.mpr (List.forall_mem_cons.mpr ⟨by decide +kernel, (List.forall_mem_append.mpr ⟨ko_X1_addOneAt, kX_X1⟩)⟩)
set_option maxHeartbeats 400000 in
set_option maxRecDepth 100000 in
theorem c_X1_addOneAt (l : Launch) (D : va_G) (cI cD cJ : ClassId) (sz : Nat) (d : Nat) (d_limbs : Nat) (d_digits : Nat) (d_used : Int32) (d_count : Int32) (d_scale : Int32) (d_digitsF : Nat → Int32) (p1 : Int32) (h1 : 0 ≤ p1.toInt) (iv_d_used : 0 ≤ (d_used : Int32).toInt ∧ (d_used : Int32).toInt ≤ 100) (iv_d_count : 0 ≤ (d_count : Int32).toInt ∧ (d_count : Int32).toInt ≤ 910) : Met l yX1_addOneAt pw_X1_addOneAt ({ frames := 0, cells := 0, slots := 0, locals := 0 }) (va_Pc [.ref d, .int p1] (fun U => U.heap.size = sz ∧ va_P D vwCl [(d, .inr (1, [.ref d_limbs, .ref d_digits, .int d_used, .int d_count, .int d_scale])), (d_digits, .inl (cI, 910, .inl d_digitsF))] U.heap ∧ va_K D vwCl (ty3 cI cD cJ) U ∧ va_D (fun _ => True) [(d, .inr (1, [.ref d_limbs, .ref d_digits, .int d_used, .int d_count, .int d_scale])), (d_digits, .inl (cI, 910, .inl d_digitsF))])) (va_Qv (fun (u : Int32 × (Nat → Int32)) => match u with | (d_count2, d_digitsF2) => (0 ≤ (d_count2 : Int32).toInt ∧ (d_count2 : Int32).toInt ≤ 910)) (fun (u : Int32 × (Nat → Int32)) (t : State) => match u with | (d_count2, d_digitsF2) => va_P D vwCl [(d, .inr (1, [.ref d_limbs, .ref d_digits, .int d_used, .int d_count2, .int d_scale])), (d_digits, .inl (cI, 910, .inl d_digitsF2))] t.heap ∧ va_K D vwCl (ty3 cI cD cJ) t ∧ va_D (va_A [(d, .inr (1, [.ref d_limbs, .ref d_digits, .int d_used, .int d_count, .int d_scale])), (d_digits, .inl (cI, 910, .inl d_digitsF))] sz) [(d, .inr (1, [.ref d_limbs, .ref d_digits, .int d_used, .int d_count2, .int d_scale])), (d_digits, .inl (cI, 910, .inl d_digitsF2))]) (va_A [(d, .inr (1, [.ref d_limbs, .ref d_digits, .int d_used, .int d_count, .int d_scale])), (d_digits, .inl (cI, 910, .inl d_digitsF))] sz)) 0 0 (va_A [(d, .inr (1, [.ref d_limbs, .ref d_digits, .int d_used, .int d_count, .int d_scale])), (d_digits, .inl (cI, 910, .inl d_digitsF))] sz) := by
  refine Met.ofW (cc := cX1_addOneAt) (maxL := 3) (ret := none) (by decide +kernel) rfl ?_
  intro p e s m args below meth c s₁ B hml hv
  obtain ⟨rfl, hsz, hP, hK, hD0⟩ := hv
  have hx := B.exec
  have hb := B.bytes
  have hr := B.returns
  have hts := atoms_spec (ws := pw_X1_addOneAt) B.pre
  have hown : s.vm.findClass RX1 = some m.cls := findClass_of_methodNamed B.named
  have hlocks := B.notSynchronized
  subst hsz
  have hD := hD0.self (sz := s.heap.size)
  generalize hAe : va_A [(d, .inr (1, [.ref d_limbs, .ref d_digits, .int d_used, .int d_count, .int d_scale])), (d_digits, .inl (cI, 910, .inl d_digitsF))] s.heap.size = A at hD ⊢
  have hA : ∀ q : Nat, s.heap.size ≤ q → A q := fun q h => by rw [← hAe]; exact Or.inr h
  have hS : va_S A s.heap s.heap [] := va_S.rf
  have hw : ∀ (k : Nat) (w : Cond), ow_X1_addOneAt[k]? = some w → w.before _ s = true := fun k w h => hts w (List.mem_cons_of_mem _ (have h9 := List.mem_of_getElem? h; List.mem_append_left _ h9))
  have iX1 : ∀ w ∈ u_ws RX1 TX1 5, w ∈ pw_X1_addOneAt := fun w h9 => List.mem_cons_of_mem _ (List.mem_append_right _ (h9))
  have n_0 : ((0 : Int32)).toInt = 0 := by decide
  have n_1 : ((1 : Int32)).toInt = 1 := by decide
  have n_9 : ((9 : Int32)).toInt = 9 := by decide
  have n_910 : ((910 : Int32)).toInt = 910 := by decide
  have hl := lv_entry ([.ref d, .int p1]) (n := 3) (Nat.le_of_ble_eq_true rfl)
  rw [lg_entry_eq]
  generalize (lg_sl ([.ref d, .int p1]) ++ List.replicate (3 - (lg_sl ([.ref d, .int p1])).length) Slot.unset).toArray = ls at hl ⊢
  have hl : lv_has ls 3 [(0, .ref d), (1, .int p1)] := hl
  have b_p1 := ti_b p1
  refine zz_cap (fun Z hZ1 hZ2 => ?_)
  refine lv_iload_n hx hb dX1_addOneAt_0 rfl (lv_at hl 1 rfl) ?_
  refine lv_istore_n (lv' := [(2, .int p1), (0, .ref d), (1, .int p1)]) hx hb dX1_addOneAt_1 rfl hl (by decide) rfl (fun ls hl => ?_)
  have L_2 : ∀ (N : Nat) (x_1 : Int32) (f_2 : Nat → Int32) (H : Heap) (locs : List Loc) (ls : Array Slot), (0 ≤ (x_1 : Int32).toInt) → ((2147483647 - (x_1 : Int32).toInt).toNat < N) → va_P D vwCl [(d, .inr (1, [.ref d_limbs, .ref d_digits, .int d_used, .int d_count, .int d_scale])), (d_digits, .inl (cI, 910, .inl f_2))] H → va_D A [(d, .inr (1, [.ref d_limbs, .ref d_digits, .int d_used, .int d_count, .int d_scale])), (d_digits, .inl (cI, 910, .inl f_2))] → va_S A s.heap H locs → lv_has ls 3 [(2, .int x_1), (0, .ref d)] → Z 0 0 H locs (F0 m 2 ls []) := by
    intro N
    induction N with
    | zero => intro _ _ _ _ _ _ hmu; exact absurd hmu (Nat.not_lt_zero _)
    | succ N ih_2 =>
      intro x_1 f_2 H locs ls g2_0 hmu hP hD hS hl
      refine hZ2 ?_
      refine lv_iload_n hx hb dX1_addOneAt_2 rfl (lv_at hl 0 rfl) ?_
      refine lv_aload_n hx hb dX1_addOneAt_3 rfl (lv_at hl 1 rfl) ?_
      refine va_get (D := D) (ci := 1) (v := .int d_count) (C := RX1) (T := TX1) (N := 5) hx hb hts iX1 hown hK hP 0 rfl rfl 3 (by decide) (hw 0 (.fieldLink RX1 47 "NumberFormats$Decimal" "count" "I") rfl) (fun _ h9 => h9) rfl dX1_addOneAt_4 ?_
      have K_43 : ∀ (H : Heap) (locs : List Loc) (ls : Array Slot), va_P D vwCl [(d, .inr (1, [.ref d_limbs, .ref d_digits, .int d_used, .int d_count, .int d_scale])), (d_digits, .inl (cI, 910, .inl f_2))] H → va_D A [(d, .inr (1, [.ref d_limbs, .ref d_digits, .int d_used, .int d_count, .int d_scale])), (d_digits, .inl (cI, 910, .inl f_2))] → va_S A s.heap H locs → lv_has ls 3 [(2, .int x_1), (0, .ref d)] → Z 0 0 H locs (F0 m 43 ls []) := by
        intro  H locs ls  hP hD hS hl
        refine hZ2 ?_
        refine lv_iload_n hx hb dX1_addOneAt_43 rfl (lv_at hl 0 rfl) ?_
        refine lv_aload_n hx hb dX1_addOneAt_44 rfl (lv_at hl 1 rfl) ?_
        refine va_get (D := D) (ci := 1) (v := .ref d_digits) (C := RX1) (T := TX1) (N := 5) hx hb hts iX1 hown hK hP 0 rfl rfl 1 (by decide) (hw 1 (.fieldLink RX1 13 "NumberFormats$Decimal" "digits" "[I") rfl) (fun _ h9 => h9) rfl dX1_addOneAt_45 ?_
        refine va_alen hx hb hK hP 1 0 rfl rfl (v := 910) rfl dX1_addOneAt_48 ?_
        refine lv_icmp_lt (tgt := 53) hx hb dX1_addOneAt_49 (by decide) (fun c_3 => ?_) (fun c_3 => ?_)
        · have ic_3 : (x_1 : Int32).toInt < (910 : Int32).toInt := (fa_lt x_1 910).mp c_3
          refine lv_iload_n hx hb dX1_addOneAt_53 rfl (lv_at hl 0 rfl) ?_
          refine lv_aload_n hx hb dX1_addOneAt_54 rfl (lv_at hl 1 rfl) ?_
          refine va_get (D := D) (ci := 1) (v := .int d_count) (C := RX1) (T := TX1) (N := 5) hx hb hts iX1 hown hK hP 0 rfl rfl 3 (by decide) (hw 0 (.fieldLink RX1 47 "NumberFormats$Decimal" "count" "I") rfl) (fun _ h9 => h9) rfl dX1_addOneAt_55 ?_
          refine lv_icmp_ge (tgt := 74) hx hb dX1_addOneAt_58 (by decide) (fun c_4 => ?_) (fun c_4 => ?_)
          · have ic_4 : (d_count : Int32).toInt ≤ (x_1 : Int32).toInt := (fa_le d_count x_1).mp c_4
            refine lv_aload_n hx hb dX1_addOneAt_74 rfl (lv_at hl 1 rfl) ?_
            refine va_get (D := D) (ci := 1) (v := .ref d_digits) (C := RX1) (T := TX1) (N := 5) hx hb hts iX1 hown hK hP 0 rfl rfl 1 (by decide) (hw 1 (.fieldLink RX1 13 "NumberFormats$Decimal" "digits" "[I") rfl) (fun _ h9 => h9) rfl dX1_addOneAt_75 ?_
            refine lv_iload_n hx hb dX1_addOneAt_78 rfl (lv_at hl 0 rfl) ?_
            refine lv_iconst (v := 1) hx hb dX1_addOneAt_79 (by decide) ?_
            have h_80 : vp_in x_1 910 := by rw [vp_in_iff]; omega
            refine va_iast hx hb hK hP hD hS 1 0 rfl rfl h_80 dX1_addOneAt_80 (fun H locs hP hD hS => ?_)
            obtain ⟨f_5, ef_5⟩ : ∃ y : Nat → Int32, y = upd f_2 (x_1 : Int32).toNatClampNeg 1 := ⟨_, rfl⟩
            rw [← ef_5] at hP hD
            have hP : va_P D vwCl [(d, .inr (1, [.ref d_limbs, .ref d_digits, .int d_used, .int d_count, .int d_scale])), (d_digits, .inl (cI, 910, .inl f_5))] H := hP
            have hD : va_D A [(d, .inr (1, [.ref d_limbs, .ref d_digits, .int d_used, .int d_count, .int d_scale])), (d_digits, .inl (cI, 910, .inl f_5))] := hD
            refine lv_aload_n hx hb dX1_addOneAt_81 rfl (lv_at hl 1 rfl) ?_
            refine lv_iload_n hx hb dX1_addOneAt_82 rfl (lv_at hl 0 rfl) ?_
            refine lv_iconst (v := 1) hx hb dX1_addOneAt_83 (by decide) ?_
            refine lv_iadd hx hb dX1_addOneAt_84 ?_
            refine lv_topi (fun x_6 ex_6 => ?_)
            have tx_6 := ti_add ex_6
            refine va_put (D := D) (ci := 1) (v := .int x_6) (ty := .int) (C := RX1) (T := TX1) (N := 5) hx hb hts iX1 tyX1 tyX1_ok nmX1 hown hK hP hD hS 0 rfl rfl 3 (by decide) (hw 0 (.fieldLink RX1 47 "NumberFormats$Decimal" "count" "I") rfl) (fun _ h9 => h9) rfl (by decide +kernel) rfl rfl (Nat.le_of_ble_eq_true rfl) dX1_addOneAt_85 (fun H locs hP hD hS => ?_)
            have hP : va_P D vwCl [(d, .inr (1, [.ref d_limbs, .ref d_digits, .int d_used, .int x_6, .int d_scale])), (d_digits, .inl (cI, 910, .inl f_5))] H := hP
            have hD : va_D A [(d, .inr (1, [.ref d_limbs, .ref d_digits, .int d_used, .int x_6, .int d_scale])), (d_digits, .inl (cI, 910, .inl f_5))] := hD
            have hP9 := hP.sub (ws' := [(d, .inr (1, [.ref d_limbs, .ref d_digits, .int d_used, .int x_6, .int d_scale])), (d_digits, .inl (cI, 910, .inl f_5))]) [0, 1] rfl
            have hD9 := hD.sub (ws' := [(d, .inr (1, [.ref d_limbs, .ref d_digits, .int d_used, .int x_6, .int d_scale])), (d_digits, .inl (cI, 910, .inl f_5))]) [0, 1] (by decide) rfl
            exact W.vret hx hb hr (fun t ht hW => ⟨⟨(x_6, f_5), rfl, (by (try dsimp only); first | omega | assumption), by rw [ht]; exact hP9, va_K.moved hW.alike hK, hD9⟩, hS.F ht⟩) hS.2.2 dX1_addOneAt_88
          · have ic_4 : ¬ ((d_count : Int32).toInt ≤ (x_1 : Int32).toInt) := fun h9 => c_4 ((fa_le d_count x_1).mpr h9)
            refine lv_aload_n hx hb dX1_addOneAt_61 rfl (lv_at hl 1 rfl) ?_
            refine va_get (D := D) (ci := 1) (v := .ref d_digits) (C := RX1) (T := TX1) (N := 5) hx hb hts iX1 hown hK hP 0 rfl rfl 1 (by decide) (hw 1 (.fieldLink RX1 13 "NumberFormats$Decimal" "digits" "[I") rfl) (fun _ h9 => h9) rfl dX1_addOneAt_62 ?_
            refine lv_iload_n hx hb dX1_addOneAt_65 rfl (lv_at hl 0 rfl) ?_
            refine lv_dup2_11 hx hb dX1_addOneAt_66 rfl rfl ?_
            have h_67 : vp_in x_1 910 := by rw [vp_in_iff]; omega
            refine va_iald hx hb hK hP 1 0 rfl rfl h_67 dX1_addOneAt_67 ?_
            refine lv_topi (fun x_7 ex_7 => ?_)
            refine lv_iconst (v := 1) hx hb dX1_addOneAt_68 (by decide) ?_
            refine lv_iadd hx hb dX1_addOneAt_69 ?_
            refine lv_topi (fun x_8 ex_8 => ?_)
            have tx_8 := ti_add ex_8
            have h_70 : vp_in x_1 910 := by rw [vp_in_iff]; omega
            refine va_iast hx hb hK hP hD hS 1 0 rfl rfl h_70 dX1_addOneAt_70 (fun H locs hP hD hS => ?_)
            obtain ⟨f_9, ef_9⟩ : ∃ y : Nat → Int32, y = upd f_2 (x_1 : Int32).toNatClampNeg x_8 := ⟨_, rfl⟩
            rw [← ef_9] at hP hD
            have hP : va_P D vwCl [(d, .inr (1, [.ref d_limbs, .ref d_digits, .int d_used, .int d_count, .int d_scale])), (d_digits, .inl (cI, 910, .inl f_9))] H := hP
            have hD : va_D A [(d, .inr (1, [.ref d_limbs, .ref d_digits, .int d_used, .int d_count, .int d_scale])), (d_digits, .inl (cI, 910, .inl f_9))] := hD
            refine lv_goto (tgt := 88) hx hb dX1_addOneAt_71 (by decide) ?_
            have hP9 := hP.sub (ws' := [(d, .inr (1, [.ref d_limbs, .ref d_digits, .int d_used, .int d_count, .int d_scale])), (d_digits, .inl (cI, 910, .inl f_9))]) [0, 1] rfl
            have hD9 := hD.sub (ws' := [(d, .inr (1, [.ref d_limbs, .ref d_digits, .int d_used, .int d_count, .int d_scale])), (d_digits, .inl (cI, 910, .inl f_9))]) [0, 1] (by decide) rfl
            exact W.vret hx hb hr (fun t ht hW => ⟨⟨(d_count, f_9), rfl, (by (try dsimp only); first | omega | assumption), by rw [ht]; exact hP9, va_K.moved hW.alike hK, hD9⟩, hS.F ht⟩) hS.2.2 dX1_addOneAt_88
        · have ic_3 : ¬ ((x_1 : Int32).toInt < (910 : Int32).toInt) := fun h9 => c_3 ((fa_lt x_1 910).mpr h9)
          have hP9 := hP.sub (ws' := [(d, .inr (1, [.ref d_limbs, .ref d_digits, .int d_used, .int d_count, .int d_scale])), (d_digits, .inl (cI, 910, .inl f_2))]) [0, 1] rfl
          have hD9 := hD.sub (ws' := [(d, .inr (1, [.ref d_limbs, .ref d_digits, .int d_used, .int d_count, .int d_scale])), (d_digits, .inl (cI, 910, .inl f_2))]) [0, 1] (by decide) rfl
          exact W.vret hx hb hr (fun t ht hW => ⟨⟨(d_count, f_2), rfl, (by (try dsimp only); first | omega | assumption), by rw [ht]; exact hP9, va_K.moved hW.alike hK, hD9⟩, hS.F ht⟩) hS.2.2 dX1_addOneAt_52
      refine lv_icmp_ge (tgt := 43) hx hb dX1_addOneAt_7 (by decide) (fun c_10 => ?_) (fun c_10 => ?_)
      · have ic_10 : (d_count : Int32).toInt ≤ (x_1 : Int32).toInt := (fa_le d_count x_1).mp c_10
        exact hZ1 (K_43  _ _ _ hP hD hS hl)
      · have ic_10 : ¬ ((d_count : Int32).toInt ≤ (x_1 : Int32).toInt) := fun h9 => c_10 ((fa_le d_count x_1).mpr h9)
        refine lv_iload_n hx hb dX1_addOneAt_10 rfl (lv_at hl 0 rfl) ?_
        refine lv_aload_n hx hb dX1_addOneAt_11 rfl (lv_at hl 1 rfl) ?_
        refine va_get (D := D) (ci := 1) (v := .ref d_digits) (C := RX1) (T := TX1) (N := 5) hx hb hts iX1 hown hK hP 0 rfl rfl 1 (by decide) (hw 1 (.fieldLink RX1 13 "NumberFormats$Decimal" "digits" "[I") rfl) (fun _ h9 => h9) rfl dX1_addOneAt_12 ?_
        refine va_alen hx hb hK hP 1 0 rfl rfl (v := 910) rfl dX1_addOneAt_15 ?_
        refine lv_icmp_ge (tgt := 43) hx hb dX1_addOneAt_16 (by decide) (fun c_11 => ?_) (fun c_11 => ?_)
        · have ic_11 : (910 : Int32).toInt ≤ (x_1 : Int32).toInt := (fa_le 910 x_1).mp c_11
          exact hZ1 (K_43  _ _ _ hP hD hS hl)
        · have ic_11 : ¬ ((910 : Int32).toInt ≤ (x_1 : Int32).toInt) := fun h9 => c_11 ((fa_le 910 x_1).mpr h9)
          refine lv_aload_n hx hb dX1_addOneAt_19 rfl (lv_at hl 1 rfl) ?_
          refine va_get (D := D) (ci := 1) (v := .ref d_digits) (C := RX1) (T := TX1) (N := 5) hx hb hts iX1 hown hK hP 0 rfl rfl 1 (by decide) (hw 1 (.fieldLink RX1 13 "NumberFormats$Decimal" "digits" "[I") rfl) (fun _ h9 => h9) rfl dX1_addOneAt_20 ?_
          refine lv_iload_n hx hb dX1_addOneAt_23 rfl (lv_at hl 0 rfl) ?_
          have h_24 : vp_in x_1 910 := by rw [vp_in_iff]; omega
          refine va_iald hx hb hK hP 1 0 rfl rfl h_24 dX1_addOneAt_24 ?_
          refine lv_topi (fun x_12 ex_12 => ?_)
          refine lv_bipush (v := 9) hx hb dX1_addOneAt_25 (by decide) ?_
          refine lv_icmp_ne (tgt := 43) hx hb dX1_addOneAt_27 (by decide) (fun c_13 => ?_) (fun c_13 => ?_)
          · have ic_13 : ¬ ((x_12 : Int32).toInt = (9 : Int32).toInt) := fun h9 => c_13 ((fa_eq x_12 9).mpr h9)
            exact hZ1 (K_43  _ _ _ hP hD hS hl)
          · have ic_13 : (x_12 : Int32).toInt = (9 : Int32).toInt := (fa_eq x_12 9).mp c_13
            refine lv_aload_n hx hb dX1_addOneAt_30 rfl (lv_at hl 1 rfl) ?_
            refine va_get (D := D) (ci := 1) (v := .ref d_digits) (C := RX1) (T := TX1) (N := 5) hx hb hts iX1 hown hK hP 0 rfl rfl 1 (by decide) (hw 1 (.fieldLink RX1 13 "NumberFormats$Decimal" "digits" "[I") rfl) (fun _ h9 => h9) rfl dX1_addOneAt_31 ?_
            refine lv_iload_n hx hb dX1_addOneAt_34 rfl (lv_at hl 0 rfl) ?_
            refine lv_iconst (v := 0) hx hb dX1_addOneAt_35 (by decide) ?_
            have h_36 : vp_in x_1 910 := by rw [vp_in_iff]; omega
            refine va_iast hx hb hK hP hD hS 1 0 rfl rfl h_36 dX1_addOneAt_36 (fun H locs hP hD hS => ?_)
            obtain ⟨f_14, ef_14⟩ : ∃ y : Nat → Int32, y = upd f_2 (x_1 : Int32).toNatClampNeg 0 := ⟨_, rfl⟩
            rw [← ef_14] at hP hD
            have hP : va_P D vwCl [(d, .inr (1, [.ref d_limbs, .ref d_digits, .int d_used, .int d_count, .int d_scale])), (d_digits, .inl (cI, 910, .inl f_14))] H := hP
            have hD : va_D A [(d, .inr (1, [.ref d_limbs, .ref d_digits, .int d_used, .int d_count, .int d_scale])), (d_digits, .inl (cI, 910, .inl f_14))] := hD
            obtain ⟨x_15, ex_15⟩ : ∃ y : Int32, y = x_1 + 1 := ⟨_, rfl⟩
            have tx_15 := ti_add ex_15
            refine lv_iinc (v := x_15) (lv' := [(2, .int x_15), (0, .ref d)]) hx hb dX1_addOneAt_37 hl (k := 0) rfl (by rw [ex_15]; rfl) (by decide) rfl (fun ls hl => ?_)
            refine lv_goto (tgt := 2) hx hb dX1_addOneAt_40 (by decide) ?_
            exact hZ1 (ih_2 x_15 f_14 _ _ _ (by omega) (by omega) hP hD hS hl)
  exact hZ1 (L_2 (((2147483647 - (p1 : Int32).toInt).toNat) + 1) p1 d_digitsF _ _ _ (by omega) (by omega) hP hD hS (lv_sub hl [0, 1] rfl))

def ow_X1_round : List Cond := [Cond.fieldLink RX1 41 "NumberFormats$Decimal" "scale" "I", Cond.fieldLink RX1 47 "NumberFormats$Decimal" "count" "I", Cond.fieldLink RX1 13 "NumberFormats$Decimal" "digits" "[I", Cond.methodLink RX1 53 yX1_trim, Cond.instanceMethod yX1_trim, Cond.selects RX1 yX1_trim yX1_trim, Cond.initialized RX1, Cond.methodLink RX1 56 yX1_addOneAt, Cond.instanceMethod yX1_addOneAt, Cond.selects RX1 yX1_addOneAt yX1_addOneAt]
def pw_X1_round : List Cond := Cond.code yX1_round cX1_round 5 none :: (ow_X1_round ++ (pw_X1_trim ++ (pw_X1_addOneAt ++ (wsX10))))
set_option maxRecDepth 20000 in
theorem mo_X1_round : ∀ w ∈ ow_X1_round, w ∈ lw_tbl := by decide +kernel
set_option maxRecDepth 20000 in
theorem mc_X1_round : Cond.code yX1_round cX1_round 5 none ∈ lw_tbl := by decide +kernel
theorem m_X1_round : ∀ w ∈ pw_X1_round, w ∈ lw_tbl := List.forall_mem_cons.mpr ⟨mc_X1_round, (List.forall_mem_append.mpr ⟨mo_X1_round, (List.forall_mem_append.mpr ⟨m_X1_trim, (List.forall_mem_append.mpr ⟨m_X1_addOneAt, inX1⟩)⟩)⟩)⟩
theorem ko_X1_round : ∀ w ∈ ow_X1_round, goodWord w = true := by decide +kernel
theorem k_X1_round : pw_X1_round.all goodWord = true := List.all_eq_true.mpr (List.forall_mem_cons.mpr ⟨by decide +kernel, (List.forall_mem_append.mpr ⟨ko_X1_round, (List.forall_mem_append.mpr ⟨(List.all_eq_true.mp k_X1_trim), (List.forall_mem_append.mpr ⟨(List.all_eq_true.mp k_X1_addOneAt), kX_X1⟩)⟩)⟩)⟩)
set_option maxHeartbeats 400000 in
set_option maxRecDepth 100000 in
theorem c_X1_round (l : Launch) (D : va_G) (cI cD cJ : ClassId) (sz : Nat) (d : Nat) (d_limbs : Nat) (d_digits : Nat) (d_used : Int32) (d_count : Int32) (d_scale : Int32) (d_digitsF : Nat → Int32) (p1 : Int32) (iv_d_used : 0 ≤ (d_used : Int32).toInt ∧ (d_used : Int32).toInt ≤ 100) (iv_d_count : 0 ≤ (d_count : Int32).toInt ∧ (d_count : Int32).toInt ≤ 910) : Met l yX1_round pw_X1_round ({ frames := 1, cells := 0, slots := 0, locals := 22 }) (va_Pc [.ref d, .int p1] (fun U => U.heap.size = sz ∧ va_P D vwCl [(d, .inr (1, [.ref d_limbs, .ref d_digits, .int d_used, .int d_count, .int d_scale])), (d_digits, .inl (cI, 910, .inl d_digitsF))] U.heap ∧ va_K D vwCl (ty3 cI cD cJ) U ∧ va_D (fun _ => True) [(d, .inr (1, [.ref d_limbs, .ref d_digits, .int d_used, .int d_count, .int d_scale])), (d_digits, .inl (cI, 910, .inl d_digitsF))])) (va_Qv (fun (u : Int32 × (Nat → Int32)) => match u with | (d_count2, d_digitsF2) => (0 ≤ (d_count2 : Int32).toInt ∧ (d_count2 : Int32).toInt ≤ 910)) (fun (u : Int32 × (Nat → Int32)) (t : State) => match u with | (d_count2, d_digitsF2) => va_P D vwCl [(d, .inr (1, [.ref d_limbs, .ref d_digits, .int d_used, .int d_count2, .int d_scale])), (d_digits, .inl (cI, 910, .inl d_digitsF2))] t.heap ∧ va_K D vwCl (ty3 cI cD cJ) t ∧ va_D (va_A [(d, .inr (1, [.ref d_limbs, .ref d_digits, .int d_used, .int d_count, .int d_scale])), (d_digits, .inl (cI, 910, .inl d_digitsF))] sz) [(d, .inr (1, [.ref d_limbs, .ref d_digits, .int d_used, .int d_count2, .int d_scale])), (d_digits, .inl (cI, 910, .inl d_digitsF2))]) (va_A [(d, .inr (1, [.ref d_limbs, .ref d_digits, .int d_used, .int d_count, .int d_scale])), (d_digits, .inl (cI, 910, .inl d_digitsF))] sz)) 0 0 (va_A [(d, .inr (1, [.ref d_limbs, .ref d_digits, .int d_used, .int d_count, .int d_scale])), (d_digits, .inl (cI, 910, .inl d_digitsF))] sz) := by
  refine Met.ofW (cc := cX1_round) (maxL := 5) (ret := none) (by decide +kernel) rfl ?_
  intro p e s m args below meth c s₁ B hml hv
  obtain ⟨rfl, hsz, hP, hK, hD0⟩ := hv
  have hx := B.exec
  have hb := B.bytes
  have hr := B.returns
  have hts := atoms_spec (ws := pw_X1_round) B.pre
  have hown : s.vm.findClass RX1 = some m.cls := findClass_of_methodNamed B.named
  have hlocks := B.notSynchronized
  subst hsz
  have hD := hD0.self (sz := s.heap.size)
  generalize hAe : va_A [(d, .inr (1, [.ref d_limbs, .ref d_digits, .int d_used, .int d_count, .int d_scale])), (d_digits, .inl (cI, 910, .inl d_digitsF))] s.heap.size = A at hD ⊢
  have hA : ∀ q : Nat, s.heap.size ≤ q → A q := fun q h => by rw [← hAe]; exact Or.inr h
  have hS : va_S A s.heap s.heap [] := va_S.rf
  have hw : ∀ (k : Nat) (w : Cond), ow_X1_round[k]? = some w → w.before _ s = true := fun k w h => hts w (List.mem_cons_of_mem _ (have h9 := List.mem_of_getElem? h; List.mem_append_left _ h9))
  have i_X1_trim : ∀ w ∈ pw_X1_trim, w ∈ pw_X1_round := fun w h9 => List.mem_cons_of_mem _ (List.mem_append_right _ (List.mem_append_left _ h9))
  have i_X1_addOneAt : ∀ w ∈ pw_X1_addOneAt, w ∈ pw_X1_round := fun w h9 => List.mem_cons_of_mem _ (List.mem_append_right _ (List.mem_append_right _ (List.mem_append_left _ h9)))
  have iX1 : ∀ w ∈ u_ws RX1 TX1 5, w ∈ pw_X1_round := fun w h9 => List.mem_cons_of_mem _ (List.mem_append_right _ (List.mem_append_right _ (List.mem_append_right _ (h9))))
  have n_0 : ((0 : Int32)).toInt = 0 := by decide
  have n_1 : ((1 : Int32)).toInt = 1 := by decide
  have n_5 : ((5 : Int32)).toInt = 5 := by decide
  have n_910 : ((910 : Int32)).toInt = 910 := by decide
  have hl := lv_entry ([.ref d, .int p1]) (n := 5) (Nat.le_of_ble_eq_true rfl)
  rw [lg_entry_eq]
  generalize (lg_sl ([.ref d, .int p1]) ++ List.replicate (5 - (lg_sl ([.ref d, .int p1])).length) Slot.unset).toArray = ls at hl ⊢
  have hl : lv_has ls 5 [(0, .ref d), (1, .int p1)] := hl
  have b_p1 := ti_b p1
  refine zz_cap (fun Z hZ1 hZ2 => ?_)
  refine lv_aload_n hx hb dX1_round_0 rfl (lv_at hl 0 rfl) ?_
  refine va_get (D := D) (ci := 1) (v := .int d_scale) (C := RX1) (T := TX1) (N := 5) hx hb hts iX1 hown hK hP 0 rfl rfl 4 (by decide) (hw 0 (.fieldLink RX1 41 "NumberFormats$Decimal" "scale" "I") rfl) (fun _ h9 => h9) rfl dX1_round_1 ?_
  refine lv_iload_n hx hb dX1_round_4 rfl (lv_at hl 1 rfl) ?_
  refine lv_isub hx hb dX1_round_5 ?_
  refine lv_topi (fun x_1 ex_1 => ?_)
  have tx_1 := ti_sub ex_1
  refine lv_istore_n (lv' := [(2, .int x_1), (0, .ref d), (1, .int p1)]) hx hb dX1_round_6 rfl hl (by decide) rfl (fun ls hl => ?_)
  refine lv_iload_n hx hb dX1_round_7 rfl (lv_at hl 0 rfl) ?_
  refine lv_if_gt (tgt := 12) hx hb dX1_round_8 (by decide) (fun c_2 => ?_) (fun c_2 => ?_)
  · have ic_2 : (0 : Int32).toInt < (x_1 : Int32).toInt := (fa_lt 0 x_1).mp c_2
    refine lv_iload_n hx hb dX1_round_12 rfl (lv_at hl 0 rfl) ?_
    refine lv_aload_n hx hb dX1_round_13 rfl (lv_at hl 1 rfl) ?_
    refine va_get (D := D) (ci := 1) (v := .int d_count) (C := RX1) (T := TX1) (N := 5) hx hb hts iX1 hown hK hP 0 rfl rfl 3 (by decide) (hw 1 (.fieldLink RX1 47 "NumberFormats$Decimal" "count" "I") rfl) (fun _ h9 => h9) rfl dX1_round_14 ?_
    refine lv_icmp_gt (tgt := 29) hx hb dX1_round_17 (by decide) (fun c_3 => ?_) (fun c_3 => ?_)
    · have ic_3 : (d_count : Int32).toInt < (x_1 : Int32).toInt := (fa_lt d_count x_1).mp c_3
      refine lv_aload_n hx hb dX1_round_29 rfl (lv_at hl 1 rfl) ?_
      refine lv_iconst (v := 0) hx hb dX1_round_30 (by decide) ?_
      refine va_put (D := D) (ci := 1) (v := .int 0) (ty := .int) (C := RX1) (T := TX1) (N := 5) hx hb hts iX1 tyX1 tyX1_ok nmX1 hown hK hP hD hS 0 rfl rfl 3 (by decide) (hw 1 (.fieldLink RX1 47 "NumberFormats$Decimal" "count" "I") rfl) (fun _ h9 => h9) rfl (by decide +kernel) rfl rfl (Nat.le_of_ble_eq_true rfl) dX1_round_31 (fun H locs hP hD hS => ?_)
      have hP : va_P D vwCl [(d, .inr (1, [.ref d_limbs, .ref d_digits, .int d_used, .int 0, .int d_scale])), (d_digits, .inl (cI, 910, .inl d_digitsF))] H := hP
      have hD : va_D A [(d, .inr (1, [.ref d_limbs, .ref d_digits, .int d_used, .int 0, .int d_scale])), (d_digits, .inl (cI, 910, .inl d_digitsF))] := hD
      have hP9 := hP.sub (ws' := [(d, .inr (1, [.ref d_limbs, .ref d_digits, .int d_used, .int 0, .int d_scale])), (d_digits, .inl (cI, 910, .inl d_digitsF))]) [0, 1] rfl
      have hD9 := hD.sub (ws' := [(d, .inr (1, [.ref d_limbs, .ref d_digits, .int d_used, .int 0, .int d_scale])), (d_digits, .inl (cI, 910, .inl d_digitsF))]) [0, 1] (by decide) rfl
      exact W.vret hx hb hr (fun t ht hW => ⟨⟨(0, d_digitsF), rfl, (by (try dsimp only); first | omega | assumption), by rw [ht]; exact hP9, va_K.moved hW.alike hK, hD9⟩, hS.F ht⟩) hS.2.2 dX1_round_34
    · have ic_3 : ¬ ((d_count : Int32).toInt < (x_1 : Int32).toInt) := fun h9 => c_3 ((fa_lt d_count x_1).mpr h9)
      refine lv_iload_n hx hb dX1_round_20 rfl (lv_at hl 0 rfl) ?_
      refine lv_aload_n hx hb dX1_round_21 rfl (lv_at hl 1 rfl) ?_
      refine va_get (D := D) (ci := 1) (v := .ref d_digits) (C := RX1) (T := TX1) (N := 5) hx hb hts iX1 hown hK hP 0 rfl rfl 1 (by decide) (hw 2 (.fieldLink RX1 13 "NumberFormats$Decimal" "digits" "[I") rfl) (fun _ h9 => h9) rfl dX1_round_22 ?_
      refine va_alen hx hb hK hP 1 0 rfl rfl (v := 910) rfl dX1_round_25 ?_
      refine lv_icmp_le (tgt := 35) hx hb dX1_round_26 (by decide) (fun c_4 => ?_) (fun c_4 => ?_)
      · have ic_4 : (x_1 : Int32).toInt ≤ (910 : Int32).toInt := (fa_le x_1 910).mp c_4
        refine lv_aload_n hx hb dX1_round_35 rfl (lv_at hl 1 rfl) ?_
        refine va_get (D := D) (ci := 1) (v := .ref d_digits) (C := RX1) (T := TX1) (N := 5) hx hb hts iX1 hown hK hP 0 rfl rfl 1 (by decide) (hw 2 (.fieldLink RX1 13 "NumberFormats$Decimal" "digits" "[I") rfl) (fun _ h9 => h9) rfl dX1_round_36 ?_
        refine lv_iload_n hx hb dX1_round_39 rfl (lv_at hl 0 rfl) ?_
        refine lv_iconst (v := 1) hx hb dX1_round_40 (by decide) ?_
        refine lv_isub hx hb dX1_round_41 ?_
        refine lv_topi (fun x_5 ex_5 => ?_)
        have tx_5 := ti_sub ex_5
        have h_42 : vp_in x_5 910 := by rw [vp_in_iff]; omega
        refine va_iald hx hb hK hP 1 0 rfl rfl h_42 dX1_round_42 ?_
        refine lv_topi (fun x_6 ex_6 => ?_)
        refine lv_iconst (v := 5) hx hb dX1_round_43 (by decide) ?_
        have K_52 : ∀ (z_7 : Int32) (H : Heap) (locs : List Loc) (ls : Array Slot), ((z_7 : Int32).toInt = 0 ∨ (z_7 : Int32).toInt = 1) → va_P D vwCl [(d, .inr (1, [.ref d_limbs, .ref d_digits, .int d_used, .int d_count, .int d_scale])), (d_digits, .inl (cI, 910, .inl d_digitsF))] H → va_D A [(d, .inr (1, [.ref d_limbs, .ref d_digits, .int d_used, .int d_count, .int d_scale])), (d_digits, .inl (cI, 910, .inl d_digitsF))] → va_S A s.heap H locs → lv_has ls 5 [(2, .int x_1), (0, .ref d)] → Z 0 0 H locs (F0 m 52 ls [.int z_7]) := by
          intro z_7 H locs ls g52_0 hP hD hS hl
          refine hZ2 ?_
          refine lv_istore_n (lv' := [(3, .int z_7), (2, .int x_1), (0, .ref d)]) hx hb dX1_round_52 rfl hl (by decide) rfl (fun ls hl => ?_)
          refine lv_iconst (v := 0) hx hb dX1_round_53 (by decide) ?_
          refine lv_istore (lv' := [(4, .int 0), (3, .int z_7), (2, .int x_1), (0, .ref d)]) hx hb dX1_round_54 hl (by decide) rfl (fun ls hl => ?_)
          have L_56 : ∀ (N : Nat) (x_8 : Int32) (f_9 : Nat → Int32) (H : Heap) (locs : List Loc) (ls : Array Slot), (0 ≤ (x_8 : Int32).toInt) → ((2147483647 - (x_8 : Int32).toInt).toNat < N) → va_P D vwCl [(d, .inr (1, [.ref d_limbs, .ref d_digits, .int d_used, .int d_count, .int d_scale])), (d_digits, .inl (cI, 910, .inl f_9))] H → va_D A [(d, .inr (1, [.ref d_limbs, .ref d_digits, .int d_used, .int d_count, .int d_scale])), (d_digits, .inl (cI, 910, .inl f_9))] → va_S A s.heap H locs → lv_has ls 5 [(4, .int x_8), (3, .int z_7), (2, .int x_1), (0, .ref d)] → Z 0 0 H locs (F0 m 56 ls []) := by
            intro N
            induction N with
            | zero => intro _ _ _ _ _ _ hmu; exact absurd hmu (Nat.not_lt_zero _)
            | succ N ih_56 =>
              intro x_8 f_9 H locs ls g56_0 hmu hP hD hS hl
              refine hZ2 ?_
              refine lv_iload hx hb dX1_round_56 (lv_at hl 0 rfl) ?_
              refine lv_iload_n hx hb dX1_round_58 rfl (lv_at hl 2 rfl) ?_
              refine lv_icmp_ge (tgt := 76) hx hb dX1_round_59 (by decide) (fun c_10 => ?_) (fun c_10 => ?_)
              · have ic_10 : (x_1 : Int32).toInt ≤ (x_8 : Int32).toInt := (fa_le x_1 x_8).mp c_10
                refine lv_iload_n hx hb dX1_round_76 rfl (lv_at hl 1 rfl) ?_
                have K_85 : ∀ (x_11 : Int32) (f_12 : Nat → Int32) (H : Heap) (locs : List Loc) (ls : Array Slot), (0 ≤ (x_11 : Int32).toInt ∧ (x_11 : Int32).toInt ≤ 910) → va_P D vwCl [(d, .inr (1, [.ref d_limbs, .ref d_digits, .int d_used, .int x_11, .int d_scale])), (d_digits, .inl (cI, 910, .inl f_12))] H → va_D A [(d, .inr (1, [.ref d_limbs, .ref d_digits, .int d_used, .int x_11, .int d_scale])), (d_digits, .inl (cI, 910, .inl f_12))] → va_S A s.heap H locs → lv_has ls 5 [(0, .ref d)] → Z 0 0 H locs (F0 m 85 ls []) := by
                  intro x_11 f_12 H locs ls g85_0 hP hD hS hl
                  refine hZ2 ?_
                  refine lv_aload_n hx hb dX1_round_85 rfl (lv_at hl 0 rfl) ?_
                  have hPc := hP.sub (ws' := [(d, .inr (1, [.ref d_limbs, .ref d_digits, .int d_used, .int x_11, .int d_scale])), (d_digits, .inl (cI, 910, .inl f_12))]) [0, 1] rfl
                  have hDc := hD.sub (ws' := [(d, .inr (1, [.ref d_limbs, .ref d_digits, .int d_used, .int x_11, .int d_scale])), (d_digits, .inl (cI, 910, .inl f_12))]) [0, 1] (by decide) rfl
                  have hFc := va_free (wc := [(d, .inr (1, [.ref d_limbs, .ref d_digits, .int d_used, .int x_11, .int d_scale])), (d_digits, .inl (cI, 910, .inl f_12))]) hD hS hA [0, 1] rfl
                  refine va_callv (va_runV (As := []) (rest := []) ⟨hx, hb, hml, hown, hts⟩ (c_X1_trim l D cI cD cJ H.size d d_limbs d_digits d_used x_11 d_scale f_12 (by omega) (by omega)) (cwV 0 hts (goodIn_app (goodIn_r _ [4, 5, 6, 7] rfl (by decide +kernel)) (goodIn_sub i_X1_trim k_X1_trim)) rfl rfl rfl (by decide +kernel) ⟨Nat.le_of_ble_eq_true rfl, Nat.le_of_ble_eq_true rfl⟩) ⟨fun a U g mk q => by obtain ⟨q0, q1, qP, qK, qD⟩ := q; exact ⟨q0, q1, qP, va_K.moved (u := U) (U := U.calling g mk a) (Vm.Alike.refl U.vm) qK, qD⟩, va_recv hK hPc (ci := 1) (q0 := 0) rfl rfl, fun U hU hW => ⟨rfl, by rw [hU], by rw [hU]; exact hPc, va_K.moved hW.alike hK, hDc.weaken (fun _ _ _ _ => trivial)⟩⟩ rfl rfl hl.1 rfl (lv_room (Nat.le_of_ble_eq_true rfl)) dX1_round_86 ⟨Nat.le_of_ble_eq_true rfl, Nat.le_of_ble_eq_true rfl⟩) hS (fun q _ h => hFc q h) hFc (fun u t H1 locs ht hvm w_13 hB hz1 hk1 hS => ?_)
                  generalize u = u_14 at w_13 hB
                  obtain ⟨hP1, hK1, hD1⟩ := hB
                  rw [ht] at hP1
                  try dsimp only at w_13
                  obtain ⟨hP, hD⟩ := va_join (wr := []) (w1 := [(d, .inr (1, [.ref d_limbs, .ref d_digits, .int d_used, .int u_14, .int d_scale])), (d_digits, .inl (cI, 910, .inl f_12))]) hP hD [0, 1] [] rfl rfl (by decide) (by decide) hk1 hFc hP1 hD1
                  generalize H1 = H at hP hS ⊢
                  have hP : va_P D vwCl [(d, .inr (1, [.ref d_limbs, .ref d_digits, .int d_used, .int u_14, .int d_scale])), (d_digits, .inl (cI, 910, .inl f_12))] H := hP
                  have hD : va_D A [(d, .inr (1, [.ref d_limbs, .ref d_digits, .int d_used, .int u_14, .int d_scale])), (d_digits, .inl (cI, 910, .inl f_12))] := hD
                  have hP9 := hP.sub (ws' := [(d, .inr (1, [.ref d_limbs, .ref d_digits, .int d_used, .int u_14, .int d_scale])), (d_digits, .inl (cI, 910, .inl f_12))]) [0, 1] rfl
                  have hD9 := hD.sub (ws' := [(d, .inr (1, [.ref d_limbs, .ref d_digits, .int d_used, .int u_14, .int d_scale])), (d_digits, .inl (cI, 910, .inl f_12))]) [0, 1] (by decide) rfl
                  exact W.vret hx hb hr (fun t ht hW => ⟨⟨(u_14, f_12), rfl, (by (try dsimp only); first | omega | assumption), by rw [ht]; exact hP9, va_K.moved hW.alike hK, hD9⟩, hS.F ht⟩) hS.2.2 dX1_round_89
                refine lv_if_eq (tgt := 85) hx hb dX1_round_77 (by decide) (fun c_15 => ?_) (fun c_15 => ?_)
                · have ic_15 : (z_7 : Int32).toInt = (0 : Int32).toInt := (fa_eq z_7 0).mp c_15
                  exact hZ1 (K_85 d_count f_9 _ _ _ (by omega) hP hD hS (lv_sub hl [3] rfl))
                · have ic_15 : ¬ ((z_7 : Int32).toInt = (0 : Int32).toInt) := fun h9 => c_15 ((fa_eq z_7 0).mpr h9)
                  refine lv_aload_n hx hb dX1_round_80 rfl (lv_at hl 3 rfl) ?_
                  refine lv_iload_n hx hb dX1_round_81 rfl (lv_at hl 2 rfl) ?_
                  have hPc := hP.sub (ws' := [(d, .inr (1, [.ref d_limbs, .ref d_digits, .int d_used, .int d_count, .int d_scale])), (d_digits, .inl (cI, 910, .inl f_9))]) [0, 1] rfl
                  have hDc := hD.sub (ws' := [(d, .inr (1, [.ref d_limbs, .ref d_digits, .int d_used, .int d_count, .int d_scale])), (d_digits, .inl (cI, 910, .inl f_9))]) [0, 1] (by decide) rfl
                  have hFc := va_free (wc := [(d, .inr (1, [.ref d_limbs, .ref d_digits, .int d_used, .int d_count, .int d_scale])), (d_digits, .inl (cI, 910, .inl f_9))]) hD hS hA [0, 1] rfl
                  refine va_callv (va_runV (As := [.int x_1]) (rest := []) ⟨hx, hb, hml, hown, hts⟩ (c_X1_addOneAt l D cI cD cJ H.size d d_limbs d_digits d_used d_count d_scale f_9 x_1 (by omega) (by omega) (by omega)) (cwV 1 hts (goodIn_app (goodIn_r _ [8, 9, 10, 7] rfl (by decide +kernel)) (goodIn_sub i_X1_addOneAt k_X1_addOneAt)) rfl rfl rfl (by decide +kernel) ⟨Nat.le_of_ble_eq_true rfl, Nat.le_of_ble_eq_true rfl⟩) ⟨fun a U g mk q => by obtain ⟨q0, q1, qP, qK, qD⟩ := q; exact ⟨q0, q1, qP, va_K.moved (u := U) (U := U.calling g mk a) (Vm.Alike.refl U.vm) qK, qD⟩, va_recv hK hPc (ci := 1) (q0 := 0) rfl rfl, fun U hU hW => ⟨rfl, by rw [hU], by rw [hU]; exact hPc, va_K.moved hW.alike hK, hDc.weaken (fun _ _ _ _ => trivial)⟩⟩ rfl rfl hl.1 rfl (lv_room (Nat.le_of_ble_eq_true rfl)) dX1_round_82 ⟨Nat.le_of_ble_eq_true rfl, Nat.le_of_ble_eq_true rfl⟩) hS (fun q _ h => hFc q h) hFc (fun u t H1 locs ht hvm w_16 hB hz1 hk1 hS => ?_)
                  obtain ⟨u_17, u_18⟩ := u
                  obtain ⟨hP1, hK1, hD1⟩ := hB
                  rw [ht] at hP1
                  try dsimp only at w_16
                  obtain ⟨hP, hD⟩ := va_join (wr := []) (w1 := [(d, .inr (1, [.ref d_limbs, .ref d_digits, .int d_used, .int u_17, .int d_scale])), (d_digits, .inl (cI, 910, .inl u_18))]) hP hD [0, 1] [] rfl rfl (by decide) (by decide) hk1 hFc hP1 hD1
                  generalize H1 = H at hP hS ⊢
                  have hP : va_P D vwCl [(d, .inr (1, [.ref d_limbs, .ref d_digits, .int d_used, .int u_17, .int d_scale])), (d_digits, .inl (cI, 910, .inl u_18))] H := hP
                  have hD : va_D A [(d, .inr (1, [.ref d_limbs, .ref d_digits, .int d_used, .int u_17, .int d_scale])), (d_digits, .inl (cI, 910, .inl u_18))] := hD
                  exact hZ1 (K_85 u_17 u_18 _ _ _ (by omega) hP hD hS (lv_sub hl [3] rfl))
              · have ic_10 : ¬ ((x_1 : Int32).toInt ≤ (x_8 : Int32).toInt) := fun h9 => c_10 ((fa_le x_1 x_8).mpr h9)
                refine lv_aload_n hx hb dX1_round_62 rfl (lv_at hl 3 rfl) ?_
                refine va_get (D := D) (ci := 1) (v := .ref d_digits) (C := RX1) (T := TX1) (N := 5) hx hb hts iX1 hown hK hP 0 rfl rfl 1 (by decide) (hw 2 (.fieldLink RX1 13 "NumberFormats$Decimal" "digits" "[I") rfl) (fun _ h9 => h9) rfl dX1_round_63 ?_
                refine lv_iload hx hb dX1_round_66 (lv_at hl 0 rfl) ?_
                refine lv_iconst (v := 0) hx hb dX1_round_68 (by decide) ?_
                have h_69 : vp_in x_8 910 := by rw [vp_in_iff]; omega
                refine va_iast hx hb hK hP hD hS 1 0 rfl rfl h_69 dX1_round_69 (fun H locs hP hD hS => ?_)
                obtain ⟨f_19, ef_19⟩ : ∃ y : Nat → Int32, y = upd f_9 (x_8 : Int32).toNatClampNeg 0 := ⟨_, rfl⟩
                rw [← ef_19] at hP hD
                have hP : va_P D vwCl [(d, .inr (1, [.ref d_limbs, .ref d_digits, .int d_used, .int d_count, .int d_scale])), (d_digits, .inl (cI, 910, .inl f_19))] H := hP
                have hD : va_D A [(d, .inr (1, [.ref d_limbs, .ref d_digits, .int d_used, .int d_count, .int d_scale])), (d_digits, .inl (cI, 910, .inl f_19))] := hD
                obtain ⟨x_20, ex_20⟩ : ∃ y : Int32, y = x_8 + 1 := ⟨_, rfl⟩
                have tx_20 := ti_add ex_20
                refine lv_iinc (v := x_20) (lv' := [(4, .int x_20), (3, .int z_7), (2, .int x_1), (0, .ref d)]) hx hb dX1_round_70 hl (k := 0) rfl (by rw [ex_20]; rfl) (by decide) rfl (fun ls hl => ?_)
                refine lv_goto (tgt := 56) hx hb dX1_round_73 (by decide) ?_
                exact hZ1 (ih_56 x_20 f_19 _ _ _ (by omega) (by omega) hP hD hS hl)
          exact hZ1 (L_56 (((2147483647 - (0 : Int32).toInt).toNat) + 1) 0 d_digitsF _ _ _ (by omega) (by omega) hP hD hS hl)
        refine lv_icmp_lt (tgt := 51) hx hb dX1_round_44 (by decide) (fun c_21 => ?_) (fun c_21 => ?_)
        · have ic_21 : (x_6 : Int32).toInt < (5 : Int32).toInt := (fa_lt x_6 5).mp c_21
          refine lv_iconst (v := 0) hx hb dX1_round_51 (by decide) ?_
          exact hZ1 (K_52 0 _ _ _ (by omega) hP hD hS (lv_sub hl [0, 1] rfl))
        · have ic_21 : ¬ ((x_6 : Int32).toInt < (5 : Int32).toInt) := fun h9 => c_21 ((fa_lt x_6 5).mpr h9)
          refine lv_iconst (v := 1) hx hb dX1_round_47 (by decide) ?_
          refine lv_goto (tgt := 52) hx hb dX1_round_48 (by decide) ?_
          exact hZ1 (K_52 1 _ _ _ (by omega) hP hD hS (lv_sub hl [0, 1] rfl))
      · have ic_4 : ¬ ((x_1 : Int32).toInt ≤ (910 : Int32).toInt) := fun h9 => c_4 ((fa_le x_1 910).mpr h9)
        refine lv_aload_n hx hb dX1_round_29 rfl (lv_at hl 1 rfl) ?_
        refine lv_iconst (v := 0) hx hb dX1_round_30 (by decide) ?_
        refine va_put (D := D) (ci := 1) (v := .int 0) (ty := .int) (C := RX1) (T := TX1) (N := 5) hx hb hts iX1 tyX1 tyX1_ok nmX1 hown hK hP hD hS 0 rfl rfl 3 (by decide) (hw 1 (.fieldLink RX1 47 "NumberFormats$Decimal" "count" "I") rfl) (fun _ h9 => h9) rfl (by decide +kernel) rfl rfl (Nat.le_of_ble_eq_true rfl) dX1_round_31 (fun H locs hP hD hS => ?_)
        have hP : va_P D vwCl [(d, .inr (1, [.ref d_limbs, .ref d_digits, .int d_used, .int 0, .int d_scale])), (d_digits, .inl (cI, 910, .inl d_digitsF))] H := hP
        have hD : va_D A [(d, .inr (1, [.ref d_limbs, .ref d_digits, .int d_used, .int 0, .int d_scale])), (d_digits, .inl (cI, 910, .inl d_digitsF))] := hD
        have hP9 := hP.sub (ws' := [(d, .inr (1, [.ref d_limbs, .ref d_digits, .int d_used, .int 0, .int d_scale])), (d_digits, .inl (cI, 910, .inl d_digitsF))]) [0, 1] rfl
        have hD9 := hD.sub (ws' := [(d, .inr (1, [.ref d_limbs, .ref d_digits, .int d_used, .int 0, .int d_scale])), (d_digits, .inl (cI, 910, .inl d_digitsF))]) [0, 1] (by decide) rfl
        exact W.vret hx hb hr (fun t ht hW => ⟨⟨(0, d_digitsF), rfl, (by (try dsimp only); first | omega | assumption), by rw [ht]; exact hP9, va_K.moved hW.alike hK, hD9⟩, hS.F ht⟩) hS.2.2 dX1_round_34
  · have ic_2 : ¬ ((0 : Int32).toInt < (x_1 : Int32).toInt) := fun h9 => c_2 ((fa_lt 0 x_1).mpr h9)
    have hP9 := hP.sub (ws' := [(d, .inr (1, [.ref d_limbs, .ref d_digits, .int d_used, .int d_count, .int d_scale])), (d_digits, .inl (cI, 910, .inl d_digitsF))]) [0, 1] rfl
    have hD9 := hD.sub (ws' := [(d, .inr (1, [.ref d_limbs, .ref d_digits, .int d_used, .int d_count, .int d_scale])), (d_digits, .inl (cI, 910, .inl d_digitsF))]) [0, 1] (by decide) rfl
    exact W.vret hx hb hr (fun t ht hW => ⟨⟨(d_count, d_digitsF), rfl, (by (try dsimp only); first | omega | assumption), by rw [ht]; exact hP9, va_K.moved hW.alike hK, hD9⟩, hS.F ht⟩) hS.2.2 dX1_round_11

def ow_X1_whole : List Cond := [Cond.methodLink RX1 59 yX1_wholeDigits, Cond.instanceMethod yX1_wholeDigits, Cond.selects RX1 yX1_wholeDigits yX1_wholeDigits, Cond.initialized RX1, Cond.constantLong RX1 50 (10), Cond.methodLink RX1 63 yX1_digit, Cond.instanceMethod yX1_digit, Cond.selects RX1 yX1_digit yX1_digit]
def pw_X1_whole : List Cond := Cond.code yX1_whole cX1_whole 4 (some .long) :: (ow_X1_whole ++ (pw_X1_wholeDigits ++ (pw_X1_digit)))
set_option maxRecDepth 20000 in
theorem mo_X1_whole : ∀ w ∈ ow_X1_whole, w ∈ lw_tbl := by decide +kernel
set_option maxRecDepth 20000 in
theorem mc_X1_whole : Cond.code yX1_whole cX1_whole 4 (some .long) ∈ lw_tbl := by decide +kernel
theorem m_X1_whole : ∀ w ∈ pw_X1_whole, w ∈ lw_tbl := List.forall_mem_cons.mpr ⟨mc_X1_whole, (List.forall_mem_append.mpr ⟨mo_X1_whole, (List.forall_mem_append.mpr ⟨m_X1_wholeDigits, m_X1_digit⟩)⟩)⟩
theorem ko_X1_whole : ∀ w ∈ ow_X1_whole, goodWord w = true := by decide +kernel
theorem k_X1_whole : pw_X1_whole.all goodWord = true := List.all_eq_true.mpr (List.forall_mem_cons.mpr ⟨by decide +kernel, (List.forall_mem_append.mpr ⟨ko_X1_whole, (List.forall_mem_append.mpr ⟨(List.all_eq_true.mp k_X1_wholeDigits), (List.all_eq_true.mp k_X1_digit)⟩)⟩)⟩)
set_option maxHeartbeats 400000 in
set_option maxRecDepth 100000 in
theorem c_X1_whole (l : Launch) (D : va_G) (cI cD cJ : ClassId) (sz : Nat) (d : Nat) (d_limbs : Nat) (d_digits : Nat) (d_used : Int32) (d_count : Int32) (d_scale : Int32) (d_digitsF : Nat → Int32) (iv_d_used : 0 ≤ (d_used : Int32).toInt ∧ (d_used : Int32).toInt ≤ 100) (iv_d_count : 0 ≤ (d_count : Int32).toInt ∧ (d_count : Int32).toInt ≤ 910) : Met l yX1_whole pw_X1_whole ({ frames := 1, cells := 0, slots := 0, locals := 22 }) (va_Pc [.ref d] (fun U => va_P D vwCl [(d, .inr (1, [.ref d_limbs, .ref d_digits, .int d_used, .int d_count, .int d_scale])), (d_digits, .inl (cI, 910, .inl d_digitsF))] U.heap ∧ va_K D vwCl (ty3 cI cD cJ) U)) (va_Ql (fun (r : Int64) (u : Unit) => True) (fun _ _ => True) (fun _ => False)) 0 0 (fun _ => False) := by
  refine Met.ofW (cc := cX1_whole) (maxL := 4) (ret := (some .long)) (by decide +kernel) rfl ?_
  intro p e s m args below meth c s₁ B hml hv
  obtain ⟨rfl, hP, hK⟩ := hv
  have hx := B.exec
  have hb := B.bytes
  have hr := B.returns
  have hts := atoms_spec (ws := pw_X1_whole) B.pre
  have hown : s.vm.findClass RX1 = some m.cls := findClass_of_methodNamed B.named
  have hlocks := B.notSynchronized
  have hS : va_S (fun _ => False) s.heap s.heap [] := va_S.rf
  have hw : ∀ (k : Nat) (w : Cond), ow_X1_whole[k]? = some w → w.before _ s = true := fun k w h => hts w (List.mem_cons_of_mem _ (have h9 := List.mem_of_getElem? h; List.mem_append_left _ h9))
  have i_X1_wholeDigits : ∀ w ∈ pw_X1_wholeDigits, w ∈ pw_X1_whole := fun w h9 => List.mem_cons_of_mem _ (List.mem_append_right _ (List.mem_append_left _ h9))
  have i_X1_digit : ∀ w ∈ pw_X1_digit, w ∈ pw_X1_whole := fun w h9 => List.mem_cons_of_mem _ (List.mem_append_right _ (List.mem_append_right _ (h9)))
  have n_m1 : (((-1) : Int32)).toInt = (-1) := by decide
  have n_0 : ((0 : Int32)).toInt = 0 := by decide
  have n_1 : ((1 : Int32)).toInt = 1 := by decide
  have nl_0 : ((0 : Int64)).toInt = 0 := by decide
  have nl_10 : ((10 : Int64)).toInt = 10 := by decide
  have hl := lv_entry ([.ref d]) (n := 4) (Nat.le_of_ble_eq_true rfl)
  rw [lg_entry_eq]
  generalize (lg_sl ([.ref d]) ++ List.replicate (4 - (lg_sl ([.ref d])).length) Slot.unset).toArray = ls at hl ⊢
  have hl : lv_has ls 4 [(0, .ref d)] := hl
  refine zz_cap (fun Z hZ1 hZ2 => ?_)
  refine lv_lconst (v := 0) hx hb dX1_whole_0 (by decide) ?_
  refine lv_lstore_n (lv' := [(1, .long 0), (0, .ref d)]) hx hb dX1_whole_1 rfl hl (by decide) rfl (fun ls hl => ?_)
  refine lv_aload_n hx hb dX1_whole_2 rfl (lv_at hl 1 rfl) ?_
  have hPc := hP.sub (ws' := [(d, .inr (1, [.ref d_limbs, .ref d_digits, .int d_used, .int d_count, .int d_scale]))]) [0] rfl
  refine va_calli (va_runV (As := []) (rest := []) ⟨hx, hb, hml, hown, hts⟩ (c_X1_wholeDigits l D cI cD cJ s.heap.size d d_limbs d_digits d_used d_count d_scale (by omega) (by omega)) (cwV 0 hts (goodIn_app (goodIn_r _ [1, 2, 3, 4] rfl (by decide +kernel)) (goodIn_sub i_X1_wholeDigits k_X1_wholeDigits)) rfl rfl rfl (by decide +kernel) ⟨Nat.le_of_ble_eq_true rfl, Nat.le_of_ble_eq_true rfl⟩) ⟨fun a U g mk q => by obtain ⟨q0, qP, qK⟩ := q; exact ⟨q0, qP, va_K.moved (u := U) (U := U.calling g mk a) (Vm.Alike.refl U.vm) qK⟩, va_recv hK hPc (ci := 1) (q0 := 0) rfl rfl, fun U hU hW => ⟨rfl, by rw [hU]; exact hPc, va_K.moved hW.alike hK⟩⟩ rfl rfl hl.1 rfl (lv_room (Nat.le_of_ble_eq_true rfl)) dX1_whole_3 ⟨Nat.le_of_ble_eq_true rfl, Nat.le_of_ble_eq_true rfl⟩) hS (fun q _ h => h.elim) (fun q h => h.elim) (fun x_1 u t H1 locs ht hvm w_2 hB hz1 hk1 hS => ?_)
  have hP : va_P D vwCl [(d, .inr (1, [.ref d_limbs, .ref d_digits, .int d_used, .int d_count, .int d_scale])), (d_digits, .inl (cI, 910, .inl d_digitsF))] H1 := hP.kept (fun k9 q9 h9 => hk1 q9.1 (vx_lt hP h9) (fun h => h))
  generalize H1 = H at hP hS ⊢
  refine lv_iconst (v := 1) hx hb dX1_whole_6 (by decide) ?_
  refine lv_isub hx hb dX1_whole_7 ?_
  refine lv_topi (fun x_3 ex_3 => ?_)
  have tx_3 := ti_sub ex_3
  refine lv_istore_n (lv' := [(3, .int x_3), (1, .long 0), (0, .ref d)]) hx hb dX1_whole_8 rfl hl (by decide) rfl (fun ls hl => ?_)
  have L_9 : ∀ (N : Nat) (x_4 : Int32) (y_5 : Int64) (H : Heap) (locs : List Loc) (ls : Array Slot), (((x_4 : Int32).toInt + 2147483648).toNat < N) → va_P D vwCl [(d, .inr (1, [.ref d_limbs, .ref d_digits, .int d_used, .int d_count, .int d_scale])), (d_digits, .inl (cI, 910, .inl d_digitsF))] H → va_S (fun _ => False) s.heap H locs → lv_has ls 4 [(3, .int x_4), (1, .long y_5), (0, .ref d)] → Z 0 0 H locs (F0 m 9 ls []) := by
    intro N
    induction N with
    | zero => intro _ _ _ _ _ hmu; exact absurd hmu (Nat.not_lt_zero _)
    | succ N ih_9 =>
      intro x_4 y_5 H locs ls  hmu hP hS hl
      refine hZ2 ?_
      refine lv_iload_n hx hb dX1_whole_9 rfl (lv_at hl 0 rfl) ?_
      refine lv_if_lt (tgt := 32) hx hb dX1_whole_10 (by decide) (fun c_6 => ?_) (fun c_6 => ?_)
      · have ic_6 : (x_4 : Int32).toInt < (0 : Int32).toInt := (fa_lt x_4 0).mp c_6
        refine lv_lload_n hx hb dX1_whole_32 rfl (lv_at hl 1 rfl) ?_
        exact W.lret (v := y_5) hx hb hr (fun t ht hW => ⟨⟨y_5, (), rfl, trivial, trivial⟩, hS.F ht⟩) hS.2.2 dX1_whole_33
      · have ic_6 : ¬ ((x_4 : Int32).toInt < (0 : Int32).toInt) := fun h9 => c_6 ((fa_lt x_4 0).mpr h9)
        refine lv_lload_n hx hb dX1_whole_13 rfl (lv_at hl 1 rfl) ?_
        refine lv_ldc2 (v := 10) hx hb hown (hw 4 (.constantLong RX1 50 (10)) rfl) dX1_whole_14 ?_
        refine lv_lmul hx hb dX1_whole_17 ?_
        refine lv_topl (fun y_7 ey_7 => ?_)
        refine lv_aload_n hx hb dX1_whole_18 rfl (lv_at hl 2 rfl) ?_
        refine lv_iload_n hx hb dX1_whole_19 rfl (lv_at hl 0 rfl) ?_
        have hPc := hP.sub (ws' := [(d, .inr (1, [.ref d_limbs, .ref d_digits, .int d_used, .int d_count, .int d_scale])), (d_digits, .inl (cI, 910, .inl d_digitsF))]) [0, 1] rfl
        refine va_calli (va_runV (As := [.int x_4]) (rest := [.long y_7]) ⟨hx, hb, hml, hown, hts⟩ (c_X1_digit l D cI cD cJ H.size d d_limbs d_digits d_used d_count d_scale d_digitsF x_4 (by omega) (by omega)) (cwV 1 hts (goodIn_app (goodIn_r _ [6, 7, 8, 4] rfl (by decide +kernel)) (goodIn_sub i_X1_digit k_X1_digit)) rfl rfl rfl (by decide +kernel) ⟨Nat.le_of_ble_eq_true rfl, Nat.le_of_ble_eq_true rfl⟩) ⟨fun a U g mk q => by obtain ⟨q0, qP, qK⟩ := q; exact ⟨q0, qP, va_K.moved (u := U) (U := U.calling g mk a) (Vm.Alike.refl U.vm) qK⟩, va_recv hK hPc (ci := 1) (q0 := 0) rfl rfl, fun U hU hW => ⟨rfl, by rw [hU]; exact hPc, va_K.moved hW.alike hK⟩⟩ rfl rfl hl.1 rfl (lv_room (Nat.le_of_ble_eq_true rfl)) dX1_whole_20 ⟨Nat.le_of_ble_eq_true rfl, Nat.le_of_ble_eq_true rfl⟩) hS (fun q _ h => h.elim) (fun q h => h.elim) (fun x_8 u t H1 locs ht hvm w_9 hB hz1 hk1 hS => ?_)
        have hP : va_P D vwCl [(d, .inr (1, [.ref d_limbs, .ref d_digits, .int d_used, .int d_count, .int d_scale])), (d_digits, .inl (cI, 910, .inl d_digitsF))] H1 := hP.kept (fun k9 q9 h9 => hk1 q9.1 (vx_lt hP h9) (fun h => h))
        generalize H1 = H at hP hS ⊢
        refine lv_i2l hx hb dX1_whole_23 rfl ?_
        refine lv_topl (fun y_10 ey_10 => ?_)
        have ty_10 := tl_i2l ey_10
        refine lv_ladd hx hb dX1_whole_24 ?_
        refine lv_topl (fun y_11 ey_11 => ?_)
        have ty_11 := tl_add ey_11
        refine lv_lstore_n (lv' := [(1, .long y_11), (3, .int x_4), (0, .ref d)]) hx hb dX1_whole_25 rfl hl (by decide) rfl (fun ls hl => ?_)
        obtain ⟨x_12, ex_12⟩ : ∃ y : Int32, y = x_4 + (-1) := ⟨_, rfl⟩
        have tx_12 := ti_add ex_12
        refine lv_iinc (v := x_12) (lv' := [(3, .int x_12), (1, .long y_11), (0, .ref d)]) hx hb dX1_whole_26 hl (k := 1) rfl (by rw [ex_12]; rfl) (by decide) rfl (fun ls hl => ?_)
        refine lv_goto (tgt := 9) hx hb dX1_whole_29 (by decide) ?_
        exact hZ1 (ih_9 x_12 y_11 _ _ _ (by omega) hP hS hl)
  exact hZ1 (L_9 ((((x_3 : Int32).toInt + 2147483648).toNat) + 1) x_3 0 _ _ _ (by omega) hP hS hl)

