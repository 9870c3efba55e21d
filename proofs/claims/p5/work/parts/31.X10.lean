def ow_X10_length : List Cond := [Cond.fieldLink RX10 15 "NumberFormats$Text" "length" "I"]
def pw_X10_length : List Cond := Cond.code yX10_length cX10_length 1 (some .int) :: (ow_X10_length ++ (wsX100))
set_option maxRecDepth 20000 in
theorem mo_X10_length : ∀ w ∈ ow_X10_length, w ∈ lw_tbl := by decide +kernel
set_option maxRecDepth 20000 in
theorem mc_X10_length : Cond.code yX10_length cX10_length 1 (some .int) ∈ lw_tbl := by decide +kernel
theorem m_X10_length : ∀ w ∈ pw_X10_length, w ∈ lw_tbl := List.forall_mem_cons.mpr ⟨mc_X10_length, (List.forall_mem_append.mpr ⟨mo_X10_length, inX10⟩)⟩
theorem ko_X10_length : ∀ w ∈ ow_X10_length, goodWord w = true := by decide +kernel
theorem k_X10_length : pw_X10_length.all goodWord = true := List.all_eq_true.mpr (List.forall_mem_cons.mpr ⟨by decide +kernel, (List.forall_mem_append.mpr ⟨ko_X10_length, kX_X10⟩)⟩)
set_option maxHeartbeats 400000 in
set_option maxRecDepth 100000 in
theorem c_X10_length (l : Launch) (D : va_G) (cI cD cJ : ClassId) (sz : Nat) (x : Nat) (x_signs : Nat) (x_length : Int32) (iv_x_length : 0 ≤ (x_length : Int32).toInt ∧ (x_length : Int32).toInt ≤ 255) : Met l yX10_length pw_X10_length ({ frames := 0, cells := 0, slots := 0, locals := 0 }) (va_Pc [.ref x] (fun U => va_P D vwCl [(x, .inr (7, [.ref x_signs, .int x_length]))] U.heap ∧ va_K D vwCl (ty3 cI cD cJ) U)) (va_Qi (fun (r : Int32) (u : Unit) => (0 ≤ r.toInt ∧ r.toInt ≤ 255)) (fun _ _ => True) (fun _ => False)) 0 0 (fun _ => False) := by
  refine Met.ofW (cc := cX10_length) (maxL := 1) (ret := (some .int)) (by decide +kernel) rfl ?_
  intro p e s m args below meth c s₁ B hml hv
  obtain ⟨rfl, hP, hK⟩ := hv
  have hx := B.exec
  have hb := B.bytes
  have hr := B.returns
  have hts := atoms_spec (ws := pw_X10_length) B.pre
  have hown : s.vm.findClass RX10 = some m.cls := findClass_of_methodNamed B.named
  have hlocks := B.notSynchronized
  have hS : va_S (fun _ => False) s.heap s.heap [] := va_S.rf
  have hw : ∀ (k : Nat) (w : Cond), ow_X10_length[k]? = some w → w.before _ s = true := fun k w h => hts w (List.mem_cons_of_mem _ (have h9 := List.mem_of_getElem? h; List.mem_append_left _ h9))
  have iX10 : ∀ w ∈ u_ws RX10 TX10 2, w ∈ pw_X10_length := fun w h9 => List.mem_cons_of_mem _ (List.mem_append_right _ (h9))
  have hl := lv_entry ([.ref x]) (n := 1) (Nat.le_of_ble_eq_true rfl)
  rw [lg_entry_eq]
  generalize (lg_sl ([.ref x]) ++ List.replicate (1 - (lg_sl ([.ref x])).length) Slot.unset).toArray = ls at hl ⊢
  have hl : lv_has ls 1 [(0, .ref x)] := hl
  refine lv_aload_n hx hb dX10_length_0 rfl (lv_at hl 0 rfl) ?_
  refine va_get (D := D) (ci := 7) (v := .int x_length) (C := RX10) (T := TX10) (N := 2) hx hb hts iX10 hown hK hP 0 rfl rfl 1 (by decide) (hw 0 (.fieldLink RX10 15 "NumberFormats$Text" "length" "I") rfl) (fun _ h9 => h9) rfl dX10_length_1 ?_
  exact W.iret (v := x_length) hx hb hr (fun t ht hW => ⟨⟨x_length, (), rfl, (by (try dsimp only); first | omega | assumption), trivial⟩, hS.F ht⟩) hS.2.2 dX10_length_4

def ow_X10_at : List Cond := [Cond.fieldLink RX10 15 "NumberFormats$Text" "length" "I", Cond.fieldLink RX10 9 "NumberFormats$Text" "signs" "[I"]
def pw_X10_at : List Cond := Cond.code yX10_at cX10_at 2 (some .int) :: (ow_X10_at ++ (wsX100))
set_option maxRecDepth 20000 in
theorem mo_X10_at : ∀ w ∈ ow_X10_at, w ∈ lw_tbl := by decide +kernel
set_option maxRecDepth 20000 in
theorem mc_X10_at : Cond.code yX10_at cX10_at 2 (some .int) ∈ lw_tbl := by decide +kernel
theorem m_X10_at : ∀ w ∈ pw_X10_at, w ∈ lw_tbl := List.forall_mem_cons.mpr ⟨mc_X10_at, (List.forall_mem_append.mpr ⟨mo_X10_at, inX10⟩)⟩
theorem ko_X10_at : ∀ w ∈ ow_X10_at, goodWord w = true := by decide +kernel
theorem k_X10_at : pw_X10_at.all goodWord = true := List.all_eq_true.mpr (List.forall_mem_cons.mpr ⟨by decide +kernel, (List.forall_mem_append.mpr ⟨ko_X10_at, kX_X10⟩)⟩)
set_option maxHeartbeats 400000 in
set_option maxRecDepth 100000 in
theorem c_X10_at (l : Launch) (D : va_G) (cI cD cJ : ClassId) (sz : Nat) (x : Nat) (x_signs : Nat) (x_length : Int32) (x_signsF : Nat → Int32) (p1 : Int32) (iv_x_length : 0 ≤ (x_length : Int32).toInt ∧ (x_length : Int32).toInt ≤ 255) (iv_x_signsF : ∀ k9 : Nat, k9 < 255 → 0 ≤ (x_signsF k9).toInt ∧ (x_signsF k9).toInt ≤ 255) : Met l yX10_at pw_X10_at ({ frames := 0, cells := 0, slots := 0, locals := 0 }) (va_Pc [.ref x, .int p1] (fun U => va_P D vwCl [(x, .inr (7, [.ref x_signs, .int x_length])), (x_signs, .inl (cI, 255, .inl x_signsF))] U.heap ∧ va_K D vwCl (ty3 cI cD cJ) U)) (va_Qi (fun (r : Int32) (u : Unit) => (-1 ≤ r.toInt ∧ r.toInt ≤ 255)) (fun _ _ => True) (fun _ => False)) 0 0 (fun _ => False) := by
  refine Met.ofW (cc := cX10_at) (maxL := 2) (ret := (some .int)) (by decide +kernel) rfl ?_
  intro p e s m args below meth c s₁ B hml hv
  obtain ⟨rfl, hP, hK⟩ := hv
  have hx := B.exec
  have hb := B.bytes
  have hr := B.returns
  have hts := atoms_spec (ws := pw_X10_at) B.pre
  have hown : s.vm.findClass RX10 = some m.cls := findClass_of_methodNamed B.named
  have hlocks := B.notSynchronized
  have hS : va_S (fun _ => False) s.heap s.heap [] := va_S.rf
  have hw : ∀ (k : Nat) (w : Cond), ow_X10_at[k]? = some w → w.before _ s = true := fun k w h => hts w (List.mem_cons_of_mem _ (have h9 := List.mem_of_getElem? h; List.mem_append_left _ h9))
  have iX10 : ∀ w ∈ u_ws RX10 TX10 2, w ∈ pw_X10_at := fun w h9 => List.mem_cons_of_mem _ (List.mem_append_right _ (h9))
  have n_m1 : (((-1) : Int32)).toInt = (-1) := by decide
  have n_0 : ((0 : Int32)).toInt = 0 := by decide
  have n_255 : ((255 : Int32)).toInt = 255 := by decide
  have hl := lv_entry ([.ref x, .int p1]) (n := 2) (Nat.le_of_ble_eq_true rfl)
  rw [lg_entry_eq]
  generalize (lg_sl ([.ref x, .int p1]) ++ List.replicate (2 - (lg_sl ([.ref x, .int p1])).length) Slot.unset).toArray = ls at hl ⊢
  have hl : lv_has ls 2 [(0, .ref x), (1, .int p1)] := hl
  have b_p1 := ti_b p1
  refine lv_iload_n hx hb dX10_at_0 rfl (lv_at hl 1 rfl) ?_
  refine lv_if_lt (tgt := 30) hx hb dX10_at_1 (by decide) (fun c_1 => ?_) (fun c_1 => ?_)
  · have ic_1 : (p1 : Int32).toInt < (0 : Int32).toInt := (fa_lt p1 0).mp c_1
    refine lv_iconst (v := (-1)) hx hb dX10_at_30 (by decide) ?_
    exact W.iret (v := (-1)) hx hb hr (fun t ht hW => ⟨⟨(-1), (), rfl, (by (try dsimp only); first | omega | assumption), trivial⟩, hS.F ht⟩) hS.2.2 dX10_at_31
  · have ic_1 : ¬ ((p1 : Int32).toInt < (0 : Int32).toInt) := fun h9 => c_1 ((fa_lt p1 0).mpr h9)
    refine lv_iload_n hx hb dX10_at_4 rfl (lv_at hl 1 rfl) ?_
    refine lv_aload_n hx hb dX10_at_5 rfl (lv_at hl 0 rfl) ?_
    refine va_get (D := D) (ci := 7) (v := .int x_length) (C := RX10) (T := TX10) (N := 2) hx hb hts iX10 hown hK hP 0 rfl rfl 1 (by decide) (hw 0 (.fieldLink RX10 15 "NumberFormats$Text" "length" "I") rfl) (fun _ h9 => h9) rfl dX10_at_6 ?_
    refine lv_icmp_ge (tgt := 30) hx hb dX10_at_9 (by decide) (fun c_2 => ?_) (fun c_2 => ?_)
    · have ic_2 : (x_length : Int32).toInt ≤ (p1 : Int32).toInt := (fa_le x_length p1).mp c_2
      refine lv_iconst (v := (-1)) hx hb dX10_at_30 (by decide) ?_
      exact W.iret (v := (-1)) hx hb hr (fun t ht hW => ⟨⟨(-1), (), rfl, (by (try dsimp only); first | omega | assumption), trivial⟩, hS.F ht⟩) hS.2.2 dX10_at_31
    · have ic_2 : ¬ ((x_length : Int32).toInt ≤ (p1 : Int32).toInt) := fun h9 => c_2 ((fa_le x_length p1).mpr h9)
      refine lv_iload_n hx hb dX10_at_12 rfl (lv_at hl 1 rfl) ?_
      refine lv_aload_n hx hb dX10_at_13 rfl (lv_at hl 0 rfl) ?_
      refine va_get (D := D) (ci := 7) (v := .ref x_signs) (C := RX10) (T := TX10) (N := 2) hx hb hts iX10 hown hK hP 0 rfl rfl 0 (by decide) (hw 1 (.fieldLink RX10 9 "NumberFormats$Text" "signs" "[I") rfl) (fun _ h9 => h9) rfl dX10_at_14 ?_
      refine va_alen hx hb hK hP 1 0 rfl rfl (v := 255) rfl dX10_at_17 ?_
      refine lv_icmp_ge (tgt := 30) hx hb dX10_at_18 (by decide) (fun c_3 => ?_) (fun c_3 => ?_)
      · have ic_3 : (255 : Int32).toInt ≤ (p1 : Int32).toInt := (fa_le 255 p1).mp c_3
        refine lv_iconst (v := (-1)) hx hb dX10_at_30 (by decide) ?_
        exact W.iret (v := (-1)) hx hb hr (fun t ht hW => ⟨⟨(-1), (), rfl, (by (try dsimp only); first | omega | assumption), trivial⟩, hS.F ht⟩) hS.2.2 dX10_at_31
      · have ic_3 : ¬ ((255 : Int32).toInt ≤ (p1 : Int32).toInt) := fun h9 => c_3 ((fa_le 255 p1).mpr h9)
        refine lv_aload_n hx hb dX10_at_21 rfl (lv_at hl 0 rfl) ?_
        refine va_get (D := D) (ci := 7) (v := .ref x_signs) (C := RX10) (T := TX10) (N := 2) hx hb hts iX10 hown hK hP 0 rfl rfl 0 (by decide) (hw 1 (.fieldLink RX10 9 "NumberFormats$Text" "signs" "[I") rfl) (fun _ h9 => h9) rfl dX10_at_22 ?_
        refine lv_iload_n hx hb dX10_at_25 rfl (lv_at hl 1 rfl) ?_
        have h_26 : vp_in p1 255 := by rw [vp_in_iff]; omega
        refine va_iald hx hb hK hP 1 0 rfl rfl h_26 dX10_at_26 ?_
        refine lv_topi (fun x_4 ex_4 => ?_)
        have iv_x_4 := (‹∀ k9 : Nat, k9 < 255 → 0 ≤ (x_signsF k9).toInt ∧ (x_signsF k9).toInt ≤ 255›) _ (Nat.lt_of_not_le (fun h9 => h_26 (Or.inr h9)))
        rw [← ex_4] at iv_x_4
        refine lv_goto (tgt := 31) hx hb dX10_at_27 (by decide) ?_
        exact W.iret (v := x_4) hx hb hr (fun t ht hW => ⟨⟨x_4, (), rfl, (by (try dsimp only); first | omega | assumption), trivial⟩, hS.F ht⟩) hS.2.2 dX10_at_31

def ow_X10_smallAt : List Cond := [Cond.methodLink RX10 19 yX10_at, Cond.instanceMethod yX10_at, Cond.selects RX10 yX10_at yX10_at, Cond.initialized RX10]
def pw_X10_smallAt : List Cond := Cond.code yX10_smallAt cX10_smallAt 3 (some .int) :: (ow_X10_smallAt ++ (pw_X10_at))
set_option maxRecDepth 20000 in
theorem mo_X10_smallAt : ∀ w ∈ ow_X10_smallAt, w ∈ lw_tbl := by decide +kernel
set_option maxRecDepth 20000 in
theorem mc_X10_smallAt : Cond.code yX10_smallAt cX10_smallAt 3 (some .int) ∈ lw_tbl := by decide +kernel
theorem m_X10_smallAt : ∀ w ∈ pw_X10_smallAt, w ∈ lw_tbl := List.forall_mem_cons.mpr ⟨mc_X10_smallAt, (List.forall_mem_append.mpr ⟨mo_X10_smallAt, m_X10_at⟩)⟩
theorem ko_X10_smallAt : ∀ w ∈ ow_X10_smallAt, goodWord w = true := by decide +kernel
theorem k_X10_smallAt : pw_X10_smallAt.all goodWord = true := List.all_eq_true.mpr (List.forall_mem_cons.mpr ⟨by decide +kernel, (List.forall_mem_append.mpr ⟨ko_X10_smallAt, (List.all_eq_true.mp k_X10_at)⟩)⟩)
set_option maxHeartbeats 400000 in
set_option maxRecDepth 100000 in
theorem c_X10_smallAt (l : Launch) (D : va_G) (cI cD cJ : ClassId) (sz : Nat) (x : Nat) (x_signs : Nat) (x_length : Int32) (x_signsF : Nat → Int32) (p1 : Int32) (iv_x_length : 0 ≤ (x_length : Int32).toInt ∧ (x_length : Int32).toInt ≤ 255) (iv_x_signsF : ∀ k9 : Nat, k9 < 255 → 0 ≤ (x_signsF k9).toInt ∧ (x_signsF k9).toInt ≤ 255) : Met l yX10_smallAt pw_X10_smallAt ({ frames := 1, cells := 0, slots := 0, locals := 21 }) (va_Pc [.ref x, .int p1] (fun U => va_P D vwCl [(x, .inr (7, [.ref x_signs, .int x_length])), (x_signs, .inl (cI, 255, .inl x_signsF))] U.heap ∧ va_K D vwCl (ty3 cI cD cJ) U)) (va_Qi (fun (r : Int32) (u : Unit) => (-1 ≤ r.toInt ∧ r.toInt ≤ 300)) (fun _ _ => True) (fun _ => False)) 0 0 (fun _ => False) := by
  refine Met.ofW (cc := cX10_smallAt) (maxL := 3) (ret := (some .int)) (by decide +kernel) rfl ?_
  intro p e s m args below meth c s₁ B hml hv
  obtain ⟨rfl, hP, hK⟩ := hv
  have hx := B.exec
  have hb := B.bytes
  have hr := B.returns
  have hts := atoms_spec (ws := pw_X10_smallAt) B.pre
  have hown : s.vm.findClass RX10 = some m.cls := findClass_of_methodNamed B.named
  have hlocks := B.notSynchronized
  have hS : va_S (fun _ => False) s.heap s.heap [] := va_S.rf
  have hw : ∀ (k : Nat) (w : Cond), ow_X10_smallAt[k]? = some w → w.before _ s = true := fun k w h => hts w (List.mem_cons_of_mem _ (have h9 := List.mem_of_getElem? h; List.mem_append_left _ h9))
  have i_X10_at : ∀ w ∈ pw_X10_at, w ∈ pw_X10_smallAt := fun w h9 => List.mem_cons_of_mem _ (List.mem_append_right _ (h9))
  have n_32 : ((32 : Int32)).toInt = 32 := by decide
  have n_65 : ((65 : Int32)).toInt = 65 := by decide
  have n_90 : ((90 : Int32)).toInt = 90 := by decide
  have hl := lv_entry ([.ref x, .int p1]) (n := 3) (Nat.le_of_ble_eq_true rfl)
  rw [lg_entry_eq]
  generalize (lg_sl ([.ref x, .int p1]) ++ List.replicate (3 - (lg_sl ([.ref x, .int p1])).length) Slot.unset).toArray = ls at hl ⊢
  have hl : lv_has ls 3 [(0, .ref x), (1, .int p1)] := hl
  have b_p1 := ti_b p1
  refine lv_aload_n hx hb dX10_smallAt_0 rfl (lv_at hl 0 rfl) ?_
  refine lv_iload_n hx hb dX10_smallAt_1 rfl (lv_at hl 1 rfl) ?_
  have hPc := hP.sub (ws' := [(x, .inr (7, [.ref x_signs, .int x_length])), (x_signs, .inl (cI, 255, .inl x_signsF))]) [0, 1] rfl
  refine va_calli (va_runV (As := [.int p1]) (rest := []) ⟨hx, hb, hml, hown, hts⟩ (c_X10_at l D cI cD cJ s.heap.size x x_signs x_length x_signsF p1 (by omega) (by assumption)) (cwV 1 hts (goodIn_app (goodIn_r _ [1, 2, 3, 4] rfl (by decide +kernel)) (goodIn_sub i_X10_at k_X10_at)) rfl rfl rfl (by decide +kernel) ⟨Nat.le_of_ble_eq_true rfl, Nat.le_of_ble_eq_true rfl⟩) ⟨fun a U g mk q => by obtain ⟨q0, qP, qK⟩ := q; exact ⟨q0, qP, va_K.moved (u := U) (U := U.calling g mk a) (Vm.Alike.refl U.vm) qK⟩, va_recv hK hPc (ci := 7) (q0 := 0) rfl rfl, fun U hU hW => ⟨rfl, by rw [hU]; exact hPc, va_K.moved hW.alike hK⟩⟩ rfl rfl hl.1 rfl (lv_room (Nat.le_of_ble_eq_true rfl)) dX10_smallAt_2 ⟨Nat.le_of_ble_eq_true rfl, Nat.le_of_ble_eq_true rfl⟩) hS (fun q _ h => h.elim) (fun q h => h.elim) (fun x_1 u t H1 locs ht hvm w_2 hB hz1 hk1 hS => ?_)
  have hP : va_P D vwCl [(x, .inr (7, [.ref x_signs, .int x_length])), (x_signs, .inl (cI, 255, .inl x_signsF))] H1 := hP.kept (fun k9 q9 h9 => hk1 q9.1 (vx_lt hP h9) (fun h => h))
  generalize H1 = H at hP hS ⊢
  try dsimp only at w_2
  refine lv_istore_n (lv' := [(2, .int x_1), (0, .ref x), (1, .int p1)]) hx hb dX10_smallAt_5 rfl hl (by decide) rfl (fun ls hl => ?_)
  refine lv_iload_n hx hb dX10_smallAt_6 rfl (lv_at hl 0 rfl) ?_
  refine lv_bipush (v := 65) hx hb dX10_smallAt_7 (by decide) ?_
  refine lv_icmp_lt (tgt := 25) hx hb dX10_smallAt_9 (by decide) (fun c_3 => ?_) (fun c_3 => ?_)
  · have ic_3 : (x_1 : Int32).toInt < (65 : Int32).toInt := (fa_lt x_1 65).mp c_3
    refine lv_iload_n hx hb dX10_smallAt_25 rfl (lv_at hl 0 rfl) ?_
    exact W.iret (v := x_1) hx hb hr (fun t ht hW => ⟨⟨x_1, (), rfl, (by (try dsimp only); first | omega | assumption), trivial⟩, hS.F ht⟩) hS.2.2 dX10_smallAt_26
  · have ic_3 : ¬ ((x_1 : Int32).toInt < (65 : Int32).toInt) := fun h9 => c_3 ((fa_lt x_1 65).mpr h9)
    refine lv_iload_n hx hb dX10_smallAt_12 rfl (lv_at hl 0 rfl) ?_
    refine lv_bipush (v := 90) hx hb dX10_smallAt_13 (by decide) ?_
    refine lv_icmp_gt (tgt := 25) hx hb dX10_smallAt_15 (by decide) (fun c_4 => ?_) (fun c_4 => ?_)
    · have ic_4 : (90 : Int32).toInt < (x_1 : Int32).toInt := (fa_lt 90 x_1).mp c_4
      refine lv_iload_n hx hb dX10_smallAt_25 rfl (lv_at hl 0 rfl) ?_
      exact W.iret (v := x_1) hx hb hr (fun t ht hW => ⟨⟨x_1, (), rfl, (by (try dsimp only); first | omega | assumption), trivial⟩, hS.F ht⟩) hS.2.2 dX10_smallAt_26
    · have ic_4 : ¬ ((90 : Int32).toInt < (x_1 : Int32).toInt) := fun h9 => c_4 ((fa_lt 90 x_1).mpr h9)
      refine lv_iload_n hx hb dX10_smallAt_18 rfl (lv_at hl 0 rfl) ?_
      refine lv_bipush (v := 32) hx hb dX10_smallAt_19 (by decide) ?_
      refine lv_iadd hx hb dX10_smallAt_21 ?_
      refine lv_topi (fun x_5 ex_5 => ?_)
      have tx_5 := ti_add ex_5
      refine lv_goto (tgt := 26) hx hb dX10_smallAt_22 (by decide) ?_
      exact W.iret (v := x_5) hx hb hr (fun t ht hW => ⟨⟨x_5, (), rfl, (by (try dsimp only); first | omega | assumption), trivial⟩, hS.F ht⟩) hS.2.2 dX10_smallAt_26

def ow_X10_find : List Cond := [Cond.fieldLink RX10 15 "NumberFormats$Text" "length" "I", Cond.methodLink RX10 19 yX10_at, Cond.instanceMethod yX10_at, Cond.selects RX10 yX10_at yX10_at, Cond.initialized RX10]
def pw_X10_find : List Cond := Cond.code yX10_find cX10_find 4 (some .int) :: (ow_X10_find ++ (pw_X10_at ++ (wsX100)))
set_option maxRecDepth 20000 in
theorem mo_X10_find : ∀ w ∈ ow_X10_find, w ∈ lw_tbl := by decide +kernel
set_option maxRecDepth 20000 in
theorem mc_X10_find : Cond.code yX10_find cX10_find 4 (some .int) ∈ lw_tbl := by decide +kernel
theorem m_X10_find : ∀ w ∈ pw_X10_find, w ∈ lw_tbl := List.forall_mem_cons.mpr ⟨mc_X10_find, (List.forall_mem_append.mpr ⟨mo_X10_find, (List.forall_mem_append.mpr ⟨m_X10_at, inX10⟩)⟩)⟩
theorem ko_X10_find : ∀ w ∈ ow_X10_find, goodWord w = true := by decide +kernel
theorem k_X10_find : pw_X10_find.all goodWord = true := List.all_eq_true.mpr (List.forall_mem_cons.mpr ⟨by decide +kernel, (List.forall_mem_append.mpr ⟨ko_X10_find, (List.forall_mem_append.mpr ⟨(List.all_eq_true.mp k_X10_at), kX_X10⟩)⟩)⟩)
set_option maxHeartbeats 400000 in
set_option maxRecDepth 100000 in
theorem c_X10_find (l : Launch) (D : va_G) (cI cD cJ : ClassId) (sz : Nat) (x : Nat) (x_signs : Nat) (x_length : Int32) (x_signsF : Nat → Int32) (p1 : Int32) (p2 : Int32) (iv_x_length : 0 ≤ (x_length : Int32).toInt ∧ (x_length : Int32).toInt ≤ 255) (iv_x_signsF : ∀ k9 : Nat, k9 < 255 → 0 ≤ (x_signsF k9).toInt ∧ (x_signsF k9).toInt ≤ 255) : Met l yX10_find pw_X10_find ({ frames := 1, cells := 0, slots := 0, locals := 21 }) (va_Pc [.ref x, .int p1, .int p2] (fun U => va_P D vwCl [(x, .inr (7, [.ref x_signs, .int x_length])), (x_signs, .inl (cI, 255, .inl x_signsF))] U.heap ∧ va_K D vwCl (ty3 cI cD cJ) U)) (va_Qi (fun (r : Int32) (u : Unit) => (r.toInt = -1 ∨ (p2.toInt ≤ r.toInt ∧ r.toInt ≤ 254))) (fun _ _ => True) (fun _ => False)) 0 0 (fun _ => False) := by
  refine Met.ofW (cc := cX10_find) (maxL := 4) (ret := (some .int)) (by decide +kernel) rfl ?_
  intro p e s m args below meth c s₁ B hml hv
  obtain ⟨rfl, hP, hK⟩ := hv
  have hx := B.exec
  have hb := B.bytes
  have hr := B.returns
  have hts := atoms_spec (ws := pw_X10_find) B.pre
  have hown : s.vm.findClass RX10 = some m.cls := findClass_of_methodNamed B.named
  have hlocks := B.notSynchronized
  have hS : va_S (fun _ => False) s.heap s.heap [] := va_S.rf
  have hw : ∀ (k : Nat) (w : Cond), ow_X10_find[k]? = some w → w.before _ s = true := fun k w h => hts w (List.mem_cons_of_mem _ (have h9 := List.mem_of_getElem? h; List.mem_append_left _ h9))
  have i_X10_at : ∀ w ∈ pw_X10_at, w ∈ pw_X10_find := fun w h9 => List.mem_cons_of_mem _ (List.mem_append_right _ (List.mem_append_left _ h9))
  have iX10 : ∀ w ∈ u_ws RX10 TX10 2, w ∈ pw_X10_find := fun w h9 => List.mem_cons_of_mem _ (List.mem_append_right _ (List.mem_append_right _ (h9)))
  have n_m1 : (((-1) : Int32)).toInt = (-1) := by decide
  have n_1 : ((1 : Int32)).toInt = 1 := by decide
  have hl := lv_entry ([.ref x, .int p1, .int p2]) (n := 4) (Nat.le_of_ble_eq_true rfl)
  rw [lg_entry_eq]
  generalize (lg_sl ([.ref x, .int p1, .int p2]) ++ List.replicate (4 - (lg_sl ([.ref x, .int p1, .int p2])).length) Slot.unset).toArray = ls at hl ⊢
  have hl : lv_has ls 4 [(0, .ref x), (1, .int p1), (2, .int p2)] := hl
  have b_p1 := ti_b p1
  have b_p2 := ti_b p2
  refine zz_cap (fun Z hZ1 hZ2 => ?_)
  refine lv_iload_n hx hb dX10_find_0 rfl (lv_at hl 2 rfl) ?_
  refine lv_istore_n (lv' := [(3, .int p2), (0, .ref x), (1, .int p1), (2, .int p2)]) hx hb dX10_find_1 rfl hl (by decide) rfl (fun ls hl => ?_)
  have L_2 : ∀ (N : Nat) (x_1 : Int32) (H : Heap) (locs : List Loc) (ls : Array Slot), (p2.toInt ≤ (x_1 : Int32).toInt) → ((2147483647 - (x_1 : Int32).toInt).toNat < N) → va_P D vwCl [(x, .inr (7, [.ref x_signs, .int x_length])), (x_signs, .inl (cI, 255, .inl x_signsF))] H → va_S (fun _ => False) s.heap H locs → lv_has ls 4 [(3, .int x_1), (0, .ref x), (1, .int p1)] → Z 0 0 H locs (F0 m 2 ls []) := by
    intro N
    induction N with
    | zero => intro _ _ _ _ _ hmu; exact absurd hmu (Nat.not_lt_zero _)
    | succ N ih_2 =>
      intro x_1 H locs ls g2_0 hmu hP hS hl
      refine hZ2 ?_
      refine lv_iload_n hx hb dX10_find_2 rfl (lv_at hl 0 rfl) ?_
      refine lv_aload_n hx hb dX10_find_3 rfl (lv_at hl 1 rfl) ?_
      refine va_get (D := D) (ci := 7) (v := .int x_length) (C := RX10) (T := TX10) (N := 2) hx hb hts iX10 hown hK hP 0 rfl rfl 1 (by decide) (hw 0 (.fieldLink RX10 15 "NumberFormats$Text" "length" "I") rfl) (fun _ h9 => h9) rfl dX10_find_4 ?_
      refine lv_icmp_ge (tgt := 27) hx hb dX10_find_7 (by decide) (fun c_2 => ?_) (fun c_2 => ?_)
      · have ic_2 : (x_length : Int32).toInt ≤ (x_1 : Int32).toInt := (fa_le x_length x_1).mp c_2
        refine lv_iconst (v := (-1)) hx hb dX10_find_27 (by decide) ?_
        exact W.iret (v := (-1)) hx hb hr (fun t ht hW => ⟨⟨(-1), (), rfl, (by (try dsimp only); first | omega | assumption), trivial⟩, hS.F ht⟩) hS.2.2 dX10_find_28
      · have ic_2 : ¬ ((x_length : Int32).toInt ≤ (x_1 : Int32).toInt) := fun h9 => c_2 ((fa_le x_length x_1).mpr h9)
        refine lv_aload_n hx hb dX10_find_10 rfl (lv_at hl 1 rfl) ?_
        refine lv_iload_n hx hb dX10_find_11 rfl (lv_at hl 0 rfl) ?_
        have hPc := hP.sub (ws' := [(x, .inr (7, [.ref x_signs, .int x_length])), (x_signs, .inl (cI, 255, .inl x_signsF))]) [0, 1] rfl
        refine va_calli (va_runV (As := [.int x_1]) (rest := []) ⟨hx, hb, hml, hown, hts⟩ (c_X10_at l D cI cD cJ H.size x x_signs x_length x_signsF x_1 (by omega) (by assumption)) (cwV 1 hts (goodIn_app (goodIn_r _ [2, 3, 4, 5] rfl (by decide +kernel)) (goodIn_sub i_X10_at k_X10_at)) rfl rfl rfl (by decide +kernel) ⟨Nat.le_of_ble_eq_true rfl, Nat.le_of_ble_eq_true rfl⟩) ⟨fun a U g mk q => by obtain ⟨q0, qP, qK⟩ := q; exact ⟨q0, qP, va_K.moved (u := U) (U := U.calling g mk a) (Vm.Alike.refl U.vm) qK⟩, va_recv hK hPc (ci := 7) (q0 := 0) rfl rfl, fun U hU hW => ⟨rfl, by rw [hU]; exact hPc, va_K.moved hW.alike hK⟩⟩ rfl rfl hl.1 rfl (lv_room (Nat.le_of_ble_eq_true rfl)) dX10_find_12 ⟨Nat.le_of_ble_eq_true rfl, Nat.le_of_ble_eq_true rfl⟩) hS (fun q _ h => h.elim) (fun q h => h.elim) (fun x_3 u t H1 locs ht hvm w_4 hB hz1 hk1 hS => ?_)
        have hP : va_P D vwCl [(x, .inr (7, [.ref x_signs, .int x_length])), (x_signs, .inl (cI, 255, .inl x_signsF))] H1 := hP.kept (fun k9 q9 h9 => hk1 q9.1 (vx_lt hP h9) (fun h => h))
        generalize H1 = H at hP hS ⊢
        try dsimp only at w_4
        refine lv_iload_n hx hb dX10_find_15 rfl (lv_at hl 2 rfl) ?_
        refine lv_icmp_ne (tgt := 21) hx hb dX10_find_16 (by decide) (fun c_5 => ?_) (fun c_5 => ?_)
        · have ic_5 : ¬ ((x_3 : Int32).toInt = (p1 : Int32).toInt) := fun h9 => c_5 ((fa_eq x_3 p1).mpr h9)
          obtain ⟨x_6, ex_6⟩ : ∃ y : Int32, y = x_1 + 1 := ⟨_, rfl⟩
          have tx_6 := ti_add ex_6
          refine lv_iinc (v := x_6) (lv' := [(3, .int x_6), (0, .ref x), (1, .int p1)]) hx hb dX10_find_21 hl (k := 0) rfl (by rw [ex_6]; rfl) (by decide) rfl (fun ls hl => ?_)
          refine lv_goto (tgt := 2) hx hb dX10_find_24 (by decide) ?_
          exact hZ1 (ih_2 x_6 _ _ _ (by omega) (by omega) hP hS hl)
        · have ic_5 : (x_3 : Int32).toInt = (p1 : Int32).toInt := (fa_eq x_3 p1).mp c_5
          refine lv_iload_n hx hb dX10_find_19 rfl (lv_at hl 0 rfl) ?_
          exact W.iret (v := x_1) hx hb hr (fun t ht hW => ⟨⟨x_1, (), rfl, (by (try dsimp only); first | omega | assumption), trivial⟩, hS.F ht⟩) hS.2.2 dX10_find_20
  exact hZ1 (L_2 (((2147483647 - (p2 : Int32).toInt).toNat) + 1) p2 _ _ _ (by omega) (by omega) hP hS (lv_sub hl [0, 1, 2] rfl))

def ow_X10_isDigit : List Cond := [Cond.methodLink RX10 19 yX10_at, Cond.instanceMethod yX10_at, Cond.selects RX10 yX10_at yX10_at, Cond.initialized RX10]
def pw_X10_isDigit : List Cond := Cond.code yX10_isDigit cX10_isDigit 2 (some .boolean) :: (ow_X10_isDigit ++ (pw_X10_at))
set_option maxRecDepth 20000 in
theorem mo_X10_isDigit : ∀ w ∈ ow_X10_isDigit, w ∈ lw_tbl := by decide +kernel
set_option maxRecDepth 20000 in
theorem mc_X10_isDigit : Cond.code yX10_isDigit cX10_isDigit 2 (some .boolean) ∈ lw_tbl := by decide +kernel
theorem m_X10_isDigit : ∀ w ∈ pw_X10_isDigit, w ∈ lw_tbl := List.forall_mem_cons.mpr ⟨mc_X10_isDigit, (List.forall_mem_append.mpr ⟨mo_X10_isDigit, m_X10_at⟩)⟩
theorem ko_X10_isDigit : ∀ w ∈ ow_X10_isDigit, goodWord w = true := by decide +kernel
theorem k_X10_isDigit : pw_X10_isDigit.all goodWord = true := List.all_eq_true.mpr (List.forall_mem_cons.mpr ⟨by decide +kernel, (List.forall_mem_append.mpr ⟨ko_X10_isDigit, (List.all_eq_true.mp k_X10_at)⟩)⟩)
set_option maxHeartbeats 400000 in
set_option maxRecDepth 100000 in
theorem c_X10_isDigit (l : Launch) (D : va_G) (cI cD cJ : ClassId) (sz : Nat) (x : Nat) (x_signs : Nat) (x_length : Int32) (x_signsF : Nat → Int32) (p1 : Int32) (iv_x_length : 0 ≤ (x_length : Int32).toInt ∧ (x_length : Int32).toInt ≤ 255) (iv_x_signsF : ∀ k9 : Nat, k9 < 255 → 0 ≤ (x_signsF k9).toInt ∧ (x_signsF k9).toInt ≤ 255) : Met l yX10_isDigit pw_X10_isDigit ({ frames := 1, cells := 0, slots := 0, locals := 21 }) (va_Pc [.ref x, .int p1] (fun U => va_P D vwCl [(x, .inr (7, [.ref x_signs, .int x_length])), (x_signs, .inl (cI, 255, .inl x_signsF))] U.heap ∧ va_K D vwCl (ty3 cI cD cJ) U)) (va_Qi (fun (r : Int32) (u : Unit) => (r.toInt = 0 ∨ r.toInt = 1)) (fun _ _ => True) (fun _ => False)) 0 0 (fun _ => False) := by
  refine Met.ofW (cc := cX10_isDigit) (maxL := 2) (ret := (some .boolean)) (by decide +kernel) rfl ?_
  intro p e s m args below meth c s₁ B hml hv
  obtain ⟨rfl, hP, hK⟩ := hv
  have hx := B.exec
  have hb := B.bytes
  have hr := B.returns
  have hts := atoms_spec (ws := pw_X10_isDigit) B.pre
  have hown : s.vm.findClass RX10 = some m.cls := findClass_of_methodNamed B.named
  have hlocks := B.notSynchronized
  have hS : va_S (fun _ => False) s.heap s.heap [] := va_S.rf
  have hw : ∀ (k : Nat) (w : Cond), ow_X10_isDigit[k]? = some w → w.before _ s = true := fun k w h => hts w (List.mem_cons_of_mem _ (have h9 := List.mem_of_getElem? h; List.mem_append_left _ h9))
  have i_X10_at : ∀ w ∈ pw_X10_at, w ∈ pw_X10_isDigit := fun w h9 => List.mem_cons_of_mem _ (List.mem_append_right _ (h9))
  have n_0 : ((0 : Int32)).toInt = 0 := by decide
  have n_1 : ((1 : Int32)).toInt = 1 := by decide
  have n_48 : ((48 : Int32)).toInt = 48 := by decide
  have n_57 : ((57 : Int32)).toInt = 57 := by decide
  have hl := lv_entry ([.ref x, .int p1]) (n := 2) (Nat.le_of_ble_eq_true rfl)
  rw [lg_entry_eq]
  generalize (lg_sl ([.ref x, .int p1]) ++ List.replicate (2 - (lg_sl ([.ref x, .int p1])).length) Slot.unset).toArray = ls at hl ⊢
  have hl : lv_has ls 2 [(0, .ref x), (1, .int p1)] := hl
  have b_p1 := ti_b p1
  refine lv_aload_n hx hb dX10_isDigit_0 rfl (lv_at hl 0 rfl) ?_
  refine lv_iload_n hx hb dX10_isDigit_1 rfl (lv_at hl 1 rfl) ?_
  have hPc := hP.sub (ws' := [(x, .inr (7, [.ref x_signs, .int x_length])), (x_signs, .inl (cI, 255, .inl x_signsF))]) [0, 1] rfl
  refine va_calli (va_runV (As := [.int p1]) (rest := []) ⟨hx, hb, hml, hown, hts⟩ (c_X10_at l D cI cD cJ s.heap.size x x_signs x_length x_signsF p1 (by omega) (by assumption)) (cwV 1 hts (goodIn_app (goodIn_r _ [1, 2, 3, 4] rfl (by decide +kernel)) (goodIn_sub i_X10_at k_X10_at)) rfl rfl rfl (by decide +kernel) ⟨Nat.le_of_ble_eq_true rfl, Nat.le_of_ble_eq_true rfl⟩) ⟨fun a U g mk q => by obtain ⟨q0, qP, qK⟩ := q; exact ⟨q0, qP, va_K.moved (u := U) (U := U.calling g mk a) (Vm.Alike.refl U.vm) qK⟩, va_recv hK hPc (ci := 7) (q0 := 0) rfl rfl, fun U hU hW => ⟨rfl, by rw [hU]; exact hPc, va_K.moved hW.alike hK⟩⟩ rfl rfl hl.1 rfl (lv_room (Nat.le_of_ble_eq_true rfl)) dX10_isDigit_2 ⟨Nat.le_of_ble_eq_true rfl, Nat.le_of_ble_eq_true rfl⟩) hS (fun q _ h => h.elim) (fun q h => h.elim) (fun x_1 u t H1 locs ht hvm w_2 hB hz1 hk1 hS => ?_)
  have hP : va_P D vwCl [(x, .inr (7, [.ref x_signs, .int x_length])), (x_signs, .inl (cI, 255, .inl x_signsF))] H1 := hP.kept (fun k9 q9 h9 => hk1 q9.1 (vx_lt hP h9) (fun h => h))
  generalize H1 = H at hP hS ⊢
  try dsimp only at w_2
  refine lv_bipush (v := 48) hx hb dX10_isDigit_5 (by decide) ?_
  refine lv_icmp_lt (tgt := 24) hx hb dX10_isDigit_7 (by decide) (fun c_3 => ?_) (fun c_3 => ?_)
  · have ic_3 : (x_1 : Int32).toInt < (48 : Int32).toInt := (fa_lt x_1 48).mp c_3
    refine lv_iconst (v := 0) hx hb dX10_isDigit_24 (by decide) ?_
    exact W.zret (v := 0) hx hb hr rfl (fun t ht hW => ⟨⟨0, (), rfl, (by (try dsimp only); first | omega | assumption), trivial⟩, hS.F ht⟩) hS.2.2 dX10_isDigit_25
  · have ic_3 : ¬ ((x_1 : Int32).toInt < (48 : Int32).toInt) := fun h9 => c_3 ((fa_lt x_1 48).mpr h9)
    refine lv_aload_n hx hb dX10_isDigit_10 rfl (lv_at hl 0 rfl) ?_
    refine lv_iload_n hx hb dX10_isDigit_11 rfl (lv_at hl 1 rfl) ?_
    have hPc := hP.sub (ws' := [(x, .inr (7, [.ref x_signs, .int x_length])), (x_signs, .inl (cI, 255, .inl x_signsF))]) [0, 1] rfl
    refine va_calli (va_runV (As := [.int p1]) (rest := []) ⟨hx, hb, hml, hown, hts⟩ (c_X10_at l D cI cD cJ H.size x x_signs x_length x_signsF p1 (by omega) (by assumption)) (cwV 1 hts (goodIn_app (goodIn_r _ [1, 2, 3, 4] rfl (by decide +kernel)) (goodIn_sub i_X10_at k_X10_at)) rfl rfl rfl (by decide +kernel) ⟨Nat.le_of_ble_eq_true rfl, Nat.le_of_ble_eq_true rfl⟩) ⟨fun a U g mk q => by obtain ⟨q0, qP, qK⟩ := q; exact ⟨q0, qP, va_K.moved (u := U) (U := U.calling g mk a) (Vm.Alike.refl U.vm) qK⟩, va_recv hK hPc (ci := 7) (q0 := 0) rfl rfl, fun U hU hW => ⟨rfl, by rw [hU]; exact hPc, va_K.moved hW.alike hK⟩⟩ rfl rfl hl.1 rfl (lv_room (Nat.le_of_ble_eq_true rfl)) dX10_isDigit_12 ⟨Nat.le_of_ble_eq_true rfl, Nat.le_of_ble_eq_true rfl⟩) hS (fun q _ h => h.elim) (fun q h => h.elim) (fun x_4 u t H1 locs ht hvm w_5 hB hz1 hk1 hS => ?_)
    have hP : va_P D vwCl [(x, .inr (7, [.ref x_signs, .int x_length])), (x_signs, .inl (cI, 255, .inl x_signsF))] H1 := hP.kept (fun k9 q9 h9 => hk1 q9.1 (vx_lt hP h9) (fun h => h))
    generalize H1 = H at hP hS ⊢
    try dsimp only at w_5
    refine lv_bipush (v := 57) hx hb dX10_isDigit_15 (by decide) ?_
    refine lv_icmp_gt (tgt := 24) hx hb dX10_isDigit_17 (by decide) (fun c_6 => ?_) (fun c_6 => ?_)
    · have ic_6 : (57 : Int32).toInt < (x_4 : Int32).toInt := (fa_lt 57 x_4).mp c_6
      refine lv_iconst (v := 0) hx hb dX10_isDigit_24 (by decide) ?_
      exact W.zret (v := 0) hx hb hr rfl (fun t ht hW => ⟨⟨0, (), rfl, (by (try dsimp only); first | omega | assumption), trivial⟩, hS.F ht⟩) hS.2.2 dX10_isDigit_25
    · have ic_6 : ¬ ((57 : Int32).toInt < (x_4 : Int32).toInt) := fun h9 => c_6 ((fa_lt 57 x_4).mpr h9)
      refine lv_iconst (v := 1) hx hb dX10_isDigit_20 (by decide) ?_
      refine lv_goto (tgt := 25) hx hb dX10_isDigit_21 (by decide) ?_
      exact W.zret (v := 1) hx hb hr rfl (fun t ht hW => ⟨⟨1, (), rfl, (by (try dsimp only); first | omega | assumption), trivial⟩, hS.F ht⟩) hS.2.2 dX10_isDigit_25

def ow_X10_digitsFrom : List Cond := [Cond.methodLink RX10 35 yX10_isDigit, Cond.instanceMethod yX10_isDigit, Cond.selects RX10 yX10_isDigit yX10_isDigit, Cond.initialized RX10]
def pw_X10_digitsFrom : List Cond := Cond.code yX10_digitsFrom cX10_digitsFrom 4 (some .int) :: (ow_X10_digitsFrom ++ (pw_X10_isDigit))
set_option maxRecDepth 20000 in
theorem mo_X10_digitsFrom : ∀ w ∈ ow_X10_digitsFrom, w ∈ lw_tbl := by decide +kernel
set_option maxRecDepth 20000 in
theorem mc_X10_digitsFrom : Cond.code yX10_digitsFrom cX10_digitsFrom 4 (some .int) ∈ lw_tbl := by decide +kernel
theorem m_X10_digitsFrom : ∀ w ∈ pw_X10_digitsFrom, w ∈ lw_tbl := List.forall_mem_cons.mpr ⟨mc_X10_digitsFrom, (List.forall_mem_append.mpr ⟨mo_X10_digitsFrom, m_X10_isDigit⟩)⟩
theorem ko_X10_digitsFrom : ∀ w ∈ ow_X10_digitsFrom, goodWord w = true := by decide +kernel
theorem k_X10_digitsFrom : pw_X10_digitsFrom.all goodWord = true := List.all_eq_true.mpr (List.forall_mem_cons.mpr ⟨by decide +kernel, (List.forall_mem_append.mpr ⟨ko_X10_digitsFrom, (List.all_eq_true.mp k_X10_isDigit)⟩)⟩)
set_option maxHeartbeats 400000 in
set_option maxRecDepth 100000 in
theorem c_X10_digitsFrom (l : Launch) (D : va_G) (cI cD cJ : ClassId) (sz : Nat) (x : Nat) (x_signs : Nat) (x_length : Int32) (x_signsF : Nat → Int32) (p1 : Int32) (p2 : Int32) (iv_x_length : 0 ≤ (x_length : Int32).toInt ∧ (x_length : Int32).toInt ≤ 255) (iv_x_signsF : ∀ k9 : Nat, k9 < 255 → 0 ≤ (x_signsF k9).toInt ∧ (x_signsF k9).toInt ≤ 255) : Met l yX10_digitsFrom pw_X10_digitsFrom ({ frames := 2, cells := 0, slots := 0, locals := 42 }) (va_Pc [.ref x, .int p1, .int p2] (fun U => va_P D vwCl [(x, .inr (7, [.ref x_signs, .int x_length])), (x_signs, .inl (cI, 255, .inl x_signsF))] U.heap ∧ va_K D vwCl (ty3 cI cD cJ) U)) (va_Qi (fun (r : Int32) (u : Unit) => (0 ≤ r.toInt ∧ (0 ≤ p2.toInt → r.toInt ≤ p2.toInt))) (fun _ _ => True) (fun _ => False)) 0 0 (fun _ => False) := by
  refine Met.ofW (cc := cX10_digitsFrom) (maxL := 4) (ret := (some .int)) (by decide +kernel) rfl ?_
  intro p e s m args below meth c s₁ B hml hv
  obtain ⟨rfl, hP, hK⟩ := hv
  have hx := B.exec
  have hb := B.bytes
  have hr := B.returns
  have hts := atoms_spec (ws := pw_X10_digitsFrom) B.pre
  have hown : s.vm.findClass RX10 = some m.cls := findClass_of_methodNamed B.named
  have hlocks := B.notSynchronized
  have hS : va_S (fun _ => False) s.heap s.heap [] := va_S.rf
  have hw : ∀ (k : Nat) (w : Cond), ow_X10_digitsFrom[k]? = some w → w.before _ s = true := fun k w h => hts w (List.mem_cons_of_mem _ (have h9 := List.mem_of_getElem? h; List.mem_append_left _ h9))
  have i_X10_isDigit : ∀ w ∈ pw_X10_isDigit, w ∈ pw_X10_digitsFrom := fun w h9 => List.mem_cons_of_mem _ (List.mem_append_right _ (h9))
  have n_0 : ((0 : Int32)).toInt = 0 := by decide
  have n_1 : ((1 : Int32)).toInt = 1 := by decide
  have hl := lv_entry ([.ref x, .int p1, .int p2]) (n := 4) (Nat.le_of_ble_eq_true rfl)
  rw [lg_entry_eq]
  generalize (lg_sl ([.ref x, .int p1, .int p2]) ++ List.replicate (4 - (lg_sl ([.ref x, .int p1, .int p2])).length) Slot.unset).toArray = ls at hl ⊢
  have hl : lv_has ls 4 [(0, .ref x), (1, .int p1), (2, .int p2)] := hl
  have b_p1 := ti_b p1
  have b_p2 := ti_b p2
  refine zz_cap (fun Z hZ1 hZ2 => ?_)
  refine lv_iconst (v := 0) hx hb dX10_digitsFrom_0 (by decide) ?_
  refine lv_istore_n (lv' := [(3, .int 0), (0, .ref x), (1, .int p1), (2, .int p2)]) hx hb dX10_digitsFrom_1 rfl hl (by decide) rfl (fun ls hl => ?_)
  have L_2 : ∀ (N : Nat) (x_1 : Int32) (H : Heap) (locs : List Loc) (ls : Array Slot), (0 ≤ (x_1 : Int32).toInt) → (0 ≤ p2.toInt → (x_1 : Int32).toInt ≤ p2.toInt) → ((2147483647 - (x_1 : Int32).toInt).toNat < N) → va_P D vwCl [(x, .inr (7, [.ref x_signs, .int x_length])), (x_signs, .inl (cI, 255, .inl x_signsF))] H → va_S (fun _ => False) s.heap H locs → lv_has ls 4 [(3, .int x_1), (0, .ref x), (1, .int p1), (2, .int p2)] → Z 0 0 H locs (F0 m 2 ls []) := by
    intro N
    induction N with
    | zero => intro _ _ _ _ _ _ hmu; exact absurd hmu (Nat.not_lt_zero _)
    | succ N ih_2 =>
      intro x_1 H locs ls g2_0 g2_1 hmu hP hS hl
      refine hZ2 ?_
      refine lv_iload_n hx hb dX10_digitsFrom_2 rfl (lv_at hl 0 rfl) ?_
      refine lv_iload_n hx hb dX10_digitsFrom_3 rfl (lv_at hl 3 rfl) ?_
      refine lv_icmp_ge (tgt := 23) hx hb dX10_digitsFrom_4 (by decide) (fun c_2 => ?_) (fun c_2 => ?_)
      · have ic_2 : (p2 : Int32).toInt ≤ (x_1 : Int32).toInt := (fa_le p2 x_1).mp c_2
        refine lv_iload_n hx hb dX10_digitsFrom_23 rfl (lv_at hl 0 rfl) ?_
        exact W.iret (v := x_1) hx hb hr (fun t ht hW => ⟨⟨x_1, (), rfl, (by (try dsimp only); first | omega | assumption), trivial⟩, hS.F ht⟩) hS.2.2 dX10_digitsFrom_24
      · have ic_2 : ¬ ((p2 : Int32).toInt ≤ (x_1 : Int32).toInt) := fun h9 => c_2 ((fa_le p2 x_1).mpr h9)
        refine lv_aload_n hx hb dX10_digitsFrom_7 rfl (lv_at hl 1 rfl) ?_
        refine lv_iload_n hx hb dX10_digitsFrom_8 rfl (lv_at hl 2 rfl) ?_
        refine lv_iload_n hx hb dX10_digitsFrom_9 rfl (lv_at hl 0 rfl) ?_
        refine lv_iadd hx hb dX10_digitsFrom_10 ?_
        refine lv_topi (fun x_3 ex_3 => ?_)
        have tx_3 := ti_add ex_3
        have hPc := hP.sub (ws' := [(x, .inr (7, [.ref x_signs, .int x_length])), (x_signs, .inl (cI, 255, .inl x_signsF))]) [0, 1] rfl
        refine va_calli (va_runV (As := [.int x_3]) (rest := []) ⟨hx, hb, hml, hown, hts⟩ (c_X10_isDigit l D cI cD cJ H.size x x_signs x_length x_signsF x_3 (by omega) (by assumption)) (cwV 1 hts (goodIn_app (goodIn_r _ [1, 2, 3, 4] rfl (by decide +kernel)) (goodIn_sub i_X10_isDigit k_X10_isDigit)) rfl rfl rfl (by decide +kernel) ⟨Nat.le_of_ble_eq_true rfl, Nat.le_of_ble_eq_true rfl⟩) ⟨fun a U g mk q => by obtain ⟨q0, qP, qK⟩ := q; exact ⟨q0, qP, va_K.moved (u := U) (U := U.calling g mk a) (Vm.Alike.refl U.vm) qK⟩, va_recv hK hPc (ci := 7) (q0 := 0) rfl rfl, fun U hU hW => ⟨rfl, by rw [hU]; exact hPc, va_K.moved hW.alike hK⟩⟩ rfl rfl hl.1 rfl (lv_room (Nat.le_of_ble_eq_true rfl)) dX10_digitsFrom_11 ⟨Nat.le_of_ble_eq_true rfl, Nat.le_of_ble_eq_true rfl⟩) hS (fun q _ h => h.elim) (fun q h => h.elim) (fun x_4 u t H1 locs ht hvm w_5 hB hz1 hk1 hS => ?_)
        have hP : va_P D vwCl [(x, .inr (7, [.ref x_signs, .int x_length])), (x_signs, .inl (cI, 255, .inl x_signsF))] H1 := hP.kept (fun k9 q9 h9 => hk1 q9.1 (vx_lt hP h9) (fun h => h))
        generalize H1 = H at hP hS ⊢
        try dsimp only at w_5
        refine lv_if_eq (tgt := 23) hx hb dX10_digitsFrom_14 (by decide) (fun c_6 => ?_) (fun c_6 => ?_)
        · have ic_6 : (x_4 : Int32).toInt = (0 : Int32).toInt := (fa_eq x_4 0).mp c_6
          refine lv_iload_n hx hb dX10_digitsFrom_23 rfl (lv_at hl 0 rfl) ?_
          exact W.iret (v := x_1) hx hb hr (fun t ht hW => ⟨⟨x_1, (), rfl, (by (try dsimp only); first | omega | assumption), trivial⟩, hS.F ht⟩) hS.2.2 dX10_digitsFrom_24
        · have ic_6 : ¬ ((x_4 : Int32).toInt = (0 : Int32).toInt) := fun h9 => c_6 ((fa_eq x_4 0).mpr h9)
          obtain ⟨x_7, ex_7⟩ : ∃ y : Int32, y = x_1 + 1 := ⟨_, rfl⟩
          have tx_7 := ti_add ex_7
          refine lv_iinc (v := x_7) (lv' := [(3, .int x_7), (0, .ref x), (1, .int p1), (2, .int p2)]) hx hb dX10_digitsFrom_17 hl (k := 0) rfl (by rw [ex_7]; rfl) (by decide) rfl (fun ls hl => ?_)
          refine lv_goto (tgt := 2) hx hb dX10_digitsFrom_20 (by decide) ?_
          exact hZ1 (ih_2 x_7 _ _ _ (by omega) (by omega) (by omega) hP hS hl)
  exact hZ1 (L_2 (((2147483647 - (0 : Int32).toInt).toNat) + 1) 0 _ _ _ (by omega) (by omega) (by omega) hP hS hl)

def ow_X10_numberOf : List Cond := [Cond.methodLink RX10 19 yX10_at, Cond.instanceMethod yX10_at, Cond.selects RX10 yX10_at yX10_at, Cond.initialized RX10]
def pw_X10_numberOf : List Cond := Cond.code yX10_numberOf cX10_numberOf 5 (some .int) :: (ow_X10_numberOf ++ (pw_X10_at))
set_option maxRecDepth 20000 in
theorem mo_X10_numberOf : ∀ w ∈ ow_X10_numberOf, w ∈ lw_tbl := by decide +kernel
set_option maxRecDepth 20000 in
theorem mc_X10_numberOf : Cond.code yX10_numberOf cX10_numberOf 5 (some .int) ∈ lw_tbl := by decide +kernel
theorem m_X10_numberOf : ∀ w ∈ pw_X10_numberOf, w ∈ lw_tbl := List.forall_mem_cons.mpr ⟨mc_X10_numberOf, (List.forall_mem_append.mpr ⟨mo_X10_numberOf, m_X10_at⟩)⟩
theorem ko_X10_numberOf : ∀ w ∈ ow_X10_numberOf, goodWord w = true := by decide +kernel
theorem k_X10_numberOf : pw_X10_numberOf.all goodWord = true := List.all_eq_true.mpr (List.forall_mem_cons.mpr ⟨by decide +kernel, (List.forall_mem_append.mpr ⟨ko_X10_numberOf, (List.all_eq_true.mp k_X10_at)⟩)⟩)
set_option maxHeartbeats 400000 in
set_option maxRecDepth 100000 in
theorem c_X10_numberOf (l : Launch) (D : va_G) (cI cD cJ : ClassId) (sz : Nat) (x : Nat) (x_signs : Nat) (x_length : Int32) (x_signsF : Nat → Int32) (p1 : Int32) (p2 : Int32) (h1 : 0 ≤ p1.toInt) (h2 : p1.toInt ≤ 1000) (h3 : 0 ≤ p2.toInt) (h4 : p2.toInt ≤ 9) (iv_x_length : 0 ≤ (x_length : Int32).toInt ∧ (x_length : Int32).toInt ≤ 255) (iv_x_signsF : ∀ k9 : Nat, k9 < 255 → 0 ≤ (x_signsF k9).toInt ∧ (x_signsF k9).toInt ≤ 255) : Met l yX10_numberOf pw_X10_numberOf ({ frames := 1, cells := 0, slots := 0, locals := 21 }) (va_Pc [.ref x, .int p1, .int p2] (fun U => va_P D vwCl [(x, .inr (7, [.ref x_signs, .int x_length])), (x_signs, .inl (cI, 255, .inl x_signsF))] U.heap ∧ va_K D vwCl (ty3 cI cD cJ) U)) (va_Qi (fun (r : Int32) (u : Unit) => (p2.toInt ≤ 3 → r.toInt ≤ 100000)) (fun _ _ => True) (fun _ => False)) 0 0 (fun _ => False) := by
  refine Met.ofW (cc := cX10_numberOf) (maxL := 5) (ret := (some .int)) (by decide +kernel) rfl ?_
  intro p e s m args below meth c s₁ B hml hv
  obtain ⟨rfl, hP, hK⟩ := hv
  have hx := B.exec
  have hb := B.bytes
  have hr := B.returns
  have hts := atoms_spec (ws := pw_X10_numberOf) B.pre
  have hown : s.vm.findClass RX10 = some m.cls := findClass_of_methodNamed B.named
  have hlocks := B.notSynchronized
  have hS : va_S (fun _ => False) s.heap s.heap [] := va_S.rf
  have hw : ∀ (k : Nat) (w : Cond), ow_X10_numberOf[k]? = some w → w.before _ s = true := fun k w h => hts w (List.mem_cons_of_mem _ (have h9 := List.mem_of_getElem? h; List.mem_append_left _ h9))
  have i_X10_at : ∀ w ∈ pw_X10_at, w ∈ pw_X10_numberOf := fun w h9 => List.mem_cons_of_mem _ (List.mem_append_right _ (h9))
  have n_0 : ((0 : Int32)).toInt = 0 := by decide
  have n_1 : ((1 : Int32)).toInt = 1 := by decide
  have n_10 : ((10 : Int32)).toInt = 10 := by decide
  have n_48 : ((48 : Int32)).toInt = 48 := by decide
  have hl := lv_entry ([.ref x, .int p1, .int p2]) (n := 5) (Nat.le_of_ble_eq_true rfl)
  rw [lg_entry_eq]
  generalize (lg_sl ([.ref x, .int p1, .int p2]) ++ List.replicate (5 - (lg_sl ([.ref x, .int p1, .int p2])).length) Slot.unset).toArray = ls at hl ⊢
  have hl : lv_has ls 5 [(0, .ref x), (1, .int p1), (2, .int p2)] := hl
  have b_p1 := ti_b p1
  have b_p2 := ti_b p2
  refine zz_cap (fun Z hZ1 hZ2 => ?_)
  refine lv_iconst (v := 0) hx hb dX10_numberOf_0 (by decide) ?_
  refine lv_istore_n (lv' := [(3, .int 0), (0, .ref x), (1, .int p1), (2, .int p2)]) hx hb dX10_numberOf_1 rfl hl (by decide) rfl (fun ls hl => ?_)
  refine lv_iload_n hx hb dX10_numberOf_2 rfl (lv_at hl 2 rfl) ?_
  refine lv_istore (lv' := [(4, .int p1), (3, .int 0), (0, .ref x), (1, .int p1), (2, .int p2)]) hx hb dX10_numberOf_3 hl (by decide) rfl (fun ls hl => ?_)
  have L_5 : ∀ (N : Nat) (x_1 : Int32) (x_2 : Int32) (H : Heap) (locs : List Loc) (ls : Array Slot), (p1.toInt ≤ (x_1 : Int32).toInt) → ((x_1 : Int32).toInt ≤ p1.toInt + p2.toInt) → ((x_1 : Int32).toInt = p1.toInt + 0 → 0 ≤ (x_2 : Int32).toInt ∧ (x_2 : Int32).toInt ≤ 0) → ((x_1 : Int32).toInt = p1.toInt + 1 → -49 ≤ (x_2 : Int32).toInt ∧ (x_2 : Int32).toInt ≤ 207) → ((x_1 : Int32).toInt = p1.toInt + 2 → -539 ≤ (x_2 : Int32).toInt ∧ (x_2 : Int32).toInt ≤ 2277) → ((x_1 : Int32).toInt = p1.toInt + 3 → -5439 ≤ (x_2 : Int32).toInt ∧ (x_2 : Int32).toInt ≤ 22977) → ((2147483647 - (x_1 : Int32).toInt).toNat < N) → va_P D vwCl [(x, .inr (7, [.ref x_signs, .int x_length])), (x_signs, .inl (cI, 255, .inl x_signsF))] H → va_S (fun _ => False) s.heap H locs → lv_has ls 5 [(4, .int x_1), (3, .int x_2), (0, .ref x), (1, .int p1), (2, .int p2)] → Z 0 0 H locs (F0 m 5 ls []) := by
    intro N
    induction N with
    | zero => intro _ _ _ _ _ _ _ _ _ _ _ hmu; exact absurd hmu (Nat.not_lt_zero _)
    | succ N ih_5 =>
      intro x_1 x_2 H locs ls g5_0 g5_1 g5_2 g5_3 g5_4 g5_5 hmu hP hS hl
      refine hZ2 ?_
      refine lv_iload hx hb dX10_numberOf_5 (lv_at hl 0 rfl) ?_
      refine lv_iload_n hx hb dX10_numberOf_7 rfl (lv_at hl 3 rfl) ?_
      refine lv_iload_n hx hb dX10_numberOf_8 rfl (lv_at hl 4 rfl) ?_
      refine lv_iadd hx hb dX10_numberOf_9 ?_
      refine lv_topi (fun x_3 ex_3 => ?_)
      have tx_3 := ti_add ex_3
      refine lv_icmp_ge (tgt := 34) hx hb dX10_numberOf_10 (by decide) (fun c_4 => ?_) (fun c_4 => ?_)
      · have ic_4 : (x_3 : Int32).toInt ≤ (x_1 : Int32).toInt := (fa_le x_3 x_1).mp c_4
        refine lv_iload_n hx hb dX10_numberOf_34 rfl (lv_at hl 1 rfl) ?_
        exact W.iret (v := x_2) hx hb hr (fun t ht hW => ⟨⟨x_2, (), rfl, (by (try dsimp only); first | omega | assumption), trivial⟩, hS.F ht⟩) hS.2.2 dX10_numberOf_35
      · have ic_4 : ¬ ((x_3 : Int32).toInt ≤ (x_1 : Int32).toInt) := fun h9 => c_4 ((fa_le x_3 x_1).mpr h9)
        refine lv_iload_n hx hb dX10_numberOf_13 rfl (lv_at hl 1 rfl) ?_
        refine lv_bipush (v := 10) hx hb dX10_numberOf_14 (by decide) ?_
        refine lv_imul hx hb dX10_numberOf_16 ?_
        refine lv_topi (fun x_5 ex_5 => ?_)
        have tx_5 := ti_mul ex_5
        rw [n_10] at tx_5
        refine lv_aload_n hx hb dX10_numberOf_17 rfl (lv_at hl 2 rfl) ?_
        refine lv_iload hx hb dX10_numberOf_18 (lv_at hl 0 rfl) ?_
        have hPc := hP.sub (ws' := [(x, .inr (7, [.ref x_signs, .int x_length])), (x_signs, .inl (cI, 255, .inl x_signsF))]) [0, 1] rfl
        refine va_calli (va_runV (As := [.int x_1]) (rest := [.int x_5]) ⟨hx, hb, hml, hown, hts⟩ (c_X10_at l D cI cD cJ H.size x x_signs x_length x_signsF x_1 (by omega) (by assumption)) (cwV 1 hts (goodIn_app (goodIn_r _ [1, 2, 3, 4] rfl (by decide +kernel)) (goodIn_sub i_X10_at k_X10_at)) rfl rfl rfl (by decide +kernel) ⟨Nat.le_of_ble_eq_true rfl, Nat.le_of_ble_eq_true rfl⟩) ⟨fun a U g mk q => by obtain ⟨q0, qP, qK⟩ := q; exact ⟨q0, qP, va_K.moved (u := U) (U := U.calling g mk a) (Vm.Alike.refl U.vm) qK⟩, va_recv hK hPc (ci := 7) (q0 := 0) rfl rfl, fun U hU hW => ⟨rfl, by rw [hU]; exact hPc, va_K.moved hW.alike hK⟩⟩ rfl rfl hl.1 rfl (lv_room (Nat.le_of_ble_eq_true rfl)) dX10_numberOf_20 ⟨Nat.le_of_ble_eq_true rfl, Nat.le_of_ble_eq_true rfl⟩) hS (fun q _ h => h.elim) (fun q h => h.elim) (fun x_6 u t H1 locs ht hvm w_7 hB hz1 hk1 hS => ?_)
        have hP : va_P D vwCl [(x, .inr (7, [.ref x_signs, .int x_length])), (x_signs, .inl (cI, 255, .inl x_signsF))] H1 := hP.kept (fun k9 q9 h9 => hk1 q9.1 (vx_lt hP h9) (fun h => h))
        generalize H1 = H at hP hS ⊢
        try dsimp only at w_7
        refine lv_bipush (v := 48) hx hb dX10_numberOf_23 (by decide) ?_
        refine lv_isub hx hb dX10_numberOf_25 ?_
        refine lv_topi (fun x_8 ex_8 => ?_)
        have tx_8 := ti_sub ex_8
        refine lv_iadd hx hb dX10_numberOf_26 ?_
        refine lv_topi (fun x_9 ex_9 => ?_)
        have tx_9 := ti_add ex_9
        refine lv_istore_n (lv' := [(3, .int x_9), (4, .int x_1), (0, .ref x), (1, .int p1), (2, .int p2)]) hx hb dX10_numberOf_27 rfl hl (by decide) rfl (fun ls hl => ?_)
        obtain ⟨x_10, ex_10⟩ : ∃ y : Int32, y = x_1 + 1 := ⟨_, rfl⟩
        have tx_10 := ti_add ex_10
        refine lv_iinc (v := x_10) (lv' := [(4, .int x_10), (3, .int x_9), (0, .ref x), (1, .int p1), (2, .int p2)]) hx hb dX10_numberOf_28 hl (k := 1) rfl (by rw [ex_10]; rfl) (by decide) rfl (fun ls hl => ?_)
        refine lv_goto (tgt := 5) hx hb dX10_numberOf_31 (by decide) ?_
        exact hZ1 (ih_5 x_10 x_9 _ _ _ (by omega) (by omega) (by omega) (by omega) (by omega) (by omega) (by omega) hP hS hl)
  exact hZ1 (L_5 (((2147483647 - (p1 : Int32).toInt).toNat) + 1) p1 0 _ _ _ (by omega) (by omega) (by omega) (by omega) (by omega) (by omega) (by omega) hP hS hl)

def ow_X10_take : List Cond := [Cond.fieldLink RX10 15 "NumberFormats$Text" "length" "I", Cond.fieldLink RX10 9 "NumberFormats$Text" "signs" "[I"]
def pw_X10_take : List Cond := Cond.code yX10_take cX10_take 4 none :: (ow_X10_take ++ (wsX100))
set_option maxRecDepth 20000 in
theorem mo_X10_take : ∀ w ∈ ow_X10_take, w ∈ lw_tbl := by decide +kernel
set_option maxRecDepth 20000 in
theorem mc_X10_take : Cond.code yX10_take cX10_take 4 none ∈ lw_tbl := by decide +kernel
theorem m_X10_take : ∀ w ∈ pw_X10_take, w ∈ lw_tbl := List.forall_mem_cons.mpr ⟨mc_X10_take, (List.forall_mem_append.mpr ⟨mo_X10_take, inX10⟩)⟩
theorem ko_X10_take : ∀ w ∈ ow_X10_take, goodWord w = true := by decide +kernel
theorem k_X10_take : pw_X10_take.all goodWord = true := List.all_eq_true.mpr (List.forall_mem_cons.mpr ⟨by decide +kernel, (List.forall_mem_append.mpr ⟨ko_X10_take, kX_X10⟩)⟩)
set_option maxHeartbeats 400000 in
set_option maxRecDepth 100000 in
theorem c_X10_take (l : Launch) (D : va_G) (cI cD cJ : ClassId) (sz : Nat) (x : Nat) (x_signs : Nat) (x_length : Int32) (x_signsF : Nat → Int32) (ar0 : Nat) (ar0F : Nat → Int32) (p1 : Int32) (iv_x_length : 0 ≤ (x_length : Int32).toInt ∧ (x_length : Int32).toInt ≤ 255) (iv_x_signsF : ∀ k9 : Nat, k9 < 255 → 0 ≤ (x_signsF k9).toInt ∧ (x_signsF k9).toInt ≤ 255) (iv_ar0F : ∀ k9 : Nat, k9 < 260 → 0 ≤ (ar0F k9).toInt ∧ (ar0F k9).toInt ≤ 255) : Met l yX10_take pw_X10_take ({ frames := 0, cells := 0, slots := 0, locals := 0 }) (va_Pc [.ref x, .ref ar0, .int p1] (fun U => U.heap.size = sz ∧ va_P D vwCl [(x, .inr (7, [.ref x_signs, .int x_length])), (x_signs, .inl (cI, 255, .inl x_signsF)), (ar0, .inl (cI, 260, .inl ar0F))] U.heap ∧ va_K D vwCl (ty3 cI cD cJ) U ∧ va_D (fun _ => True) [(x, .inr (7, [.ref x_signs, .int x_length])), (x_signs, .inl (cI, 255, .inl x_signsF)), (ar0, .inl (cI, 260, .inl ar0F))])) (va_Qv (fun (u : Int32 × (Nat → Int32)) => match u with | (x_length2, x_signsF2) => (0 ≤ (x_length2 : Int32).toInt ∧ (x_length2 : Int32).toInt ≤ 255) ∧ (∀ k9 : Nat, k9 < 255 → 0 ≤ (x_signsF2 k9).toInt ∧ (x_signsF2 k9).toInt ≤ 255)) (fun (u : Int32 × (Nat → Int32)) (t : State) => match u with | (x_length2, x_signsF2) => va_P D vwCl [(x, .inr (7, [.ref x_signs, .int x_length2])), (x_signs, .inl (cI, 255, .inl x_signsF2)), (ar0, .inl (cI, 260, .inl ar0F))] t.heap ∧ va_K D vwCl (ty3 cI cD cJ) t ∧ va_D (va_A [(x, .inr (7, [.ref x_signs, .int x_length])), (x_signs, .inl (cI, 255, .inl x_signsF)), (ar0, .inl (cI, 260, .inl ar0F))] sz) [(x, .inr (7, [.ref x_signs, .int x_length2])), (x_signs, .inl (cI, 255, .inl x_signsF2)), (ar0, .inl (cI, 260, .inl ar0F))]) (va_A [(x, .inr (7, [.ref x_signs, .int x_length])), (x_signs, .inl (cI, 255, .inl x_signsF)), (ar0, .inl (cI, 260, .inl ar0F))] sz)) 0 0 (va_A [(x, .inr (7, [.ref x_signs, .int x_length])), (x_signs, .inl (cI, 255, .inl x_signsF)), (ar0, .inl (cI, 260, .inl ar0F))] sz) := by
  refine Met.ofW (cc := cX10_take) (maxL := 4) (ret := none) (by decide +kernel) rfl ?_
  intro p e s m args below meth c s₁ B hml hv
  obtain ⟨rfl, hsz, hP, hK, hD0⟩ := hv
  have hx := B.exec
  have hb := B.bytes
  have hr := B.returns
  have hts := atoms_spec (ws := pw_X10_take) B.pre
  have hown : s.vm.findClass RX10 = some m.cls := findClass_of_methodNamed B.named
  have hlocks := B.notSynchronized
  subst hsz
  have hD := hD0.self (sz := s.heap.size)
  generalize hAe : va_A [(x, .inr (7, [.ref x_signs, .int x_length])), (x_signs, .inl (cI, 255, .inl x_signsF)), (ar0, .inl (cI, 260, .inl ar0F))] s.heap.size = A at hD ⊢
  have hA : ∀ q : Nat, s.heap.size ≤ q → A q := fun q h => by rw [← hAe]; exact Or.inr h
  have hS : va_S A s.heap s.heap [] := va_S.rf
  have hw : ∀ (k : Nat) (w : Cond), ow_X10_take[k]? = some w → w.before _ s = true := fun k w h => hts w (List.mem_cons_of_mem _ (have h9 := List.mem_of_getElem? h; List.mem_append_left _ h9))
  have iX10 : ∀ w ∈ u_ws RX10 TX10 2, w ∈ pw_X10_take := fun w h9 => List.mem_cons_of_mem _ (List.mem_append_right _ (h9))
  have n_0 : ((0 : Int32)).toInt = 0 := by decide
  have n_1 : ((1 : Int32)).toInt = 1 := by decide
  have n_255 : ((255 : Int32)).toInt = 255 := by decide
  have n_260 : ((260 : Int32)).toInt = 260 := by decide
  have hl := lv_entry ([.ref x, .ref ar0, .int p1]) (n := 4) (Nat.le_of_ble_eq_true rfl)
  rw [lg_entry_eq]
  generalize (lg_sl ([.ref x, .ref ar0, .int p1]) ++ List.replicate (4 - (lg_sl ([.ref x, .ref ar0, .int p1])).length) Slot.unset).toArray = ls at hl ⊢
  have hl : lv_has ls 4 [(0, .ref x), (1, .ref ar0), (2, .int p1)] := hl
  have b_p1 := ti_b p1
  refine zz_cap (fun Z hZ1 hZ2 => ?_)
  refine lv_aload_n hx hb dX10_take_0 rfl (lv_at hl 0 rfl) ?_
  refine lv_iconst (v := 0) hx hb dX10_take_1 (by decide) ?_
  refine va_put (D := D) (ci := 7) (v := .int 0) (ty := .int) (C := RX10) (T := TX10) (N := 2) hx hb hts iX10 tyX10 tyX10_ok nmX10 hown hK hP hD hS 0 rfl rfl 1 (by decide) (hw 0 (.fieldLink RX10 15 "NumberFormats$Text" "length" "I") rfl) (fun _ h9 => h9) rfl (by decide +kernel) rfl rfl (Nat.le_of_ble_eq_true rfl) dX10_take_2 (fun H locs hP hD hS => ?_)
  have hP : va_P D vwCl [(x, .inr (7, [.ref x_signs, .int 0])), (x_signs, .inl (cI, 255, .inl x_signsF)), (ar0, .inl (cI, 260, .inl ar0F))] H := hP
  have hD : va_D A [(x, .inr (7, [.ref x_signs, .int 0])), (x_signs, .inl (cI, 255, .inl x_signsF)), (ar0, .inl (cI, 260, .inl ar0F))] := hD
  refine lv_iconst (v := 0) hx hb dX10_take_5 (by decide) ?_
  refine lv_istore_n (lv' := [(3, .int 0), (0, .ref x), (1, .ref ar0), (2, .int p1)]) hx hb dX10_take_6 rfl hl (by decide) rfl (fun ls hl => ?_)
  have L_7 : ∀ (N : Nat) (x_1 : Int32) (x_2 : Int32) (f_3 : Nat → Int32) (H : Heap) (locs : List Loc) (ls : Array Slot), (0 ≤ (x_1 : Int32).toInt) → (0 ≤ (x_2 : Int32).toInt ∧ (x_2 : Int32).toInt ≤ 255) → (∀ k9 : Nat, k9 < 255 → 0 ≤ (f_3 k9).toInt ∧ (f_3 k9).toInt ≤ 255) → ((2147483647 - (x_1 : Int32).toInt).toNat < N) → va_P D vwCl [(x, .inr (7, [.ref x_signs, .int x_2])), (x_signs, .inl (cI, 255, .inl f_3)), (ar0, .inl (cI, 260, .inl ar0F))] H → va_D A [(x, .inr (7, [.ref x_signs, .int x_2])), (x_signs, .inl (cI, 255, .inl f_3)), (ar0, .inl (cI, 260, .inl ar0F))] → va_S A s.heap H locs → lv_has ls 4 [(3, .int x_1), (0, .ref x), (1, .ref ar0), (2, .int p1)] → Z 0 0 H locs (F0 m 7 ls []) := by
    intro N
    induction N with
    | zero => intro _ _ _ _ _ _ _ _ _ hmu; exact absurd hmu (Nat.not_lt_zero _)
    | succ N ih_7 =>
      intro x_1 x_2 f_3 H locs ls g7_0 g7_1 g7_2 hmu hP hD hS hl
      refine hZ2 ?_
      refine lv_iload_n hx hb dX10_take_7 rfl (lv_at hl 0 rfl) ?_
      refine lv_iload_n hx hb dX10_take_8 rfl (lv_at hl 3 rfl) ?_
      refine lv_icmp_ge (tgt := 49) hx hb dX10_take_9 (by decide) (fun c_4 => ?_) (fun c_4 => ?_)
      · have ic_4 : (p1 : Int32).toInt ≤ (x_1 : Int32).toInt := (fa_le p1 x_1).mp c_4
        have hP9 := hP.sub (ws' := [(x, .inr (7, [.ref x_signs, .int x_2])), (x_signs, .inl (cI, 255, .inl f_3)), (ar0, .inl (cI, 260, .inl ar0F))]) [0, 1, 2] rfl
        have hD9 := hD.sub (ws' := [(x, .inr (7, [.ref x_signs, .int x_2])), (x_signs, .inl (cI, 255, .inl f_3)), (ar0, .inl (cI, 260, .inl ar0F))]) [0, 1, 2] (by decide) rfl
        exact W.vret hx hb hr (fun t ht hW => ⟨⟨(x_2, f_3), rfl, (by (try dsimp only); refine ⟨?_, ?_⟩ <;> first | omega | assumption), by rw [ht]; exact hP9, va_K.moved hW.alike hK, hD9⟩, hS.F ht⟩) hS.2.2 dX10_take_49
      · have ic_4 : ¬ ((p1 : Int32).toInt ≤ (x_1 : Int32).toInt) := fun h9 => c_4 ((fa_le p1 x_1).mpr h9)
        refine lv_iload_n hx hb dX10_take_12 rfl (lv_at hl 0 rfl) ?_
        refine lv_aload_n hx hb dX10_take_13 rfl (lv_at hl 2 rfl) ?_
        refine va_alen hx hb hK hP 2 0 rfl rfl (v := 260) rfl dX10_take_14 ?_
        refine lv_icmp_ge (tgt := 49) hx hb dX10_take_15 (by decide) (fun c_5 => ?_) (fun c_5 => ?_)
        · have ic_5 : (260 : Int32).toInt ≤ (x_1 : Int32).toInt := (fa_le 260 x_1).mp c_5
          have hP9 := hP.sub (ws' := [(x, .inr (7, [.ref x_signs, .int x_2])), (x_signs, .inl (cI, 255, .inl f_3)), (ar0, .inl (cI, 260, .inl ar0F))]) [0, 1, 2] rfl
          have hD9 := hD.sub (ws' := [(x, .inr (7, [.ref x_signs, .int x_2])), (x_signs, .inl (cI, 255, .inl f_3)), (ar0, .inl (cI, 260, .inl ar0F))]) [0, 1, 2] (by decide) rfl
          exact W.vret hx hb hr (fun t ht hW => ⟨⟨(x_2, f_3), rfl, (by (try dsimp only); refine ⟨?_, ?_⟩ <;> first | omega | assumption), by rw [ht]; exact hP9, va_K.moved hW.alike hK, hD9⟩, hS.F ht⟩) hS.2.2 dX10_take_49
        · have ic_5 : ¬ ((260 : Int32).toInt ≤ (x_1 : Int32).toInt) := fun h9 => c_5 ((fa_le 260 x_1).mpr h9)
          refine lv_iload_n hx hb dX10_take_18 rfl (lv_at hl 0 rfl) ?_
          refine lv_aload_n hx hb dX10_take_19 rfl (lv_at hl 1 rfl) ?_
          refine va_get (D := D) (ci := 7) (v := .ref x_signs) (C := RX10) (T := TX10) (N := 2) hx hb hts iX10 hown hK hP 0 rfl rfl 0 (by decide) (hw 1 (.fieldLink RX10 9 "NumberFormats$Text" "signs" "[I") rfl) (fun _ h9 => h9) rfl dX10_take_20 ?_
          refine va_alen hx hb hK hP 1 0 rfl rfl (v := 255) rfl dX10_take_23 ?_
          refine lv_icmp_ge (tgt := 49) hx hb dX10_take_24 (by decide) (fun c_6 => ?_) (fun c_6 => ?_)
          · have ic_6 : (255 : Int32).toInt ≤ (x_1 : Int32).toInt := (fa_le 255 x_1).mp c_6
            have hP9 := hP.sub (ws' := [(x, .inr (7, [.ref x_signs, .int x_2])), (x_signs, .inl (cI, 255, .inl f_3)), (ar0, .inl (cI, 260, .inl ar0F))]) [0, 1, 2] rfl
            have hD9 := hD.sub (ws' := [(x, .inr (7, [.ref x_signs, .int x_2])), (x_signs, .inl (cI, 255, .inl f_3)), (ar0, .inl (cI, 260, .inl ar0F))]) [0, 1, 2] (by decide) rfl
            exact W.vret hx hb hr (fun t ht hW => ⟨⟨(x_2, f_3), rfl, (by (try dsimp only); refine ⟨?_, ?_⟩ <;> first | omega | assumption), by rw [ht]; exact hP9, va_K.moved hW.alike hK, hD9⟩, hS.F ht⟩) hS.2.2 dX10_take_49
          · have ic_6 : ¬ ((255 : Int32).toInt ≤ (x_1 : Int32).toInt) := fun h9 => c_6 ((fa_le 255 x_1).mpr h9)
            refine lv_aload_n hx hb dX10_take_27 rfl (lv_at hl 1 rfl) ?_
            refine va_get (D := D) (ci := 7) (v := .ref x_signs) (C := RX10) (T := TX10) (N := 2) hx hb hts iX10 hown hK hP 0 rfl rfl 0 (by decide) (hw 1 (.fieldLink RX10 9 "NumberFormats$Text" "signs" "[I") rfl) (fun _ h9 => h9) rfl dX10_take_28 ?_
            refine lv_iload_n hx hb dX10_take_31 rfl (lv_at hl 0 rfl) ?_
            refine lv_aload_n hx hb dX10_take_32 rfl (lv_at hl 2 rfl) ?_
            refine lv_iload_n hx hb dX10_take_33 rfl (lv_at hl 0 rfl) ?_
            have h_34 : vp_in x_1 260 := by rw [vp_in_iff]; omega
            refine va_iald hx hb hK hP 2 0 rfl rfl h_34 dX10_take_34 ?_
            refine lv_topi (fun x_7 ex_7 => ?_)
            have iv_x_7 := (‹∀ k9 : Nat, k9 < 260 → 0 ≤ (ar0F k9).toInt ∧ (ar0F k9).toInt ≤ 255›) _ (Nat.lt_of_not_le (fun h9 => h_34 (Or.inr h9)))
            rw [← ex_7] at iv_x_7
            have h_35 : vp_in x_1 255 := by rw [vp_in_iff]; omega
            refine va_iast hx hb hK hP hD hS 1 0 rfl rfl h_35 dX10_take_35 (fun H locs hP hD hS => ?_)
            obtain ⟨f_8, ef_8⟩ : ∃ y : Nat → Int32, y = upd f_3 (x_1 : Int32).toNatClampNeg x_7 := ⟨_, rfl⟩
            rw [← ef_8] at hP hD
            have hP : va_P D vwCl [(x, .inr (7, [.ref x_signs, .int x_2])), (x_signs, .inl (cI, 255, .inl f_8)), (ar0, .inl (cI, 260, .inl ar0F))] H := hP
            have hD : va_D A [(x, .inr (7, [.ref x_signs, .int x_2])), (x_signs, .inl (cI, 255, .inl f_8)), (ar0, .inl (cI, 260, .inl ar0F))] := hD
            have iv_f_8 : ∀ k9 : Nat, k9 < 255 → 0 ≤ (f_8 k9).toInt ∧ (f_8 k9).toInt ≤ 255 := by intro k9 h9; rw [ef_8]; unfold upd; split <;> first | omega | exact (‹∀ k9 : Nat, k9 < 255 → 0 ≤ (f_3 k9).toInt ∧ (f_3 k9).toInt ≤ 255›) k9 h9
            refine lv_aload_n hx hb dX10_take_36 rfl (lv_at hl 1 rfl) ?_
            refine lv_iload_n hx hb dX10_take_37 rfl (lv_at hl 0 rfl) ?_
            refine lv_iconst (v := 1) hx hb dX10_take_38 (by decide) ?_
            refine lv_iadd hx hb dX10_take_39 ?_
            refine lv_topi (fun x_9 ex_9 => ?_)
            have tx_9 := ti_add ex_9
            refine va_put (D := D) (ci := 7) (v := .int x_9) (ty := .int) (C := RX10) (T := TX10) (N := 2) hx hb hts iX10 tyX10 tyX10_ok nmX10 hown hK hP hD hS 0 rfl rfl 1 (by decide) (hw 0 (.fieldLink RX10 15 "NumberFormats$Text" "length" "I") rfl) (fun _ h9 => h9) rfl (by decide +kernel) rfl rfl (Nat.le_of_ble_eq_true rfl) dX10_take_40 (fun H locs hP hD hS => ?_)
            have hP : va_P D vwCl [(x, .inr (7, [.ref x_signs, .int x_9])), (x_signs, .inl (cI, 255, .inl f_8)), (ar0, .inl (cI, 260, .inl ar0F))] H := hP
            have hD : va_D A [(x, .inr (7, [.ref x_signs, .int x_9])), (x_signs, .inl (cI, 255, .inl f_8)), (ar0, .inl (cI, 260, .inl ar0F))] := hD
            obtain ⟨x_10, ex_10⟩ : ∃ y : Int32, y = x_1 + 1 := ⟨_, rfl⟩
            have tx_10 := ti_add ex_10
            refine lv_iinc (v := x_10) (lv' := [(3, .int x_10), (0, .ref x), (1, .ref ar0), (2, .int p1)]) hx hb dX10_take_43 hl (k := 0) rfl (by rw [ex_10]; rfl) (by decide) rfl (fun ls hl => ?_)
            refine lv_goto (tgt := 7) hx hb dX10_take_46 (by decide) ?_
            exact hZ1 (ih_7 x_10 x_9 f_8 _ _ _ (by omega) (by omega) (by assumption) (by omega) hP hD hS hl)
  exact hZ1 (L_7 (((2147483647 - (0 : Int32).toInt).toNat) + 1) 0 0 x_signsF _ _ _ (by omega) (by omega) (by assumption) (by omega) hP hD hS hl)

