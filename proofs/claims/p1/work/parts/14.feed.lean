def ow_X11_putBytes : List Cond := [Cond.fieldLink RX11 41 "NumberFormats" "fed" "I", Cond.fieldLink RX11 9 "NumberFormats" "tape" "[I"]
def pw_X11_putBytes : List Cond := Cond.code yX11_putBytes cX11_putBytes 3 none :: (ow_X11_putBytes ++ (wsX110))
set_option maxRecDepth 20000 in
theorem mo_X11_putBytes : ∀ w ∈ ow_X11_putBytes, w ∈ lw_tbl := by decide +kernel
set_option maxRecDepth 20000 in
theorem mc_X11_putBytes : Cond.code yX11_putBytes cX11_putBytes 3 none ∈ lw_tbl := by decide +kernel
theorem m_X11_putBytes : ∀ w ∈ pw_X11_putBytes, w ∈ lw_tbl := List.forall_mem_cons.mpr ⟨mc_X11_putBytes, (List.forall_mem_append.mpr ⟨mo_X11_putBytes, inX11⟩)⟩
theorem ko_X11_putBytes : ∀ w ∈ ow_X11_putBytes, goodWord w = true := by decide +kernel
theorem k_X11_putBytes : pw_X11_putBytes.all goodWord = true := List.all_eq_true.mpr (List.forall_mem_cons.mpr ⟨by decide +kernel, (List.forall_mem_append.mpr ⟨ko_X11_putBytes, kX_X11⟩)⟩)
set_option maxHeartbeats 400000 in
set_option maxRecDepth 100000 in
theorem c_X11_putBytes (l : Launch) (D : va_G) (cI cD cJ : ClassId) (sz : Nat) (h : Nat) (h_tape : Nat) (h_text : Nat) (h_shower : Nat) (h_current : Nat) (h_spare : Nat) (h_formatted : Int32) (h_fed : Int32) (h_illPlace : Int32) (h_value : UInt64) (tf : Nat → Int32) (w : Int32) (hf0 : 0 ≤ h_fed.toInt) (hf1 : h_fed.toInt ≤ 256) : Met l yX11_putBytes pw_X11_putBytes ({ frames := 0, cells := 0, slots := 0, locals := 0 }) (va_Pc [.ref h, .int w] (fun U => U.heap.size = sz ∧ va_P D vwCl [(h, .inr (8, [.ref h_tape, .ref h_text, .ref h_shower, .ref h_current, .ref h_spare, .int h_formatted, .int h_fed, .int h_illPlace, .double h_value])), (h_tape, .inl (cI, 260, .inl tf))] U.heap ∧ va_K D vwCl (ty3 cI cD cJ) U ∧ va_D (fun _ => True) [(h, .inr (8, [.ref h_tape, .ref h_text, .ref h_shower, .ref h_current, .ref h_spare, .int h_formatted, .int h_fed, .int h_illPlace, .double h_value])), (h_tape, .inl (cI, 260, .inl tf))])) (va_Qv (fun (u : Int32 × (Nat → Int32)) => match u with | (fed2, tf2) => fed2.toInt = h_fed.toInt + 4) (fun (u : Int32 × (Nat → Int32)) (t : State) => match u with | (fed2, tf2) => va_P D vwCl [(h, .inr (8, [.ref h_tape, .ref h_text, .ref h_shower, .ref h_current, .ref h_spare, .int h_formatted, .int fed2, .int h_illPlace, .double h_value])), (h_tape, .inl (cI, 260, .inl tf2))] t.heap ∧ va_K D vwCl (ty3 cI cD cJ) t ∧ va_D (va_A [(h, .inr (8, [.ref h_tape, .ref h_text, .ref h_shower, .ref h_current, .ref h_spare, .int h_formatted, .int h_fed, .int h_illPlace, .double h_value])), (h_tape, .inl (cI, 260, .inl tf))] sz) [(h, .inr (8, [.ref h_tape, .ref h_text, .ref h_shower, .ref h_current, .ref h_spare, .int h_formatted, .int fed2, .int h_illPlace, .double h_value])), (h_tape, .inl (cI, 260, .inl tf2))]) (va_A [(h, .inr (8, [.ref h_tape, .ref h_text, .ref h_shower, .ref h_current, .ref h_spare, .int h_formatted, .int h_fed, .int h_illPlace, .double h_value])), (h_tape, .inl (cI, 260, .inl tf))] sz)) 0 0 (va_A [(h, .inr (8, [.ref h_tape, .ref h_text, .ref h_shower, .ref h_current, .ref h_spare, .int h_formatted, .int h_fed, .int h_illPlace, .double h_value])), (h_tape, .inl (cI, 260, .inl tf))] sz) := by
  refine Met.ofW (cc := cX11_putBytes) (maxL := 3) (ret := none) (by decide) rfl ?_
  intro p e s m args below meth c s₁ B hml hv
  obtain ⟨rfl, hsz, hP, hK, hD0⟩ := hv
  have hx := B.exec
  have hb := B.bytes
  have hr := B.returns
  have hts := atoms_spec (ws := pw_X11_putBytes) B.pre
  have hown : s.vm.findClass RX11 = some m.cls := findClass_of_methodNamed B.named
  have hlocks := B.notSynchronized
  subst hsz
  have hD := hD0.self (sz := s.heap.size)
  generalize hAe : va_A [(h, .inr (8, [.ref h_tape, .ref h_text, .ref h_shower, .ref h_current, .ref h_spare, .int h_formatted, .int h_fed, .int h_illPlace, .double h_value])), (h_tape, .inl (cI, 260, .inl tf))] s.heap.size = A at hD ⊢
  have hA : ∀ q : Nat, s.heap.size ≤ q → A q := fun q h => by rw [← hAe]; exact Or.inr h
  have hS : va_S A s.heap s.heap [] := va_S.rf
  have hw : ∀ (k : Nat) (w : Cond), ow_X11_putBytes[k]? = some w → w.before _ s = true := fun k w h => hts w (List.mem_cons_of_mem _ (have h9 := List.mem_of_getElem? h; List.mem_append_left _ h9))
  have iX11 : ∀ w ∈ u_ws RX11 TX11 9, w ∈ pw_X11_putBytes := fun w h9 => List.mem_cons_of_mem _ (List.mem_append_right _ (h9))
  have n_m8 : (((-8) : Int32)).toInt = (-8) := by decide
  have n_0 : ((0 : Int32)).toInt = 0 := by decide
  have n_1 : ((1 : Int32)).toInt = 1 := by decide
  have n_24 : ((24 : Int32)).toInt = 24 := by decide
  have n_255 : ((255 : Int32)).toInt = 255 := by decide
  have n_260 : ((260 : Int32)).toInt = 260 := by decide
  have hl := lv_entry ([.ref h, .int w]) (n := 3) (Nat.le_of_ble_eq_true rfl)
  rw [lg_entry_eq]
  generalize (lg_sl ([.ref h, .int w]) ++ List.replicate (3 - (lg_sl ([.ref h, .int w])).length) Slot.unset).toArray = ls at hl ⊢
  have hl : lv_has ls 3 [(0, .ref h), (1, .int w)] := hl
  have b_w := ti_b w
  refine zz_cap (fun Z hZ1 hZ2 => ?_)
  refine lv_bipush (v := 24) hx hb dX11_putBytes_0 (by decide) ?_
  refine lv_istore_n (lv' := [(2, .int 24), (0, .ref h), (1, .int w)]) hx hb dX11_putBytes_2 rfl hl (by decide) rfl (fun ls hl => ?_)
  have L_3 : ∀ (N : Nat) (x_1 : Int32) (x_2 : Int32) (f_3 : Nat → Int32) (H : Heap) (locs : List Loc) (ls : Array Slot), (8 * ((x_2 : Int32).toInt - h_fed.toInt) = 24 - (x_1 : Int32).toInt) → (-8 ≤ (x_1 : Int32).toInt) → ((x_1 : Int32).toInt ≤ 24) → (((x_1 : Int32).toInt + 8).toNat < N) → va_P D vwCl [(h, .inr (8, [.ref h_tape, .ref h_text, .ref h_shower, .ref h_current, .ref h_spare, .int h_formatted, .int x_2, .int h_illPlace, .double h_value])), (h_tape, .inl (cI, 260, .inl f_3))] H → va_D A [(h, .inr (8, [.ref h_tape, .ref h_text, .ref h_shower, .ref h_current, .ref h_spare, .int h_formatted, .int x_2, .int h_illPlace, .double h_value])), (h_tape, .inl (cI, 260, .inl f_3))] → va_S A s.heap H locs → lv_has ls 3 [(2, .int x_1), (0, .ref h), (1, .int w)] → Z 0 0 H locs (F0 m 3 ls []) := by
    intro N
    induction N with
    | zero => intro _ _ _ _ _ _ _ _ _ hmu; exact absurd hmu (Nat.not_lt_zero _)
    | succ N ih =>
      intro x_1 x_2 f_3 H locs ls g3_0 g3_1 g3_2 hmu hP hD hS hl
      refine hZ2 ?_
      refine lv_iload_n hx hb dX11_putBytes_3 rfl (lv_at hl 0 rfl) ?_
      refine lv_if_lt (tgt := 58) hx hb dX11_putBytes_4 (by decide) (fun c_4 => ?_) (fun c_4 => ?_)
      · have ic_4 : (x_1 : Int32).toInt < (0 : Int32).toInt := (fa_lt x_1 0).mp c_4
        have hP9 := hP.sub (ws' := [(h, .inr (8, [.ref h_tape, .ref h_text, .ref h_shower, .ref h_current, .ref h_spare, .int h_formatted, .int x_2, .int h_illPlace, .double h_value])), (h_tape, .inl (cI, 260, .inl f_3))]) [0, 1] rfl
        have hD9 := hD.sub (ws' := [(h, .inr (8, [.ref h_tape, .ref h_text, .ref h_shower, .ref h_current, .ref h_spare, .int h_formatted, .int x_2, .int h_illPlace, .double h_value])), (h_tape, .inl (cI, 260, .inl f_3))]) [0, 1] (by decide) rfl
        exact W.vret hx hb hr (fun t ht hW => ⟨⟨(x_2, f_3), rfl, (by (try dsimp only); omega), by rw [ht]; exact hP9, va_K.moved hW.alike hK, hD9⟩, hS.F ht⟩) hS.2.2 dX11_putBytes_58
      · have ic_4 : ¬ ((x_1 : Int32).toInt < (0 : Int32).toInt) := fun h9 => c_4 ((fa_lt x_1 0).mpr h9)
        refine lv_aload_n hx hb dX11_putBytes_7 rfl (lv_at hl 1 rfl) ?_
        refine va_get (D := D) (ci := 8) (v := .int x_2) (C := RX11) (T := TX11) (N := 9) hx hb hts iX11 hown hK hP 0 rfl rfl 6 (by decide) (hw 0 (.fieldLink RX11 41 "NumberFormats" "fed" "I") rfl) (fun _ h9 => h9) rfl dX11_putBytes_8 ?_
        refine lv_if_lt (tgt := 52) hx hb dX11_putBytes_11 (by decide) (fun c_5 => by have ic_5 : (x_2 : Int32).toInt < (0 : Int32).toInt := (fa_lt x_2 0).mp c_5; exfalso; omega) (fun c_5 => ?_)
        have ic_5 : ¬ ((x_2 : Int32).toInt < (0 : Int32).toInt) := fun h9 => c_5 ((fa_lt x_2 0).mpr h9)
        refine lv_aload_n hx hb dX11_putBytes_14 rfl (lv_at hl 1 rfl) ?_
        refine va_get (D := D) (ci := 8) (v := .int x_2) (C := RX11) (T := TX11) (N := 9) hx hb hts iX11 hown hK hP 0 rfl rfl 6 (by decide) (hw 0 (.fieldLink RX11 41 "NumberFormats" "fed" "I") rfl) (fun _ h9 => h9) rfl dX11_putBytes_15 ?_
        refine lv_aload_n hx hb dX11_putBytes_18 rfl (lv_at hl 1 rfl) ?_
        refine va_get (D := D) (ci := 8) (v := .ref h_tape) (C := RX11) (T := TX11) (N := 9) hx hb hts iX11 hown hK hP 0 rfl rfl 0 (by decide) (hw 1 (.fieldLink RX11 9 "NumberFormats" "tape" "[I") rfl) (fun _ h9 => h9) rfl dX11_putBytes_19 ?_
        refine va_alen hx hb hK hP 1 0 rfl rfl (v := 260) rfl dX11_putBytes_22 ?_
        refine lv_icmp_ge (tgt := 52) hx hb dX11_putBytes_23 (by decide) (fun c_6 => by have ic_6 : (260 : Int32).toInt ≤ (x_2 : Int32).toInt := (fa_le 260 x_2).mp c_6; exfalso; omega) (fun c_6 => ?_)
        have ic_6 : ¬ ((260 : Int32).toInt ≤ (x_2 : Int32).toInt) := fun h9 => c_6 ((fa_le 260 x_2).mpr h9)
        refine lv_aload_n hx hb dX11_putBytes_26 rfl (lv_at hl 1 rfl) ?_
        refine va_get (D := D) (ci := 8) (v := .ref h_tape) (C := RX11) (T := TX11) (N := 9) hx hb hts iX11 hown hK hP 0 rfl rfl 0 (by decide) (hw 1 (.fieldLink RX11 9 "NumberFormats" "tape" "[I") rfl) (fun _ h9 => h9) rfl dX11_putBytes_27 ?_
        refine lv_aload_n hx hb dX11_putBytes_30 rfl (lv_at hl 1 rfl) ?_
        refine va_get (D := D) (ci := 8) (v := .int x_2) (C := RX11) (T := TX11) (N := 9) hx hb hts iX11 hown hK hP 0 rfl rfl 6 (by decide) (hw 0 (.fieldLink RX11 41 "NumberFormats" "fed" "I") rfl) (fun _ h9 => h9) rfl dX11_putBytes_31 ?_
        refine lv_iload_n hx hb dX11_putBytes_34 rfl (lv_at hl 2 rfl) ?_
        refine lv_iload_n hx hb dX11_putBytes_35 rfl (lv_at hl 0 rfl) ?_
        refine lv_iushr hx hb dX11_putBytes_36 rfl ?_
        refine lv_topi (fun x_7 ex_7 => ?_)
        refine lv_sipush (v := 255) hx hb dX11_putBytes_37 (by decide) ?_
        refine lv_iand hx hb dX11_putBytes_40 ?_
        refine lv_topi (fun x_8 ex_8 => ?_)
        have h_41 : vp_in x_2 260 := by rw [vp_in_iff]; omega
        refine va_iast hx hb hK hP hD hS 1 0 rfl rfl h_41 dX11_putBytes_41 (fun H locs hP hD hS => ?_)
        obtain ⟨f_9, ef_9⟩ : ∃ y : Nat → Int32, y = upd f_3 x_2.toNatClampNeg x_8 := ⟨_, rfl⟩
        rw [← ef_9] at hP hD
        have hP : va_P D vwCl [(h, .inr (8, [.ref h_tape, .ref h_text, .ref h_shower, .ref h_current, .ref h_spare, .int h_formatted, .int x_2, .int h_illPlace, .double h_value])), (h_tape, .inl (cI, 260, .inl f_9))] H := hP
        have hD : va_D A [(h, .inr (8, [.ref h_tape, .ref h_text, .ref h_shower, .ref h_current, .ref h_spare, .int h_formatted, .int x_2, .int h_illPlace, .double h_value])), (h_tape, .inl (cI, 260, .inl f_9))] := hD
        refine lv_aload_n hx hb dX11_putBytes_42 rfl (lv_at hl 1 rfl) ?_
        refine lv_dup hx hb dX11_putBytes_43 rfl ?_
        refine va_get (D := D) (ci := 8) (v := .int x_2) (C := RX11) (T := TX11) (N := 9) hx hb hts iX11 hown hK hP 0 rfl rfl 6 (by decide) (hw 0 (.fieldLink RX11 41 "NumberFormats" "fed" "I") rfl) (fun _ h9 => h9) rfl dX11_putBytes_44 ?_
        refine lv_iconst (v := 1) hx hb dX11_putBytes_47 (by decide) ?_
        refine lv_iadd hx hb dX11_putBytes_48 ?_
        refine lv_topi (fun x_10 ex_10 => ?_)
        have tx_10 := ti_add ex_10
        refine va_put (D := D) (ci := 8) (v := .int x_10) (ty := .int) (C := RX11) (T := TX11) (N := 9) hx hb hts iX11 tyX11 tyX11_ok nmX11 hown hK hP hD hS 0 rfl rfl 6 (by decide) (hw 0 (.fieldLink RX11 41 "NumberFormats" "fed" "I") rfl) (fun _ h9 => h9) rfl (by decide +kernel) rfl rfl (Nat.le_of_ble_eq_true rfl) dX11_putBytes_49 (fun H locs hP hD hS => ?_)
        have hP : va_P D vwCl [(h, .inr (8, [.ref h_tape, .ref h_text, .ref h_shower, .ref h_current, .ref h_spare, .int h_formatted, .int x_10, .int h_illPlace, .double h_value])), (h_tape, .inl (cI, 260, .inl f_9))] H := hP
        have hD : va_D A [(h, .inr (8, [.ref h_tape, .ref h_text, .ref h_shower, .ref h_current, .ref h_spare, .int h_formatted, .int x_10, .int h_illPlace, .double h_value])), (h_tape, .inl (cI, 260, .inl f_9))] := hD
        obtain ⟨x_11, ex_11⟩ : ∃ y : Int32, y = x_1 + (-8) := ⟨_, rfl⟩
        have tx_11 := ti_add ex_11
        refine lv_iinc (v := x_11) (lv' := [(2, .int x_11), (0, .ref h), (1, .int w)]) hx hb dX11_putBytes_52 hl (k := 0) rfl (by rw [ex_11]; rfl) (by decide) rfl (fun ls hl => ?_)
        refine lv_goto (tgt := 3) hx hb dX11_putBytes_55 (by decide) ?_
        exact hZ1 (ih x_11 x_10 f_9 _ _ _ (by omega) (by omega) (by omega) (by omega) hP hD hS hl)
  exact hZ1 (L_3 ((((24 : Int32).toInt + 8).toNat) + 1) 24 h_fed tf _ _ _ (by omega) (by omega) (by omega) (by omega) hP hD hS hl)

def ow_X11_feed : List Cond := [Cond.fieldLink RX11 41 "NumberFormats" "fed" "I", Cond.methodLink RX11 44 yX11_putBytes, Cond.instanceMethod yX11_putBytes, Cond.selects RX11 yX11_putBytes yX11_putBytes, Cond.initialized RX11]
def pw_X11_feed : List Cond := Cond.code yX11_feed cX11_feed 6 (some .boolean) :: (ow_X11_feed ++ (pw_X11_putBytes ++ (wsX110)))
set_option maxRecDepth 20000 in
theorem mo_X11_feed : ∀ w ∈ ow_X11_feed, w ∈ lw_tbl := by decide +kernel
set_option maxRecDepth 20000 in
theorem mc_X11_feed : Cond.code yX11_feed cX11_feed 6 (some .boolean) ∈ lw_tbl := by decide +kernel
theorem m_X11_feed : ∀ w ∈ pw_X11_feed, w ∈ lw_tbl := List.forall_mem_cons.mpr ⟨mc_X11_feed, (List.forall_mem_append.mpr ⟨mo_X11_feed, (List.forall_mem_append.mpr ⟨m_X11_putBytes, inX11⟩)⟩)⟩
theorem ko_X11_feed : ∀ w ∈ ow_X11_feed, goodWord w = true := by decide +kernel
theorem k_X11_feed : pw_X11_feed.all goodWord = true := List.all_eq_true.mpr (List.forall_mem_cons.mpr ⟨by decide +kernel, (List.forall_mem_append.mpr ⟨ko_X11_feed, (List.forall_mem_append.mpr ⟨(List.all_eq_true.mp k_X11_putBytes), kX_X11⟩)⟩)⟩)
set_option maxHeartbeats 400000 in
set_option maxRecDepth 100000 in
theorem c_X11_feed (l : Launch) (D : va_G) (cI cD cJ : ClassId) (sz : Nat) (h : Nat) (h_tape : Nat) (h_text : Nat) (h_shower : Nat) (h_current : Nat) (h_spare : Nat) (h_formatted : Int32) (h_fed : Int32) (h_illPlace : Int32) (h_value : UInt64) (tf : Nat → Int32) (a : Int32) (b : Int32) (cc : Int32) (dd : Int32) (ee : Int32) (hf0 : 0 ≤ h_fed.toInt) (hf1 : h_fed.toInt ≤ 260) : Met l yX11_feed pw_X11_feed ({ frames := 1, cells := 0, slots := 0, locals := 22 }) (va_Pc [.ref h, .int a, .int b, .int cc, .int dd, .int ee] (fun U => U.heap.size = sz ∧ va_P D vwCl [(h, .inr (8, [.ref h_tape, .ref h_text, .ref h_shower, .ref h_current, .ref h_spare, .int h_formatted, .int h_fed, .int h_illPlace, .double h_value])), (h_tape, .inl (cI, 260, .inl tf))] U.heap ∧ va_K D vwCl (ty3 cI cD cJ) U ∧ va_D (fun _ => True) [(h, .inr (8, [.ref h_tape, .ref h_text, .ref h_shower, .ref h_current, .ref h_spare, .int h_formatted, .int h_fed, .int h_illPlace, .double h_value])), (h_tape, .inl (cI, 260, .inl tf))])) (va_Qi (fun (r : Int32) (u : Int32 × (Nat → Int32)) => match u with | (fed2, tf2) => (r = 1 ∧ h_fed.toInt ≤ 240 ∧ fed2.toInt = h_fed.toInt + 20) ∨ (r = 0 ∧ 240 < h_fed.toInt ∧ fed2 = h_fed)) (fun (u : Int32 × (Nat → Int32)) (t : State) => match u with | (fed2, tf2) => va_P D vwCl [(h, .inr (8, [.ref h_tape, .ref h_text, .ref h_shower, .ref h_current, .ref h_spare, .int h_formatted, .int fed2, .int h_illPlace, .double h_value])), (h_tape, .inl (cI, 260, .inl tf2))] t.heap ∧ va_K D vwCl (ty3 cI cD cJ) t ∧ va_D (va_A [(h, .inr (8, [.ref h_tape, .ref h_text, .ref h_shower, .ref h_current, .ref h_spare, .int h_formatted, .int h_fed, .int h_illPlace, .double h_value])), (h_tape, .inl (cI, 260, .inl tf))] sz) [(h, .inr (8, [.ref h_tape, .ref h_text, .ref h_shower, .ref h_current, .ref h_spare, .int h_formatted, .int fed2, .int h_illPlace, .double h_value])), (h_tape, .inl (cI, 260, .inl tf2))]) (va_A [(h, .inr (8, [.ref h_tape, .ref h_text, .ref h_shower, .ref h_current, .ref h_spare, .int h_formatted, .int h_fed, .int h_illPlace, .double h_value])), (h_tape, .inl (cI, 260, .inl tf))] sz)) 0 0 (va_A [(h, .inr (8, [.ref h_tape, .ref h_text, .ref h_shower, .ref h_current, .ref h_spare, .int h_formatted, .int h_fed, .int h_illPlace, .double h_value])), (h_tape, .inl (cI, 260, .inl tf))] sz) := by
  refine Met.ofW (cc := cX11_feed) (maxL := 6) (ret := (some .boolean)) (by decide) rfl ?_
  intro p e s m args below meth c s₁ B hml hv
  obtain ⟨rfl, hsz, hP, hK, hD0⟩ := hv
  have hx := B.exec
  have hb := B.bytes
  have hr := B.returns
  have hts := atoms_spec (ws := pw_X11_feed) B.pre
  have hown : s.vm.findClass RX11 = some m.cls := findClass_of_methodNamed B.named
  have hlocks := B.notSynchronized
  subst hsz
  have hD := hD0.self (sz := s.heap.size)
  generalize hAe : va_A [(h, .inr (8, [.ref h_tape, .ref h_text, .ref h_shower, .ref h_current, .ref h_spare, .int h_formatted, .int h_fed, .int h_illPlace, .double h_value])), (h_tape, .inl (cI, 260, .inl tf))] s.heap.size = A at hD ⊢
  have hA : ∀ q : Nat, s.heap.size ≤ q → A q := fun q h => by rw [← hAe]; exact Or.inr h
  have hS : va_S A s.heap s.heap [] := va_S.rf
  have hw : ∀ (k : Nat) (w : Cond), ow_X11_feed[k]? = some w → w.before _ s = true := fun k w h => hts w (List.mem_cons_of_mem _ (have h9 := List.mem_of_getElem? h; List.mem_append_left _ h9))
  have i_X11_putBytes : ∀ w ∈ pw_X11_putBytes, w ∈ pw_X11_feed := fun w h9 => List.mem_cons_of_mem _ (List.mem_append_right _ (List.mem_append_left _ h9))
  have iX11 : ∀ w ∈ u_ws RX11 TX11 9, w ∈ pw_X11_feed := fun w h9 => List.mem_cons_of_mem _ (List.mem_append_right _ (List.mem_append_right _ (h9)))
  have n_0 : ((0 : Int32)).toInt = 0 := by decide
  have n_1 : ((1 : Int32)).toInt = 1 := by decide
  have n_20 : ((20 : Int32)).toInt = 20 := by decide
  have n_260 : ((260 : Int32)).toInt = 260 := by decide
  have hl := lv_entry ([.ref h, .int a, .int b, .int cc, .int dd, .int ee]) (n := 6) (Nat.le_of_ble_eq_true rfl)
  rw [lg_entry_eq]
  generalize (lg_sl ([.ref h, .int a, .int b, .int cc, .int dd, .int ee]) ++ List.replicate (6 - (lg_sl ([.ref h, .int a, .int b, .int cc, .int dd, .int ee])).length) Slot.unset).toArray = ls at hl ⊢
  have hl : lv_has ls 6 [(0, .ref h), (1, .int a), (2, .int b), (3, .int cc), (4, .int dd), (5, .int ee)] := hl
  have b_a := ti_b a
  have b_b := ti_b b
  have b_cc := ti_b cc
  have b_dd := ti_b dd
  have b_ee := ti_b ee
  refine lv_aload_n hx hb dX11_feed_0 rfl (lv_at hl 0 rfl) ?_
  refine va_get (D := D) (ci := 8) (v := .int h_fed) (C := RX11) (T := TX11) (N := 9) hx hb hts iX11 hown hK hP 0 rfl rfl 6 (by decide) (hw 0 (.fieldLink RX11 41 "NumberFormats" "fed" "I") rfl) (fun _ h9 => h9) rfl dX11_feed_1 ?_
  refine lv_bipush (v := 20) hx hb dX11_feed_4 (by decide) ?_
  refine lv_iadd hx hb dX11_feed_6 ?_
  refine lv_topi (fun x_1 ex_1 => ?_)
  have tx_1 := ti_add ex_1
  refine lv_sipush (v := 260) hx hb dX11_feed_7 (by decide) ?_
  refine lv_icmp_le (tgt := 15) hx hb dX11_feed_10 (by decide) (fun c_2 => ?_) (fun c_2 => ?_)
  · have ic_2 : (x_1 : Int32).toInt ≤ (260 : Int32).toInt := (fa_le x_1 260).mp c_2
    refine lv_aload_n hx hb dX11_feed_15 rfl (lv_at hl 0 rfl) ?_
    refine lv_iload_n hx hb dX11_feed_16 rfl (lv_at hl 1 rfl) ?_
    have hPc := hP.sub (ws' := [(h, .inr (8, [.ref h_tape, .ref h_text, .ref h_shower, .ref h_current, .ref h_spare, .int h_formatted, .int h_fed, .int h_illPlace, .double h_value])), (h_tape, .inl (cI, 260, .inl tf))]) [0, 1] rfl
    have hDc := hD.sub (ws' := [(h, .inr (8, [.ref h_tape, .ref h_text, .ref h_shower, .ref h_current, .ref h_spare, .int h_formatted, .int h_fed, .int h_illPlace, .double h_value])), (h_tape, .inl (cI, 260, .inl tf))]) [0, 1] (by decide) rfl
    have hFc := va_free (wc := [(h, .inr (8, [.ref h_tape, .ref h_text, .ref h_shower, .ref h_current, .ref h_spare, .int h_formatted, .int h_fed, .int h_illPlace, .double h_value])), (h_tape, .inl (cI, 260, .inl tf))]) hD hS hA [0, 1] rfl
    refine va_callv (va_runV (As := [.int a]) (rest := []) ⟨hx, hb, hml, hown, hts⟩ (c_X11_putBytes l D cI cD cJ s.heap.size h h_tape h_text h_shower h_current h_spare h_formatted h_fed h_illPlace h_value tf a (by omega) (by omega)) (cwV 1 hts (goodIn_app (goodIn_r _ [2, 3, 4, 5] rfl (by decide +kernel)) (goodIn_sub i_X11_putBytes k_X11_putBytes)) rfl rfl rfl (by decide +kernel) ⟨Nat.le_of_ble_eq_true rfl, Nat.le_of_ble_eq_true rfl⟩) ⟨fun a U g mk q => by obtain ⟨q0, q1, qP, qK, qD⟩ := q; exact ⟨q0, q1, qP, va_K.moved (u := U) (U := U.calling g mk a) (Vm.Alike.refl U.vm) qK, qD⟩, va_recv hK hPc (ci := 8) (q0 := 0) rfl rfl, fun U hU hW => ⟨rfl, by rw [hU], by rw [hU]; exact hPc, va_K.moved hW.alike hK, hDc.weaken (fun _ _ _ _ => trivial)⟩⟩ rfl rfl hl.1 rfl (lv_room (Nat.le_of_ble_eq_true rfl)) dX11_feed_17 ⟨Nat.le_of_ble_eq_true rfl, Nat.le_of_ble_eq_true rfl⟩) hS (fun q _ h => hFc q h) hFc (fun u t H1 locs ht hvm w_3 hB hz1 hk1 hS => ?_)
    obtain ⟨u_4, u_5⟩ := u
    obtain ⟨hP1, hK1, hD1⟩ := hB
    rw [ht] at hP1
    try dsimp only at w_3
    obtain ⟨hP, hD⟩ := va_join (wr := []) (w1 := [(h, .inr (8, [.ref h_tape, .ref h_text, .ref h_shower, .ref h_current, .ref h_spare, .int h_formatted, .int u_4, .int h_illPlace, .double h_value])), (h_tape, .inl (cI, 260, .inl u_5))]) hP hD [0, 1] [] rfl rfl (by decide) (by decide) hk1 hFc hP1 hD1
    generalize H1 = H at hP hS ⊢
    have hP : va_P D vwCl [(h, .inr (8, [.ref h_tape, .ref h_text, .ref h_shower, .ref h_current, .ref h_spare, .int h_formatted, .int u_4, .int h_illPlace, .double h_value])), (h_tape, .inl (cI, 260, .inl u_5))] H := hP
    have hD : va_D A [(h, .inr (8, [.ref h_tape, .ref h_text, .ref h_shower, .ref h_current, .ref h_spare, .int h_formatted, .int u_4, .int h_illPlace, .double h_value])), (h_tape, .inl (cI, 260, .inl u_5))] := hD
    refine lv_aload_n hx hb dX11_feed_20 rfl (lv_at hl 0 rfl) ?_
    refine lv_iload_n hx hb dX11_feed_21 rfl (lv_at hl 2 rfl) ?_
    have hPc := hP.sub (ws' := [(h, .inr (8, [.ref h_tape, .ref h_text, .ref h_shower, .ref h_current, .ref h_spare, .int h_formatted, .int u_4, .int h_illPlace, .double h_value])), (h_tape, .inl (cI, 260, .inl u_5))]) [0, 1] rfl
    have hDc := hD.sub (ws' := [(h, .inr (8, [.ref h_tape, .ref h_text, .ref h_shower, .ref h_current, .ref h_spare, .int h_formatted, .int u_4, .int h_illPlace, .double h_value])), (h_tape, .inl (cI, 260, .inl u_5))]) [0, 1] (by decide) rfl
    have hFc := va_free (wc := [(h, .inr (8, [.ref h_tape, .ref h_text, .ref h_shower, .ref h_current, .ref h_spare, .int h_formatted, .int u_4, .int h_illPlace, .double h_value])), (h_tape, .inl (cI, 260, .inl u_5))]) hD hS hA [0, 1] rfl
    refine va_callv (va_runV (As := [.int b]) (rest := []) ⟨hx, hb, hml, hown, hts⟩ (c_X11_putBytes l D cI cD cJ H.size h h_tape h_text h_shower h_current h_spare h_formatted u_4 h_illPlace h_value u_5 b (by omega) (by omega)) (cwV 1 hts (goodIn_app (goodIn_r _ [2, 3, 4, 5] rfl (by decide +kernel)) (goodIn_sub i_X11_putBytes k_X11_putBytes)) rfl rfl rfl (by decide +kernel) ⟨Nat.le_of_ble_eq_true rfl, Nat.le_of_ble_eq_true rfl⟩) ⟨fun a U g mk q => by obtain ⟨q0, q1, qP, qK, qD⟩ := q; exact ⟨q0, q1, qP, va_K.moved (u := U) (U := U.calling g mk a) (Vm.Alike.refl U.vm) qK, qD⟩, va_recv hK hPc (ci := 8) (q0 := 0) rfl rfl, fun U hU hW => ⟨rfl, by rw [hU], by rw [hU]; exact hPc, va_K.moved hW.alike hK, hDc.weaken (fun _ _ _ _ => trivial)⟩⟩ rfl rfl hl.1 rfl (lv_room (Nat.le_of_ble_eq_true rfl)) dX11_feed_22 ⟨Nat.le_of_ble_eq_true rfl, Nat.le_of_ble_eq_true rfl⟩) hS (fun q _ h => hFc q h) hFc (fun u t H1 locs ht hvm w_6 hB hz1 hk1 hS => ?_)
    obtain ⟨u_7, u_8⟩ := u
    obtain ⟨hP1, hK1, hD1⟩ := hB
    rw [ht] at hP1
    try dsimp only at w_6
    obtain ⟨hP, hD⟩ := va_join (wr := []) (w1 := [(h, .inr (8, [.ref h_tape, .ref h_text, .ref h_shower, .ref h_current, .ref h_spare, .int h_formatted, .int u_7, .int h_illPlace, .double h_value])), (h_tape, .inl (cI, 260, .inl u_8))]) hP hD [0, 1] [] rfl rfl (by decide) (by decide) hk1 hFc hP1 hD1
    generalize H1 = H at hP hS ⊢
    have hP : va_P D vwCl [(h, .inr (8, [.ref h_tape, .ref h_text, .ref h_shower, .ref h_current, .ref h_spare, .int h_formatted, .int u_7, .int h_illPlace, .double h_value])), (h_tape, .inl (cI, 260, .inl u_8))] H := hP
    have hD : va_D A [(h, .inr (8, [.ref h_tape, .ref h_text, .ref h_shower, .ref h_current, .ref h_spare, .int h_formatted, .int u_7, .int h_illPlace, .double h_value])), (h_tape, .inl (cI, 260, .inl u_8))] := hD
    refine lv_aload_n hx hb dX11_feed_25 rfl (lv_at hl 0 rfl) ?_
    refine lv_iload_n hx hb dX11_feed_26 rfl (lv_at hl 3 rfl) ?_
    have hPc := hP.sub (ws' := [(h, .inr (8, [.ref h_tape, .ref h_text, .ref h_shower, .ref h_current, .ref h_spare, .int h_formatted, .int u_7, .int h_illPlace, .double h_value])), (h_tape, .inl (cI, 260, .inl u_8))]) [0, 1] rfl
    have hDc := hD.sub (ws' := [(h, .inr (8, [.ref h_tape, .ref h_text, .ref h_shower, .ref h_current, .ref h_spare, .int h_formatted, .int u_7, .int h_illPlace, .double h_value])), (h_tape, .inl (cI, 260, .inl u_8))]) [0, 1] (by decide) rfl
    have hFc := va_free (wc := [(h, .inr (8, [.ref h_tape, .ref h_text, .ref h_shower, .ref h_current, .ref h_spare, .int h_formatted, .int u_7, .int h_illPlace, .double h_value])), (h_tape, .inl (cI, 260, .inl u_8))]) hD hS hA [0, 1] rfl
    refine va_callv (va_runV (As := [.int cc]) (rest := []) ⟨hx, hb, hml, hown, hts⟩ (c_X11_putBytes l D cI cD cJ H.size h h_tape h_text h_shower h_current h_spare h_formatted u_7 h_illPlace h_value u_8 cc (by omega) (by omega)) (cwV 1 hts (goodIn_app (goodIn_r _ [2, 3, 4, 5] rfl (by decide +kernel)) (goodIn_sub i_X11_putBytes k_X11_putBytes)) rfl rfl rfl (by decide +kernel) ⟨Nat.le_of_ble_eq_true rfl, Nat.le_of_ble_eq_true rfl⟩) ⟨fun a U g mk q => by obtain ⟨q0, q1, qP, qK, qD⟩ := q; exact ⟨q0, q1, qP, va_K.moved (u := U) (U := U.calling g mk a) (Vm.Alike.refl U.vm) qK, qD⟩, va_recv hK hPc (ci := 8) (q0 := 0) rfl rfl, fun U hU hW => ⟨rfl, by rw [hU], by rw [hU]; exact hPc, va_K.moved hW.alike hK, hDc.weaken (fun _ _ _ _ => trivial)⟩⟩ rfl rfl hl.1 rfl (lv_room (Nat.le_of_ble_eq_true rfl)) dX11_feed_27 ⟨Nat.le_of_ble_eq_true rfl, Nat.le_of_ble_eq_true rfl⟩) hS (fun q _ h => hFc q h) hFc (fun u t H1 locs ht hvm w_9 hB hz1 hk1 hS => ?_)
    obtain ⟨u_10, u_11⟩ := u
    obtain ⟨hP1, hK1, hD1⟩ := hB
    rw [ht] at hP1
    try dsimp only at w_9
    obtain ⟨hP, hD⟩ := va_join (wr := []) (w1 := [(h, .inr (8, [.ref h_tape, .ref h_text, .ref h_shower, .ref h_current, .ref h_spare, .int h_formatted, .int u_10, .int h_illPlace, .double h_value])), (h_tape, .inl (cI, 260, .inl u_11))]) hP hD [0, 1] [] rfl rfl (by decide) (by decide) hk1 hFc hP1 hD1
    generalize H1 = H at hP hS ⊢
    have hP : va_P D vwCl [(h, .inr (8, [.ref h_tape, .ref h_text, .ref h_shower, .ref h_current, .ref h_spare, .int h_formatted, .int u_10, .int h_illPlace, .double h_value])), (h_tape, .inl (cI, 260, .inl u_11))] H := hP
    have hD : va_D A [(h, .inr (8, [.ref h_tape, .ref h_text, .ref h_shower, .ref h_current, .ref h_spare, .int h_formatted, .int u_10, .int h_illPlace, .double h_value])), (h_tape, .inl (cI, 260, .inl u_11))] := hD
    refine lv_aload_n hx hb dX11_feed_30 rfl (lv_at hl 0 rfl) ?_
    refine lv_iload hx hb dX11_feed_31 (lv_at hl 4 rfl) ?_
    have hPc := hP.sub (ws' := [(h, .inr (8, [.ref h_tape, .ref h_text, .ref h_shower, .ref h_current, .ref h_spare, .int h_formatted, .int u_10, .int h_illPlace, .double h_value])), (h_tape, .inl (cI, 260, .inl u_11))]) [0, 1] rfl
    have hDc := hD.sub (ws' := [(h, .inr (8, [.ref h_tape, .ref h_text, .ref h_shower, .ref h_current, .ref h_spare, .int h_formatted, .int u_10, .int h_illPlace, .double h_value])), (h_tape, .inl (cI, 260, .inl u_11))]) [0, 1] (by decide) rfl
    have hFc := va_free (wc := [(h, .inr (8, [.ref h_tape, .ref h_text, .ref h_shower, .ref h_current, .ref h_spare, .int h_formatted, .int u_10, .int h_illPlace, .double h_value])), (h_tape, .inl (cI, 260, .inl u_11))]) hD hS hA [0, 1] rfl
    refine va_callv (va_runV (As := [.int dd]) (rest := []) ⟨hx, hb, hml, hown, hts⟩ (c_X11_putBytes l D cI cD cJ H.size h h_tape h_text h_shower h_current h_spare h_formatted u_10 h_illPlace h_value u_11 dd (by omega) (by omega)) (cwV 1 hts (goodIn_app (goodIn_r _ [2, 3, 4, 5] rfl (by decide +kernel)) (goodIn_sub i_X11_putBytes k_X11_putBytes)) rfl rfl rfl (by decide +kernel) ⟨Nat.le_of_ble_eq_true rfl, Nat.le_of_ble_eq_true rfl⟩) ⟨fun a U g mk q => by obtain ⟨q0, q1, qP, qK, qD⟩ := q; exact ⟨q0, q1, qP, va_K.moved (u := U) (U := U.calling g mk a) (Vm.Alike.refl U.vm) qK, qD⟩, va_recv hK hPc (ci := 8) (q0 := 0) rfl rfl, fun U hU hW => ⟨rfl, by rw [hU], by rw [hU]; exact hPc, va_K.moved hW.alike hK, hDc.weaken (fun _ _ _ _ => trivial)⟩⟩ rfl rfl hl.1 rfl (lv_room (Nat.le_of_ble_eq_true rfl)) dX11_feed_33 ⟨Nat.le_of_ble_eq_true rfl, Nat.le_of_ble_eq_true rfl⟩) hS (fun q _ h => hFc q h) hFc (fun u t H1 locs ht hvm w_12 hB hz1 hk1 hS => ?_)
    obtain ⟨u_13, u_14⟩ := u
    obtain ⟨hP1, hK1, hD1⟩ := hB
    rw [ht] at hP1
    try dsimp only at w_12
    obtain ⟨hP, hD⟩ := va_join (wr := []) (w1 := [(h, .inr (8, [.ref h_tape, .ref h_text, .ref h_shower, .ref h_current, .ref h_spare, .int h_formatted, .int u_13, .int h_illPlace, .double h_value])), (h_tape, .inl (cI, 260, .inl u_14))]) hP hD [0, 1] [] rfl rfl (by decide) (by decide) hk1 hFc hP1 hD1
    generalize H1 = H at hP hS ⊢
    have hP : va_P D vwCl [(h, .inr (8, [.ref h_tape, .ref h_text, .ref h_shower, .ref h_current, .ref h_spare, .int h_formatted, .int u_13, .int h_illPlace, .double h_value])), (h_tape, .inl (cI, 260, .inl u_14))] H := hP
    have hD : va_D A [(h, .inr (8, [.ref h_tape, .ref h_text, .ref h_shower, .ref h_current, .ref h_spare, .int h_formatted, .int u_13, .int h_illPlace, .double h_value])), (h_tape, .inl (cI, 260, .inl u_14))] := hD
    refine lv_aload_n hx hb dX11_feed_36 rfl (lv_at hl 0 rfl) ?_
    refine lv_iload hx hb dX11_feed_37 (lv_at hl 5 rfl) ?_
    have hPc := hP.sub (ws' := [(h, .inr (8, [.ref h_tape, .ref h_text, .ref h_shower, .ref h_current, .ref h_spare, .int h_formatted, .int u_13, .int h_illPlace, .double h_value])), (h_tape, .inl (cI, 260, .inl u_14))]) [0, 1] rfl
    have hDc := hD.sub (ws' := [(h, .inr (8, [.ref h_tape, .ref h_text, .ref h_shower, .ref h_current, .ref h_spare, .int h_formatted, .int u_13, .int h_illPlace, .double h_value])), (h_tape, .inl (cI, 260, .inl u_14))]) [0, 1] (by decide) rfl
    have hFc := va_free (wc := [(h, .inr (8, [.ref h_tape, .ref h_text, .ref h_shower, .ref h_current, .ref h_spare, .int h_formatted, .int u_13, .int h_illPlace, .double h_value])), (h_tape, .inl (cI, 260, .inl u_14))]) hD hS hA [0, 1] rfl
    refine va_callv (va_runV (As := [.int ee]) (rest := []) ⟨hx, hb, hml, hown, hts⟩ (c_X11_putBytes l D cI cD cJ H.size h h_tape h_text h_shower h_current h_spare h_formatted u_13 h_illPlace h_value u_14 ee (by omega) (by omega)) (cwV 1 hts (goodIn_app (goodIn_r _ [2, 3, 4, 5] rfl (by decide +kernel)) (goodIn_sub i_X11_putBytes k_X11_putBytes)) rfl rfl rfl (by decide +kernel) ⟨Nat.le_of_ble_eq_true rfl, Nat.le_of_ble_eq_true rfl⟩) ⟨fun a U g mk q => by obtain ⟨q0, q1, qP, qK, qD⟩ := q; exact ⟨q0, q1, qP, va_K.moved (u := U) (U := U.calling g mk a) (Vm.Alike.refl U.vm) qK, qD⟩, va_recv hK hPc (ci := 8) (q0 := 0) rfl rfl, fun U hU hW => ⟨rfl, by rw [hU], by rw [hU]; exact hPc, va_K.moved hW.alike hK, hDc.weaken (fun _ _ _ _ => trivial)⟩⟩ rfl rfl hl.1 rfl (lv_room (Nat.le_of_ble_eq_true rfl)) dX11_feed_39 ⟨Nat.le_of_ble_eq_true rfl, Nat.le_of_ble_eq_true rfl⟩) hS (fun q _ h => hFc q h) hFc (fun u t H1 locs ht hvm w_15 hB hz1 hk1 hS => ?_)
    obtain ⟨u_16, u_17⟩ := u
    obtain ⟨hP1, hK1, hD1⟩ := hB
    rw [ht] at hP1
    try dsimp only at w_15
    obtain ⟨hP, hD⟩ := va_join (wr := []) (w1 := [(h, .inr (8, [.ref h_tape, .ref h_text, .ref h_shower, .ref h_current, .ref h_spare, .int h_formatted, .int u_16, .int h_illPlace, .double h_value])), (h_tape, .inl (cI, 260, .inl u_17))]) hP hD [0, 1] [] rfl rfl (by decide) (by decide) hk1 hFc hP1 hD1
    generalize H1 = H at hP hS ⊢
    have hP : va_P D vwCl [(h, .inr (8, [.ref h_tape, .ref h_text, .ref h_shower, .ref h_current, .ref h_spare, .int h_formatted, .int u_16, .int h_illPlace, .double h_value])), (h_tape, .inl (cI, 260, .inl u_17))] H := hP
    have hD : va_D A [(h, .inr (8, [.ref h_tape, .ref h_text, .ref h_shower, .ref h_current, .ref h_spare, .int h_formatted, .int u_16, .int h_illPlace, .double h_value])), (h_tape, .inl (cI, 260, .inl u_17))] := hD
    refine lv_iconst (v := 1) hx hb dX11_feed_42 (by decide) ?_
    have hP9 := hP.sub (ws' := [(h, .inr (8, [.ref h_tape, .ref h_text, .ref h_shower, .ref h_current, .ref h_spare, .int h_formatted, .int u_16, .int h_illPlace, .double h_value])), (h_tape, .inl (cI, 260, .inl u_17))]) [0, 1] rfl
    have hD9 := hD.sub (ws' := [(h, .inr (8, [.ref h_tape, .ref h_text, .ref h_shower, .ref h_current, .ref h_spare, .int h_formatted, .int u_16, .int h_illPlace, .double h_value])), (h_tape, .inl (cI, 260, .inl u_17))]) [0, 1] (by decide) rfl
    exact W.zret (v := 1) hx hb hr rfl (fun t ht hW => ⟨⟨1, (u_16, u_17), rfl, (by first | exact Or.inl ⟨rfl, by omega, by omega⟩ | (dsimp only; exact Or.inl ⟨rfl, by omega, by omega⟩)), by rw [ht]; exact hP9, va_K.moved hW.alike hK, hD9⟩, hS.F ht⟩) hS.2.2 dX11_feed_43
  · have ic_2 : ¬ ((x_1 : Int32).toInt ≤ (260 : Int32).toInt) := fun h9 => c_2 ((fa_le x_1 260).mpr h9)
    refine lv_iconst (v := 0) hx hb dX11_feed_13 (by decide) ?_
    have hP9 := hP.sub (ws' := [(h, .inr (8, [.ref h_tape, .ref h_text, .ref h_shower, .ref h_current, .ref h_spare, .int h_formatted, .int h_fed, .int h_illPlace, .double h_value])), (h_tape, .inl (cI, 260, .inl tf))]) [0, 1] rfl
    have hD9 := hD.sub (ws' := [(h, .inr (8, [.ref h_tape, .ref h_text, .ref h_shower, .ref h_current, .ref h_spare, .int h_formatted, .int h_fed, .int h_illPlace, .double h_value])), (h_tape, .inl (cI, 260, .inl tf))]) [0, 1] (by decide) rfl
    exact W.zret (v := 0) hx hb hr rfl (fun t ht hW => ⟨⟨0, (h_fed, tf), rfl, (by first | exact Or.inr ⟨rfl, by omega, rfl⟩ | (dsimp only; exact Or.inr ⟨rfl, by omega, rfl⟩)), by rw [ht]; exact hP9, va_K.moved hW.alike hK, hD9⟩, hS.F ht⟩) hS.2.2 dX11_feed_14

def ow_X10_take : List Cond := [Cond.fieldLink RX10 15 "NumberFormats$Text" "length" "I", Cond.fieldLink RX10 9 "NumberFormats$Text" "signs" "[I"]
def pw_X10_take : List Cond := Cond.code yX10_take cX10_take 4 none :: (ow_X10_take ++ (wsX100))
set_option maxRecDepth 20000 in
theorem mo_X10_take : ∀ w ∈ ow_X10_take, w ∈ lw_tbl := by decide +kernel
set_option maxRecDepth 20000 in
theorem mc_X10_take : Cond.code yX10_take cX10_take 4 none ∈ lw_tbl := by decide +kernel
theorem m_X10_take : ∀ w ∈ pw_X10_take, w ∈ lw_tbl := List.forall_mem_cons.mpr ⟨mc_X10_take, (List.forall_mem_append.mpr ⟨mo_X10_take, inX10⟩)⟩
theorem ko_X10_take : ∀ w ∈ ow_X10_take, goodWord w = true := by decide +kernel
theorem k_X10_take : pw_X10_take.all goodWord = true := List.all_eq_true.mpr (List.forall_mem_cons.mpr ⟨by decide +kernel, (List.forall_mem_append.mpr ⟨ko_X10_take, kX_X10⟩)⟩)
set_option maxHeartbeats 400000 in
set_option maxRecDepth 100000 in
theorem c_X10_take (l : Launch) (D : va_G) (cI cD cJ : ClassId) (sz : Nat) (x : Nat) (b : Nat) (x_signs : Nat) (x_length : Int32) (sf : Nat → Int32) (bf : Nat → Int32) (n : Int32) (hn0 : 0 ≤ n.toInt) (hn1 : n.toInt ≤ 255) : Met l yX10_take pw_X10_take ({ frames := 0, cells := 0, slots := 0, locals := 0 }) (va_Pc [.ref x, .ref b, .int n] (fun U => U.heap.size = sz ∧ va_P D vwCl [(x, .inr (7, [.ref x_signs, .int x_length])), (x_signs, .inl (cI, 255, .inl sf)), (b, .inl (cI, 260, .inl bf))] U.heap ∧ va_K D vwCl (ty3 cI cD cJ) U ∧ va_D (fun _ => True) [(x, .inr (7, [.ref x_signs, .int x_length])), (x_signs, .inl (cI, 255, .inl sf)), (b, .inl (cI, 260, .inl bf))])) (va_Qv (fun (u : Int32 × (Nat → Int32)) => match u with | (len2, sf2) => len2.toInt = n.toInt) (fun (u : Int32 × (Nat → Int32)) (t : State) => match u with | (len2, sf2) => va_P D vwCl [(x, .inr (7, [.ref x_signs, .int len2])), (x_signs, .inl (cI, 255, .inl sf2)), (b, .inl (cI, 260, .inl bf))] t.heap ∧ va_K D vwCl (ty3 cI cD cJ) t ∧ va_D (va_A [(x, .inr (7, [.ref x_signs, .int x_length])), (x_signs, .inl (cI, 255, .inl sf)), (b, .inl (cI, 260, .inl bf))] sz) [(x, .inr (7, [.ref x_signs, .int len2])), (x_signs, .inl (cI, 255, .inl sf2)), (b, .inl (cI, 260, .inl bf))]) (va_A [(x, .inr (7, [.ref x_signs, .int x_length])), (x_signs, .inl (cI, 255, .inl sf)), (b, .inl (cI, 260, .inl bf))] sz)) 0 0 (va_A [(x, .inr (7, [.ref x_signs, .int x_length])), (x_signs, .inl (cI, 255, .inl sf)), (b, .inl (cI, 260, .inl bf))] sz) := by
  refine Met.ofW (cc := cX10_take) (maxL := 4) (ret := none) (by decide) rfl ?_
  intro p e s m args below meth c s₁ B hml hv
  obtain ⟨rfl, hsz, hP, hK, hD0⟩ := hv
  have hx := B.exec
  have hb := B.bytes
  have hr := B.returns
  have hts := atoms_spec (ws := pw_X10_take) B.pre
  have hown : s.vm.findClass RX10 = some m.cls := findClass_of_methodNamed B.named
  have hlocks := B.notSynchronized
  subst hsz
  have hD := hD0.self (sz := s.heap.size)
  generalize hAe : va_A [(x, .inr (7, [.ref x_signs, .int x_length])), (x_signs, .inl (cI, 255, .inl sf)), (b, .inl (cI, 260, .inl bf))] s.heap.size = A at hD ⊢
  have hA : ∀ q : Nat, s.heap.size ≤ q → A q := fun q h => by rw [← hAe]; exact Or.inr h
  have hS : va_S A s.heap s.heap [] := va_S.rf
  have hw : ∀ (k : Nat) (w : Cond), ow_X10_take[k]? = some w → w.before _ s = true := fun k w h => hts w (List.mem_cons_of_mem _ (have h9 := List.mem_of_getElem? h; List.mem_append_left _ h9))
  have iX10 : ∀ w ∈ u_ws RX10 TX10 2, w ∈ pw_X10_take := fun w h9 => List.mem_cons_of_mem _ (List.mem_append_right _ (h9))
  have n_0 : ((0 : Int32)).toInt = 0 := by decide
  have n_1 : ((1 : Int32)).toInt = 1 := by decide
  have n_255 : ((255 : Int32)).toInt = 255 := by decide
  have n_260 : ((260 : Int32)).toInt = 260 := by decide
  have hl := lv_entry ([.ref x, .ref b, .int n]) (n := 4) (Nat.le_of_ble_eq_true rfl)
  rw [lg_entry_eq]
  generalize (lg_sl ([.ref x, .ref b, .int n]) ++ List.replicate (4 - (lg_sl ([.ref x, .ref b, .int n])).length) Slot.unset).toArray = ls at hl ⊢
  have hl : lv_has ls 4 [(0, .ref x), (1, .ref b), (2, .int n)] := hl
  have b_n := ti_b n
  refine zz_cap (fun Z hZ1 hZ2 => ?_)
  refine lv_aload_n hx hb dX10_take_0 rfl (lv_at hl 0 rfl) ?_
  refine lv_iconst (v := 0) hx hb dX10_take_1 (by decide) ?_
  refine va_put (D := D) (ci := 7) (v := .int 0) (ty := .int) (C := RX10) (T := TX10) (N := 2) hx hb hts iX10 tyX10 tyX10_ok nmX10 hown hK hP hD hS 0 rfl rfl 1 (by decide) (hw 0 (.fieldLink RX10 15 "NumberFormats$Text" "length" "I") rfl) (fun _ h9 => h9) rfl (by decide +kernel) rfl rfl (Nat.le_of_ble_eq_true rfl) dX10_take_2 (fun H locs hP hD hS => ?_)
  have hP : va_P D vwCl [(x, .inr (7, [.ref x_signs, .int 0])), (x_signs, .inl (cI, 255, .inl sf)), (b, .inl (cI, 260, .inl bf))] H := hP
  have hD : va_D A [(x, .inr (7, [.ref x_signs, .int 0])), (x_signs, .inl (cI, 255, .inl sf)), (b, .inl (cI, 260, .inl bf))] := hD
  refine lv_iconst (v := 0) hx hb dX10_take_5 (by decide) ?_
  refine lv_istore_n (lv' := [(3, .int 0), (0, .ref x), (1, .ref b), (2, .int n)]) hx hb dX10_take_6 rfl hl (by decide) rfl (fun ls hl => ?_)
  have L_7 : ∀ (N : Nat) (x_1 : Int32) (x_2 : Int32) (f_3 : Nat → Int32) (H : Heap) (locs : List Loc) (ls : Array Slot), ((x_2 : Int32).toInt = (x_1 : Int32).toInt) → (0 ≤ (x_1 : Int32).toInt) → ((x_1 : Int32).toInt ≤ n.toInt) → ((n.toInt - (x_1 : Int32).toInt).toNat < N) → va_P D vwCl [(x, .inr (7, [.ref x_signs, .int x_2])), (x_signs, .inl (cI, 255, .inl f_3)), (b, .inl (cI, 260, .inl bf))] H → va_D A [(x, .inr (7, [.ref x_signs, .int x_2])), (x_signs, .inl (cI, 255, .inl f_3)), (b, .inl (cI, 260, .inl bf))] → va_S A s.heap H locs → lv_has ls 4 [(3, .int x_1), (0, .ref x), (1, .ref b), (2, .int n)] → Z 0 0 H locs (F0 m 7 ls []) := by
    intro N
    induction N with
    | zero => intro _ _ _ _ _ _ _ _ _ hmu; exact absurd hmu (Nat.not_lt_zero _)
    | succ N ih =>
      intro x_1 x_2 f_3 H locs ls g7_0 g7_1 g7_2 hmu hP hD hS hl
      refine hZ2 ?_
      refine lv_iload_n hx hb dX10_take_7 rfl (lv_at hl 0 rfl) ?_
      refine lv_iload_n hx hb dX10_take_8 rfl (lv_at hl 3 rfl) ?_
      refine lv_icmp_ge (tgt := 49) hx hb dX10_take_9 (by decide) (fun c_4 => ?_) (fun c_4 => ?_)
      · have ic_4 : (n : Int32).toInt ≤ (x_1 : Int32).toInt := (fa_le n x_1).mp c_4
        have hP9 := hP.sub (ws' := [(x, .inr (7, [.ref x_signs, .int x_2])), (x_signs, .inl (cI, 255, .inl f_3)), (b, .inl (cI, 260, .inl bf))]) [0, 1, 2] rfl
        have hD9 := hD.sub (ws' := [(x, .inr (7, [.ref x_signs, .int x_2])), (x_signs, .inl (cI, 255, .inl f_3)), (b, .inl (cI, 260, .inl bf))]) [0, 1, 2] (by decide) rfl
        exact W.vret hx hb hr (fun t ht hW => ⟨⟨(x_2, f_3), rfl, (by (try dsimp only); omega), by rw [ht]; exact hP9, va_K.moved hW.alike hK, hD9⟩, hS.F ht⟩) hS.2.2 dX10_take_49
      · have ic_4 : ¬ ((n : Int32).toInt ≤ (x_1 : Int32).toInt) := fun h9 => c_4 ((fa_le n x_1).mpr h9)
        refine lv_iload_n hx hb dX10_take_12 rfl (lv_at hl 0 rfl) ?_
        refine lv_aload_n hx hb dX10_take_13 rfl (lv_at hl 2 rfl) ?_
        refine va_alen hx hb hK hP 2 0 rfl rfl (v := 260) rfl dX10_take_14 ?_
        refine lv_icmp_ge (tgt := 49) hx hb dX10_take_15 (by decide) (fun c_5 => by have ic_5 : (260 : Int32).toInt ≤ (x_1 : Int32).toInt := (fa_le 260 x_1).mp c_5; exfalso; omega) (fun c_5 => ?_)
        have ic_5 : ¬ ((260 : Int32).toInt ≤ (x_1 : Int32).toInt) := fun h9 => c_5 ((fa_le 260 x_1).mpr h9)
        refine lv_iload_n hx hb dX10_take_18 rfl (lv_at hl 0 rfl) ?_
        refine lv_aload_n hx hb dX10_take_19 rfl (lv_at hl 1 rfl) ?_
        refine va_get (D := D) (ci := 7) (v := .ref x_signs) (C := RX10) (T := TX10) (N := 2) hx hb hts iX10 hown hK hP 0 rfl rfl 0 (by decide) (hw 1 (.fieldLink RX10 9 "NumberFormats$Text" "signs" "[I") rfl) (fun _ h9 => h9) rfl dX10_take_20 ?_
        refine va_alen hx hb hK hP 1 0 rfl rfl (v := 255) rfl dX10_take_23 ?_
        refine lv_icmp_ge (tgt := 49) hx hb dX10_take_24 (by decide) (fun c_6 => by have ic_6 : (255 : Int32).toInt ≤ (x_1 : Int32).toInt := (fa_le 255 x_1).mp c_6; exfalso; omega) (fun c_6 => ?_)
        have ic_6 : ¬ ((255 : Int32).toInt ≤ (x_1 : Int32).toInt) := fun h9 => c_6 ((fa_le 255 x_1).mpr h9)
        refine lv_aload_n hx hb dX10_take_27 rfl (lv_at hl 1 rfl) ?_
        refine va_get (D := D) (ci := 7) (v := .ref x_signs) (C := RX10) (T := TX10) (N := 2) hx hb hts iX10 hown hK hP 0 rfl rfl 0 (by decide) (hw 1 (.fieldLink RX10 9 "NumberFormats$Text" "signs" "[I") rfl) (fun _ h9 => h9) rfl dX10_take_28 ?_
        refine lv_iload_n hx hb dX10_take_31 rfl (lv_at hl 0 rfl) ?_
        refine lv_aload_n hx hb dX10_take_32 rfl (lv_at hl 2 rfl) ?_
        refine lv_iload_n hx hb dX10_take_33 rfl (lv_at hl 0 rfl) ?_
        have h_34 : vp_in x_1 260 := by rw [vp_in_iff]; omega
        refine va_iald hx hb hK hP 2 0 rfl rfl h_34 dX10_take_34 ?_
        refine lv_topi (fun x_7 ex_7 => ?_)
        have h_35 : vp_in x_1 255 := by rw [vp_in_iff]; omega
        refine va_iast hx hb hK hP hD hS 1 0 rfl rfl h_35 dX10_take_35 (fun H locs hP hD hS => ?_)
        obtain ⟨f_8, ef_8⟩ : ∃ y : Nat → Int32, y = upd f_3 x_1.toNatClampNeg x_7 := ⟨_, rfl⟩
        rw [← ef_8] at hP hD
        have hP : va_P D vwCl [(x, .inr (7, [.ref x_signs, .int x_2])), (x_signs, .inl (cI, 255, .inl f_8)), (b, .inl (cI, 260, .inl bf))] H := hP
        have hD : va_D A [(x, .inr (7, [.ref x_signs, .int x_2])), (x_signs, .inl (cI, 255, .inl f_8)), (b, .inl (cI, 260, .inl bf))] := hD
        refine lv_aload_n hx hb dX10_take_36 rfl (lv_at hl 1 rfl) ?_
        refine lv_iload_n hx hb dX10_take_37 rfl (lv_at hl 0 rfl) ?_
        refine lv_iconst (v := 1) hx hb dX10_take_38 (by decide) ?_
        refine lv_iadd hx hb dX10_take_39 ?_
        refine lv_topi (fun x_9 ex_9 => ?_)
        have tx_9 := ti_add ex_9
        refine va_put (D := D) (ci := 7) (v := .int x_9) (ty := .int) (C := RX10) (T := TX10) (N := 2) hx hb hts iX10 tyX10 tyX10_ok nmX10 hown hK hP hD hS 0 rfl rfl 1 (by decide) (hw 0 (.fieldLink RX10 15 "NumberFormats$Text" "length" "I") rfl) (fun _ h9 => h9) rfl (by decide +kernel) rfl rfl (Nat.le_of_ble_eq_true rfl) dX10_take_40 (fun H locs hP hD hS => ?_)
        have hP : va_P D vwCl [(x, .inr (7, [.ref x_signs, .int x_9])), (x_signs, .inl (cI, 255, .inl f_8)), (b, .inl (cI, 260, .inl bf))] H := hP
        have hD : va_D A [(x, .inr (7, [.ref x_signs, .int x_9])), (x_signs, .inl (cI, 255, .inl f_8)), (b, .inl (cI, 260, .inl bf))] := hD
        obtain ⟨x_10, ex_10⟩ : ∃ y : Int32, y = x_1 + 1 := ⟨_, rfl⟩
        have tx_10 := ti_add ex_10
        refine lv_iinc (v := x_10) (lv' := [(3, .int x_10), (0, .ref x), (1, .ref b), (2, .int n)]) hx hb dX10_take_43 hl (k := 0) rfl (by rw [ex_10]; rfl) (by decide) rfl (fun ls hl => ?_)
        refine lv_goto (tgt := 7) hx hb dX10_take_46 (by decide) ?_
        exact hZ1 (ih x_10 x_9 f_8 _ _ _ (by omega) (by omega) (by omega) (by omega) hP hD hS hl)
  exact hZ1 (L_7 (((n.toInt - (0 : Int32).toInt).toNat) + 1) 0 0 sf _ _ _ (by omega) (by omega) (by omega) (by omega) hP hD hS hl)

def ow_X11_end : List Cond := [Cond.fieldLink RX11 41 "NumberFormats" "fed" "I", Cond.fieldLink RX11 16 "NumberFormats" "text" "LNumberFormats$Text;", Cond.fieldLink RX11 9 "NumberFormats" "tape" "[I", Cond.methodLink RX11 48 yX10_take, Cond.instanceMethod yX10_take, Cond.selects RX10 yX10_take yX10_take, Cond.initialized RX10]
def pw_X11_end : List Cond := Cond.code yX11_end cX11_end 2 (some .boolean) :: (ow_X11_end ++ (pw_X10_take ++ (wsX110)))
set_option maxRecDepth 20000 in
theorem mo_X11_end : ∀ w ∈ ow_X11_end, w ∈ lw_tbl := by decide +kernel
set_option maxRecDepth 20000 in
theorem mc_X11_end : Cond.code yX11_end cX11_end 2 (some .boolean) ∈ lw_tbl := by decide +kernel
theorem m_X11_end : ∀ w ∈ pw_X11_end, w ∈ lw_tbl := List.forall_mem_cons.mpr ⟨mc_X11_end, (List.forall_mem_append.mpr ⟨mo_X11_end, (List.forall_mem_append.mpr ⟨m_X10_take, inX11⟩)⟩)⟩
theorem ko_X11_end : ∀ w ∈ ow_X11_end, goodWord w = true := by decide +kernel
theorem k_X11_end : pw_X11_end.all goodWord = true := List.all_eq_true.mpr (List.forall_mem_cons.mpr ⟨by decide +kernel, (List.forall_mem_append.mpr ⟨ko_X11_end, (List.forall_mem_append.mpr ⟨(List.all_eq_true.mp k_X10_take), kX_X11⟩)⟩)⟩)
set_option maxHeartbeats 400000 in
set_option maxRecDepth 100000 in
theorem c_X11_end (l : Launch) (D : va_G) (cI cD cJ : ClassId) (sz : Nat) (h : Nat) (x : Nat) (h_tape : Nat) (h_shower : Nat) (h_current : Nat) (h_spare : Nat) (h_formatted : Int32) (h_fed : Int32) (h_illPlace : Int32) (h_value : UInt64) (tf : Nat → Int32) (x_signs : Nat) (x_length : Int32) (sf : Nat → Int32) (n : Int32) : Met l yX11_end pw_X11_end ({ frames := 1, cells := 0, slots := 0, locals := 23 }) (va_Pc [.ref h, .int n] (fun U => U.heap.size = sz ∧ va_P D vwCl [(h, .inr (8, [.ref h_tape, .ref x, .ref h_shower, .ref h_current, .ref h_spare, .int h_formatted, .int h_fed, .int h_illPlace, .double h_value])), (h_tape, .inl (cI, 260, .inl tf)), (x, .inr (7, [.ref x_signs, .int x_length])), (x_signs, .inl (cI, 255, .inl sf))] U.heap ∧ va_K D vwCl (ty3 cI cD cJ) U ∧ va_D (fun _ => True) [(h, .inr (8, [.ref h_tape, .ref x, .ref h_shower, .ref h_current, .ref h_spare, .int h_formatted, .int h_fed, .int h_illPlace, .double h_value])), (h_tape, .inl (cI, 260, .inl tf)), (x, .inr (7, [.ref x_signs, .int x_length])), (x_signs, .inl (cI, 255, .inl sf))])) (va_Qi (fun (r : Int32) (u : Int32 × Int32 × (Nat → Int32)) => match u with | (fed2, len2, sf2) => (r = 1 ∧ 0 ≤ n.toInt ∧ n.toInt ≤ h_fed.toInt ∧ n.toInt ≤ 255 ∧ fed2 = 0 ∧ len2 = n) ∨ (r = 0 ∧ (n.toInt < 0 ∨ h_fed.toInt < n.toInt ∨ 255 < n.toInt) ∧ fed2 = h_fed ∧ len2 = x_length)) (fun (u : Int32 × Int32 × (Nat → Int32)) (t : State) => match u with | (fed2, len2, sf2) => va_P D vwCl [(h, .inr (8, [.ref h_tape, .ref x, .ref h_shower, .ref h_current, .ref h_spare, .int h_formatted, .int fed2, .int h_illPlace, .double h_value])), (h_tape, .inl (cI, 260, .inl tf)), (x, .inr (7, [.ref x_signs, .int len2])), (x_signs, .inl (cI, 255, .inl sf2))] t.heap ∧ va_K D vwCl (ty3 cI cD cJ) t ∧ va_D (va_A [(h, .inr (8, [.ref h_tape, .ref x, .ref h_shower, .ref h_current, .ref h_spare, .int h_formatted, .int h_fed, .int h_illPlace, .double h_value])), (h_tape, .inl (cI, 260, .inl tf)), (x, .inr (7, [.ref x_signs, .int x_length])), (x_signs, .inl (cI, 255, .inl sf))] sz) [(h, .inr (8, [.ref h_tape, .ref x, .ref h_shower, .ref h_current, .ref h_spare, .int h_formatted, .int fed2, .int h_illPlace, .double h_value])), (h_tape, .inl (cI, 260, .inl tf)), (x, .inr (7, [.ref x_signs, .int len2])), (x_signs, .inl (cI, 255, .inl sf2))]) (va_A [(h, .inr (8, [.ref h_tape, .ref x, .ref h_shower, .ref h_current, .ref h_spare, .int h_formatted, .int h_fed, .int h_illPlace, .double h_value])), (h_tape, .inl (cI, 260, .inl tf)), (x, .inr (7, [.ref x_signs, .int x_length])), (x_signs, .inl (cI, 255, .inl sf))] sz)) 0 0 (va_A [(h, .inr (8, [.ref h_tape, .ref x, .ref h_shower, .ref h_current, .ref h_spare, .int h_formatted, .int h_fed, .int h_illPlace, .double h_value])), (h_tape, .inl (cI, 260, .inl tf)), (x, .inr (7, [.ref x_signs, .int x_length])), (x_signs, .inl (cI, 255, .inl sf))] sz) := by
  refine Met.ofW (cc := cX11_end) (maxL := 2) (ret := (some .boolean)) (by decide) rfl ?_
  intro p e s m args below meth c s₁ B hml hv
  obtain ⟨rfl, hsz, hP, hK, hD0⟩ := hv
  have hx := B.exec
  have hb := B.bytes
  have hr := B.returns
  have hts := atoms_spec (ws := pw_X11_end) B.pre
  have hown : s.vm.findClass RX11 = some m.cls := findClass_of_methodNamed B.named
  have hlocks := B.notSynchronized
  subst hsz
  have hD := hD0.self (sz := s.heap.size)
  generalize hAe : va_A [(h, .inr (8, [.ref h_tape, .ref x, .ref h_shower, .ref h_current, .ref h_spare, .int h_formatted, .int h_fed, .int h_illPlace, .double h_value])), (h_tape, .inl (cI, 260, .inl tf)), (x, .inr (7, [.ref x_signs, .int x_length])), (x_signs, .inl (cI, 255, .inl sf))] s.heap.size = A at hD ⊢
  have hA : ∀ q : Nat, s.heap.size ≤ q → A q := fun q h => by rw [← hAe]; exact Or.inr h
  have hS : va_S A s.heap s.heap [] := va_S.rf
  have hw : ∀ (k : Nat) (w : Cond), ow_X11_end[k]? = some w → w.before _ s = true := fun k w h => hts w (List.mem_cons_of_mem _ (have h9 := List.mem_of_getElem? h; List.mem_append_left _ h9))
  have i_X10_take : ∀ w ∈ pw_X10_take, w ∈ pw_X11_end := fun w h9 => List.mem_cons_of_mem _ (List.mem_append_right _ (List.mem_append_left _ h9))
  have iX11 : ∀ w ∈ u_ws RX11 TX11 9, w ∈ pw_X11_end := fun w h9 => List.mem_cons_of_mem _ (List.mem_append_right _ (List.mem_append_right _ (h9)))
  have n_0 : ((0 : Int32)).toInt = 0 := by decide
  have n_1 : ((1 : Int32)).toInt = 1 := by decide
  have n_255 : ((255 : Int32)).toInt = 255 := by decide
  have hl := lv_entry ([.ref h, .int n]) (n := 2) (Nat.le_of_ble_eq_true rfl)
  rw [lg_entry_eq]
  generalize (lg_sl ([.ref h, .int n]) ++ List.replicate (2 - (lg_sl ([.ref h, .int n])).length) Slot.unset).toArray = ls at hl ⊢
  have hl : lv_has ls 2 [(0, .ref h), (1, .int n)] := hl
  have b_n := ti_b n
  refine lv_iload_n hx hb dX11_end_0 rfl (lv_at hl 1 rfl) ?_
  refine lv_if_lt (tgt := 19) hx hb dX11_end_1 (by decide) (fun c_1 => ?_) (fun c_1 => ?_)
  · have ic_1 : (n : Int32).toInt < (0 : Int32).toInt := (fa_lt n 0).mp c_1
    refine lv_iconst (v := 0) hx hb dX11_end_19 (by decide) ?_
    have hP9 := hP.sub (ws' := [(h, .inr (8, [.ref h_tape, .ref x, .ref h_shower, .ref h_current, .ref h_spare, .int h_formatted, .int h_fed, .int h_illPlace, .double h_value])), (h_tape, .inl (cI, 260, .inl tf)), (x, .inr (7, [.ref x_signs, .int x_length])), (x_signs, .inl (cI, 255, .inl sf))]) [0, 1, 2, 3] rfl
    have hD9 := hD.sub (ws' := [(h, .inr (8, [.ref h_tape, .ref x, .ref h_shower, .ref h_current, .ref h_spare, .int h_formatted, .int h_fed, .int h_illPlace, .double h_value])), (h_tape, .inl (cI, 260, .inl tf)), (x, .inr (7, [.ref x_signs, .int x_length])), (x_signs, .inl (cI, 255, .inl sf))]) [0, 1, 2, 3] (by decide) rfl
    exact W.zret (v := 0) hx hb hr rfl (fun t ht hW => ⟨⟨0, (h_fed, x_length, sf), rfl, (by first | exact Or.inr ⟨rfl, by omega, rfl, rfl⟩ | (dsimp only; exact Or.inr ⟨rfl, by omega, rfl, rfl⟩)), by rw [ht]; exact hP9, va_K.moved hW.alike hK, hD9⟩, hS.F ht⟩) hS.2.2 dX11_end_20
  · have ic_1 : ¬ ((n : Int32).toInt < (0 : Int32).toInt) := fun h9 => c_1 ((fa_lt n 0).mpr h9)
    refine lv_iload_n hx hb dX11_end_4 rfl (lv_at hl 1 rfl) ?_
    refine lv_aload_n hx hb dX11_end_5 rfl (lv_at hl 0 rfl) ?_
    refine va_get (D := D) (ci := 8) (v := .int h_fed) (C := RX11) (T := TX11) (N := 9) hx hb hts iX11 hown hK hP 0 rfl rfl 6 (by decide) (hw 0 (.fieldLink RX11 41 "NumberFormats" "fed" "I") rfl) (fun _ h9 => h9) rfl dX11_end_6 ?_
    refine lv_icmp_gt (tgt := 19) hx hb dX11_end_9 (by decide) (fun c_2 => ?_) (fun c_2 => ?_)
    · have ic_2 : (h_fed : Int32).toInt < (n : Int32).toInt := (fa_lt h_fed n).mp c_2
      refine lv_iconst (v := 0) hx hb dX11_end_19 (by decide) ?_
      have hP9 := hP.sub (ws' := [(h, .inr (8, [.ref h_tape, .ref x, .ref h_shower, .ref h_current, .ref h_spare, .int h_formatted, .int h_fed, .int h_illPlace, .double h_value])), (h_tape, .inl (cI, 260, .inl tf)), (x, .inr (7, [.ref x_signs, .int x_length])), (x_signs, .inl (cI, 255, .inl sf))]) [0, 1, 2, 3] rfl
      have hD9 := hD.sub (ws' := [(h, .inr (8, [.ref h_tape, .ref x, .ref h_shower, .ref h_current, .ref h_spare, .int h_formatted, .int h_fed, .int h_illPlace, .double h_value])), (h_tape, .inl (cI, 260, .inl tf)), (x, .inr (7, [.ref x_signs, .int x_length])), (x_signs, .inl (cI, 255, .inl sf))]) [0, 1, 2, 3] (by decide) rfl
      exact W.zret (v := 0) hx hb hr rfl (fun t ht hW => ⟨⟨0, (h_fed, x_length, sf), rfl, (by first | exact Or.inr ⟨rfl, by omega, rfl, rfl⟩ | (dsimp only; exact Or.inr ⟨rfl, by omega, rfl, rfl⟩)), by rw [ht]; exact hP9, va_K.moved hW.alike hK, hD9⟩, hS.F ht⟩) hS.2.2 dX11_end_20
    · have ic_2 : ¬ ((h_fed : Int32).toInt < (n : Int32).toInt) := fun h9 => c_2 ((fa_lt h_fed n).mpr h9)
      refine lv_iload_n hx hb dX11_end_12 rfl (lv_at hl 1 rfl) ?_
      refine lv_sipush (v := 255) hx hb dX11_end_13 (by decide) ?_
      refine lv_icmp_le (tgt := 21) hx hb dX11_end_16 (by decide) (fun c_3 => ?_) (fun c_3 => ?_)
      · have ic_3 : (n : Int32).toInt ≤ (255 : Int32).toInt := (fa_le n 255).mp c_3
        refine lv_aload_n hx hb dX11_end_21 rfl (lv_at hl 0 rfl) ?_
        refine va_get (D := D) (ci := 8) (v := .ref x) (C := RX11) (T := TX11) (N := 9) hx hb hts iX11 hown hK hP 0 rfl rfl 1 (by decide) (hw 1 (.fieldLink RX11 16 "NumberFormats" "text" "LNumberFormats$Text;") rfl) (fun _ h9 => h9) rfl dX11_end_22 ?_
        refine lv_aload_n hx hb dX11_end_25 rfl (lv_at hl 0 rfl) ?_
        refine va_get (D := D) (ci := 8) (v := .ref h_tape) (C := RX11) (T := TX11) (N := 9) hx hb hts iX11 hown hK hP 0 rfl rfl 0 (by decide) (hw 2 (.fieldLink RX11 9 "NumberFormats" "tape" "[I") rfl) (fun _ h9 => h9) rfl dX11_end_26 ?_
        refine lv_iload_n hx hb dX11_end_29 rfl (lv_at hl 1 rfl) ?_
        have hPc := hP.sub (ws' := [(x, .inr (7, [.ref x_signs, .int x_length])), (x_signs, .inl (cI, 255, .inl sf)), (h_tape, .inl (cI, 260, .inl tf))]) [2, 3, 1] rfl
        have hDc := hD.sub (ws' := [(x, .inr (7, [.ref x_signs, .int x_length])), (x_signs, .inl (cI, 255, .inl sf)), (h_tape, .inl (cI, 260, .inl tf))]) [2, 3, 1] (by decide) rfl
        have hFc := va_free (wc := [(x, .inr (7, [.ref x_signs, .int x_length])), (x_signs, .inl (cI, 255, .inl sf)), (h_tape, .inl (cI, 260, .inl tf))]) hD hS hA [2, 3, 1] rfl
        refine va_callv (va_runV (As := [.ref h_tape, .int n]) (rest := []) ⟨hx, hb, hml, hown, hts⟩ (c_X10_take l D cI cD cJ s.heap.size x h_tape x_signs x_length sf tf n (by omega) (by omega)) (cwV 2 hts (goodIn_app (goodIn_r _ [4, 5, 6, 7] rfl (by decide +kernel)) (goodIn_sub i_X10_take k_X10_take)) rfl rfl rfl (by decide +kernel) ⟨Nat.le_of_ble_eq_true rfl, Nat.le_of_ble_eq_true rfl⟩) ⟨fun a U g mk q => by obtain ⟨q0, q1, qP, qK, qD⟩ := q; exact ⟨q0, q1, qP, va_K.moved (u := U) (U := U.calling g mk a) (Vm.Alike.refl U.vm) qK, qD⟩, va_recv hK hPc (ci := 7) (q0 := 0) rfl rfl, fun U hU hW => ⟨rfl, by rw [hU], by rw [hU]; exact hPc, va_K.moved hW.alike hK, hDc.weaken (fun _ _ _ _ => trivial)⟩⟩ rfl rfl hl.1 rfl (lv_room (Nat.le_of_ble_eq_true rfl)) dX11_end_30 ⟨Nat.le_of_ble_eq_true rfl, Nat.le_of_ble_eq_true rfl⟩) hS (fun q _ h => hFc q h) hFc (fun u t H1 locs ht hvm w_4 hB hz1 hk1 hS => ?_)
        obtain ⟨u_5, u_6⟩ := u
        obtain ⟨hP1, hK1, hD1⟩ := hB
        rw [ht] at hP1
        try dsimp only at w_4
        obtain ⟨hP, hD⟩ := va_join (wr := [(h, .inr (8, [.ref h_tape, .ref x, .ref h_shower, .ref h_current, .ref h_spare, .int h_formatted, .int h_fed, .int h_illPlace, .double h_value]))]) (w1 := [(x, .inr (7, [.ref x_signs, .int u_5])), (x_signs, .inl (cI, 255, .inl u_6)), (h_tape, .inl (cI, 260, .inl tf))]) hP hD [2, 3, 1] [0] rfl rfl (by decide) (by decide) hk1 hFc hP1 hD1
        generalize H1 = H at hP hS ⊢
        have hP : va_P D vwCl [(h, .inr (8, [.ref h_tape, .ref x, .ref h_shower, .ref h_current, .ref h_spare, .int h_formatted, .int h_fed, .int h_illPlace, .double h_value])), (x, .inr (7, [.ref x_signs, .int u_5])), (x_signs, .inl (cI, 255, .inl u_6)), (h_tape, .inl (cI, 260, .inl tf))] H := hP
        have hD : va_D A [(h, .inr (8, [.ref h_tape, .ref x, .ref h_shower, .ref h_current, .ref h_spare, .int h_formatted, .int h_fed, .int h_illPlace, .double h_value])), (x, .inr (7, [.ref x_signs, .int u_5])), (x_signs, .inl (cI, 255, .inl u_6)), (h_tape, .inl (cI, 260, .inl tf))] := hD
        refine lv_aload_n hx hb dX11_end_33 rfl (lv_at hl 0 rfl) ?_
        refine lv_iconst (v := 0) hx hb dX11_end_34 (by decide) ?_
        refine va_put (D := D) (ci := 8) (v := .int 0) (ty := .int) (C := RX11) (T := TX11) (N := 9) hx hb hts iX11 tyX11 tyX11_ok nmX11 hown hK hP hD hS 0 rfl rfl 6 (by decide) (hw 0 (.fieldLink RX11 41 "NumberFormats" "fed" "I") rfl) (fun _ h9 => h9) rfl (by decide +kernel) rfl rfl (Nat.le_of_ble_eq_true rfl) dX11_end_35 (fun H locs hP hD hS => ?_)
        have hP : va_P D vwCl [(h, .inr (8, [.ref h_tape, .ref x, .ref h_shower, .ref h_current, .ref h_spare, .int h_formatted, .int 0, .int h_illPlace, .double h_value])), (x, .inr (7, [.ref x_signs, .int u_5])), (x_signs, .inl (cI, 255, .inl u_6)), (h_tape, .inl (cI, 260, .inl tf))] H := hP
        have hD : va_D A [(h, .inr (8, [.ref h_tape, .ref x, .ref h_shower, .ref h_current, .ref h_spare, .int h_formatted, .int 0, .int h_illPlace, .double h_value])), (x, .inr (7, [.ref x_signs, .int u_5])), (x_signs, .inl (cI, 255, .inl u_6)), (h_tape, .inl (cI, 260, .inl tf))] := hD
        refine lv_iconst (v := 1) hx hb dX11_end_38 (by decide) ?_
        have hP9 := hP.sub (ws' := [(h, .inr (8, [.ref h_tape, .ref x, .ref h_shower, .ref h_current, .ref h_spare, .int h_formatted, .int 0, .int h_illPlace, .double h_value])), (h_tape, .inl (cI, 260, .inl tf)), (x, .inr (7, [.ref x_signs, .int u_5])), (x_signs, .inl (cI, 255, .inl u_6))]) [0, 3, 1, 2] rfl
        have hD9 := hD.sub (ws' := [(h, .inr (8, [.ref h_tape, .ref x, .ref h_shower, .ref h_current, .ref h_spare, .int h_formatted, .int 0, .int h_illPlace, .double h_value])), (h_tape, .inl (cI, 260, .inl tf)), (x, .inr (7, [.ref x_signs, .int u_5])), (x_signs, .inl (cI, 255, .inl u_6))]) [0, 3, 1, 2] (by decide) rfl
        exact W.zret (v := 1) hx hb hr rfl (fun t ht hW => ⟨⟨1, (0, u_5, u_6), rfl, (by first | exact Or.inl ⟨rfl, by omega, by omega, by omega, rfl, (fa_eq _ _).mpr (by omega)⟩ | (dsimp only; exact Or.inl ⟨rfl, by omega, by omega, by omega, rfl, (fa_eq _ _).mpr (by omega)⟩)), by rw [ht]; exact hP9, va_K.moved hW.alike hK, hD9⟩, hS.F ht⟩) hS.2.2 dX11_end_39
      · have ic_3 : ¬ ((n : Int32).toInt ≤ (255 : Int32).toInt) := fun h9 => c_3 ((fa_le n 255).mpr h9)
        refine lv_iconst (v := 0) hx hb dX11_end_19 (by decide) ?_
        have hP9 := hP.sub (ws' := [(h, .inr (8, [.ref h_tape, .ref x, .ref h_shower, .ref h_current, .ref h_spare, .int h_formatted, .int h_fed, .int h_illPlace, .double h_value])), (h_tape, .inl (cI, 260, .inl tf)), (x, .inr (7, [.ref x_signs, .int x_length])), (x_signs, .inl (cI, 255, .inl sf))]) [0, 1, 2, 3] rfl
        have hD9 := hD.sub (ws' := [(h, .inr (8, [.ref h_tape, .ref x, .ref h_shower, .ref h_current, .ref h_spare, .int h_formatted, .int h_fed, .int h_illPlace, .double h_value])), (h_tape, .inl (cI, 260, .inl tf)), (x, .inr (7, [.ref x_signs, .int x_length])), (x_signs, .inl (cI, 255, .inl sf))]) [0, 1, 2, 3] (by decide) rfl
        exact W.zret (v := 0) hx hb hr rfl (fun t ht hW => ⟨⟨0, (h_fed, x_length, sf), rfl, (by first | exact Or.inr ⟨rfl, by omega, rfl, rfl⟩ | (dsimp only; exact Or.inr ⟨rfl, by omega, rfl, rfl⟩)), by rw [ht]; exact hP9, va_K.moved hW.alike hK, hD9⟩, hS.F ht⟩) hS.2.2 dX11_end_20

def ow_X11_set : List Cond := [Cond.constantDouble RX11 52 (18318360957983683996), Cond.constantDouble RX11 54 (9094988921128908188), Cond.fieldLink RX11 56 "NumberFormats" "value" "D"]
def pw_X11_set : List Cond := Cond.code yX11_set cX11_set 3 (some .boolean) :: (ow_X11_set ++ (wsX110))
set_option maxRecDepth 20000 in
theorem mo_X11_set : ∀ w ∈ ow_X11_set, w ∈ lw_tbl := by decide +kernel
set_option maxRecDepth 20000 in
theorem mc_X11_set : Cond.code yX11_set cX11_set 3 (some .boolean) ∈ lw_tbl := by decide +kernel
theorem m_X11_set : ∀ w ∈ pw_X11_set, w ∈ lw_tbl := List.forall_mem_cons.mpr ⟨mc_X11_set, (List.forall_mem_append.mpr ⟨mo_X11_set, inX11⟩)⟩
theorem ko_X11_set : ∀ w ∈ ow_X11_set, goodWord w = true := by decide +kernel
theorem k_X11_set : pw_X11_set.all goodWord = true := List.all_eq_true.mpr (List.forall_mem_cons.mpr ⟨by decide +kernel, (List.forall_mem_append.mpr ⟨ko_X11_set, kX_X11⟩)⟩)
set_option maxHeartbeats 400000 in
set_option maxRecDepth 100000 in
theorem c_X11_set (l : Launch) (D : va_G) (cI cD cJ : ClassId) (sz : Nat) (h : Nat) (h_tape : Nat) (h_text : Nat) (h_shower : Nat) (h_current : Nat) (h_spare : Nat) (h_formatted : Int32) (h_fed : Int32) (h_illPlace : Int32) (h_value : UInt64) (v : UInt64) : Met l yX11_set pw_X11_set ({ frames := 0, cells := 0, slots := 0, locals := 0 }) (va_Pc [.ref h, .double v] (fun U => U.heap.size = sz ∧ va_P D vwCl [(h, .inr (8, [.ref h_tape, .ref h_text, .ref h_shower, .ref h_current, .ref h_spare, .int h_formatted, .int h_fed, .int h_illPlace, .double h_value]))] U.heap ∧ va_K D vwCl (ty3 cI cD cJ) U ∧ va_D (fun _ => True) [(h, .inr (8, [.ref h_tape, .ref h_text, .ref h_shower, .ref h_current, .ref h_spare, .int h_formatted, .int h_fed, .int h_illPlace, .double h_value]))])) (va_Qi (fun (r : Int32) (val2 : UInt64) => (r = 1 ∧ inR v ∧ val2 = nzd v) ∨ (r = 0 ∧ ¬ inR v ∧ val2 = h_value)) (fun (val2 : UInt64) (t : State) => va_P D vwCl [(h, .inr (8, [.ref h_tape, .ref h_text, .ref h_shower, .ref h_current, .ref h_spare, .int h_formatted, .int h_fed, .int h_illPlace, .double val2]))] t.heap ∧ va_K D vwCl (ty3 cI cD cJ) t ∧ va_D (va_A [(h, .inr (8, [.ref h_tape, .ref h_text, .ref h_shower, .ref h_current, .ref h_spare, .int h_formatted, .int h_fed, .int h_illPlace, .double h_value]))] sz) [(h, .inr (8, [.ref h_tape, .ref h_text, .ref h_shower, .ref h_current, .ref h_spare, .int h_formatted, .int h_fed, .int h_illPlace, .double val2]))]) (va_A [(h, .inr (8, [.ref h_tape, .ref h_text, .ref h_shower, .ref h_current, .ref h_spare, .int h_formatted, .int h_fed, .int h_illPlace, .double h_value]))] sz)) 0 0 (va_A [(h, .inr (8, [.ref h_tape, .ref h_text, .ref h_shower, .ref h_current, .ref h_spare, .int h_formatted, .int h_fed, .int h_illPlace, .double h_value]))] sz) := by
  refine Met.ofW (cc := cX11_set) (maxL := 3) (ret := (some .boolean)) (by decide) rfl ?_
  intro p e s m args below meth c s₁ B hml hv
  obtain ⟨rfl, hsz, hP, hK, hD0⟩ := hv
  have hx := B.exec
  have hb := B.bytes
  have hr := B.returns
  have hts := atoms_spec (ws := pw_X11_set) B.pre
  have hown : s.vm.findClass RX11 = some m.cls := findClass_of_methodNamed B.named
  have hlocks := B.notSynchronized
  subst hsz
  have hD := hD0.self (sz := s.heap.size)
  generalize hAe : va_A [(h, .inr (8, [.ref h_tape, .ref h_text, .ref h_shower, .ref h_current, .ref h_spare, .int h_formatted, .int h_fed, .int h_illPlace, .double h_value]))] s.heap.size = A at hD ⊢
  have hA : ∀ q : Nat, s.heap.size ≤ q → A q := fun q h => by rw [← hAe]; exact Or.inr h
  have hS : va_S A s.heap s.heap [] := va_S.rf
  have hw : ∀ (k : Nat) (w : Cond), ow_X11_set[k]? = some w → w.before _ s = true := fun k w h => hts w (List.mem_cons_of_mem _ (have h9 := List.mem_of_getElem? h; List.mem_append_left _ h9))
  have iX11 : ∀ w ∈ u_ws RX11 TX11 9, w ∈ pw_X11_set := fun w h9 => List.mem_cons_of_mem _ (List.mem_append_right _ (h9))
  have n_0 : ((0 : Int32)).toInt = 0 := by decide
  have n_1 : ((1 : Int32)).toInt = 1 := by decide
  have hl := lv_entry ([.ref h, .double v]) (n := 3) (Nat.le_of_ble_eq_true rfl)
  rw [lg_entry_eq]
  generalize (lg_sl ([.ref h, .double v]) ++ List.replicate (3 - (lg_sl ([.ref h, .double v])).length) Slot.unset).toArray = ls at hl ⊢
  have hl : lv_has ls 3 [(0, .ref h), (1, .double v)] := hl
  refine lv_dload_n hx hb dX11_set_0 rfl (lv_at hl 1 rfl) ?_
  refine lv_ldc2d (v := 18318360957983683996) hx hb hown (hw 0 (.constantDouble RX11 52 (18318360957983683996)) rfl) dX11_set_1 ?_
  refine lv_dcmp hx hb dX11_set_4 ?_
  refine lv_topi (fun x_1 ex_1 => ?_)
  refine lv_if_le (tgt := 33) hx hb dX11_set_5 (by decide) (fun c_2 => ?_) (fun c_2 => ?_)
  · have ic_2 : (x_1 : Int32).toInt ≤ (0 : Int32).toInt := (fa_le x_1 0).mp c_2
    refine lv_iconst (v := 0) hx hb dX11_set_33 (by decide) ?_
    have hP9 := hP.sub (ws' := [(h, .inr (8, [.ref h_tape, .ref h_text, .ref h_shower, .ref h_current, .ref h_spare, .int h_formatted, .int h_fed, .int h_illPlace, .double h_value]))]) [0] rfl
    have hD9 := hD.sub (ws' := [(h, .inr (8, [.ref h_tape, .ref h_text, .ref h_shower, .ref h_current, .ref h_spare, .int h_formatted, .int h_fed, .int h_illPlace, .double h_value]))]) [0] (by decide) rfl
    exact W.zret (v := 0) hx hb hr rfl (fun t ht hW => ⟨⟨0, (h_value), rfl, (by subst_vars; (try dsimp only); exact Or.inr ⟨rfl, fun h9 => by have h8 := h9.1; have h7 := h9.2; omega, rfl⟩), by rw [ht]; exact hP9, va_K.moved hW.alike hK, hD9⟩, hS.F ht⟩) hS.2.2 dX11_set_34
  · have ic_2 : ¬ ((x_1 : Int32).toInt ≤ (0 : Int32).toInt) := fun h9 => c_2 ((fa_le x_1 0).mpr h9)
    refine lv_dload_n hx hb dX11_set_8 rfl (lv_at hl 1 rfl) ?_
    refine lv_ldc2d (v := 9094988921128908188) hx hb hown (hw 1 (.constantDouble RX11 54 (9094988921128908188)) rfl) dX11_set_9 ?_
    refine lv_dcmp hx hb dX11_set_12 ?_
    refine lv_topi (fun x_3 ex_3 => ?_)
    refine lv_if_ge (tgt := 33) hx hb dX11_set_13 (by decide) (fun c_4 => ?_) (fun c_4 => ?_)
    · have ic_4 : (0 : Int32).toInt ≤ (x_3 : Int32).toInt := (fa_le 0 x_3).mp c_4
      refine lv_iconst (v := 0) hx hb dX11_set_33 (by decide) ?_
      have hP9 := hP.sub (ws' := [(h, .inr (8, [.ref h_tape, .ref h_text, .ref h_shower, .ref h_current, .ref h_spare, .int h_formatted, .int h_fed, .int h_illPlace, .double h_value]))]) [0] rfl
      have hD9 := hD.sub (ws' := [(h, .inr (8, [.ref h_tape, .ref h_text, .ref h_shower, .ref h_current, .ref h_spare, .int h_formatted, .int h_fed, .int h_illPlace, .double h_value]))]) [0] (by decide) rfl
      exact W.zret (v := 0) hx hb hr rfl (fun t ht hW => ⟨⟨0, (h_value), rfl, (by subst_vars; (try dsimp only); exact Or.inr ⟨rfl, fun h9 => by have h8 := h9.1; have h7 := h9.2; omega, rfl⟩), by rw [ht]; exact hP9, va_K.moved hW.alike hK, hD9⟩, hS.F ht⟩) hS.2.2 dX11_set_34
    · have ic_4 : ¬ ((0 : Int32).toInt ≤ (x_3 : Int32).toInt) := fun h9 => c_4 ((fa_le 0 x_3).mpr h9)
      refine lv_aload_n hx hb dX11_set_16 rfl (lv_at hl 0 rfl) ?_
      refine lv_dload_n hx hb dX11_set_17 rfl (lv_at hl 1 rfl) ?_
      refine lv_dconst0 hx hb dX11_set_18 ?_
      refine lv_dcmp hx hb dX11_set_19 ?_
      refine lv_topi (fun x_5 ex_5 => ?_)
      refine lv_if_ne (tgt := 27) hx hb dX11_set_20 (by decide) (fun c_6 => ?_) (fun c_6 => ?_)
      · have ic_6 : ¬ ((x_5 : Int32).toInt = (0 : Int32).toInt) := fun h9 => c_6 ((fa_eq x_5 0).mpr h9)
        refine lv_dload_n hx hb dX11_set_27 rfl (lv_at hl 1 rfl) ?_
        refine va_put (D := D) (ci := 8) (v := .double v) (ty := .double) (C := RX11) (T := TX11) (N := 9) hx hb hts iX11 tyX11 tyX11_ok nmX11 hown hK hP hD hS 0 rfl rfl 8 (by decide) (hw 2 (.fieldLink RX11 56 "NumberFormats" "value" "D") rfl) (fun _ h9 => h9) rfl (by decide +kernel) rfl rfl (Nat.le_of_ble_eq_true rfl) dX11_set_28 (fun H locs hP hD hS => ?_)
        have hP : va_P D vwCl [(h, .inr (8, [.ref h_tape, .ref h_text, .ref h_shower, .ref h_current, .ref h_spare, .int h_formatted, .int h_fed, .int h_illPlace, .double v]))] H := hP
        have hD : va_D A [(h, .inr (8, [.ref h_tape, .ref h_text, .ref h_shower, .ref h_current, .ref h_spare, .int h_formatted, .int h_fed, .int h_illPlace, .double v]))] := hD
        refine lv_iconst (v := 1) hx hb dX11_set_31 (by decide) ?_
        have hP9 := hP.sub (ws' := [(h, .inr (8, [.ref h_tape, .ref h_text, .ref h_shower, .ref h_current, .ref h_spare, .int h_formatted, .int h_fed, .int h_illPlace, .double v]))]) [0] rfl
        have hD9 := hD.sub (ws' := [(h, .inr (8, [.ref h_tape, .ref h_text, .ref h_shower, .ref h_current, .ref h_spare, .int h_formatted, .int h_fed, .int h_illPlace, .double v]))]) [0] (by decide) rfl
        exact W.zret (v := 1) hx hb hr rfl (fun t ht hW => ⟨⟨1, (v), rfl, (by subst_vars; (try dsimp only); exact Or.inl ⟨rfl, ⟨by omega, by omega⟩, by unfold nzd; split <;> first | rfl | contradiction⟩), by rw [ht]; exact hP9, va_K.moved hW.alike hK, hD9⟩, hS.F ht⟩) hS.2.2 dX11_set_32
      · have ic_6 : (x_5 : Int32).toInt = (0 : Int32).toInt := (fa_eq x_5 0).mp c_6
        refine lv_dconst0 hx hb dX11_set_23 ?_
        refine lv_goto (tgt := 28) hx hb dX11_set_24 (by decide) ?_
        refine va_put (D := D) (ci := 8) (v := .double FP.dconst0) (ty := .double) (C := RX11) (T := TX11) (N := 9) hx hb hts iX11 tyX11 tyX11_ok nmX11 hown hK hP hD hS 0 rfl rfl 8 (by decide) (hw 2 (.fieldLink RX11 56 "NumberFormats" "value" "D") rfl) (fun _ h9 => h9) rfl (by decide +kernel) rfl rfl (Nat.le_of_ble_eq_true rfl) dX11_set_28 (fun H locs hP hD hS => ?_)
        have hP : va_P D vwCl [(h, .inr (8, [.ref h_tape, .ref h_text, .ref h_shower, .ref h_current, .ref h_spare, .int h_formatted, .int h_fed, .int h_illPlace, .double FP.dconst0]))] H := hP
        have hD : va_D A [(h, .inr (8, [.ref h_tape, .ref h_text, .ref h_shower, .ref h_current, .ref h_spare, .int h_formatted, .int h_fed, .int h_illPlace, .double FP.dconst0]))] := hD
        refine lv_iconst (v := 1) hx hb dX11_set_31 (by decide) ?_
        have hP9 := hP.sub (ws' := [(h, .inr (8, [.ref h_tape, .ref h_text, .ref h_shower, .ref h_current, .ref h_spare, .int h_formatted, .int h_fed, .int h_illPlace, .double FP.dconst0]))]) [0] rfl
        have hD9 := hD.sub (ws' := [(h, .inr (8, [.ref h_tape, .ref h_text, .ref h_shower, .ref h_current, .ref h_spare, .int h_formatted, .int h_fed, .int h_illPlace, .double FP.dconst0]))]) [0] (by decide) rfl
        exact W.zret (v := 1) hx hb hr rfl (fun t ht hW => ⟨⟨1, (FP.dconst0), rfl, (by subst_vars; (try dsimp only); exact Or.inl ⟨rfl, ⟨by omega, by omega⟩, by unfold nzd; split <;> first | rfl | contradiction⟩), by rw [ht]; exact hP9, va_K.moved hW.alike hK, hD9⟩, hS.F ht⟩) hS.2.2 dX11_set_32

def ow_X11_illAt : List Cond := [Cond.fieldLink RX11 37 "NumberFormats" "illPlace" "I"]
def pw_X11_illAt : List Cond := Cond.code yX11_illAt cX11_illAt 1 (some .int) :: (ow_X11_illAt ++ (wsX110))
set_option maxRecDepth 20000 in
theorem mo_X11_illAt : ∀ w ∈ ow_X11_illAt, w ∈ lw_tbl := by decide +kernel
set_option maxRecDepth 20000 in
theorem mc_X11_illAt : Cond.code yX11_illAt cX11_illAt 1 (some .int) ∈ lw_tbl := by decide +kernel
theorem m_X11_illAt : ∀ w ∈ pw_X11_illAt, w ∈ lw_tbl := List.forall_mem_cons.mpr ⟨mc_X11_illAt, (List.forall_mem_append.mpr ⟨mo_X11_illAt, inX11⟩)⟩
theorem ko_X11_illAt : ∀ w ∈ ow_X11_illAt, goodWord w = true := by decide +kernel
theorem k_X11_illAt : pw_X11_illAt.all goodWord = true := List.all_eq_true.mpr (List.forall_mem_cons.mpr ⟨by decide +kernel, (List.forall_mem_append.mpr ⟨ko_X11_illAt, kX_X11⟩)⟩)
set_option maxHeartbeats 400000 in
set_option maxRecDepth 100000 in
theorem c_X11_illAt (l : Launch) (D : va_G) (cI cD cJ : ClassId) (sz : Nat) (h : Nat) (h_tape : Nat) (h_text : Nat) (h_shower : Nat) (h_current : Nat) (h_spare : Nat) (h_formatted : Int32) (h_fed : Int32) (h_illPlace : Int32) (h_value : UInt64) : Met l yX11_illAt pw_X11_illAt ({ frames := 0, cells := 0, slots := 0, locals := 0 }) (va_Pc [.ref h] (fun U => va_P D vwCl [(h, .inr (8, [.ref h_tape, .ref h_text, .ref h_shower, .ref h_current, .ref h_spare, .int h_formatted, .int h_fed, .int h_illPlace, .double h_value]))] U.heap ∧ va_K D vwCl (ty3 cI cD cJ) U)) (va_Qi (fun (r : Int32) (u : Unit) => r = h_illPlace) (fun _ _ => True) (fun _ => False)) 0 0 (fun _ => False) := by
  refine Met.ofW (cc := cX11_illAt) (maxL := 1) (ret := (some .int)) (by decide) rfl ?_
  intro p e s m args below meth c s₁ B hml hv
  obtain ⟨rfl, hP, hK⟩ := hv
  have hx := B.exec
  have hb := B.bytes
  have hr := B.returns
  have hts := atoms_spec (ws := pw_X11_illAt) B.pre
  have hown : s.vm.findClass RX11 = some m.cls := findClass_of_methodNamed B.named
  have hlocks := B.notSynchronized
  have hS : va_S (fun _ => False) s.heap s.heap [] := va_S.rf
  have hw : ∀ (k : Nat) (w : Cond), ow_X11_illAt[k]? = some w → w.before _ s = true := fun k w h => hts w (List.mem_cons_of_mem _ (have h9 := List.mem_of_getElem? h; List.mem_append_left _ h9))
  have iX11 : ∀ w ∈ u_ws RX11 TX11 9, w ∈ pw_X11_illAt := fun w h9 => List.mem_cons_of_mem _ (List.mem_append_right _ (h9))
  have hl := lv_entry ([.ref h]) (n := 1) (Nat.le_of_ble_eq_true rfl)
  rw [lg_entry_eq]
  generalize (lg_sl ([.ref h]) ++ List.replicate (1 - (lg_sl ([.ref h])).length) Slot.unset).toArray = ls at hl ⊢
  have hl : lv_has ls 1 [(0, .ref h)] := hl
  refine lv_aload_n hx hb dX11_illAt_0 rfl (lv_at hl 0 rfl) ?_
  refine va_get (D := D) (ci := 8) (v := .int h_illPlace) (C := RX11) (T := TX11) (N := 9) hx hb hts iX11 hown hK hP 0 rfl rfl 7 (by decide) (hw 0 (.fieldLink RX11 37 "NumberFormats" "illPlace" "I") rfl) (fun _ h9 => h9) rfl dX11_illAt_1 ?_
  exact W.iret (v := h_illPlace) hx hb hr (fun t ht hW => ⟨⟨h_illPlace, (), rfl, (by first | exact rfl | (dsimp only; exact rfl)), trivial⟩, hS.F ht⟩) hS.2.2 dX11_illAt_4

def ow_X7_at : List Cond := [Cond.fieldLink RX7 25 "NumberFormats$Pen" "length" "I", Cond.fieldLink RX7 18 "NumberFormats$Pen" "row" "[I"]
def pw_X7_at : List Cond := Cond.code yX7_at cX7_at 2 (some .int) :: (ow_X7_at ++ (wsX70))
set_option maxRecDepth 20000 in
theorem mo_X7_at : ∀ w ∈ ow_X7_at, w ∈ lw_tbl := by decide +kernel
set_option maxRecDepth 20000 in
theorem mc_X7_at : Cond.code yX7_at cX7_at 2 (some .int) ∈ lw_tbl := by decide +kernel
theorem m_X7_at : ∀ w ∈ pw_X7_at, w ∈ lw_tbl := List.forall_mem_cons.mpr ⟨mc_X7_at, (List.forall_mem_append.mpr ⟨mo_X7_at, inX7⟩)⟩
theorem ko_X7_at : ∀ w ∈ ow_X7_at, goodWord w = true := by decide +kernel
theorem k_X7_at : pw_X7_at.all goodWord = true := List.all_eq_true.mpr (List.forall_mem_cons.mpr ⟨by decide +kernel, (List.forall_mem_append.mpr ⟨ko_X7_at, kX_X7⟩)⟩)
set_option maxHeartbeats 400000 in
set_option maxRecDepth 100000 in
theorem c_X7_at (l : Launch) (D : va_G) (cI cD cJ : ClassId) (sz : Nat) (pe : Nat) (pe_decimal : Nat) (pe_row : Nat) (pe_turned : Nat) (pe_length : Int32) (pe_slots : Int32) (pe_slotsPut : Int32) (pe_hidden : Int32) (pe_zeroSeen : Int32) (pe_groups : Int32) (rf : Nat → Int32) (k : Int32) : Met l yX7_at pw_X7_at ({ frames := 0, cells := 0, slots := 0, locals := 0 }) (va_Pc [.ref pe, .int k] (fun U => va_P D vwCl [(pe, .inr (5, [.ref pe_decimal, .ref pe_row, .ref pe_turned, .int pe_length, .int pe_slots, .int pe_slotsPut, .int pe_hidden, .int pe_zeroSeen, .int pe_groups])), (pe_row, .inl (cI, 1024, .inl rf))] U.heap ∧ va_K D vwCl (ty3 cI cD cJ) U)) (va_Qi (fun (r : Int32) (u : Unit) => ((k.toInt < 0 ∨ pe_length.toInt ≤ k.toInt ∨ 1024 ≤ k.toInt) → r.toInt = -1) ∧ (0 ≤ k.toInt → k.toInt < pe_length.toInt → k.toInt < 1024 → r = rf k.toNatClampNeg)) (fun _ _ => True) (fun _ => False)) 0 0 (fun _ => False) := by
  refine Met.ofW (cc := cX7_at) (maxL := 2) (ret := (some .int)) (by decide) rfl ?_
  intro p e s m args below meth c s₁ B hml hv
  obtain ⟨rfl, hP, hK⟩ := hv
  have hx := B.exec
  have hb := B.bytes
  have hr := B.returns
  have hts := atoms_spec (ws := pw_X7_at) B.pre
  have hown : s.vm.findClass RX7 = some m.cls := findClass_of_methodNamed B.named
  have hlocks := B.notSynchronized
  have hS : va_S (fun _ => False) s.heap s.heap [] := va_S.rf
  have hw : ∀ (k : Nat) (w : Cond), ow_X7_at[k]? = some w → w.before _ s = true := fun k w h => hts w (List.mem_cons_of_mem _ (have h9 := List.mem_of_getElem? h; List.mem_append_left _ h9))
  have iX7 : ∀ w ∈ u_ws RX7 TX7 9, w ∈ pw_X7_at := fun w h9 => List.mem_cons_of_mem _ (List.mem_append_right _ (h9))
  have n_m1 : (((-1) : Int32)).toInt = (-1) := by decide
  have n_0 : ((0 : Int32)).toInt = 0 := by decide
  have n_1024 : ((1024 : Int32)).toInt = 1024 := by decide
  have hl := lv_entry ([.ref pe, .int k]) (n := 2) (Nat.le_of_ble_eq_true rfl)
  rw [lg_entry_eq]
  generalize (lg_sl ([.ref pe, .int k]) ++ List.replicate (2 - (lg_sl ([.ref pe, .int k])).length) Slot.unset).toArray = ls at hl ⊢
  have hl : lv_has ls 2 [(0, .ref pe), (1, .int k)] := hl
  have b_k := ti_b k
  refine lv_iload_n hx hb dX7_at_0 rfl (lv_at hl 1 rfl) ?_
  refine lv_if_lt (tgt := 30) hx hb dX7_at_1 (by decide) (fun c_1 => ?_) (fun c_1 => ?_)
  · have ic_1 : (k : Int32).toInt < (0 : Int32).toInt := (fa_lt k 0).mp c_1
    refine lv_iconst (v := (-1)) hx hb dX7_at_30 (by decide) ?_
    exact W.iret (v := (-1)) hx hb hr (fun t ht hW => ⟨⟨(-1), (), rfl, (by subst_vars; (try dsimp only); exact ⟨fun h9 => by first | omega | rfl, fun h7 h8 h9 => by first | rfl | (exfalso; omega)⟩), trivial⟩, hS.F ht⟩) hS.2.2 dX7_at_31
  · have ic_1 : ¬ ((k : Int32).toInt < (0 : Int32).toInt) := fun h9 => c_1 ((fa_lt k 0).mpr h9)
    refine lv_iload_n hx hb dX7_at_4 rfl (lv_at hl 1 rfl) ?_
    refine lv_aload_n hx hb dX7_at_5 rfl (lv_at hl 0 rfl) ?_
    refine va_get (D := D) (ci := 5) (v := .int pe_length) (C := RX7) (T := TX7) (N := 9) hx hb hts iX7 hown hK hP 0 rfl rfl 3 (by decide) (hw 0 (.fieldLink RX7 25 "NumberFormats$Pen" "length" "I") rfl) (fun _ h9 => h9) rfl dX7_at_6 ?_
    refine lv_icmp_ge (tgt := 30) hx hb dX7_at_9 (by decide) (fun c_2 => ?_) (fun c_2 => ?_)
    · have ic_2 : (pe_length : Int32).toInt ≤ (k : Int32).toInt := (fa_le pe_length k).mp c_2
      refine lv_iconst (v := (-1)) hx hb dX7_at_30 (by decide) ?_
      exact W.iret (v := (-1)) hx hb hr (fun t ht hW => ⟨⟨(-1), (), rfl, (by subst_vars; (try dsimp only); exact ⟨fun h9 => by first | omega | rfl, fun h7 h8 h9 => by first | rfl | (exfalso; omega)⟩), trivial⟩, hS.F ht⟩) hS.2.2 dX7_at_31
    · have ic_2 : ¬ ((pe_length : Int32).toInt ≤ (k : Int32).toInt) := fun h9 => c_2 ((fa_le pe_length k).mpr h9)
      refine lv_iload_n hx hb dX7_at_12 rfl (lv_at hl 1 rfl) ?_
      refine lv_aload_n hx hb dX7_at_13 rfl (lv_at hl 0 rfl) ?_
      refine va_get (D := D) (ci := 5) (v := .ref pe_row) (C := RX7) (T := TX7) (N := 9) hx hb hts iX7 hown hK hP 0 rfl rfl 1 (by decide) (hw 1 (.fieldLink RX7 18 "NumberFormats$Pen" "row" "[I") rfl) (fun _ h9 => h9) rfl dX7_at_14 ?_
      refine va_alen hx hb hK hP 1 0 rfl rfl (v := 1024) rfl dX7_at_17 ?_
      refine lv_icmp_ge (tgt := 30) hx hb dX7_at_18 (by decide) (fun c_3 => ?_) (fun c_3 => ?_)
      · have ic_3 : (1024 : Int32).toInt ≤ (k : Int32).toInt := (fa_le 1024 k).mp c_3
        refine lv_iconst (v := (-1)) hx hb dX7_at_30 (by decide) ?_
        exact W.iret (v := (-1)) hx hb hr (fun t ht hW => ⟨⟨(-1), (), rfl, (by subst_vars; (try dsimp only); exact ⟨fun h9 => by first | omega | rfl, fun h7 h8 h9 => by first | rfl | (exfalso; omega)⟩), trivial⟩, hS.F ht⟩) hS.2.2 dX7_at_31
      · have ic_3 : ¬ ((1024 : Int32).toInt ≤ (k : Int32).toInt) := fun h9 => c_3 ((fa_le 1024 k).mpr h9)
        refine lv_aload_n hx hb dX7_at_21 rfl (lv_at hl 0 rfl) ?_
        refine va_get (D := D) (ci := 5) (v := .ref pe_row) (C := RX7) (T := TX7) (N := 9) hx hb hts iX7 hown hK hP 0 rfl rfl 1 (by decide) (hw 1 (.fieldLink RX7 18 "NumberFormats$Pen" "row" "[I") rfl) (fun _ h9 => h9) rfl dX7_at_22 ?_
        refine lv_iload_n hx hb dX7_at_25 rfl (lv_at hl 1 rfl) ?_
        have h_26 : vp_in k 1024 := by rw [vp_in_iff]; omega
        refine va_iald hx hb hK hP 1 0 rfl rfl h_26 dX7_at_26 ?_
        refine lv_topi (fun x_4 ex_4 => ?_)
        refine lv_goto (tgt := 31) hx hb dX7_at_27 (by decide) ?_
        exact W.iret (v := x_4) hx hb hr (fun t ht hW => ⟨⟨x_4, (), rfl, (by subst_vars; (try dsimp only); exact ⟨fun h9 => by first | omega | rfl, fun h7 h8 h9 => by first | rfl | (exfalso; omega)⟩), trivial⟩, hS.F ht⟩) hS.2.2 dX7_at_31

def ow_X9_signAt : List Cond := [Cond.fieldLink RX9 12 "NumberFormats$Shower" "pen" "LNumberFormats$Pen;", Cond.methodLink RX9 39 yX7_at, Cond.instanceMethod yX7_at, Cond.selects RX7 yX7_at yX7_at, Cond.initialized RX7]
def pw_X9_signAt : List Cond := Cond.code yX9_signAt cX9_signAt 2 (some .int) :: (ow_X9_signAt ++ (pw_X7_at ++ (wsX90)))
set_option maxRecDepth 20000 in
theorem mo_X9_signAt : ∀ w ∈ ow_X9_signAt, w ∈ lw_tbl := by decide +kernel
set_option maxRecDepth 20000 in
theorem mc_X9_signAt : Cond.code yX9_signAt cX9_signAt 2 (some .int) ∈ lw_tbl := by decide +kernel
theorem m_X9_signAt : ∀ w ∈ pw_X9_signAt, w ∈ lw_tbl := List.forall_mem_cons.mpr ⟨mc_X9_signAt, (List.forall_mem_append.mpr ⟨mo_X9_signAt, (List.forall_mem_append.mpr ⟨m_X7_at, inX9⟩)⟩)⟩
theorem ko_X9_signAt : ∀ w ∈ ow_X9_signAt, goodWord w = true := by decide +kernel
theorem k_X9_signAt : pw_X9_signAt.all goodWord = true := List.all_eq_true.mpr (List.forall_mem_cons.mpr ⟨by decide +kernel, (List.forall_mem_append.mpr ⟨ko_X9_signAt, (List.forall_mem_append.mpr ⟨(List.all_eq_true.mp k_X7_at), kX_X9⟩)⟩)⟩)
set_option maxHeartbeats 400000 in
set_option maxRecDepth 100000 in
theorem c_X9_signAt (l : Launch) (D : va_G) (cI cD cJ : ClassId) (sz : Nat) (w : Nat) (pe : Nat) (w_numberView : Nat) (w_fractionView : Nat) (w_dateView : Nat) (pe_decimal : Nat) (pe_row : Nat) (pe_turned : Nat) (pe_length : Int32) (pe_slots : Int32) (pe_slotsPut : Int32) (pe_hidden : Int32) (pe_zeroSeen : Int32) (pe_groups : Int32) (rf : Nat → Int32) (k : Int32) : Met l yX9_signAt pw_X9_signAt ({ frames := 1, cells := 0, slots := 0, locals := 21 }) (va_Pc [.ref w, .int k] (fun U => va_P D vwCl [(w, .inr (6, [.ref pe, .ref w_numberView, .ref w_fractionView, .ref w_dateView])), (pe, .inr (5, [.ref pe_decimal, .ref pe_row, .ref pe_turned, .int pe_length, .int pe_slots, .int pe_slotsPut, .int pe_hidden, .int pe_zeroSeen, .int pe_groups])), (pe_row, .inl (cI, 1024, .inl rf))] U.heap ∧ va_K D vwCl (ty3 cI cD cJ) U)) (va_Qi (fun (r : Int32) (u : Unit) => ((k.toInt < 0 ∨ pe_length.toInt ≤ k.toInt ∨ 1024 ≤ k.toInt) → r.toInt = -1) ∧ (0 ≤ k.toInt → k.toInt < pe_length.toInt → k.toInt < 1024 → r = rf k.toNatClampNeg)) (fun _ _ => True) (fun _ => False)) 0 0 (fun _ => False) := by
  refine Met.ofW (cc := cX9_signAt) (maxL := 2) (ret := (some .int)) (by decide) rfl ?_
  intro p e s m args below meth c s₁ B hml hv
  obtain ⟨rfl, hP, hK⟩ := hv
  have hx := B.exec
  have hb := B.bytes
  have hr := B.returns
  have hts := atoms_spec (ws := pw_X9_signAt) B.pre
  have hown : s.vm.findClass RX9 = some m.cls := findClass_of_methodNamed B.named
  have hlocks := B.notSynchronized
  have hS : va_S (fun _ => False) s.heap s.heap [] := va_S.rf
  have hw : ∀ (k : Nat) (w : Cond), ow_X9_signAt[k]? = some w → w.before _ s = true := fun k w h => hts w (List.mem_cons_of_mem _ (have h9 := List.mem_of_getElem? h; List.mem_append_left _ h9))
  have i_X7_at : ∀ w ∈ pw_X7_at, w ∈ pw_X9_signAt := fun w h9 => List.mem_cons_of_mem _ (List.mem_append_right _ (List.mem_append_left _ h9))
  have iX9 : ∀ w ∈ u_ws RX9 TX9 4, w ∈ pw_X9_signAt := fun w h9 => List.mem_cons_of_mem _ (List.mem_append_right _ (List.mem_append_right _ (h9)))
  have hl := lv_entry ([.ref w, .int k]) (n := 2) (Nat.le_of_ble_eq_true rfl)
  rw [lg_entry_eq]
  generalize (lg_sl ([.ref w, .int k]) ++ List.replicate (2 - (lg_sl ([.ref w, .int k])).length) Slot.unset).toArray = ls at hl ⊢
  have hl : lv_has ls 2 [(0, .ref w), (1, .int k)] := hl
  have b_k := ti_b k
  refine lv_aload_n hx hb dX9_signAt_0 rfl (lv_at hl 0 rfl) ?_
  refine va_get (D := D) (ci := 6) (v := .ref pe) (C := RX9) (T := TX9) (N := 4) hx hb hts iX9 hown hK hP 0 rfl rfl 0 (by decide) (hw 0 (.fieldLink RX9 12 "NumberFormats$Shower" "pen" "LNumberFormats$Pen;") rfl) (fun _ h9 => h9) rfl dX9_signAt_1 ?_
  refine lv_iload_n hx hb dX9_signAt_4 rfl (lv_at hl 1 rfl) ?_
  have hPc := hP.sub (ws' := [(pe, .inr (5, [.ref pe_decimal, .ref pe_row, .ref pe_turned, .int pe_length, .int pe_slots, .int pe_slotsPut, .int pe_hidden, .int pe_zeroSeen, .int pe_groups])), (pe_row, .inl (cI, 1024, .inl rf))]) [1, 2] rfl
  refine va_calli (va_runV (As := [.int k]) (rest := []) ⟨hx, hb, hml, hown, hts⟩ (c_X7_at l D cI cD cJ s.heap.size pe pe_decimal pe_row pe_turned pe_length pe_slots pe_slotsPut pe_hidden pe_zeroSeen pe_groups rf k) (cwV 1 hts (goodIn_app (goodIn_r _ [2, 3, 4, 5] rfl (by decide +kernel)) (goodIn_sub i_X7_at k_X7_at)) rfl rfl rfl (by decide +kernel) ⟨Nat.le_of_ble_eq_true rfl, Nat.le_of_ble_eq_true rfl⟩) ⟨fun a U g mk q => by obtain ⟨q0, qP, qK⟩ := q; exact ⟨q0, qP, va_K.moved (u := U) (U := U.calling g mk a) (Vm.Alike.refl U.vm) qK⟩, va_recv hK hPc (ci := 5) (q0 := 0) rfl rfl, fun U hU hW => ⟨rfl, by rw [hU]; exact hPc, va_K.moved hW.alike hK⟩⟩ rfl rfl hl.1 rfl (lv_room (Nat.le_of_ble_eq_true rfl)) dX9_signAt_5 ⟨Nat.le_of_ble_eq_true rfl, Nat.le_of_ble_eq_true rfl⟩) hS (fun q _ h => h.elim) (fun q h => h.elim) (fun x_1 u t H1 locs ht hvm w_2 hB hz1 hk1 hS => ?_)
  have hP : va_P D vwCl [(w, .inr (6, [.ref pe, .ref w_numberView, .ref w_fractionView, .ref w_dateView])), (pe, .inr (5, [.ref pe_decimal, .ref pe_row, .ref pe_turned, .int pe_length, .int pe_slots, .int pe_slotsPut, .int pe_hidden, .int pe_zeroSeen, .int pe_groups])), (pe_row, .inl (cI, 1024, .inl rf))] H1 := hP.kept (fun k9 q9 h9 => hk1 q9.1 (vx_lt hP h9) (fun h => h))
  generalize H1 = H at hP hS ⊢
  try dsimp only at w_2
  exact W.iret (v := x_1) hx hb hr (fun t ht hW => ⟨⟨x_1, (), rfl, (by assumption), trivial⟩, hS.F ht⟩) hS.2.2 dX9_signAt_8

def ow_X11_output : List Cond := [Cond.fieldLink RX11 23 "NumberFormats" "shower" "LNumberFormats$Shower;", Cond.methodLink RX11 108 yX9_signAt, Cond.instanceMethod yX9_signAt, Cond.selects RX9 yX9_signAt yX9_signAt, Cond.initialized RX9]
def pw_X11_output : List Cond := Cond.code yX11_output cX11_output 2 (some .int) :: (ow_X11_output ++ (pw_X9_signAt ++ (wsX110)))
set_option maxRecDepth 20000 in
theorem mo_X11_output : ∀ w ∈ ow_X11_output, w ∈ lw_tbl := by decide +kernel
set_option maxRecDepth 20000 in
theorem mc_X11_output : Cond.code yX11_output cX11_output 2 (some .int) ∈ lw_tbl := by decide +kernel
theorem m_X11_output : ∀ w ∈ pw_X11_output, w ∈ lw_tbl := List.forall_mem_cons.mpr ⟨mc_X11_output, (List.forall_mem_append.mpr ⟨mo_X11_output, (List.forall_mem_append.mpr ⟨m_X9_signAt, inX11⟩)⟩)⟩
theorem ko_X11_output : ∀ w ∈ ow_X11_output, goodWord w = true := by decide +kernel
theorem k_X11_output : pw_X11_output.all goodWord = true := List.all_eq_true.mpr (List.forall_mem_cons.mpr ⟨by decide +kernel, (List.forall_mem_append.mpr ⟨ko_X11_output, (List.forall_mem_append.mpr ⟨(List.all_eq_true.mp k_X9_signAt), kX_X11⟩)⟩)⟩)
set_option maxHeartbeats 400000 in
set_option maxRecDepth 100000 in
theorem c_X11_output (l : Launch) (D : va_G) (cI cD cJ : ClassId) (sz : Nat) (h : Nat) (w : Nat) (pe : Nat) (h_tape : Nat) (h_text : Nat) (h_current : Nat) (h_spare : Nat) (h_formatted : Int32) (h_fed : Int32) (h_illPlace : Int32) (h_value : UInt64) (w_numberView : Nat) (w_fractionView : Nat) (w_dateView : Nat) (pe_decimal : Nat) (pe_row : Nat) (pe_turned : Nat) (pe_length : Int32) (pe_slots : Int32) (pe_slotsPut : Int32) (pe_hidden : Int32) (pe_zeroSeen : Int32) (pe_groups : Int32) (rf : Nat → Int32) (k : Int32) : Met l yX11_output pw_X11_output ({ frames := 2, cells := 0, slots := 0, locals := 42 }) (va_Pc [.ref h, .int k] (fun U => va_P D vwCl [(h, .inr (8, [.ref h_tape, .ref h_text, .ref w, .ref h_current, .ref h_spare, .int h_formatted, .int h_fed, .int h_illPlace, .double h_value])), (w, .inr (6, [.ref pe, .ref w_numberView, .ref w_fractionView, .ref w_dateView])), (pe, .inr (5, [.ref pe_decimal, .ref pe_row, .ref pe_turned, .int pe_length, .int pe_slots, .int pe_slotsPut, .int pe_hidden, .int pe_zeroSeen, .int pe_groups])), (pe_row, .inl (cI, 1024, .inl rf))] U.heap ∧ va_K D vwCl (ty3 cI cD cJ) U)) (va_Qi (fun (r : Int32) (u : Unit) => ((k.toInt < 0 ∨ pe_length.toInt ≤ k.toInt ∨ 1024 ≤ k.toInt) → r.toInt = -1) ∧ (0 ≤ k.toInt → k.toInt < pe_length.toInt → k.toInt < 1024 → r = rf k.toNatClampNeg)) (fun _ _ => True) (fun _ => False)) 0 0 (fun _ => False) := by
  refine Met.ofW (cc := cX11_output) (maxL := 2) (ret := (some .int)) (by decide) rfl ?_
  intro p e s m args below meth c s₁ B hml hv
  obtain ⟨rfl, hP, hK⟩ := hv
  have hx := B.exec
  have hb := B.bytes
  have hr := B.returns
  have hts := atoms_spec (ws := pw_X11_output) B.pre
  have hown : s.vm.findClass RX11 = some m.cls := findClass_of_methodNamed B.named
  have hlocks := B.notSynchronized
  have hS : va_S (fun _ => False) s.heap s.heap [] := va_S.rf
  have hw : ∀ (k : Nat) (w : Cond), ow_X11_output[k]? = some w → w.before _ s = true := fun k w h => hts w (List.mem_cons_of_mem _ (have h9 := List.mem_of_getElem? h; List.mem_append_left _ h9))
  have i_X9_signAt : ∀ w ∈ pw_X9_signAt, w ∈ pw_X11_output := fun w h9 => List.mem_cons_of_mem _ (List.mem_append_right _ (List.mem_append_left _ h9))
  have iX11 : ∀ w ∈ u_ws RX11 TX11 9, w ∈ pw_X11_output := fun w h9 => List.mem_cons_of_mem _ (List.mem_append_right _ (List.mem_append_right _ (h9)))
  have hl := lv_entry ([.ref h, .int k]) (n := 2) (Nat.le_of_ble_eq_true rfl)
  rw [lg_entry_eq]
  generalize (lg_sl ([.ref h, .int k]) ++ List.replicate (2 - (lg_sl ([.ref h, .int k])).length) Slot.unset).toArray = ls at hl ⊢
  have hl : lv_has ls 2 [(0, .ref h), (1, .int k)] := hl
  have b_k := ti_b k
  refine lv_aload_n hx hb dX11_output_0 rfl (lv_at hl 0 rfl) ?_
  refine va_get (D := D) (ci := 8) (v := .ref w) (C := RX11) (T := TX11) (N := 9) hx hb hts iX11 hown hK hP 0 rfl rfl 2 (by decide) (hw 0 (.fieldLink RX11 23 "NumberFormats" "shower" "LNumberFormats$Shower;") rfl) (fun _ h9 => h9) rfl dX11_output_1 ?_
  refine lv_iload_n hx hb dX11_output_4 rfl (lv_at hl 1 rfl) ?_
  have hPc := hP.sub (ws' := [(w, .inr (6, [.ref pe, .ref w_numberView, .ref w_fractionView, .ref w_dateView])), (pe, .inr (5, [.ref pe_decimal, .ref pe_row, .ref pe_turned, .int pe_length, .int pe_slots, .int pe_slotsPut, .int pe_hidden, .int pe_zeroSeen, .int pe_groups])), (pe_row, .inl (cI, 1024, .inl rf))]) [1, 2, 3] rfl
  refine va_calli (va_runV (As := [.int k]) (rest := []) ⟨hx, hb, hml, hown, hts⟩ (c_X9_signAt l D cI cD cJ s.heap.size w pe w_numberView w_fractionView w_dateView pe_decimal pe_row pe_turned pe_length pe_slots pe_slotsPut pe_hidden pe_zeroSeen pe_groups rf k) (cwV 1 hts (goodIn_app (goodIn_r _ [2, 3, 4, 5] rfl (by decide +kernel)) (goodIn_sub i_X9_signAt k_X9_signAt)) rfl rfl rfl (by decide +kernel) ⟨Nat.le_of_ble_eq_true rfl, Nat.le_of_ble_eq_true rfl⟩) ⟨fun a U g mk q => by obtain ⟨q0, qP, qK⟩ := q; exact ⟨q0, qP, va_K.moved (u := U) (U := U.calling g mk a) (Vm.Alike.refl U.vm) qK⟩, va_recv hK hPc (ci := 6) (q0 := 0) rfl rfl, fun U hU hW => ⟨rfl, by rw [hU]; exact hPc, va_K.moved hW.alike hK⟩⟩ rfl rfl hl.1 rfl (lv_room (Nat.le_of_ble_eq_true rfl)) dX11_output_5 ⟨Nat.le_of_ble_eq_true rfl, Nat.le_of_ble_eq_true rfl⟩) hS (fun q _ h => h.elim) (fun q h => h.elim) (fun x_1 u t H1 locs ht hvm w_2 hB hz1 hk1 hS => ?_)
  have hP : va_P D vwCl [(h, .inr (8, [.ref h_tape, .ref h_text, .ref w, .ref h_current, .ref h_spare, .int h_formatted, .int h_fed, .int h_illPlace, .double h_value])), (w, .inr (6, [.ref pe, .ref w_numberView, .ref w_fractionView, .ref w_dateView])), (pe, .inr (5, [.ref pe_decimal, .ref pe_row, .ref pe_turned, .int pe_length, .int pe_slots, .int pe_slotsPut, .int pe_hidden, .int pe_zeroSeen, .int pe_groups])), (pe_row, .inl (cI, 1024, .inl rf))] H1 := hP.kept (fun k9 q9 h9 => hk1 q9.1 (vx_lt hP h9) (fun h => h))
  generalize H1 = H at hP hS ⊢
  try dsimp only at w_2
  exact W.iret (v := x_1) hx hb hr (fun t ht hW => ⟨⟨x_1, (), rfl, (by assumption), trivial⟩, hS.F ht⟩) hS.2.2 dX11_output_8

