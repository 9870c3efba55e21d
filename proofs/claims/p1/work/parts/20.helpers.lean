def ow_X11_show : List Cond := [Cond.classLink RX11 95 isE, Cond.initialized isE, Cond.fieldLink RX11 87 "NumberFormats" "formatted" "Z"]
def pw_X11_show : List Cond := Cond.code yX11_show cX11_show 1 (some .int) :: (ow_X11_show ++ (xgL ++ wsX110))
theorem mo_X11_show : ∀ w ∈ ow_X11_show, w ∈ lw_tbl := by decide +kernel
theorem mc_X11_show : Cond.code yX11_show cX11_show 1 (some .int) ∈ lw_tbl := by decide +kernel
theorem m_X11_show : ∀ w ∈ pw_X11_show, w ∈ lw_tbl := List.forall_mem_cons.mpr ⟨mc_X11_show, List.forall_mem_append.mpr ⟨mo_X11_show, List.forall_mem_append.mpr ⟨exc_m, inX11⟩⟩⟩
theorem ko_X11_show : ∀ w ∈ ow_X11_show, goodWord w = true := by decide +kernel
theorem k_X11_show : pw_X11_show.all goodWord = true := List.all_eq_true.mpr (List.forall_mem_cons.mpr ⟨by decide +kernel, List.forall_mem_append.mpr ⟨ko_X11_show, List.forall_mem_append.mpr ⟨exc_k, kX_X11⟩⟩⟩)
set_option maxHeartbeats 400000 in
set_option maxRecDepth 100000 in
theorem c_X11_show0 (l : Launch) (hst : l.stackTraces = false) (D : va_G) (cI cD cJ : ClassId) (h : Nat) (h_tape : Nat) (h_text : Nat) (h_shower : Nat) (h_current : Nat) (h_spare : Nat) (h_fed : Int32) (h_illPlace : Int32) (h_value : UInt64) (sa : Nat) : vx_Met l yX11_show pw_X11_show ({ frames := 6, cells := 1, slots := 6, locals := 82 }) (va_Pc [.ref h] (fun U => va_P D vwCl [(h, .inr (8, [.ref h_tape, .ref h_text, .ref h_shower, .ref h_current, .ref h_spare, .int 0, .int h_fed, .int h_illPlace, .double h_value]))] U.heap ∧ va_K D vwCl (ty3 cI cD cJ) U ∧ EXC (fun _ => False) sa U U.heap)) (va_Qi (fun (_ : Int32) (_ : Unit) => False) (fun _ _ => True) (fun _ => False)) (vx_X (fun (_ : Unit) => True) (fun (E : String) (_ : Unit) (_ : State) => E = isE) (fun _ => False)) 1 6 (fun _ => False) := by
  refine vx_ofW (cc := cX11_show) (maxL := 1) (ret := (some .int)) (by decide) rfl ?_
  intro p e s m args below meth c s₁ B hml htab hv
  obtain ⟨rfl, hP, hK, hE⟩ := hv
  have hx := B.exec
  have hb := B.bytes
  have hr := B.returns
  have hts := atoms_spec (ws := pw_X11_show) B.pre
  have hown : s.vm.findClass RX11 = some m.cls := findClass_of_methodNamed B.named
  have hlocks := B.notSynchronized
  have hS : va_S (fun _ => False) s.heap s.heap [] := va_S.rf
  have hw : ∀ (k : Nat) (w : Cond), ow_X11_show[k]? = some w → w.before _ s = true := fun k w h => hts w (List.mem_cons_of_mem _ (have h9 := List.mem_of_getElem? h; List.mem_append_left _ h9))
  have hxg : ∀ w ∈ xgL, w.before _ s = true := fun w h => hts w (List.mem_cons_of_mem _ (List.mem_append_right _ (List.mem_append_left _ h)))
  have iX11 : ∀ w ∈ u_ws RX11 TX11 9, w ∈ pw_X11_show := fun w h9 => List.mem_cons_of_mem _ (List.mem_append_right _ (List.mem_append_right _ h9))
  have n_0 : ((0 : Int32)).toInt = 0 := by decide
  have hl := lv_entry ([.ref h]) (n := 1) (Nat.le_of_ble_eq_true rfl)
  rw [lg_entry_eq]
  generalize (lg_sl ([.ref h]) ++ List.replicate (1 - (lg_sl ([.ref h])).length) Slot.unset).toArray = ls at hl ⊢
  have hl : lv_has ls 1 [(0, .ref h)] := hl
  refine lv_aload_n hx hb dX11_show_0 rfl (lv_at hl 0 rfl) ?_
  refine va_get (D := D) (ci := 8) (v := .int 0) (C := RX11) (T := TX11) (N := 9) hx hb hts iX11 hown hK hP 0 rfl rfl 5 (by decide) (hw 2 (.fieldLink RX11 87 "NumberFormats" "formatted" "Z") rfl) (fun _ h9 => h9) rfl dX11_show_1 ?_
  refine lv_if_ne (tgt := 17) hx hb dX11_show_4 (by decide) (fun h0 => absurd rfl h0) (fun _ => ?_)
  obtain ⟨e1, e2, e3, e4, e5⟩ := hE
  exact vx_throwS hx hb hst (own := RX11) (cls := isE) (text := "there is no format") (names := isN) (ik := 95) (is := 97) (ic := 99) (sa := sa) (A := fun _ => False) hown (by decide +kernel) (by decide +kernel) (hw 0 (.classLink RX11 95 isE) rfl) (hw 1 (.initialized isE) rfl) e1 (exc_hat hxg e5) exc_g e2 e3 hS (hl.1.trans hml.symm) dX11_show_7 dX11_show_10 dX11_show_11 dX11_show_13 dX11_show_16 (fun x hx => (htab x hx).elim) (Nat.le_of_ble_eq_true rfl) (Nat.le_of_ble_eq_true rfl) (Nat.le_of_ble_eq_true rfl) (Nat.le_of_ble_eq_true rfl) hlocks (fun t h1 h2 h3 => ⟨(), trivial, rfl, h2, fun q h4 _ => h3 q h4⟩) (fun z hz => absurd hz List.not_mem_nil) (Nat.le_refl _) (Nat.le_refl _)

def ow_L_show : List Cond := [Cond.classLink RL 18 isE, Cond.methodLink RL 15 yX11_show, Cond.instanceMethod yX11_show, Cond.selects RX11 yX11_show yX11_show, Cond.initialized RX11]
def pw_L_show : List Cond := Cond.codeWith yL_show cL_show 3 (some .int) [(0, 8, 11, 18)] :: (ow_L_show ++ pw_X11_show)
theorem mo_L_show : ∀ w ∈ ow_L_show, w ∈ lw_tbl := by decide +kernel
theorem mc_L_show : Cond.codeWith yL_show cL_show 3 (some .int) [(0, 8, 11, 18)] ∈ lw_tbl := by decide +kernel
theorem m_L_show : ∀ w ∈ pw_L_show, w ∈ lw_tbl := List.forall_mem_cons.mpr ⟨mc_L_show, List.forall_mem_append.mpr ⟨mo_L_show, m_X11_show⟩⟩
theorem ko_L_show : ∀ w ∈ ow_L_show, goodWord w = true := by decide +kernel
theorem k_L_show : pw_L_show.all goodWord = true := List.all_eq_true.mpr (List.forall_mem_cons.mpr ⟨by decide +kernel, List.forall_mem_append.mpr ⟨ko_L_show, List.all_eq_true.mp k_X11_show⟩⟩)
set_option maxHeartbeats 400000 in
set_option maxRecDepth 100000 in
theorem c_L_show0 (l : Launch) (hst : l.stackTraces = false) (D : va_G) (cI cD cJ : ClassId) (sz : Nat) (h : Nat) (h_tape : Nat) (h_text : Nat) (h_shower : Nat) (h_current : Nat) (h_spare : Nat) (h_fed : Int32) (h_illPlace : Int32) (h_value : UInt64) (o : Nat) (sa : Nat) : Met l yL_show pw_L_show ({ frames := 7, cells := 1, slots := 6, locals := 102 }) (va_Pc [.ref h, .ref o] (fun U => va_P D vwCl [(h, .inr (8, [.ref h_tape, .ref h_text, .ref h_shower, .ref h_current, .ref h_spare, .int 0, .int h_fed, .int h_illPlace, .double h_value]))] U.heap ∧ va_K D vwCl (ty3 cI cD cJ) U ∧ EXC (fun _ => False) sa U U.heap)) (va_Qi (fun (r : Int32) (u : Unit) => r = 1) (fun _ _ => True) (fun _ => False)) 1 6 (fun _ => False) := by
  refine vx_toMet (vx_ofWH (XC := fun _ _ _ => False) (cc := cL_show) (maxL := 3) (ret := (some .int)) (hh := [(0, 8, 11, 18)]) (by decide) rfl ?_)
  intro p e s m args below meth c s₁ B hml hv
  obtain ⟨rfl, hP, hK, hE0⟩ := hv
  have hx := B.exec
  have hb := B.bytes
  have hr := B.returns
  have hts := atoms_spec (ws := pw_L_show) B.pre
  have hown : s.vm.findClass RL = some m.cls := findClass_of_methodNamed B.named
  have hlocks := B.notSynchronized
  have htb := vx_table (x := yL_show) B (hts _ List.mem_cons_self)
  have hS : va_S (fun _ => False) s.heap s.heap [] := va_S.rf
  have hw : ∀ (k : Nat) (w : Cond), ow_L_show[k]? = some w → w.before _ s = true := fun k w h => hts w (List.mem_cons_of_mem _ (have h9 := List.mem_of_getElem? h; List.mem_append_left _ h9))
  have i_X11_show : ∀ w ∈ pw_X11_show, w ∈ pw_L_show := fun w h9 => List.mem_cons_of_mem _ (List.mem_append_right _ h9)
  have hl := lv_entry ([.ref h, .ref o]) (n := 3) (Nat.le_of_ble_eq_true rfl)
  rw [lg_entry_eq]
  generalize (lg_sl ([.ref h, .ref o]) ++ List.replicate (3 - (lg_sl ([.ref h, .ref o])).length) Slot.unset).toArray = ls at hl ⊢
  have hl : lv_has ls 3 [(0, .ref h), (1, .ref o)] := hl
  refine lv_aload_n hx hb dL_show_0 rfl (lv_at hl 1 rfl) ?_
  refine lv_iconst (v := 0) hx hb dL_show_1 (by decide) ?_
  refine lv_aload_n hx hb dL_show_2 rfl (lv_at hl 0 rfl) ?_
  have hPc := hP.sub (ws' := [(h, .inr (8, [.ref h_tape, .ref h_text, .ref h_shower, .ref h_current, .ref h_spare, .int 0, .int h_fed, .int h_illPlace, .double h_value]))]) [0] rfl
  refine vx_calli (vx_runV (As := []) (rest := [.int 0, .ref o]) ⟨hx, hb, hml, hown, hts⟩ (c_X11_show0 l hst D cI cD cJ h h_tape h_text h_shower h_current h_spare h_fed h_illPlace h_value sa) (cwV 0 hts (goodIn_app (goodIn_r _ [2, 3, 4, 5] rfl (by decide +kernel)) (goodIn_sub i_X11_show k_X11_show)) rfl rfl rfl (by decide +kernel) ⟨Nat.le_of_ble_eq_true rfl, Nat.le_of_ble_eq_true rfl⟩) ⟨fun a U g mk q => by obtain ⟨q0, qP, qK, qE⟩ := q; exact ⟨q0, qP, va_K.moved (u := U) (U := U.calling g mk a) (Vm.Alike.refl U.vm) qK, EXC.same qE rfl⟩, va_recv hK hPc (ci := 8) (q0 := 0) rfl rfl, fun U hU hW => ⟨rfl, by rw [hU]; exact hPc, va_K.moved hW.alike hK, by rw [hU]; exact EXC.warm hW hE0 hS⟩⟩ rfl rfl hl.1 rfl (lv_room (Nat.le_of_ble_eq_true rfl)) dL_show_3 ⟨Nat.le_of_ble_eq_true rfl, Nat.le_of_ble_eq_true rfl⟩) hS (fun q _ h => h.elim) (fun q h => h.elim) (fun q _ h => h.elim) (fun E ce q9 u t H1 locs ht hvm hpx hBX hz1 hk1 hS hce hcv hcl => ?_) (fun r u t H1 locs ht hvm hq => hq.elim)
  have hE9 : E = isE := hBX
  subst hE9
  refine vx_catch hown [] ⟨0, 8, 11, 18⟩ [] (by rw [htb]; rfl) (fun z hz => absurd hz List.not_mem_nil) (by decide) (by decide) (hw 0 (.classLink RL 18 isE) rfl) (va_Nw.use rfl hE0.2.2.2.1) hce hcv hcl ?_
  refine lv_astore_n (lv' := [(2, .ref q9), (0, .ref h), (1, .ref o)]) hx hb dL_show_11 rfl hl (by decide) rfl (fun ls hl => ?_)
  refine lv_iconst (v := 1) hx hb dL_show_12 (by decide) ?_
  refine vx_ret ?_
  exact W.iret (v := 1) hx hb hr (fun t ht hW => ⟨⟨1, (), rfl, rfl, trivial⟩, hS.F ht⟩) hS.2.2 dL_show_13

def ow_X11_showText : List Cond := [Cond.classLink RX11 95 isE, Cond.initialized isE, Cond.fieldLink RX11 87 "NumberFormats" "formatted" "Z"]
def pw_X11_showText : List Cond := Cond.code yX11_showText cX11_showText 1 (some .int) :: (ow_X11_showText ++ (xgL ++ wsX110))
theorem mo_X11_showText : ∀ w ∈ ow_X11_showText, w ∈ lw_tbl := by decide +kernel
theorem mc_X11_showText : Cond.code yX11_showText cX11_showText 1 (some .int) ∈ lw_tbl := by decide +kernel
theorem m_X11_showText : ∀ w ∈ pw_X11_showText, w ∈ lw_tbl := List.forall_mem_cons.mpr ⟨mc_X11_showText, List.forall_mem_append.mpr ⟨mo_X11_showText, List.forall_mem_append.mpr ⟨exc_m, inX11⟩⟩⟩
theorem ko_X11_showText : ∀ w ∈ ow_X11_showText, goodWord w = true := by decide +kernel
theorem k_X11_showText : pw_X11_showText.all goodWord = true := List.all_eq_true.mpr (List.forall_mem_cons.mpr ⟨by decide +kernel, List.forall_mem_append.mpr ⟨ko_X11_showText, List.forall_mem_append.mpr ⟨exc_k, kX_X11⟩⟩⟩)
set_option maxHeartbeats 400000 in
set_option maxRecDepth 100000 in
theorem c_X11_showText0 (l : Launch) (hst : l.stackTraces = false) (D : va_G) (cI cD cJ : ClassId) (h : Nat) (h_tape : Nat) (h_text : Nat) (h_shower : Nat) (h_current : Nat) (h_spare : Nat) (h_fed : Int32) (h_illPlace : Int32) (h_value : UInt64) (sa : Nat) : vx_Met l yX11_showText pw_X11_showText ({ frames := 6, cells := 1, slots := 6, locals := 82 }) (va_Pc [.ref h] (fun U => va_P D vwCl [(h, .inr (8, [.ref h_tape, .ref h_text, .ref h_shower, .ref h_current, .ref h_spare, .int 0, .int h_fed, .int h_illPlace, .double h_value]))] U.heap ∧ va_K D vwCl (ty3 cI cD cJ) U ∧ EXC (fun _ => False) sa U U.heap)) (va_Qi (fun (_ : Int32) (_ : Unit) => False) (fun _ _ => True) (fun _ => False)) (vx_X (fun (_ : Unit) => True) (fun (E : String) (_ : Unit) (_ : State) => E = isE) (fun _ => False)) 1 6 (fun _ => False) := by
  refine vx_ofW (cc := cX11_showText) (maxL := 1) (ret := (some .int)) (by decide) rfl ?_
  intro p e s m args below meth c s₁ B hml htab hv
  obtain ⟨rfl, hP, hK, hE⟩ := hv
  have hx := B.exec
  have hb := B.bytes
  have hr := B.returns
  have hts := atoms_spec (ws := pw_X11_showText) B.pre
  have hown : s.vm.findClass RX11 = some m.cls := findClass_of_methodNamed B.named
  have hlocks := B.notSynchronized
  have hS : va_S (fun _ => False) s.heap s.heap [] := va_S.rf
  have hw : ∀ (k : Nat) (w : Cond), ow_X11_showText[k]? = some w → w.before _ s = true := fun k w h => hts w (List.mem_cons_of_mem _ (have h9 := List.mem_of_getElem? h; List.mem_append_left _ h9))
  have hxg : ∀ w ∈ xgL, w.before _ s = true := fun w h => hts w (List.mem_cons_of_mem _ (List.mem_append_right _ (List.mem_append_left _ h)))
  have iX11 : ∀ w ∈ u_ws RX11 TX11 9, w ∈ pw_X11_showText := fun w h9 => List.mem_cons_of_mem _ (List.mem_append_right _ (List.mem_append_right _ h9))
  have n_0 : ((0 : Int32)).toInt = 0 := by decide
  have hl := lv_entry ([.ref h]) (n := 1) (Nat.le_of_ble_eq_true rfl)
  rw [lg_entry_eq]
  generalize (lg_sl ([.ref h]) ++ List.replicate (1 - (lg_sl ([.ref h])).length) Slot.unset).toArray = ls at hl ⊢
  have hl : lv_has ls 1 [(0, .ref h)] := hl
  refine lv_aload_n hx hb dX11_showText_0 rfl (lv_at hl 0 rfl) ?_
  refine va_get (D := D) (ci := 8) (v := .int 0) (C := RX11) (T := TX11) (N := 9) hx hb hts iX11 hown hK hP 0 rfl rfl 5 (by decide) (hw 2 (.fieldLink RX11 87 "NumberFormats" "formatted" "Z") rfl) (fun _ h9 => h9) rfl dX11_showText_1 ?_
  refine lv_if_ne (tgt := 17) hx hb dX11_showText_4 (by decide) (fun h0 => absurd rfl h0) (fun _ => ?_)
  obtain ⟨e1, e2, e3, e4, e5⟩ := hE
  exact vx_throwS hx hb hst (own := RX11) (cls := isE) (text := "there is no format") (names := isN) (ik := 95) (is := 97) (ic := 99) (sa := sa) (A := fun _ => False) hown (by decide +kernel) (by decide +kernel) (hw 0 (.classLink RX11 95 isE) rfl) (hw 1 (.initialized isE) rfl) e1 (exc_hat hxg e5) exc_g e2 e3 hS (hl.1.trans hml.symm) dX11_showText_7 dX11_showText_10 dX11_showText_11 dX11_showText_13 dX11_showText_16 (fun x hx => (htab x hx).elim) (Nat.le_of_ble_eq_true rfl) (Nat.le_of_ble_eq_true rfl) (Nat.le_of_ble_eq_true rfl) (Nat.le_of_ble_eq_true rfl) hlocks (fun t h1 h2 h3 => ⟨(), trivial, rfl, h2, fun q h4 _ => h3 q h4⟩) (fun z hz => absurd hz List.not_mem_nil) (Nat.le_refl _) (Nat.le_refl _)

def ow_L_showText : List Cond := [Cond.classLink RL 18 isE, Cond.methodLink RL 20 yX11_showText, Cond.instanceMethod yX11_showText, Cond.selects RX11 yX11_showText yX11_showText, Cond.initialized RX11]
def pw_L_showText : List Cond := Cond.codeWith yL_showText cL_showText 3 (some .int) [(0, 8, 11, 18)] :: (ow_L_showText ++ pw_X11_showText)
theorem mo_L_showText : ∀ w ∈ ow_L_showText, w ∈ lw_tbl := by decide +kernel
theorem mc_L_showText : Cond.codeWith yL_showText cL_showText 3 (some .int) [(0, 8, 11, 18)] ∈ lw_tbl := by decide +kernel
theorem m_L_showText : ∀ w ∈ pw_L_showText, w ∈ lw_tbl := List.forall_mem_cons.mpr ⟨mc_L_showText, List.forall_mem_append.mpr ⟨mo_L_showText, m_X11_showText⟩⟩
theorem ko_L_showText : ∀ w ∈ ow_L_showText, goodWord w = true := by decide +kernel
theorem k_L_showText : pw_L_showText.all goodWord = true := List.all_eq_true.mpr (List.forall_mem_cons.mpr ⟨by decide +kernel, List.forall_mem_append.mpr ⟨ko_L_showText, List.all_eq_true.mp k_X11_showText⟩⟩)
set_option maxHeartbeats 400000 in
set_option maxRecDepth 100000 in
theorem c_L_showText0 (l : Launch) (hst : l.stackTraces = false) (D : va_G) (cI cD cJ : ClassId) (sz : Nat) (h : Nat) (h_tape : Nat) (h_text : Nat) (h_shower : Nat) (h_current : Nat) (h_spare : Nat) (h_fed : Int32) (h_illPlace : Int32) (h_value : UInt64) (o : Nat) (sa : Nat) : Met l yL_showText pw_L_showText ({ frames := 7, cells := 1, slots := 6, locals := 102 }) (va_Pc [.ref h, .ref o] (fun U => va_P D vwCl [(h, .inr (8, [.ref h_tape, .ref h_text, .ref h_shower, .ref h_current, .ref h_spare, .int 0, .int h_fed, .int h_illPlace, .double h_value]))] U.heap ∧ va_K D vwCl (ty3 cI cD cJ) U ∧ EXC (fun _ => False) sa U U.heap)) (va_Qi (fun (r : Int32) (u : Unit) => r = 1) (fun _ _ => True) (fun _ => False)) 1 6 (fun _ => False) := by
  refine vx_toMet (vx_ofWH (XC := fun _ _ _ => False) (cc := cL_showText) (maxL := 3) (ret := (some .int)) (hh := [(0, 8, 11, 18)]) (by decide) rfl ?_)
  intro p e s m args below meth c s₁ B hml hv
  obtain ⟨rfl, hP, hK, hE0⟩ := hv
  have hx := B.exec
  have hb := B.bytes
  have hr := B.returns
  have hts := atoms_spec (ws := pw_L_showText) B.pre
  have hown : s.vm.findClass RL = some m.cls := findClass_of_methodNamed B.named
  have hlocks := B.notSynchronized
  have htb := vx_table (x := yL_showText) B (hts _ List.mem_cons_self)
  have hS : va_S (fun _ => False) s.heap s.heap [] := va_S.rf
  have hw : ∀ (k : Nat) (w : Cond), ow_L_showText[k]? = some w → w.before _ s = true := fun k w h => hts w (List.mem_cons_of_mem _ (have h9 := List.mem_of_getElem? h; List.mem_append_left _ h9))
  have i_X11_showText : ∀ w ∈ pw_X11_showText, w ∈ pw_L_showText := fun w h9 => List.mem_cons_of_mem _ (List.mem_append_right _ h9)
  have hl := lv_entry ([.ref h, .ref o]) (n := 3) (Nat.le_of_ble_eq_true rfl)
  rw [lg_entry_eq]
  generalize (lg_sl ([.ref h, .ref o]) ++ List.replicate (3 - (lg_sl ([.ref h, .ref o])).length) Slot.unset).toArray = ls at hl ⊢
  have hl : lv_has ls 3 [(0, .ref h), (1, .ref o)] := hl
  refine lv_aload_n hx hb dL_showText_0 rfl (lv_at hl 1 rfl) ?_
  refine lv_iconst (v := 0) hx hb dL_showText_1 (by decide) ?_
  refine lv_aload_n hx hb dL_showText_2 rfl (lv_at hl 0 rfl) ?_
  have hPc := hP.sub (ws' := [(h, .inr (8, [.ref h_tape, .ref h_text, .ref h_shower, .ref h_current, .ref h_spare, .int 0, .int h_fed, .int h_illPlace, .double h_value]))]) [0] rfl
  refine vx_calli (vx_runV (As := []) (rest := [.int 0, .ref o]) ⟨hx, hb, hml, hown, hts⟩ (c_X11_showText0 l hst D cI cD cJ h h_tape h_text h_shower h_current h_spare h_fed h_illPlace h_value sa) (cwV 0 hts (goodIn_app (goodIn_r _ [2, 3, 4, 5] rfl (by decide +kernel)) (goodIn_sub i_X11_showText k_X11_showText)) rfl rfl rfl (by decide +kernel) ⟨Nat.le_of_ble_eq_true rfl, Nat.le_of_ble_eq_true rfl⟩) ⟨fun a U g mk q => by obtain ⟨q0, qP, qK, qE⟩ := q; exact ⟨q0, qP, va_K.moved (u := U) (U := U.calling g mk a) (Vm.Alike.refl U.vm) qK, EXC.same qE rfl⟩, va_recv hK hPc (ci := 8) (q0 := 0) rfl rfl, fun U hU hW => ⟨rfl, by rw [hU]; exact hPc, va_K.moved hW.alike hK, by rw [hU]; exact EXC.warm hW hE0 hS⟩⟩ rfl rfl hl.1 rfl (lv_room (Nat.le_of_ble_eq_true rfl)) dL_showText_3 ⟨Nat.le_of_ble_eq_true rfl, Nat.le_of_ble_eq_true rfl⟩) hS (fun q _ h => h.elim) (fun q h => h.elim) (fun q _ h => h.elim) (fun E ce q9 u t H1 locs ht hvm hpx hBX hz1 hk1 hS hce hcv hcl => ?_) (fun r u t H1 locs ht hvm hq => hq.elim)
  have hE9 : E = isE := hBX
  subst hE9
  refine vx_catch hown [] ⟨0, 8, 11, 18⟩ [] (by rw [htb]; rfl) (fun z hz => absurd hz List.not_mem_nil) (by decide) (by decide) (hw 0 (.classLink RL 18 isE) rfl) (va_Nw.use rfl hE0.2.2.2.1) hce hcv hcl ?_
  refine lv_astore_n (lv' := [(2, .ref q9), (0, .ref h), (1, .ref o)]) hx hb dL_showText_11 rfl hl (by decide) rfl (fun ls hl => ?_)
  refine lv_iconst (v := 1) hx hb dL_showText_12 (by decide) ?_
  refine vx_ret ?_
  exact W.iret (v := 1) hx hb hr (fun t ht hW => ⟨⟨1, (), rfl, rfl, trivial⟩, hS.F ht⟩) hS.2.2 dL_showText_13

def ow_L_format : List Cond := [Cond.methodLink RL 7 yX11_format, Cond.instanceMethod yX11_format, Cond.selects RX11 yX11_format yX11_format, Cond.initialized RX11]
def pw_L_format : List Cond := Cond.codeWith yL_format cL_format 3 (some .int) [(0, 8, 11, 13)] :: (ow_L_format ++ (pw_X11_format))
set_option maxRecDepth 20000 in
theorem mo_L_format : ∀ w ∈ ow_L_format, w ∈ lw_tbl := by decide +kernel
set_option maxRecDepth 20000 in
theorem mc_L_format : Cond.codeWith yL_format cL_format 3 (some .int) [(0, 8, 11, 13)] ∈ lw_tbl := by decide +kernel
theorem m_L_format : ∀ w ∈ pw_L_format, w ∈ lw_tbl := List.forall_mem_cons.mpr ⟨mc_L_format, (List.forall_mem_append.mpr ⟨mo_L_format, m_X11_format⟩)⟩
theorem ko_L_format : ∀ w ∈ ow_L_format, goodWord w = true := by decide +kernel
theorem k_L_format : pw_L_format.all goodWord = true := List.all_eq_true.mpr (List.forall_mem_cons.mpr ⟨by decide +kernel, (List.forall_mem_append.mpr ⟨ko_L_format, (List.all_eq_true.mp k_X11_format)⟩)⟩)
set_option maxHeartbeats 400000 in
set_option maxRecDepth 100000 in
theorem c_L_format0 (l : Launch) (D : va_G) (cI cD cJ : ClassId) (sz : Nat) (h : Nat) (o : Nat) (x : Nat) (cu : Nat) (h_tape : Nat) (h_shower : Nat) (h_formatted : Int32) (h_fed : Int32) (h_illPlace : Int32) (h_value : UInt64) (x_signs : Nat) (f : Nat) (f_kinds : Nat) (f_signs : Nat) (f_sizes : Nat) (f_places : Nat) (f_limits : Nat) (f_starts : Nat) (f_sorts : Nat) (f_count : Int32) (f_sections : Int32) (f_fifth : Int32) (staF : Nat → Int32) (sorF : Nat → Int32) (oF : Nat → Int64) : Met l yL_format pw_L_format ({ frames := 5, cells := 0, slots := 0, locals := 110 }) (va_Pc [.ref h, .ref o] (fun U => U.heap.size = sz ∧ va_P D vwCl [(h, .inr (8, [.ref h_tape, .ref x, .ref h_shower, .ref cu, .ref f, .int h_formatted, .int h_fed, .int h_illPlace, .double h_value])), (x, .inr (7, [.ref x_signs, .int 0])), (f, .inr (2, [.ref f_kinds, .ref f_signs, .ref f_sizes, .ref f_places, .ref f_limits, .ref f_starts, .ref f_sorts, .int f_count, .int f_sections, .int f_fifth])), (f_starts, .inl (cI, 4, .inl staF)), (f_sorts, .inl (cI, 4, .inl sorF)), (o, .inl (cJ, 1, .inr (.inl oF)))] U.heap ∧ va_K D vwCl (ty3 cI cD cJ) U ∧ va_D (fun _ => True) [(h, .inr (8, [.ref h_tape, .ref x, .ref h_shower, .ref cu, .ref f, .int h_formatted, .int h_fed, .int h_illPlace, .double h_value])), (x, .inr (7, [.ref x_signs, .int 0])), (f, .inr (2, [.ref f_kinds, .ref f_signs, .ref f_sizes, .ref f_places, .ref f_limits, .ref f_starts, .ref f_sorts, .int f_count, .int f_sections, .int f_fifth])), (f_starts, .inl (cI, 4, .inl staF)), (f_sorts, .inl (cI, 4, .inl sorF)), (o, .inl (cJ, 1, .inr (.inl oF)))])) (va_Qi (fun (r : Int32) (u : Int32 × (Nat → Int32) × (Nat → Int32) × (Nat → Int64)) => match u with | (il2, staF2, sorF2, oF2) => r = 0 ∧ oF2 0 = (1 : Int32).toInt64) (fun (u : Int32 × (Nat → Int32) × (Nat → Int32) × (Nat → Int64)) (t : State) => match u with | (il2, staF2, sorF2, oF2) => va_P D vwCl [(h, .inr (8, [.ref h_tape, .ref x, .ref h_shower, .ref f, .ref cu, .int 1, .int h_fed, .int il2, .double h_value])), (x, .inr (7, [.ref x_signs, .int 0])), (f, .inr (2, [.ref f_kinds, .ref f_signs, .ref f_sizes, .ref f_places, .ref f_limits, .ref f_starts, .ref f_sorts, .int 0, .int 1, .int (-1)])), (f_starts, .inl (cI, 4, .inl staF2)), (f_sorts, .inl (cI, 4, .inl sorF2)), (o, .inl (cJ, 1, .inr (.inl oF2)))] t.heap ∧ va_K D vwCl (ty3 cI cD cJ) t ∧ va_D (va_A [(h, .inr (8, [.ref h_tape, .ref x, .ref h_shower, .ref cu, .ref f, .int h_formatted, .int h_fed, .int h_illPlace, .double h_value])), (x, .inr (7, [.ref x_signs, .int 0])), (f, .inr (2, [.ref f_kinds, .ref f_signs, .ref f_sizes, .ref f_places, .ref f_limits, .ref f_starts, .ref f_sorts, .int f_count, .int f_sections, .int f_fifth])), (f_starts, .inl (cI, 4, .inl staF)), (f_sorts, .inl (cI, 4, .inl sorF)), (o, .inl (cJ, 1, .inr (.inl oF)))] sz) [(h, .inr (8, [.ref h_tape, .ref x, .ref h_shower, .ref f, .ref cu, .int 1, .int h_fed, .int il2, .double h_value])), (x, .inr (7, [.ref x_signs, .int 0])), (f, .inr (2, [.ref f_kinds, .ref f_signs, .ref f_sizes, .ref f_places, .ref f_limits, .ref f_starts, .ref f_sorts, .int 0, .int 1, .int (-1)])), (f_starts, .inl (cI, 4, .inl staF2)), (f_sorts, .inl (cI, 4, .inl sorF2)), (o, .inl (cJ, 1, .inr (.inl oF2)))]) (va_A [(h, .inr (8, [.ref h_tape, .ref x, .ref h_shower, .ref cu, .ref f, .int h_formatted, .int h_fed, .int h_illPlace, .double h_value])), (x, .inr (7, [.ref x_signs, .int 0])), (f, .inr (2, [.ref f_kinds, .ref f_signs, .ref f_sizes, .ref f_places, .ref f_limits, .ref f_starts, .ref f_sorts, .int f_count, .int f_sections, .int f_fifth])), (f_starts, .inl (cI, 4, .inl staF)), (f_sorts, .inl (cI, 4, .inl sorF)), (o, .inl (cJ, 1, .inr (.inl oF)))] sz)) 0 0 (va_A [(h, .inr (8, [.ref h_tape, .ref x, .ref h_shower, .ref cu, .ref f, .int h_formatted, .int h_fed, .int h_illPlace, .double h_value])), (x, .inr (7, [.ref x_signs, .int 0])), (f, .inr (2, [.ref f_kinds, .ref f_signs, .ref f_sizes, .ref f_places, .ref f_limits, .ref f_starts, .ref f_sorts, .int f_count, .int f_sections, .int f_fifth])), (f_starts, .inl (cI, 4, .inl staF)), (f_sorts, .inl (cI, 4, .inl sorF)), (o, .inl (cJ, 1, .inr (.inl oF)))] sz) := by
  refine vx_toMet (vx_ofWH (XC := fun _ _ _ => False) (cc := cL_format) (maxL := 3) (ret := (some .int)) (hh := [(0, 8, 11, 13)]) (by decide) rfl ?_)
  intro p e s m args below meth c s₁ B hml hv
  obtain ⟨rfl, hsz, hP, hK, hD0⟩ := hv
  have hx := B.exec
  have hb := B.bytes
  have hr := B.returns
  have hts := atoms_spec (ws := pw_L_format) B.pre
  have hown : s.vm.findClass RL = some m.cls := findClass_of_methodNamed B.named
  have hlocks := B.notSynchronized
  subst hsz
  have hD := hD0.self (sz := s.heap.size)
  generalize hAe : va_A [(h, .inr (8, [.ref h_tape, .ref x, .ref h_shower, .ref cu, .ref f, .int h_formatted, .int h_fed, .int h_illPlace, .double h_value])), (x, .inr (7, [.ref x_signs, .int 0])), (f, .inr (2, [.ref f_kinds, .ref f_signs, .ref f_sizes, .ref f_places, .ref f_limits, .ref f_starts, .ref f_sorts, .int f_count, .int f_sections, .int f_fifth])), (f_starts, .inl (cI, 4, .inl staF)), (f_sorts, .inl (cI, 4, .inl sorF)), (o, .inl (cJ, 1, .inr (.inl oF)))] s.heap.size = A at hD ⊢
  have hA : ∀ q : Nat, s.heap.size ≤ q → A q := fun q h => by rw [← hAe]; exact Or.inr h
  have hS : va_S A s.heap s.heap [] := va_S.rf
  have hw : ∀ (k : Nat) (w : Cond), ow_L_format[k]? = some w → w.before _ s = true := fun k w h => hts w (List.mem_cons_of_mem _ (have h9 := List.mem_of_getElem? h; List.mem_append_left _ h9))
  have i_X11_format : ∀ w ∈ pw_X11_format, w ∈ pw_L_format := fun w h9 => List.mem_cons_of_mem _ (List.mem_append_right _ (h9))
  have n_m1 : (((-1) : Int32)).toInt = (-1) := by decide
  have n_0 : ((0 : Int32)).toInt = 0 := by decide
  have n_1 : ((1 : Int32)).toInt = 1 := by decide
  have hl := lv_entry ([.ref h, .ref o]) (n := 3) (Nat.le_of_ble_eq_true rfl)
  rw [lg_entry_eq]
  generalize (lg_sl ([.ref h, .ref o]) ++ List.replicate (3 - (lg_sl ([.ref h, .ref o])).length) Slot.unset).toArray = ls at hl ⊢
  have hl : lv_has ls 3 [(0, .ref h), (1, .ref o)] := hl
  refine lv_aload_n hx hb dL_format_0 rfl (lv_at hl 1 rfl) ?_
  refine lv_iconst (v := 0) hx hb dL_format_1 (by decide) ?_
  refine lv_aload_n hx hb dL_format_2 rfl (lv_at hl 0 rfl) ?_
  have hPc := hP.sub (ws' := [(h, .inr (8, [.ref h_tape, .ref x, .ref h_shower, .ref cu, .ref f, .int h_formatted, .int h_fed, .int h_illPlace, .double h_value])), (x, .inr (7, [.ref x_signs, .int 0])), (f, .inr (2, [.ref f_kinds, .ref f_signs, .ref f_sizes, .ref f_places, .ref f_limits, .ref f_starts, .ref f_sorts, .int f_count, .int f_sections, .int f_fifth])), (f_starts, .inl (cI, 4, .inl staF)), (f_sorts, .inl (cI, 4, .inl sorF))]) [0, 1, 2, 3, 4] rfl
  have hDc := hD.sub (ws' := [(h, .inr (8, [.ref h_tape, .ref x, .ref h_shower, .ref cu, .ref f, .int h_formatted, .int h_fed, .int h_illPlace, .double h_value])), (x, .inr (7, [.ref x_signs, .int 0])), (f, .inr (2, [.ref f_kinds, .ref f_signs, .ref f_sizes, .ref f_places, .ref f_limits, .ref f_starts, .ref f_sorts, .int f_count, .int f_sections, .int f_fifth])), (f_starts, .inl (cI, 4, .inl staF)), (f_sorts, .inl (cI, 4, .inl sorF))]) [0, 1, 2, 3, 4] (by decide) rfl
  have hFc := va_free (wc := [(h, .inr (8, [.ref h_tape, .ref x, .ref h_shower, .ref cu, .ref f, .int h_formatted, .int h_fed, .int h_illPlace, .double h_value])), (x, .inr (7, [.ref x_signs, .int 0])), (f, .inr (2, [.ref f_kinds, .ref f_signs, .ref f_sizes, .ref f_places, .ref f_limits, .ref f_starts, .ref f_sorts, .int f_count, .int f_sections, .int f_fifth])), (f_starts, .inl (cI, 4, .inl staF)), (f_sorts, .inl (cI, 4, .inl sorF))]) hD hS hA [0, 1, 2, 3, 4] rfl
  refine va_calli (va_runV (As := []) (rest := [.int 0, .ref o]) ⟨hx, hb, hml, hown, hts⟩ (c_X11_format0 l D cI cD cJ s.heap.size h x cu h_tape h_shower h_formatted h_fed h_illPlace h_value x_signs f f_kinds f_signs f_sizes f_places f_limits f_starts f_sorts f_count f_sections f_fifth staF sorF) (cwV 0 hts (goodIn_app (goodIn_r _ [1, 2, 3, 4] rfl (by decide +kernel)) (goodIn_sub i_X11_format k_X11_format)) rfl rfl rfl (by decide +kernel) ⟨Nat.le_of_ble_eq_true rfl, Nat.le_of_ble_eq_true rfl⟩) ⟨fun a U g mk q => by obtain ⟨q0, q1, qP, qK, qD⟩ := q; exact ⟨q0, q1, qP, va_K.moved (u := U) (U := U.calling g mk a) (Vm.Alike.refl U.vm) qK, qD⟩, va_recv hK hPc (ci := 8) (q0 := 0) rfl rfl, fun U hU hW => ⟨rfl, by rw [hU], by rw [hU]; exact hPc, va_K.moved hW.alike hK, hDc.weaken (fun _ _ _ _ => trivial)⟩⟩ rfl rfl hl.1 rfl (lv_room (Nat.le_of_ble_eq_true rfl)) dL_format_3 ⟨Nat.le_of_ble_eq_true rfl, Nat.le_of_ble_eq_true rfl⟩) hS (fun q _ h => hFc q h) hFc (fun x_1 u t H1 locs ht hvm w_2 hB hz1 hk1 hS => ?_)
  obtain ⟨u_3, u_4, u_5⟩ := u
  obtain ⟨hP1, hK1, hD1⟩ := hB
  rw [ht] at hP1
  try dsimp only at w_2
  obtain ⟨hP, hD⟩ := va_join (wr := [(o, .inl (cJ, 1, .inr (.inl oF)))]) (w1 := [(h, .inr (8, [.ref h_tape, .ref x, .ref h_shower, .ref f, .ref cu, .int 1, .int h_fed, .int u_3, .double h_value])), (x, .inr (7, [.ref x_signs, .int 0])), (f, .inr (2, [.ref f_kinds, .ref f_signs, .ref f_sizes, .ref f_places, .ref f_limits, .ref f_starts, .ref f_sorts, .int 0, .int 1, .int (-1)])), (f_starts, .inl (cI, 4, .inl u_4)), (f_sorts, .inl (cI, 4, .inl u_5))]) hP hD [0, 1, 2, 3, 4] [5] rfl rfl (by decide) (by decide) hk1 hFc hP1 hD1
  generalize H1 = H at hP hS ⊢
  have hP : va_P D vwCl [(o, .inl (cJ, 1, .inr (.inl oF))), (h, .inr (8, [.ref h_tape, .ref x, .ref h_shower, .ref f, .ref cu, .int 1, .int h_fed, .int u_3, .double h_value])), (x, .inr (7, [.ref x_signs, .int 0])), (f, .inr (2, [.ref f_kinds, .ref f_signs, .ref f_sizes, .ref f_places, .ref f_limits, .ref f_starts, .ref f_sorts, .int 0, .int 1, .int (-1)])), (f_starts, .inl (cI, 4, .inl u_4)), (f_sorts, .inl (cI, 4, .inl u_5))] H := hP
  have hD : va_D A [(o, .inl (cJ, 1, .inr (.inl oF))), (h, .inr (8, [.ref h_tape, .ref x, .ref h_shower, .ref f, .ref cu, .int 1, .int h_fed, .int u_3, .double h_value])), (x, .inr (7, [.ref x_signs, .int 0])), (f, .inr (2, [.ref f_kinds, .ref f_signs, .ref f_sizes, .ref f_places, .ref f_limits, .ref f_starts, .ref f_sorts, .int 0, .int 1, .int (-1)])), (f_starts, .inl (cI, 4, .inl u_4)), (f_sorts, .inl (cI, 4, .inl u_5))] := hD
  have w9 := w_2
  have q9 : x_1 = 1 := (fa_eq _ _).mpr (by rw [w9]; rfl)
  subst q9
  refine lv_i2l hx hb dL_format_6 rfl ?_
  refine lv_topl (fun y_6 ey_6 => ?_)
  have h_7 : vp_in 0 1 := by rw [vp_in_iff]; omega
  refine va_last hx hb hK hP hD hS 0 2 rfl rfl h_7 dL_format_7 (fun H locs hP hD hS => ?_)
  obtain ⟨f_7, ef_7⟩ : ∃ y : Nat → Int64, y = vp_updL oF (0 : Int32).toNatClampNeg y_6 := ⟨_, rfl⟩
  rw [← ef_7] at hP hD
  have hP : va_P D vwCl [(o, .inl (cJ, 1, .inr (.inl f_7))), (h, .inr (8, [.ref h_tape, .ref x, .ref h_shower, .ref f, .ref cu, .int 1, .int h_fed, .int u_3, .double h_value])), (x, .inr (7, [.ref x_signs, .int 0])), (f, .inr (2, [.ref f_kinds, .ref f_signs, .ref f_sizes, .ref f_places, .ref f_limits, .ref f_starts, .ref f_sorts, .int 0, .int 1, .int (-1)])), (f_starts, .inl (cI, 4, .inl u_4)), (f_sorts, .inl (cI, 4, .inl u_5))] H := hP
  have hD : va_D A [(o, .inl (cJ, 1, .inr (.inl f_7))), (h, .inr (8, [.ref h_tape, .ref x, .ref h_shower, .ref f, .ref cu, .int 1, .int h_fed, .int u_3, .double h_value])), (x, .inr (7, [.ref x_signs, .int 0])), (f, .inr (2, [.ref f_kinds, .ref f_signs, .ref f_sizes, .ref f_places, .ref f_limits, .ref f_starts, .ref f_sorts, .int 0, .int 1, .int (-1)])), (f_starts, .inl (cI, 4, .inl u_4)), (f_sorts, .inl (cI, 4, .inl u_5))] := hD
  refine lv_goto (tgt := 14) hx hb dL_format_8 (by decide) ?_
  refine lv_iconst (v := 0) hx hb dL_format_14 (by decide) ?_
  refine vx_ret ?_
  have hP9 := hP.sub (ws' := [(h, .inr (8, [.ref h_tape, .ref x, .ref h_shower, .ref f, .ref cu, .int 1, .int h_fed, .int u_3, .double h_value])), (x, .inr (7, [.ref x_signs, .int 0])), (f, .inr (2, [.ref f_kinds, .ref f_signs, .ref f_sizes, .ref f_places, .ref f_limits, .ref f_starts, .ref f_sorts, .int 0, .int 1, .int (-1)])), (f_starts, .inl (cI, 4, .inl u_4)), (f_sorts, .inl (cI, 4, .inl u_5)), (o, .inl (cJ, 1, .inr (.inl f_7)))]) [1, 2, 3, 4, 5, 0] rfl
  have hD9 := hD.sub (ws' := [(h, .inr (8, [.ref h_tape, .ref x, .ref h_shower, .ref f, .ref cu, .int 1, .int h_fed, .int u_3, .double h_value])), (x, .inr (7, [.ref x_signs, .int 0])), (f, .inr (2, [.ref f_kinds, .ref f_signs, .ref f_sizes, .ref f_places, .ref f_limits, .ref f_starts, .ref f_sorts, .int 0, .int 1, .int (-1)])), (f_starts, .inl (cI, 4, .inl u_4)), (f_sorts, .inl (cI, 4, .inl u_5)), (o, .inl (cJ, 1, .inr (.inl f_7)))]) [1, 2, 3, 4, 5, 0] (by decide) rfl
  exact W.iret (v := 0) hx hb hr (fun t ht hW => ⟨⟨0, (u_3, u_4, u_5, f_7), rfl, (by (try dsimp only); refine ⟨rfl, ?_⟩; subst_vars; rw [sb_cl0, pk_uLs]), by rw [ht]; exact hP9, va_K.moved hW.alike hK, hD9⟩, hS.F ht⟩) hS.2.2 dL_format_15

