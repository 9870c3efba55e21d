def ow_X11_putBytes : List Cond := [Cond.fieldLink RX11 41 "NumberFormats" "fed" "I", Cond.fieldLink RX11 9 "NumberFormats" "tape" "[I"]
def pw_X11_putBytes : List Cond := Cond.code yX11_putBytes cX11_putBytes 3 none :: (ow_X11_putBytes ++ (wsX110))
set_option maxRecDepth 20000 in
theorem mo_X11_putBytes : ∀ w ∈ ow_X11_putBytes, w ∈ lw_tbl := by decide +kernel
set_option maxRecDepth 20000 in
theorem mc_X11_putBytes : Cond.code yX11_putBytes cX11_putBytes 3 none ∈ lw_tbl := by decide +kernel
theorem m_X11_putBytes : ∀ w ∈ pw_X11_putBytes, w ∈ lw_tbl := List.forall_mem_cons.mpr ⟨mc_X11_putBytes, (List.forall_mem_append.mpr ⟨mo_X11_putBytes, inX11⟩)⟩
theorem ko_X11_putBytes : ∀ w ∈ ow_X11_putBytes, goodWord w = true := by decide +kernel
theorem k_X11_putBytes : pw_X11_putBytes.all goodWord = true := List.all_eq_true.mpr (List.forall_mem_cons.mpr ⟨by decide +kernel, (List.forall_mem_append.mpr ⟨ko_X11_putBytes, kX_X11⟩)⟩)
set_option maxHeartbeats 400000 in
set_option maxRecDepth 100000 in
theorem c_X11_putBytes (l : Launch) (D : va_G) (cI cD cJ : ClassId) (sz : Nat) (h : Nat) (h_tape : Nat) (h_text : Nat) (h_shower : Nat) (h_current : Nat) (h_spare : Nat) (h_formatted : Int32) (h_fed : Int32) (h_illPlace : Int32) (h_value : UInt64) (h_tapeF : Nat → Int32) (p1 : Int32) (hh0 : h_fed.toInt ≤ 256) (iv_h_formatted : (h_formatted : Int32).toInt = 0 ∨ (h_formatted : Int32).toInt = 1) (iv_h_fed : 0 ≤ (h_fed : Int32).toInt ∧ (h_fed : Int32).toInt ≤ 260) (iv_h_value : inR h_value) (iv_h_tapeF : ∀ k9 : Nat, k9 < 260 → 0 ≤ (h_tapeF k9).toInt ∧ (h_tapeF k9).toInt ≤ 255) : Met l yX11_putBytes pw_X11_putBytes ({ frames := 0, cells := 0, slots := 0, locals := 0 }) (va_Pc [.ref h, .int p1] (fun U => U.heap.size = sz ∧ va_P D vwCl [(h, .inr (8, [.ref h_tape, .ref h_text, .ref h_shower, .ref h_current, .ref h_spare, .int h_formatted, .int h_fed, .int h_illPlace, .double h_value])), (h_tape, .inl (cI, 260, .inl h_tapeF))] U.heap ∧ va_K D vwCl (ty3 cI cD cJ) U ∧ va_D (fun _ => True) [(h, .inr (8, [.ref h_tape, .ref h_text, .ref h_shower, .ref h_current, .ref h_spare, .int h_formatted, .int h_fed, .int h_illPlace, .double h_value])), (h_tape, .inl (cI, 260, .inl h_tapeF))])) (va_Qv (fun (u : Int32 × (Nat → Int32)) => match u with | (h_fed2, h_tapeF2) => (h_fed2.toInt = h_fed.toInt + 4) ∧ (0 ≤ (h_fed2 : Int32).toInt ∧ (h_fed2 : Int32).toInt ≤ 260) ∧ (∀ k9 : Nat, k9 < 260 → 0 ≤ (h_tapeF2 k9).toInt ∧ (h_tapeF2 k9).toInt ≤ 255)) (fun (u : Int32 × (Nat → Int32)) (t : State) => match u with | (h_fed2, h_tapeF2) => va_P D vwCl [(h, .inr (8, [.ref h_tape, .ref h_text, .ref h_shower, .ref h_current, .ref h_spare, .int h_formatted, .int h_fed2, .int h_illPlace, .double h_value])), (h_tape, .inl (cI, 260, .inl h_tapeF2))] t.heap ∧ va_K D vwCl (ty3 cI cD cJ) t ∧ va_D (va_A [(h, .inr (8, [.ref h_tape, .ref h_text, .ref h_shower, .ref h_current, .ref h_spare, .int h_formatted, .int h_fed, .int h_illPlace, .double h_value])), (h_tape, .inl (cI, 260, .inl h_tapeF))] sz) [(h, .inr (8, [.ref h_tape, .ref h_text, .ref h_shower, .ref h_current, .ref h_spare, .int h_formatted, .int h_fed2, .int h_illPlace, .double h_value])), (h_tape, .inl (cI, 260, .inl h_tapeF2))]) (va_A [(h, .inr (8, [.ref h_tape, .ref h_text, .ref h_shower, .ref h_current, .ref h_spare, .int h_formatted, .int h_fed, .int h_illPlace, .double h_value])), (h_tape, .inl (cI, 260, .inl h_tapeF))] sz)) 0 0 (va_A [(h, .inr (8, [.ref h_tape, .ref h_text, .ref h_shower, .ref h_current, .ref h_spare, .int h_formatted, .int h_fed, .int h_illPlace, .double h_value])), (h_tape, .inl (cI, 260, .inl h_tapeF))] sz) := by
  refine Met.ofW (cc := cX11_putBytes) (maxL := 3) (ret := none) (by decide +kernel) rfl ?_
  intro p e s m args below meth c s₁ B hml hv
  obtain ⟨rfl, hsz, hP, hK, hD0⟩ := hv
  have hx := B.exec
  have hb := B.bytes
  have hr := B.returns
  have hts := atoms_spec (ws := pw_X11_putBytes) B.pre
  have hown : s.vm.findClass RX11 = some m.cls := findClass_of_methodNamed B.named
  have hlocks := B.notSynchronized
  subst hsz
  have hD := hD0.self (sz := s.heap.size)
  generalize hAe : va_A [(h, .inr (8, [.ref h_tape, .ref h_text, .ref h_shower, .ref h_current, .ref h_spare, .int h_formatted, .int h_fed, .int h_illPlace, .double h_value])), (h_tape, .inl (cI, 260, .inl h_tapeF))] s.heap.size = A at hD ⊢
  have hA : ∀ q : Nat, s.heap.size ≤ q → A q := fun q h => by rw [← hAe]; exact Or.inr h
  have hS : va_S A s.heap s.heap [] := va_S.rf
  have hw : ∀ (k : Nat) (w : Cond), ow_X11_putBytes[k]? = some w → w.before _ s = true := fun k w h => hts w (List.mem_cons_of_mem _ (have h9 := List.mem_of_getElem? h; List.mem_append_left _ h9))
  have iX11 : ∀ w ∈ u_ws RX11 TX11 9, w ∈ pw_X11_putBytes := fun w h9 => List.mem_cons_of_mem _ (List.mem_append_right _ (h9))
  have n_m8 : (((-8) : Int32)).toInt = (-8) := by decide
  have n_0 : ((0 : Int32)).toInt = 0 := by decide
  have n_1 : ((1 : Int32)).toInt = 1 := by decide
  have n_24 : ((24 : Int32)).toInt = 24 := by decide
  have n_255 : ((255 : Int32)).toInt = 255 := by decide
  have n_260 : ((260 : Int32)).toInt = 260 := by decide
  have hl := lv_entry ([.ref h, .int p1]) (n := 3) (Nat.le_of_ble_eq_true rfl)
  rw [lg_entry_eq]
  generalize (lg_sl ([.ref h, .int p1]) ++ List.replicate (3 - (lg_sl ([.ref h, .int p1])).length) Slot.unset).toArray = ls at hl ⊢
  have hl : lv_has ls 3 [(0, .ref h), (1, .int p1)] := hl
  have b_p1 := ti_b p1
  refine zz_cap (fun Z hZ1 hZ2 => ?_)
  refine lv_bipush (v := 24) hx hb dX11_putBytes_0 (by decide) ?_
  refine lv_istore_n (lv' := [(2, .int 24), (0, .ref h), (1, .int p1)]) hx hb dX11_putBytes_2 rfl hl (by decide) rfl (fun ls hl => ?_)
  have L_3 : ∀ (N : Nat) (x_1 : Int32) (x_2 : Int32) (f_3 : Nat → Int32) (H : Heap) (locs : List Loc) (ls : Array Slot), (8 * ((x_2 : Int32).toInt - h_fed.toInt) = 24 - (x_1 : Int32).toInt) → (-8 ≤ (x_1 : Int32).toInt) → ((x_1 : Int32).toInt ≤ 24) → (0 ≤ (x_2 : Int32).toInt ∧ (x_2 : Int32).toInt ≤ 260) → (∀ k9 : Nat, k9 < 260 → 0 ≤ (f_3 k9).toInt ∧ (f_3 k9).toInt ≤ 255) → (((x_1 : Int32).toInt + 8).toNat < N) → va_P D vwCl [(h, .inr (8, [.ref h_tape, .ref h_text, .ref h_shower, .ref h_current, .ref h_spare, .int h_formatted, .int x_2, .int h_illPlace, .double h_value])), (h_tape, .inl (cI, 260, .inl f_3))] H → va_D A [(h, .inr (8, [.ref h_tape, .ref h_text, .ref h_shower, .ref h_current, .ref h_spare, .int h_formatted, .int x_2, .int h_illPlace, .double h_value])), (h_tape, .inl (cI, 260, .inl f_3))] → va_S A s.heap H locs → lv_has ls 3 [(2, .int x_1), (0, .ref h), (1, .int p1)] → Z 0 0 H locs (F0 m 3 ls []) := by
    intro N
    induction N with
    | zero => intro _ _ _ _ _ _ _ _ _ _ _ hmu; exact absurd hmu (Nat.not_lt_zero _)
    | succ N ih_3 =>
      intro x_1 x_2 f_3 H locs ls g3_0 g3_1 g3_2 g3_3 g3_4 hmu hP hD hS hl
      refine hZ2 ?_
      refine lv_iload_n hx hb dX11_putBytes_3 rfl (lv_at hl 0 rfl) ?_
      refine lv_if_lt (tgt := 58) hx hb dX11_putBytes_4 (by decide) (fun c_4 => ?_) (fun c_4 => ?_)
      · have ic_4 : (x_1 : Int32).toInt < (0 : Int32).toInt := (fa_lt x_1 0).mp c_4
        have hP9 := hP.sub (ws' := [(h, .inr (8, [.ref h_tape, .ref h_text, .ref h_shower, .ref h_current, .ref h_spare, .int h_formatted, .int x_2, .int h_illPlace, .double h_value])), (h_tape, .inl (cI, 260, .inl f_3))]) [0, 1] rfl
        have hD9 := hD.sub (ws' := [(h, .inr (8, [.ref h_tape, .ref h_text, .ref h_shower, .ref h_current, .ref h_spare, .int h_formatted, .int x_2, .int h_illPlace, .double h_value])), (h_tape, .inl (cI, 260, .inl f_3))]) [0, 1] (by decide) rfl
        exact W.vret hx hb hr (fun t ht hW => ⟨⟨(x_2, f_3), rfl, (by (try dsimp only); refine ⟨?_, ?_, ?_⟩ <;> first | omega | assumption), by rw [ht]; exact hP9, va_K.moved hW.alike hK, hD9⟩, hS.F ht⟩) hS.2.2 dX11_putBytes_58
      · have ic_4 : ¬ ((x_1 : Int32).toInt < (0 : Int32).toInt) := fun h9 => c_4 ((fa_lt x_1 0).mpr h9)
        refine lv_aload_n hx hb dX11_putBytes_7 rfl (lv_at hl 1 rfl) ?_
        refine va_get (D := D) (ci := 8) (v := .int x_2) (C := RX11) (T := TX11) (N := 9) hx hb hts iX11 hown hK hP 0 rfl rfl 6 (by decide) (hw 0 (.fieldLink RX11 41 "NumberFormats" "fed" "I") rfl) (fun _ h9 => h9) rfl dX11_putBytes_8 ?_
        refine lv_if_lt (tgt := 52) hx hb dX11_putBytes_11 (by decide) (fun c_5 => ?_) (fun c_5 => ?_)
        · have ic_5 : (x_2 : Int32).toInt < (0 : Int32).toInt := (fa_lt x_2 0).mp c_5
          obtain ⟨x_6, ex_6⟩ : ∃ y : Int32, y = x_1 + (-8) := ⟨_, rfl⟩
          have b_x_1 := ti_b x_1
          have tx_6 := ti_add ex_6
          refine lv_iinc (v := x_6) (lv' := [(2, .int x_6), (0, .ref h), (1, .int p1)]) hx hb dX11_putBytes_52 hl (k := 0) rfl (by rw [ex_6]; rfl) (by decide) rfl (fun ls hl => ?_)
          refine lv_goto (tgt := 3) hx hb dX11_putBytes_55 (by decide) ?_
          exact hZ1 (ih_3 x_6 x_2 f_3 _ _ _ (by omega) (by omega) (by omega) (by omega) (by assumption) (by omega) hP hD hS hl)
        · have ic_5 : ¬ ((x_2 : Int32).toInt < (0 : Int32).toInt) := fun h9 => c_5 ((fa_lt x_2 0).mpr h9)
          refine lv_aload_n hx hb dX11_putBytes_14 rfl (lv_at hl 1 rfl) ?_
          refine va_get (D := D) (ci := 8) (v := .int x_2) (C := RX11) (T := TX11) (N := 9) hx hb hts iX11 hown hK hP 0 rfl rfl 6 (by decide) (hw 0 (.fieldLink RX11 41 "NumberFormats" "fed" "I") rfl) (fun _ h9 => h9) rfl dX11_putBytes_15 ?_
          refine lv_aload_n hx hb dX11_putBytes_18 rfl (lv_at hl 1 rfl) ?_
          refine va_get (D := D) (ci := 8) (v := .ref h_tape) (C := RX11) (T := TX11) (N := 9) hx hb hts iX11 hown hK hP 0 rfl rfl 0 (by decide) (hw 1 (.fieldLink RX11 9 "NumberFormats" "tape" "[I") rfl) (fun _ h9 => h9) rfl dX11_putBytes_19 ?_
          refine va_alen hx hb hK hP 1 0 rfl rfl (v := 260) rfl dX11_putBytes_22 ?_
          refine lv_icmp_ge (tgt := 52) hx hb dX11_putBytes_23 (by decide) (fun c_7 => ?_) (fun c_7 => ?_)
          · have ic_7 : (260 : Int32).toInt ≤ (x_2 : Int32).toInt := (fa_le 260 x_2).mp c_7
            obtain ⟨x_8, ex_8⟩ : ∃ y : Int32, y = x_1 + (-8) := ⟨_, rfl⟩
            have b_x_1 := ti_b x_1
            have tx_8 := ti_add ex_8
            refine lv_iinc (v := x_8) (lv' := [(2, .int x_8), (0, .ref h), (1, .int p1)]) hx hb dX11_putBytes_52 hl (k := 0) rfl (by rw [ex_8]; rfl) (by decide) rfl (fun ls hl => ?_)
            refine lv_goto (tgt := 3) hx hb dX11_putBytes_55 (by decide) ?_
            exact hZ1 (ih_3 x_8 x_2 f_3 _ _ _ (by omega) (by omega) (by omega) (by omega) (by assumption) (by omega) hP hD hS hl)
          · have ic_7 : ¬ ((260 : Int32).toInt ≤ (x_2 : Int32).toInt) := fun h9 => c_7 ((fa_le 260 x_2).mpr h9)
            refine lv_aload_n hx hb dX11_putBytes_26 rfl (lv_at hl 1 rfl) ?_
            refine va_get (D := D) (ci := 8) (v := .ref h_tape) (C := RX11) (T := TX11) (N := 9) hx hb hts iX11 hown hK hP 0 rfl rfl 0 (by decide) (hw 1 (.fieldLink RX11 9 "NumberFormats" "tape" "[I") rfl) (fun _ h9 => h9) rfl dX11_putBytes_27 ?_
            refine lv_aload_n hx hb dX11_putBytes_30 rfl (lv_at hl 1 rfl) ?_
            refine va_get (D := D) (ci := 8) (v := .int x_2) (C := RX11) (T := TX11) (N := 9) hx hb hts iX11 hown hK hP 0 rfl rfl 6 (by decide) (hw 0 (.fieldLink RX11 41 "NumberFormats" "fed" "I") rfl) (fun _ h9 => h9) rfl dX11_putBytes_31 ?_
            refine lv_iload_n hx hb dX11_putBytes_34 rfl (lv_at hl 2 rfl) ?_
            refine lv_iload_n hx hb dX11_putBytes_35 rfl (lv_at hl 0 rfl) ?_
            refine lv_iushr hx hb dX11_putBytes_36 rfl ?_
            refine lv_topi (fun x_9 ex_9 => ?_)
            refine lv_sipush (v := 255) hx hb dX11_putBytes_37 (by decide) ?_
            refine lv_iand hx hb dX11_putBytes_40 ?_
            refine lv_topi (fun x_10 ex_10 => ?_)
            have tx_10 := ti_and ex_10 8 (by decide +kernel) (by decide)
            have h_41 : vp_in x_2 260 := by rw [vp_in_iff]; omega
            refine va_iast hx hb hK hP hD hS 1 0 rfl rfl h_41 dX11_putBytes_41 (fun H locs hP hD hS => ?_)
            obtain ⟨f_11, ef_11⟩ : ∃ y : Nat → Int32, y = upd f_3 (x_2 : Int32).toNatClampNeg x_10 := ⟨_, rfl⟩
            rw [← ef_11] at hP hD
            have hP : va_P D vwCl [(h, .inr (8, [.ref h_tape, .ref h_text, .ref h_shower, .ref h_current, .ref h_spare, .int h_formatted, .int x_2, .int h_illPlace, .double h_value])), (h_tape, .inl (cI, 260, .inl f_11))] H := hP
            have hD : va_D A [(h, .inr (8, [.ref h_tape, .ref h_text, .ref h_shower, .ref h_current, .ref h_spare, .int h_formatted, .int x_2, .int h_illPlace, .double h_value])), (h_tape, .inl (cI, 260, .inl f_11))] := hD
            have iv_f_11 : ∀ k9 : Nat, k9 < 260 → 0 ≤ (f_11 k9).toInt ∧ (f_11 k9).toInt ≤ 255 := by intro k9 h9; rw [ef_11]; unfold upd; split <;> first | omega | exact (‹∀ k9 : Nat, k9 < 260 → 0 ≤ (f_3 k9).toInt ∧ (f_3 k9).toInt ≤ 255›) k9 h9
            refine lv_aload_n hx hb dX11_putBytes_42 rfl (lv_at hl 1 rfl) ?_
            refine lv_dup hx hb dX11_putBytes_43 rfl ?_
            refine va_get (D := D) (ci := 8) (v := .int x_2) (C := RX11) (T := TX11) (N := 9) hx hb hts iX11 hown hK hP 0 rfl rfl 6 (by decide) (hw 0 (.fieldLink RX11 41 "NumberFormats" "fed" "I") rfl) (fun _ h9 => h9) rfl dX11_putBytes_44 ?_
            refine lv_iconst (v := 1) hx hb dX11_putBytes_47 (by decide) ?_
            refine lv_iadd hx hb dX11_putBytes_48 ?_
            refine lv_topi (fun x_12 ex_12 => ?_)
            have b_x_2 := ti_b x_2
            have tx_12 := ti_add ex_12
            refine va_put (D := D) (ci := 8) (v := .int x_12) (ty := .int) (C := RX11) (T := TX11) (N := 9) hx hb hts iX11 tyX11 tyX11_ok nmX11 hown hK hP hD hS 0 rfl rfl 6 (by decide) (hw 0 (.fieldLink RX11 41 "NumberFormats" "fed" "I") rfl) (fun _ h9 => h9) rfl (by decide +kernel) rfl rfl (Nat.le_of_ble_eq_true rfl) dX11_putBytes_49 (fun H locs hP hD hS => ?_)
            have hP : va_P D vwCl [(h, .inr (8, [.ref h_tape, .ref h_text, .ref h_shower, .ref h_current, .ref h_spare, .int h_formatted, .int x_12, .int h_illPlace, .double h_value])), (h_tape, .inl (cI, 260, .inl f_11))] H := hP
            have hD : va_D A [(h, .inr (8, [.ref h_tape, .ref h_text, .ref h_shower, .ref h_current, .ref h_spare, .int h_formatted, .int x_12, .int h_illPlace, .double h_value])), (h_tape, .inl (cI, 260, .inl f_11))] := hD
            obtain ⟨x_13, ex_13⟩ : ∃ y : Int32, y = x_1 + (-8) := ⟨_, rfl⟩
            have b_x_1 := ti_b x_1
            have tx_13 := ti_add ex_13
            refine lv_iinc (v := x_13) (lv' := [(2, .int x_13), (0, .ref h), (1, .int p1)]) hx hb dX11_putBytes_52 hl (k := 0) rfl (by rw [ex_13]; rfl) (by decide) rfl (fun ls hl => ?_)
            refine lv_goto (tgt := 3) hx hb dX11_putBytes_55 (by decide) ?_
            exact hZ1 (ih_3 x_13 x_12 f_11 _ _ _ (by omega) (by omega) (by omega) (by omega) (by assumption) (by omega) hP hD hS hl)
  exact hZ1 (L_3 ((((24 : Int32).toInt + 8).toNat) + 1) 24 h_fed h_tapeF _ _ _ (by omega) (by omega) (by omega) (by omega) (by assumption) (by omega) hP hD hS hl)

def ow_X11_feed : List Cond := [Cond.fieldLink RX11 41 "NumberFormats" "fed" "I", Cond.methodLink RX11 44 yX11_putBytes, Cond.instanceMethod yX11_putBytes, Cond.selects RX11 yX11_putBytes yX11_putBytes, Cond.initialized RX11]
def pw_X11_feed : List Cond := Cond.code yX11_feed cX11_feed 6 (some .boolean) :: (ow_X11_feed ++ (pw_X11_putBytes ++ (wsX110)))
set_option maxRecDepth 20000 in
theorem mo_X11_feed : ∀ w ∈ ow_X11_feed, w ∈ lw_tbl := by decide +kernel
set_option maxRecDepth 20000 in
theorem mc_X11_feed : Cond.code yX11_feed cX11_feed 6 (some .boolean) ∈ lw_tbl := by decide +kernel
theorem m_X11_feed : ∀ w ∈ pw_X11_feed, w ∈ lw_tbl := List.forall_mem_cons.mpr ⟨mc_X11_feed, (List.forall_mem_append.mpr ⟨mo_X11_feed, (List.forall_mem_append.mpr ⟨m_X11_putBytes, inX11⟩)⟩)⟩
theorem ko_X11_feed : ∀ w ∈ ow_X11_feed, goodWord w = true := by decide +kernel
theorem k_X11_feed : pw_X11_feed.all goodWord = true := List.all_eq_true.mpr (List.forall_mem_cons.mpr ⟨by decide +kernel, (List.forall_mem_append.mpr ⟨ko_X11_feed, (List.forall_mem_append.mpr ⟨(List.all_eq_true.mp k_X11_putBytes), kX_X11⟩)⟩)⟩)
set_option maxHeartbeats 400000 in
set_option maxRecDepth 100000 in
theorem c_X11_feed (l : Launch) (D : va_G) (cI cD cJ : ClassId) (sz : Nat) (h : Nat) (h_tape : Nat) (h_text : Nat) (h_shower : Nat) (h_current : Nat) (h_spare : Nat) (h_formatted : Int32) (h_fed : Int32) (h_illPlace : Int32) (h_value : UInt64) (h_tapeF : Nat → Int32) (p1 : Int32) (p2 : Int32) (p3 : Int32) (p4 : Int32) (p5 : Int32) (hh0 : h_fed.toInt % 20 = 0) (iv_h_formatted : (h_formatted : Int32).toInt = 0 ∨ (h_formatted : Int32).toInt = 1) (iv_h_fed : 0 ≤ (h_fed : Int32).toInt ∧ (h_fed : Int32).toInt ≤ 260) (iv_h_value : inR h_value) (iv_h_tapeF : ∀ k9 : Nat, k9 < 260 → 0 ≤ (h_tapeF k9).toInt ∧ (h_tapeF k9).toInt ≤ 255) : Met l yX11_feed pw_X11_feed ({ frames := 1, cells := 0, slots := 0, locals := 22 }) (va_Pc [.ref h, .int p1, .int p2, .int p3, .int p4, .int p5] (fun U => U.heap.size = sz ∧ va_P D vwCl [(h, .inr (8, [.ref h_tape, .ref h_text, .ref h_shower, .ref h_current, .ref h_spare, .int h_formatted, .int h_fed, .int h_illPlace, .double h_value])), (h_tape, .inl (cI, 260, .inl h_tapeF))] U.heap ∧ va_K D vwCl (ty3 cI cD cJ) U ∧ va_D (fun _ => True) [(h, .inr (8, [.ref h_tape, .ref h_text, .ref h_shower, .ref h_current, .ref h_spare, .int h_formatted, .int h_fed, .int h_illPlace, .double h_value])), (h_tape, .inl (cI, 260, .inl h_tapeF))])) (va_Qi (fun (r : Int32) (u : Int32 × (Nat → Int32)) => match u with | (h_fed2, h_tapeF2) => (r.toInt = 0 ∨ r.toInt = 1) ∧ ((r = 1 ∧ h_fed.toInt ≤ 240 ∧ h_fed2.toInt = h_fed.toInt + 20) ∨ (r = 0 ∧ h_fed.toInt = 260 ∧ h_fed2 = h_fed)) ∧ (0 ≤ (h_fed2 : Int32).toInt ∧ (h_fed2 : Int32).toInt ≤ 260) ∧ (∀ k9 : Nat, k9 < 260 → 0 ≤ (h_tapeF2 k9).toInt ∧ (h_tapeF2 k9).toInt ≤ 255)) (fun (u : Int32 × (Nat → Int32)) (t : State) => match u with | (h_fed2, h_tapeF2) => va_P D vwCl [(h, .inr (8, [.ref h_tape, .ref h_text, .ref h_shower, .ref h_current, .ref h_spare, .int h_formatted, .int h_fed2, .int h_illPlace, .double h_value])), (h_tape, .inl (cI, 260, .inl h_tapeF2))] t.heap ∧ va_K D vwCl (ty3 cI cD cJ) t ∧ va_D (va_A [(h, .inr (8, [.ref h_tape, .ref h_text, .ref h_shower, .ref h_current, .ref h_spare, .int h_formatted, .int h_fed, .int h_illPlace, .double h_value])), (h_tape, .inl (cI, 260, .inl h_tapeF))] sz) [(h, .inr (8, [.ref h_tape, .ref h_text, .ref h_shower, .ref h_current, .ref h_spare, .int h_formatted, .int h_fed2, .int h_illPlace, .double h_value])), (h_tape, .inl (cI, 260, .inl h_tapeF2))]) (va_A [(h, .inr (8, [.ref h_tape, .ref h_text, .ref h_shower, .ref h_current, .ref h_spare, .int h_formatted, .int h_fed, .int h_illPlace, .double h_value])), (h_tape, .inl (cI, 260, .inl h_tapeF))] sz)) 0 0 (va_A [(h, .inr (8, [.ref h_tape, .ref h_text, .ref h_shower, .ref h_current, .ref h_spare, .int h_formatted, .int h_fed, .int h_illPlace, .double h_value])), (h_tape, .inl (cI, 260, .inl h_tapeF))] sz) := by
  refine Met.ofW (cc := cX11_feed) (maxL := 6) (ret := (some .boolean)) (by decide +kernel) rfl ?_
  intro p e s m args below meth c s₁ B hml hv
  obtain ⟨rfl, hsz, hP, hK, hD0⟩ := hv
  have hx := B.exec
  have hb := B.bytes
  have hr := B.returns
  have hts := atoms_spec (ws := pw_X11_feed) B.pre
  have hown : s.vm.findClass RX11 = some m.cls := findClass_of_methodNamed B.named
  have hlocks := B.notSynchronized
  subst hsz
  have hD := hD0.self (sz := s.heap.size)
  generalize hAe : va_A [(h, .inr (8, [.ref h_tape, .ref h_text, .ref h_shower, .ref h_current, .ref h_spare, .int h_formatted, .int h_fed, .int h_illPlace, .double h_value])), (h_tape, .inl (cI, 260, .inl h_tapeF))] s.heap.size = A at hD ⊢
  have hA : ∀ q : Nat, s.heap.size ≤ q → A q := fun q h => by rw [← hAe]; exact Or.inr h
  have hS : va_S A s.heap s.heap [] := va_S.rf
  have hw : ∀ (k : Nat) (w : Cond), ow_X11_feed[k]? = some w → w.before _ s = true := fun k w h => hts w (List.mem_cons_of_mem _ (have h9 := List.mem_of_getElem? h; List.mem_append_left _ h9))
  have i_X11_putBytes : ∀ w ∈ pw_X11_putBytes, w ∈ pw_X11_feed := fun w h9 => List.mem_cons_of_mem _ (List.mem_append_right _ (List.mem_append_left _ h9))
  have iX11 : ∀ w ∈ u_ws RX11 TX11 9, w ∈ pw_X11_feed := fun w h9 => List.mem_cons_of_mem _ (List.mem_append_right _ (List.mem_append_right _ (h9)))
  have n_0 : ((0 : Int32)).toInt = 0 := by decide
  have n_1 : ((1 : Int32)).toInt = 1 := by decide
  have n_20 : ((20 : Int32)).toInt = 20 := by decide
  have n_260 : ((260 : Int32)).toInt = 260 := by decide
  have hl := lv_entry ([.ref h, .int p1, .int p2, .int p3, .int p4, .int p5]) (n := 6) (Nat.le_of_ble_eq_true rfl)
  rw [lg_entry_eq]
  generalize (lg_sl ([.ref h, .int p1, .int p2, .int p3, .int p4, .int p5]) ++ List.replicate (6 - (lg_sl ([.ref h, .int p1, .int p2, .int p3, .int p4, .int p5])).length) Slot.unset).toArray = ls at hl ⊢
  have hl : lv_has ls 6 [(0, .ref h), (1, .int p1), (2, .int p2), (3, .int p3), (4, .int p4), (5, .int p5)] := hl
  have b_p1 := ti_b p1
  have b_p2 := ti_b p2
  have b_p3 := ti_b p3
  have b_p4 := ti_b p4
  have b_p5 := ti_b p5
  refine lv_aload_n hx hb dX11_feed_0 rfl (lv_at hl 0 rfl) ?_
  refine va_get (D := D) (ci := 8) (v := .int h_fed) (C := RX11) (T := TX11) (N := 9) hx hb hts iX11 hown hK hP 0 rfl rfl 6 (by decide) (hw 0 (.fieldLink RX11 41 "NumberFormats" "fed" "I") rfl) (fun _ h9 => h9) rfl dX11_feed_1 ?_
  refine lv_bipush (v := 20) hx hb dX11_feed_4 (by decide) ?_
  refine lv_iadd hx hb dX11_feed_6 ?_
  refine lv_topi (fun x_1 ex_1 => ?_)
  have b_h_fed := ti_b h_fed
  have tx_1 := ti_add ex_1
  refine lv_sipush (v := 260) hx hb dX11_feed_7 (by decide) ?_
  refine lv_icmp_le (tgt := 15) hx hb dX11_feed_10 (by decide) (fun c_2 => ?_) (fun c_2 => ?_)
  · have ic_2 : (x_1 : Int32).toInt ≤ (260 : Int32).toInt := (fa_le x_1 260).mp c_2
    refine lv_aload_n hx hb dX11_feed_15 rfl (lv_at hl 0 rfl) ?_
    refine lv_iload_n hx hb dX11_feed_16 rfl (lv_at hl 1 rfl) ?_
    have hPc := hP.sub (ws' := [(h, .inr (8, [.ref h_tape, .ref h_text, .ref h_shower, .ref h_current, .ref h_spare, .int h_formatted, .int h_fed, .int h_illPlace, .double h_value])), (h_tape, .inl (cI, 260, .inl h_tapeF))]) [0, 1] rfl
    have hDc := hD.sub (ws' := [(h, .inr (8, [.ref h_tape, .ref h_text, .ref h_shower, .ref h_current, .ref h_spare, .int h_formatted, .int h_fed, .int h_illPlace, .double h_value])), (h_tape, .inl (cI, 260, .inl h_tapeF))]) [0, 1] (by decide) rfl
    have hFc := va_free (wc := [(h, .inr (8, [.ref h_tape, .ref h_text, .ref h_shower, .ref h_current, .ref h_spare, .int h_formatted, .int h_fed, .int h_illPlace, .double h_value])), (h_tape, .inl (cI, 260, .inl h_tapeF))]) hD hS hA [0, 1] rfl
    refine va_callv (va_runV (As := [.int p1]) (rest := []) ⟨hx, hb, hml, hown, hts⟩ (c_X11_putBytes l D cI cD cJ s.heap.size h h_tape h_text h_shower h_current h_spare h_formatted h_fed h_illPlace h_value h_tapeF p1 (by omega) (by omega) (by omega) (by assumption) (by assumption)) (cwV 1 hts (goodIn_app (goodIn_r _ [2, 3, 4, 5] rfl (by decide +kernel)) (goodIn_sub i_X11_putBytes k_X11_putBytes)) rfl rfl rfl (by decide +kernel) ⟨Nat.le_of_ble_eq_true rfl, Nat.le_of_ble_eq_true rfl⟩) ⟨fun a U g mk q => by obtain ⟨q0, q1, qP, qK, qD⟩ := q; exact ⟨q0, q1, qP, va_K.moved (u := U) (U := U.calling g mk a) (Vm.Alike.refl U.vm) qK, qD⟩, va_recv hK hPc (ci := 8) (q0 := 0) rfl rfl, fun U hU hW => ⟨rfl, by rw [hU], by rw [hU]; exact hPc, va_K.moved hW.alike hK, hDc.weaken (fun _ _ _ _ => trivial)⟩⟩ rfl rfl hl.1 rfl (lv_room (Nat.le_of_ble_eq_true rfl)) dX11_feed_17 ⟨Nat.le_of_ble_eq_true rfl, Nat.le_of_ble_eq_true rfl⟩) hS (fun q _ h => hFc q h) hFc (fun u t H1 locs ht hvm w_3 hB hz1 hk1 hS => ?_)
    obtain ⟨u_4, u_5⟩ := u
    obtain ⟨hP1, hK1, hD1⟩ := hB
    rw [ht] at hP1
    try dsimp only at w_3
    obtain ⟨hP, hD⟩ := va_join (wr := []) (w1 := [(h, .inr (8, [.ref h_tape, .ref h_text, .ref h_shower, .ref h_current, .ref h_spare, .int h_formatted, .int u_4, .int h_illPlace, .double h_value])), (h_tape, .inl (cI, 260, .inl u_5))]) hP hD [0, 1] [] rfl rfl (by decide) (by decide) hk1 hFc hP1 hD1
    generalize H1 = H at hP hS ⊢
    have hP : va_P D vwCl [(h, .inr (8, [.ref h_tape, .ref h_text, .ref h_shower, .ref h_current, .ref h_spare, .int h_formatted, .int u_4, .int h_illPlace, .double h_value])), (h_tape, .inl (cI, 260, .inl u_5))] H := hP
    have hD : va_D A [(h, .inr (8, [.ref h_tape, .ref h_text, .ref h_shower, .ref h_current, .ref h_spare, .int h_formatted, .int u_4, .int h_illPlace, .double h_value])), (h_tape, .inl (cI, 260, .inl u_5))] := hD
    obtain ⟨w_3_0, w_3_1, w_3_2⟩ := w_3
    refine lv_aload_n hx hb dX11_feed_20 rfl (lv_at hl 0 rfl) ?_
    refine lv_iload_n hx hb dX11_feed_21 rfl (lv_at hl 2 rfl) ?_
    have hPc := hP.sub (ws' := [(h, .inr (8, [.ref h_tape, .ref h_text, .ref h_shower, .ref h_current, .ref h_spare, .int h_formatted, .int u_4, .int h_illPlace, .double h_value])), (h_tape, .inl (cI, 260, .inl u_5))]) [0, 1] rfl
    have hDc := hD.sub (ws' := [(h, .inr (8, [.ref h_tape, .ref h_text, .ref h_shower, .ref h_current, .ref h_spare, .int h_formatted, .int u_4, .int h_illPlace, .double h_value])), (h_tape, .inl (cI, 260, .inl u_5))]) [0, 1] (by decide) rfl
    have hFc := va_free (wc := [(h, .inr (8, [.ref h_tape, .ref h_text, .ref h_shower, .ref h_current, .ref h_spare, .int h_formatted, .int u_4, .int h_illPlace, .double h_value])), (h_tape, .inl (cI, 260, .inl u_5))]) hD hS hA [0, 1] rfl
    refine va_callv (va_runV (As := [.int p2]) (rest := []) ⟨hx, hb, hml, hown, hts⟩ (c_X11_putBytes l D cI cD cJ H.size h h_tape h_text h_shower h_current h_spare h_formatted u_4 h_illPlace h_value u_5 p2 (by omega) (by omega) (by omega) (by assumption) (by assumption)) (cwV 1 hts (goodIn_app (goodIn_r _ [2, 3, 4, 5] rfl (by decide +kernel)) (goodIn_sub i_X11_putBytes k_X11_putBytes)) rfl rfl rfl (by decide +kernel) ⟨Nat.le_of_ble_eq_true rfl, Nat.le_of_ble_eq_true rfl⟩) ⟨fun a U g mk q => by obtain ⟨q0, q1, qP, qK, qD⟩ := q; exact ⟨q0, q1, qP, va_K.moved (u := U) (U := U.calling g mk a) (Vm.Alike.refl U.vm) qK, qD⟩, va_recv hK hPc (ci := 8) (q0 := 0) rfl rfl, fun U hU hW => ⟨rfl, by rw [hU], by rw [hU]; exact hPc, va_K.moved hW.alike hK, hDc.weaken (fun _ _ _ _ => trivial)⟩⟩ rfl rfl hl.1 rfl (lv_room (Nat.le_of_ble_eq_true rfl)) dX11_feed_22 ⟨Nat.le_of_ble_eq_true rfl, Nat.le_of_ble_eq_true rfl⟩) hS (fun q _ h => hFc q h) hFc (fun u t H1 locs ht hvm w_6 hB hz1 hk1 hS => ?_)
    obtain ⟨u_7, u_8⟩ := u
    obtain ⟨hP1, hK1, hD1⟩ := hB
    rw [ht] at hP1
    try dsimp only at w_6
    obtain ⟨hP, hD⟩ := va_join (wr := []) (w1 := [(h, .inr (8, [.ref h_tape, .ref h_text, .ref h_shower, .ref h_current, .ref h_spare, .int h_formatted, .int u_7, .int h_illPlace, .double h_value])), (h_tape, .inl (cI, 260, .inl u_8))]) hP hD [0, 1] [] rfl rfl (by decide) (by decide) hk1 hFc hP1 hD1
    generalize H1 = H at hP hS ⊢
    have hP : va_P D vwCl [(h, .inr (8, [.ref h_tape, .ref h_text, .ref h_shower, .ref h_current, .ref h_spare, .int h_formatted, .int u_7, .int h_illPlace, .double h_value])), (h_tape, .inl (cI, 260, .inl u_8))] H := hP
    have hD : va_D A [(h, .inr (8, [.ref h_tape, .ref h_text, .ref h_shower, .ref h_current, .ref h_spare, .int h_formatted, .int u_7, .int h_illPlace, .double h_value])), (h_tape, .inl (cI, 260, .inl u_8))] := hD
    obtain ⟨w_6_0, w_6_1, w_6_2⟩ := w_6
    refine lv_aload_n hx hb dX11_feed_25 rfl (lv_at hl 0 rfl) ?_
    refine lv_iload_n hx hb dX11_feed_26 rfl (lv_at hl 3 rfl) ?_
    have hPc := hP.sub (ws' := [(h, .inr (8, [.ref h_tape, .ref h_text, .ref h_shower, .ref h_current, .ref h_spare, .int h_formatted, .int u_7, .int h_illPlace, .double h_value])), (h_tape, .inl (cI, 260, .inl u_8))]) [0, 1] rfl
    have hDc := hD.sub (ws' := [(h, .inr (8, [.ref h_tape, .ref h_text, .ref h_shower, .ref h_current, .ref h_spare, .int h_formatted, .int u_7, .int h_illPlace, .double h_value])), (h_tape, .inl (cI, 260, .inl u_8))]) [0, 1] (by decide) rfl
    have hFc := va_free (wc := [(h, .inr (8, [.ref h_tape, .ref h_text, .ref h_shower, .ref h_current, .ref h_spare, .int h_formatted, .int u_7, .int h_illPlace, .double h_value])), (h_tape, .inl (cI, 260, .inl u_8))]) hD hS hA [0, 1] rfl
    refine va_callv (va_runV (As := [.int p3]) (rest := []) ⟨hx, hb, hml, hown, hts⟩ (c_X11_putBytes l D cI cD cJ H.size h h_tape h_text h_shower h_current h_spare h_formatted u_7 h_illPlace h_value u_8 p3 (by omega) (by omega) (by omega) (by assumption) (by assumption)) (cwV 1 hts (goodIn_app (goodIn_r _ [2, 3, 4, 5] rfl (by decide +kernel)) (goodIn_sub i_X11_putBytes k_X11_putBytes)) rfl rfl rfl (by decide +kernel) ⟨Nat.le_of_ble_eq_true rfl, Nat.le_of_ble_eq_true rfl⟩) ⟨fun a U g mk q => by obtain ⟨q0, q1, qP, qK, qD⟩ := q; exact ⟨q0, q1, qP, va_K.moved (u := U) (U := U.calling g mk a) (Vm.Alike.refl U.vm) qK, qD⟩, va_recv hK hPc (ci := 8) (q0 := 0) rfl rfl, fun U hU hW => ⟨rfl, by rw [hU], by rw [hU]; exact hPc, va_K.moved hW.alike hK, hDc.weaken (fun _ _ _ _ => trivial)⟩⟩ rfl rfl hl.1 rfl (lv_room (Nat.le_of_ble_eq_true rfl)) dX11_feed_27 ⟨Nat.le_of_ble_eq_true rfl, Nat.le_of_ble_eq_true rfl⟩) hS (fun q _ h => hFc q h) hFc (fun u t H1 locs ht hvm w_9 hB hz1 hk1 hS => ?_)
    obtain ⟨u_10, u_11⟩ := u
    obtain ⟨hP1, hK1, hD1⟩ := hB
    rw [ht] at hP1
    try dsimp only at w_9
    obtain ⟨hP, hD⟩ := va_join (wr := []) (w1 := [(h, .inr (8, [.ref h_tape, .ref h_text, .ref h_shower, .ref h_current, .ref h_spare, .int h_formatted, .int u_10, .int h_illPlace, .double h_value])), (h_tape, .inl (cI, 260, .inl u_11))]) hP hD [0, 1] [] rfl rfl (by decide) (by decide) hk1 hFc hP1 hD1
    generalize H1 = H at hP hS ⊢
    have hP : va_P D vwCl [(h, .inr (8, [.ref h_tape, .ref h_text, .ref h_shower, .ref h_current, .ref h_spare, .int h_formatted, .int u_10, .int h_illPlace, .double h_value])), (h_tape, .inl (cI, 260, .inl u_11))] H := hP
    have hD : va_D A [(h, .inr (8, [.ref h_tape, .ref h_text, .ref h_shower, .ref h_current, .ref h_spare, .int h_formatted, .int u_10, .int h_illPlace, .double h_value])), (h_tape, .inl (cI, 260, .inl u_11))] := hD
    obtain ⟨w_9_0, w_9_1, w_9_2⟩ := w_9
    refine lv_aload_n hx hb dX11_feed_30 rfl (lv_at hl 0 rfl) ?_
    refine lv_iload hx hb dX11_feed_31 (lv_at hl 4 rfl) ?_
    have hPc := hP.sub (ws' := [(h, .inr (8, [.ref h_tape, .ref h_text, .ref h_shower, .ref h_current, .ref h_spare, .int h_formatted, .int u_10, .int h_illPlace, .double h_value])), (h_tape, .inl (cI, 260, .inl u_11))]) [0, 1] rfl
    have hDc := hD.sub (ws' := [(h, .inr (8, [.ref h_tape, .ref h_text, .ref h_shower, .ref h_current, .ref h_spare, .int h_formatted, .int u_10, .int h_illPlace, .double h_value])), (h_tape, .inl (cI, 260, .inl u_11))]) [0, 1] (by decide) rfl
    have hFc := va_free (wc := [(h, .inr (8, [.ref h_tape, .ref h_text, .ref h_shower, .ref h_current, .ref h_spare, .int h_formatted, .int u_10, .int h_illPlace, .double h_value])), (h_tape, .inl (cI, 260, .inl u_11))]) hD hS hA [0, 1] rfl
    refine va_callv (va_runV (As := [.int p4]) (rest := []) ⟨hx, hb, hml, hown, hts⟩ (c_X11_putBytes l D cI cD cJ H.size h h_tape h_text h_shower h_current h_spare h_formatted u_10 h_illPlace h_value u_11 p4 (by omega) (by omega) (by omega) (by assumption) (by assumption)) (cwV 1 hts (goodIn_app (goodIn_r _ [2, 3, 4, 5] rfl (by decide +kernel)) (goodIn_sub i_X11_putBytes k_X11_putBytes)) rfl rfl rfl (by decide +kernel) ⟨Nat.le_of_ble_eq_true rfl, Nat.le_of_ble_eq_true rfl⟩) ⟨fun a U g mk q => by obtain ⟨q0, q1, qP, qK, qD⟩ := q; exact ⟨q0, q1, qP, va_K.moved (u := U) (U := U.calling g mk a) (Vm.Alike.refl U.vm) qK, qD⟩, va_recv hK hPc (ci := 8) (q0 := 0) rfl rfl, fun U hU hW => ⟨rfl, by rw [hU], by rw [hU]; exact hPc, va_K.moved hW.alike hK, hDc.weaken (fun _ _ _ _ => trivial)⟩⟩ rfl rfl hl.1 rfl (lv_room (Nat.le_of_ble_eq_true rfl)) dX11_feed_33 ⟨Nat.le_of_ble_eq_true rfl, Nat.le_of_ble_eq_true rfl⟩) hS (fun q _ h => hFc q h) hFc (fun u t H1 locs ht hvm w_12 hB hz1 hk1 hS => ?_)
    obtain ⟨u_13, u_14⟩ := u
    obtain ⟨hP1, hK1, hD1⟩ := hB
    rw [ht] at hP1
    try dsimp only at w_12
    obtain ⟨hP, hD⟩ := va_join (wr := []) (w1 := [(h, .inr (8, [.ref h_tape, .ref h_text, .ref h_shower, .ref h_current, .ref h_spare, .int h_formatted, .int u_13, .int h_illPlace, .double h_value])), (h_tape, .inl (cI, 260, .inl u_14))]) hP hD [0, 1] [] rfl rfl (by decide) (by decide) hk1 hFc hP1 hD1
    generalize H1 = H at hP hS ⊢
    have hP : va_P D vwCl [(h, .inr (8, [.ref h_tape, .ref h_text, .ref h_shower, .ref h_current, .ref h_spare, .int h_formatted, .int u_13, .int h_illPlace, .double h_value])), (h_tape, .inl (cI, 260, .inl u_14))] H := hP
    have hD : va_D A [(h, .inr (8, [.ref h_tape, .ref h_text, .ref h_shower, .ref h_current, .ref h_spare, .int h_formatted, .int u_13, .int h_illPlace, .double h_value])), (h_tape, .inl (cI, 260, .inl u_14))] := hD
    obtain ⟨w_12_0, w_12_1, w_12_2⟩ := w_12
    refine lv_aload_n hx hb dX11_feed_36 rfl (lv_at hl 0 rfl) ?_
    refine lv_iload hx hb dX11_feed_37 (lv_at hl 5 rfl) ?_
    have hPc := hP.sub (ws' := [(h, .inr (8, [.ref h_tape, .ref h_text, .ref h_shower, .ref h_current, .ref h_spare, .int h_formatted, .int u_13, .int h_illPlace, .double h_value])), (h_tape, .inl (cI, 260, .inl u_14))]) [0, 1] rfl
    have hDc := hD.sub (ws' := [(h, .inr (8, [.ref h_tape, .ref h_text, .ref h_shower, .ref h_current, .ref h_spare, .int h_formatted, .int u_13, .int h_illPlace, .double h_value])), (h_tape, .inl (cI, 260, .inl u_14))]) [0, 1] (by decide) rfl
    have hFc := va_free (wc := [(h, .inr (8, [.ref h_tape, .ref h_text, .ref h_shower, .ref h_current, .ref h_spare, .int h_formatted, .int u_13, .int h_illPlace, .double h_value])), (h_tape, .inl (cI, 260, .inl u_14))]) hD hS hA [0, 1] rfl
    refine va_callv (va_runV (As := [.int p5]) (rest := []) ⟨hx, hb, hml, hown, hts⟩ (c_X11_putBytes l D cI cD cJ H.size h h_tape h_text h_shower h_current h_spare h_formatted u_13 h_illPlace h_value u_14 p5 (by omega) (by omega) (by omega) (by assumption) (by assumption)) (cwV 1 hts (goodIn_app (goodIn_r _ [2, 3, 4, 5] rfl (by decide +kernel)) (goodIn_sub i_X11_putBytes k_X11_putBytes)) rfl rfl rfl (by decide +kernel) ⟨Nat.le_of_ble_eq_true rfl, Nat.le_of_ble_eq_true rfl⟩) ⟨fun a U g mk q => by obtain ⟨q0, q1, qP, qK, qD⟩ := q; exact ⟨q0, q1, qP, va_K.moved (u := U) (U := U.calling g mk a) (Vm.Alike.refl U.vm) qK, qD⟩, va_recv hK hPc (ci := 8) (q0 := 0) rfl rfl, fun U hU hW => ⟨rfl, by rw [hU], by rw [hU]; exact hPc, va_K.moved hW.alike hK, hDc.weaken (fun _ _ _ _ => trivial)⟩⟩ rfl rfl hl.1 rfl (lv_room (Nat.le_of_ble_eq_true rfl)) dX11_feed_39 ⟨Nat.le_of_ble_eq_true rfl, Nat.le_of_ble_eq_true rfl⟩) hS (fun q _ h => hFc q h) hFc (fun u t H1 locs ht hvm w_15 hB hz1 hk1 hS => ?_)
    obtain ⟨u_16, u_17⟩ := u
    obtain ⟨hP1, hK1, hD1⟩ := hB
    rw [ht] at hP1
    try dsimp only at w_15
    obtain ⟨hP, hD⟩ := va_join (wr := []) (w1 := [(h, .inr (8, [.ref h_tape, .ref h_text, .ref h_shower, .ref h_current, .ref h_spare, .int h_formatted, .int u_16, .int h_illPlace, .double h_value])), (h_tape, .inl (cI, 260, .inl u_17))]) hP hD [0, 1] [] rfl rfl (by decide) (by decide) hk1 hFc hP1 hD1
    generalize H1 = H at hP hS ⊢
    have hP : va_P D vwCl [(h, .inr (8, [.ref h_tape, .ref h_text, .ref h_shower, .ref h_current, .ref h_spare, .int h_formatted, .int u_16, .int h_illPlace, .double h_value])), (h_tape, .inl (cI, 260, .inl u_17))] H := hP
    have hD : va_D A [(h, .inr (8, [.ref h_tape, .ref h_text, .ref h_shower, .ref h_current, .ref h_spare, .int h_formatted, .int u_16, .int h_illPlace, .double h_value])), (h_tape, .inl (cI, 260, .inl u_17))] := hD
    obtain ⟨w_15_0, w_15_1, w_15_2⟩ := w_15
    refine lv_iconst (v := 1) hx hb dX11_feed_42 (by decide) ?_
    have hP9 := hP.sub (ws' := [(h, .inr (8, [.ref h_tape, .ref h_text, .ref h_shower, .ref h_current, .ref h_spare, .int h_formatted, .int u_16, .int h_illPlace, .double h_value])), (h_tape, .inl (cI, 260, .inl u_17))]) [0, 1] rfl
    have hD9 := hD.sub (ws' := [(h, .inr (8, [.ref h_tape, .ref h_text, .ref h_shower, .ref h_current, .ref h_spare, .int h_formatted, .int u_16, .int h_illPlace, .double h_value])), (h_tape, .inl (cI, 260, .inl u_17))]) [0, 1] (by decide) rfl
    exact W.zret (v := 1) hx hb hr rfl (fun t ht hW => ⟨⟨1, (u_16, u_17), rfl, (by (try dsimp only); refine ⟨?_, ?_, ?_, ?_⟩ <;> first | omega | assumption | exact Or.inr ⟨rfl, by omega, rfl⟩ | exact Or.inl ⟨rfl, by omega, by omega⟩), by rw [ht]; exact hP9, va_K.moved hW.alike hK, hD9⟩, hS.F ht⟩) hS.2.2 dX11_feed_43
  · have ic_2 : ¬ ((x_1 : Int32).toInt ≤ (260 : Int32).toInt) := fun h9 => c_2 ((fa_le x_1 260).mpr h9)
    refine lv_iconst (v := 0) hx hb dX11_feed_13 (by decide) ?_
    have hP9 := hP.sub (ws' := [(h, .inr (8, [.ref h_tape, .ref h_text, .ref h_shower, .ref h_current, .ref h_spare, .int h_formatted, .int h_fed, .int h_illPlace, .double h_value])), (h_tape, .inl (cI, 260, .inl h_tapeF))]) [0, 1] rfl
    have hD9 := hD.sub (ws' := [(h, .inr (8, [.ref h_tape, .ref h_text, .ref h_shower, .ref h_current, .ref h_spare, .int h_formatted, .int h_fed, .int h_illPlace, .double h_value])), (h_tape, .inl (cI, 260, .inl h_tapeF))]) [0, 1] (by decide) rfl
    exact W.zret (v := 0) hx hb hr rfl (fun t ht hW => ⟨⟨0, (h_fed, h_tapeF), rfl, (by (try dsimp only); refine ⟨?_, ?_, ?_, ?_⟩ <;> first | omega | assumption | exact Or.inr ⟨rfl, by omega, rfl⟩ | exact Or.inl ⟨rfl, by omega, by omega⟩), by rw [ht]; exact hP9, va_K.moved hW.alike hK, hD9⟩, hS.F ht⟩) hS.2.2 dX11_feed_14

def ow_X11_end : List Cond := [Cond.fieldLink RX11 41 "NumberFormats" "fed" "I", Cond.fieldLink RX11 16 "NumberFormats" "text" "LNumberFormats$Text;", Cond.fieldLink RX11 9 "NumberFormats" "tape" "[I", Cond.methodLink RX11 48 yX10_take, Cond.instanceMethod yX10_take, Cond.selects RX10 yX10_take yX10_take, Cond.initialized RX10]
def pw_X11_end : List Cond := Cond.code yX11_end cX11_end 2 (some .boolean) :: (ow_X11_end ++ (pw_X10_take ++ (wsX110)))
set_option maxRecDepth 20000 in
theorem mo_X11_end : ∀ w ∈ ow_X11_end, w ∈ lw_tbl := by decide +kernel
set_option maxRecDepth 20000 in
theorem mc_X11_end : Cond.code yX11_end cX11_end 2 (some .boolean) ∈ lw_tbl := by decide +kernel
theorem m_X11_end : ∀ w ∈ pw_X11_end, w ∈ lw_tbl := List.forall_mem_cons.mpr ⟨mc_X11_end, (List.forall_mem_append.mpr ⟨mo_X11_end, (List.forall_mem_append.mpr ⟨m_X10_take, inX11⟩)⟩)⟩
theorem ko_X11_end : ∀ w ∈ ow_X11_end, goodWord w = true := by decide +kernel
theorem k_X11_end : pw_X11_end.all goodWord = true := List.all_eq_true.mpr (List.forall_mem_cons.mpr ⟨by decide +kernel, (List.forall_mem_append.mpr ⟨ko_X11_end, (List.forall_mem_append.mpr ⟨(List.all_eq_true.mp k_X10_take), kX_X11⟩)⟩)⟩)
set_option maxHeartbeats 400000 in
set_option maxRecDepth 100000 in
theorem c_X11_end (l : Launch) (D : va_G) (cI cD cJ : ClassId) (sz : Nat) (h : Nat) (h_tape : Nat) (h_text : Nat) (h_shower : Nat) (h_current : Nat) (h_spare : Nat) (h_formatted : Int32) (h_fed : Int32) (h_illPlace : Int32) (h_value : UInt64) (h_tapeF : Nat → Int32) (h_text_signs : Nat) (h_text_length : Int32) (h_text_signsF : Nat → Int32) (p1 : Int32) (iv_h_formatted : (h_formatted : Int32).toInt = 0 ∨ (h_formatted : Int32).toInt = 1) (iv_h_fed : 0 ≤ (h_fed : Int32).toInt ∧ (h_fed : Int32).toInt ≤ 260) (iv_h_value : inR h_value) (iv_h_tapeF : ∀ k9 : Nat, k9 < 260 → 0 ≤ (h_tapeF k9).toInt ∧ (h_tapeF k9).toInt ≤ 255) (iv_h_text_length : 0 ≤ (h_text_length : Int32).toInt ∧ (h_text_length : Int32).toInt ≤ 255) (iv_h_text_signsF : ∀ k9 : Nat, k9 < 255 → 0 ≤ (h_text_signsF k9).toInt ∧ (h_text_signsF k9).toInt ≤ 255) : Met l yX11_end pw_X11_end ({ frames := 1, cells := 0, slots := 0, locals := 23 }) (va_Pc [.ref h, .int p1] (fun U => U.heap.size = sz ∧ va_P D vwCl [(h, .inr (8, [.ref h_tape, .ref h_text, .ref h_shower, .ref h_current, .ref h_spare, .int h_formatted, .int h_fed, .int h_illPlace, .double h_value])), (h_tape, .inl (cI, 260, .inl h_tapeF)), (h_text, .inr (7, [.ref h_text_signs, .int h_text_length])), (h_text_signs, .inl (cI, 255, .inl h_text_signsF))] U.heap ∧ va_K D vwCl (ty3 cI cD cJ) U ∧ va_D (fun _ => True) [(h, .inr (8, [.ref h_tape, .ref h_text, .ref h_shower, .ref h_current, .ref h_spare, .int h_formatted, .int h_fed, .int h_illPlace, .double h_value])), (h_tape, .inl (cI, 260, .inl h_tapeF)), (h_text, .inr (7, [.ref h_text_signs, .int h_text_length])), (h_text_signs, .inl (cI, 255, .inl h_text_signsF))])) (va_Qi (fun (r : Int32) (u : Int32 × Int32 × (Nat → Int32)) => match u with | (h_fed2, h_text_length2, h_text_signsF2) => (r.toInt = 0 ∨ r.toInt = 1) ∧ ((r = 1 ∧ 0 ≤ p1.toInt ∧ p1.toInt ≤ h_fed.toInt ∧ p1.toInt ≤ 255 ∧ h_fed2 = 0) ∨ (r = 0 ∧ (p1.toInt < 0 ∨ h_fed.toInt < p1.toInt ∨ 255 < p1.toInt) ∧ h_fed2 = h_fed)) ∧ (0 ≤ (h_fed2 : Int32).toInt ∧ (h_fed2 : Int32).toInt ≤ 260) ∧ (0 ≤ (h_text_length2 : Int32).toInt ∧ (h_text_length2 : Int32).toInt ≤ 255) ∧ (∀ k9 : Nat, k9 < 255 → 0 ≤ (h_text_signsF2 k9).toInt ∧ (h_text_signsF2 k9).toInt ≤ 255)) (fun (u : Int32 × Int32 × (Nat → Int32)) (t : State) => match u with | (h_fed2, h_text_length2, h_text_signsF2) => va_P D vwCl [(h, .inr (8, [.ref h_tape, .ref h_text, .ref h_shower, .ref h_current, .ref h_spare, .int h_formatted, .int h_fed2, .int h_illPlace, .double h_value])), (h_tape, .inl (cI, 260, .inl h_tapeF)), (h_text, .inr (7, [.ref h_text_signs, .int h_text_length2])), (h_text_signs, .inl (cI, 255, .inl h_text_signsF2))] t.heap ∧ va_K D vwCl (ty3 cI cD cJ) t ∧ va_D (va_A [(h, .inr (8, [.ref h_tape, .ref h_text, .ref h_shower, .ref h_current, .ref h_spare, .int h_formatted, .int h_fed, .int h_illPlace, .double h_value])), (h_tape, .inl (cI, 260, .inl h_tapeF)), (h_text, .inr (7, [.ref h_text_signs, .int h_text_length])), (h_text_signs, .inl (cI, 255, .inl h_text_signsF))] sz) [(h, .inr (8, [.ref h_tape, .ref h_text, .ref h_shower, .ref h_current, .ref h_spare, .int h_formatted, .int h_fed2, .int h_illPlace, .double h_value])), (h_tape, .inl (cI, 260, .inl h_tapeF)), (h_text, .inr (7, [.ref h_text_signs, .int h_text_length2])), (h_text_signs, .inl (cI, 255, .inl h_text_signsF2))]) (va_A [(h, .inr (8, [.ref h_tape, .ref h_text, .ref h_shower, .ref h_current, .ref h_spare, .int h_formatted, .int h_fed, .int h_illPlace, .double h_value])), (h_tape, .inl (cI, 260, .inl h_tapeF)), (h_text, .inr (7, [.ref h_text_signs, .int h_text_length])), (h_text_signs, .inl (cI, 255, .inl h_text_signsF))] sz)) 0 0 (va_A [(h, .inr (8, [.ref h_tape, .ref h_text, .ref h_shower, .ref h_current, .ref h_spare, .int h_formatted, .int h_fed, .int h_illPlace, .double h_value])), (h_tape, .inl (cI, 260, .inl h_tapeF)), (h_text, .inr (7, [.ref h_text_signs, .int h_text_length])), (h_text_signs, .inl (cI, 255, .inl h_text_signsF))] sz) := by
  refine Met.ofW (cc := cX11_end) (maxL := 2) (ret := (some .boolean)) (by decide +kernel) rfl ?_
  intro p e s m args below meth c s₁ B hml hv
  obtain ⟨rfl, hsz, hP, hK, hD0⟩ := hv
  have hx := B.exec
  have hb := B.bytes
  have hr := B.returns
  have hts := atoms_spec (ws := pw_X11_end) B.pre
  have hown : s.vm.findClass RX11 = some m.cls := findClass_of_methodNamed B.named
  have hlocks := B.notSynchronized
  subst hsz
  have hD := hD0.self (sz := s.heap.size)
  generalize hAe : va_A [(h, .inr (8, [.ref h_tape, .ref h_text, .ref h_shower, .ref h_current, .ref h_spare, .int h_formatted, .int h_fed, .int h_illPlace, .double h_value])), (h_tape, .inl (cI, 260, .inl h_tapeF)), (h_text, .inr (7, [.ref h_text_signs, .int h_text_length])), (h_text_signs, .inl (cI, 255, .inl h_text_signsF))] s.heap.size = A at hD ⊢
  have hA : ∀ q : Nat, s.heap.size ≤ q → A q := fun q h => by rw [← hAe]; exact Or.inr h
  have hS : va_S A s.heap s.heap [] := va_S.rf
  have hw : ∀ (k : Nat) (w : Cond), ow_X11_end[k]? = some w → w.before _ s = true := fun k w h => hts w (List.mem_cons_of_mem _ (have h9 := List.mem_of_getElem? h; List.mem_append_left _ h9))
  have i_X10_take : ∀ w ∈ pw_X10_take, w ∈ pw_X11_end := fun w h9 => List.mem_cons_of_mem _ (List.mem_append_right _ (List.mem_append_left _ h9))
  have iX11 : ∀ w ∈ u_ws RX11 TX11 9, w ∈ pw_X11_end := fun w h9 => List.mem_cons_of_mem _ (List.mem_append_right _ (List.mem_append_right _ (h9)))
  have n_0 : ((0 : Int32)).toInt = 0 := by decide
  have n_1 : ((1 : Int32)).toInt = 1 := by decide
  have n_255 : ((255 : Int32)).toInt = 255 := by decide
  have hl := lv_entry ([.ref h, .int p1]) (n := 2) (Nat.le_of_ble_eq_true rfl)
  rw [lg_entry_eq]
  generalize (lg_sl ([.ref h, .int p1]) ++ List.replicate (2 - (lg_sl ([.ref h, .int p1])).length) Slot.unset).toArray = ls at hl ⊢
  have hl : lv_has ls 2 [(0, .ref h), (1, .int p1)] := hl
  have b_p1 := ti_b p1
  refine lv_iload_n hx hb dX11_end_0 rfl (lv_at hl 1 rfl) ?_
  refine lv_if_lt (tgt := 19) hx hb dX11_end_1 (by decide) (fun c_1 => ?_) (fun c_1 => ?_)
  · have ic_1 : (p1 : Int32).toInt < (0 : Int32).toInt := (fa_lt p1 0).mp c_1
    refine lv_iconst (v := 0) hx hb dX11_end_19 (by decide) ?_
    have hP9 := hP.sub (ws' := [(h, .inr (8, [.ref h_tape, .ref h_text, .ref h_shower, .ref h_current, .ref h_spare, .int h_formatted, .int h_fed, .int h_illPlace, .double h_value])), (h_tape, .inl (cI, 260, .inl h_tapeF)), (h_text, .inr (7, [.ref h_text_signs, .int h_text_length])), (h_text_signs, .inl (cI, 255, .inl h_text_signsF))]) [0, 1, 2, 3] rfl
    have hD9 := hD.sub (ws' := [(h, .inr (8, [.ref h_tape, .ref h_text, .ref h_shower, .ref h_current, .ref h_spare, .int h_formatted, .int h_fed, .int h_illPlace, .double h_value])), (h_tape, .inl (cI, 260, .inl h_tapeF)), (h_text, .inr (7, [.ref h_text_signs, .int h_text_length])), (h_text_signs, .inl (cI, 255, .inl h_text_signsF))]) [0, 1, 2, 3] (by decide) rfl
    exact W.zret (v := 0) hx hb hr rfl (fun t ht hW => ⟨⟨0, (h_fed, h_text_length, h_text_signsF), rfl, (by (try dsimp only); refine ⟨?_, ?_, ?_, ?_, ?_⟩ <;> first | omega | assumption | exact Or.inr ⟨rfl, by omega, rfl⟩ | exact Or.inl ⟨rfl, by omega, by omega, by omega, rfl⟩), by rw [ht]; exact hP9, va_K.moved hW.alike hK, hD9⟩, hS.F ht⟩) hS.2.2 dX11_end_20
  · have ic_1 : ¬ ((p1 : Int32).toInt < (0 : Int32).toInt) := fun h9 => c_1 ((fa_lt p1 0).mpr h9)
    refine lv_iload_n hx hb dX11_end_4 rfl (lv_at hl 1 rfl) ?_
    refine lv_aload_n hx hb dX11_end_5 rfl (lv_at hl 0 rfl) ?_
    refine va_get (D := D) (ci := 8) (v := .int h_fed) (C := RX11) (T := TX11) (N := 9) hx hb hts iX11 hown hK hP 0 rfl rfl 6 (by decide) (hw 0 (.fieldLink RX11 41 "NumberFormats" "fed" "I") rfl) (fun _ h9 => h9) rfl dX11_end_6 ?_
    refine lv_icmp_gt (tgt := 19) hx hb dX11_end_9 (by decide) (fun c_2 => ?_) (fun c_2 => ?_)
    · have ic_2 : (h_fed : Int32).toInt < (p1 : Int32).toInt := (fa_lt h_fed p1).mp c_2
      refine lv_iconst (v := 0) hx hb dX11_end_19 (by decide) ?_
      have hP9 := hP.sub (ws' := [(h, .inr (8, [.ref h_tape, .ref h_text, .ref h_shower, .ref h_current, .ref h_spare, .int h_formatted, .int h_fed, .int h_illPlace, .double h_value])), (h_tape, .inl (cI, 260, .inl h_tapeF)), (h_text, .inr (7, [.ref h_text_signs, .int h_text_length])), (h_text_signs, .inl (cI, 255, .inl h_text_signsF))]) [0, 1, 2, 3] rfl
      have hD9 := hD.sub (ws' := [(h, .inr (8, [.ref h_tape, .ref h_text, .ref h_shower, .ref h_current, .ref h_spare, .int h_formatted, .int h_fed, .int h_illPlace, .double h_value])), (h_tape, .inl (cI, 260, .inl h_tapeF)), (h_text, .inr (7, [.ref h_text_signs, .int h_text_length])), (h_text_signs, .inl (cI, 255, .inl h_text_signsF))]) [0, 1, 2, 3] (by decide) rfl
      exact W.zret (v := 0) hx hb hr rfl (fun t ht hW => ⟨⟨0, (h_fed, h_text_length, h_text_signsF), rfl, (by (try dsimp only); refine ⟨?_, ?_, ?_, ?_, ?_⟩ <;> first | omega | assumption | exact Or.inr ⟨rfl, by omega, rfl⟩ | exact Or.inl ⟨rfl, by omega, by omega, by omega, rfl⟩), by rw [ht]; exact hP9, va_K.moved hW.alike hK, hD9⟩, hS.F ht⟩) hS.2.2 dX11_end_20
    · have ic_2 : ¬ ((h_fed : Int32).toInt < (p1 : Int32).toInt) := fun h9 => c_2 ((fa_lt h_fed p1).mpr h9)
      refine lv_iload_n hx hb dX11_end_12 rfl (lv_at hl 1 rfl) ?_
      refine lv_sipush (v := 255) hx hb dX11_end_13 (by decide) ?_
      refine lv_icmp_le (tgt := 21) hx hb dX11_end_16 (by decide) (fun c_3 => ?_) (fun c_3 => ?_)
      · have ic_3 : (p1 : Int32).toInt ≤ (255 : Int32).toInt := (fa_le p1 255).mp c_3
        refine lv_aload_n hx hb dX11_end_21 rfl (lv_at hl 0 rfl) ?_
        refine va_get (D := D) (ci := 8) (v := .ref h_text) (C := RX11) (T := TX11) (N := 9) hx hb hts iX11 hown hK hP 0 rfl rfl 1 (by decide) (hw 1 (.fieldLink RX11 16 "NumberFormats" "text" "LNumberFormats$Text;") rfl) (fun _ h9 => h9) rfl dX11_end_22 ?_
        refine lv_aload_n hx hb dX11_end_25 rfl (lv_at hl 0 rfl) ?_
        refine va_get (D := D) (ci := 8) (v := .ref h_tape) (C := RX11) (T := TX11) (N := 9) hx hb hts iX11 hown hK hP 0 rfl rfl 0 (by decide) (hw 2 (.fieldLink RX11 9 "NumberFormats" "tape" "[I") rfl) (fun _ h9 => h9) rfl dX11_end_26 ?_
        refine lv_iload_n hx hb dX11_end_29 rfl (lv_at hl 1 rfl) ?_
        have hPc := hP.sub (ws' := [(h_text, .inr (7, [.ref h_text_signs, .int h_text_length])), (h_text_signs, .inl (cI, 255, .inl h_text_signsF)), (h_tape, .inl (cI, 260, .inl h_tapeF))]) [2, 3, 1] rfl
        have hDc := hD.sub (ws' := [(h_text, .inr (7, [.ref h_text_signs, .int h_text_length])), (h_text_signs, .inl (cI, 255, .inl h_text_signsF)), (h_tape, .inl (cI, 260, .inl h_tapeF))]) [2, 3, 1] (by decide) rfl
        have hFc := va_free (wc := [(h_text, .inr (7, [.ref h_text_signs, .int h_text_length])), (h_text_signs, .inl (cI, 255, .inl h_text_signsF)), (h_tape, .inl (cI, 260, .inl h_tapeF))]) hD hS hA [2, 3, 1] rfl
        refine va_callv (va_runV (As := [.ref h_tape, .int p1]) (rest := []) ⟨hx, hb, hml, hown, hts⟩ (c_X10_take l D cI cD cJ s.heap.size h_text h_text_signs h_text_length h_text_signsF h_tape h_tapeF p1 (by omega) (by assumption) (by assumption)) (cwV 2 hts (goodIn_app (goodIn_r _ [4, 5, 6, 7] rfl (by decide +kernel)) (goodIn_sub i_X10_take k_X10_take)) rfl rfl rfl (by decide +kernel) ⟨Nat.le_of_ble_eq_true rfl, Nat.le_of_ble_eq_true rfl⟩) ⟨fun a U g mk q => by obtain ⟨q0, q1, qP, qK, qD⟩ := q; exact ⟨q0, q1, qP, va_K.moved (u := U) (U := U.calling g mk a) (Vm.Alike.refl U.vm) qK, qD⟩, va_recv hK hPc (ci := 7) (q0 := 0) rfl rfl, fun U hU hW => ⟨rfl, by rw [hU], by rw [hU]; exact hPc, va_K.moved hW.alike hK, hDc.weaken (fun _ _ _ _ => trivial)⟩⟩ rfl rfl hl.1 rfl (lv_room (Nat.le_of_ble_eq_true rfl)) dX11_end_30 ⟨Nat.le_of_ble_eq_true rfl, Nat.le_of_ble_eq_true rfl⟩) hS (fun q _ h => hFc q h) hFc (fun u t H1 locs ht hvm w_4 hB hz1 hk1 hS => ?_)
        obtain ⟨u_5, u_6⟩ := u
        obtain ⟨hP1, hK1, hD1⟩ := hB
        rw [ht] at hP1
        try dsimp only at w_4
        obtain ⟨hP, hD⟩ := va_join (wr := [(h, .inr (8, [.ref h_tape, .ref h_text, .ref h_shower, .ref h_current, .ref h_spare, .int h_formatted, .int h_fed, .int h_illPlace, .double h_value]))]) (w1 := [(h_text, .inr (7, [.ref h_text_signs, .int u_5])), (h_text_signs, .inl (cI, 255, .inl u_6)), (h_tape, .inl (cI, 260, .inl h_tapeF))]) hP hD [2, 3, 1] [0] rfl rfl (by decide) (by decide) hk1 hFc hP1 hD1
        generalize H1 = H at hP hS ⊢
        have hP : va_P D vwCl [(h, .inr (8, [.ref h_tape, .ref h_text, .ref h_shower, .ref h_current, .ref h_spare, .int h_formatted, .int h_fed, .int h_illPlace, .double h_value])), (h_text, .inr (7, [.ref h_text_signs, .int u_5])), (h_text_signs, .inl (cI, 255, .inl u_6)), (h_tape, .inl (cI, 260, .inl h_tapeF))] H := hP
        have hD : va_D A [(h, .inr (8, [.ref h_tape, .ref h_text, .ref h_shower, .ref h_current, .ref h_spare, .int h_formatted, .int h_fed, .int h_illPlace, .double h_value])), (h_text, .inr (7, [.ref h_text_signs, .int u_5])), (h_text_signs, .inl (cI, 255, .inl u_6)), (h_tape, .inl (cI, 260, .inl h_tapeF))] := hD
        obtain ⟨w_4_0, w_4_1⟩ := w_4
        refine lv_aload_n hx hb dX11_end_33 rfl (lv_at hl 0 rfl) ?_
        refine lv_iconst (v := 0) hx hb dX11_end_34 (by decide) ?_
        refine va_put (D := D) (ci := 8) (v := .int 0) (ty := .int) (C := RX11) (T := TX11) (N := 9) hx hb hts iX11 tyX11 tyX11_ok nmX11 hown hK hP hD hS 0 rfl rfl 6 (by decide) (hw 0 (.fieldLink RX11 41 "NumberFormats" "fed" "I") rfl) (fun _ h9 => h9) rfl (by decide +kernel) rfl rfl (Nat.le_of_ble_eq_true rfl) dX11_end_35 (fun H locs hP hD hS => ?_)
        have hP : va_P D vwCl [(h, .inr (8, [.ref h_tape, .ref h_text, .ref h_shower, .ref h_current, .ref h_spare, .int h_formatted, .int 0, .int h_illPlace, .double h_value])), (h_text, .inr (7, [.ref h_text_signs, .int u_5])), (h_text_signs, .inl (cI, 255, .inl u_6)), (h_tape, .inl (cI, 260, .inl h_tapeF))] H := hP
        have hD : va_D A [(h, .inr (8, [.ref h_tape, .ref h_text, .ref h_shower, .ref h_current, .ref h_spare, .int h_formatted, .int 0, .int h_illPlace, .double h_value])), (h_text, .inr (7, [.ref h_text_signs, .int u_5])), (h_text_signs, .inl (cI, 255, .inl u_6)), (h_tape, .inl (cI, 260, .inl h_tapeF))] := hD
        refine lv_iconst (v := 1) hx hb dX11_end_38 (by decide) ?_
        have hP9 := hP.sub (ws' := [(h, .inr (8, [.ref h_tape, .ref h_text, .ref h_shower, .ref h_current, .ref h_spare, .int h_formatted, .int 0, .int h_illPlace, .double h_value])), (h_tape, .inl (cI, 260, .inl h_tapeF)), (h_text, .inr (7, [.ref h_text_signs, .int u_5])), (h_text_signs, .inl (cI, 255, .inl u_6))]) [0, 3, 1, 2] rfl
        have hD9 := hD.sub (ws' := [(h, .inr (8, [.ref h_tape, .ref h_text, .ref h_shower, .ref h_current, .ref h_spare, .int h_formatted, .int 0, .int h_illPlace, .double h_value])), (h_tape, .inl (cI, 260, .inl h_tapeF)), (h_text, .inr (7, [.ref h_text_signs, .int u_5])), (h_text_signs, .inl (cI, 255, .inl u_6))]) [0, 3, 1, 2] (by decide) rfl
        exact W.zret (v := 1) hx hb hr rfl (fun t ht hW => ⟨⟨1, (0, u_5, u_6), rfl, (by (try dsimp only); refine ⟨?_, ?_, ?_, ?_, ?_⟩ <;> first | omega | assumption | exact Or.inr ⟨rfl, by omega, rfl⟩ | exact Or.inl ⟨rfl, by omega, by omega, by omega, rfl⟩), by rw [ht]; exact hP9, va_K.moved hW.alike hK, hD9⟩, hS.F ht⟩) hS.2.2 dX11_end_39
      · have ic_3 : ¬ ((p1 : Int32).toInt ≤ (255 : Int32).toInt) := fun h9 => c_3 ((fa_le p1 255).mpr h9)
        refine lv_iconst (v := 0) hx hb dX11_end_19 (by decide) ?_
        have hP9 := hP.sub (ws' := [(h, .inr (8, [.ref h_tape, .ref h_text, .ref h_shower, .ref h_current, .ref h_spare, .int h_formatted, .int h_fed, .int h_illPlace, .double h_value])), (h_tape, .inl (cI, 260, .inl h_tapeF)), (h_text, .inr (7, [.ref h_text_signs, .int h_text_length])), (h_text_signs, .inl (cI, 255, .inl h_text_signsF))]) [0, 1, 2, 3] rfl
        have hD9 := hD.sub (ws' := [(h, .inr (8, [.ref h_tape, .ref h_text, .ref h_shower, .ref h_current, .ref h_spare, .int h_formatted, .int h_fed, .int h_illPlace, .double h_value])), (h_tape, .inl (cI, 260, .inl h_tapeF)), (h_text, .inr (7, [.ref h_text_signs, .int h_text_length])), (h_text_signs, .inl (cI, 255, .inl h_text_signsF))]) [0, 1, 2, 3] (by decide) rfl
        exact W.zret (v := 0) hx hb hr rfl (fun t ht hW => ⟨⟨0, (h_fed, h_text_length, h_text_signsF), rfl, (by (try dsimp only); refine ⟨?_, ?_, ?_, ?_, ?_⟩ <;> first | omega | assumption | exact Or.inr ⟨rfl, by omega, rfl⟩ | exact Or.inl ⟨rfl, by omega, by omega, by omega, rfl⟩), by rw [ht]; exact hP9, va_K.moved hW.alike hK, hD9⟩, hS.F ht⟩) hS.2.2 dX11_end_20

def ow_X11_set : List Cond := [Cond.constantDouble RX11 52 (18318360957983683996), Cond.constantDouble RX11 54 (9094988921128908188), Cond.fieldLink RX11 56 "NumberFormats" "value" "D"]
def pw_X11_set : List Cond := Cond.code yX11_set cX11_set 3 (some .boolean) :: (ow_X11_set ++ (wsX110))
set_option maxRecDepth 20000 in
theorem mo_X11_set : ∀ w ∈ ow_X11_set, w ∈ lw_tbl := by decide +kernel
set_option maxRecDepth 20000 in
theorem mc_X11_set : Cond.code yX11_set cX11_set 3 (some .boolean) ∈ lw_tbl := by decide +kernel
theorem m_X11_set : ∀ w ∈ pw_X11_set, w ∈ lw_tbl := List.forall_mem_cons.mpr ⟨mc_X11_set, (List.forall_mem_append.mpr ⟨mo_X11_set, inX11⟩)⟩
theorem ko_X11_set : ∀ w ∈ ow_X11_set, goodWord w = true := by decide +kernel
theorem k_X11_set : pw_X11_set.all goodWord = true := List.all_eq_true.mpr (List.forall_mem_cons.mpr ⟨by decide +kernel, (List.forall_mem_append.mpr ⟨ko_X11_set, kX_X11⟩)⟩)
set_option maxHeartbeats 400000 in
set_option maxRecDepth 100000 in
theorem c_X11_set (l : Launch) (D : va_G) (cI cD cJ : ClassId) (sz : Nat) (h : Nat) (h_tape : Nat) (h_text : Nat) (h_shower : Nat) (h_current : Nat) (h_spare : Nat) (h_formatted : Int32) (h_fed : Int32) (h_illPlace : Int32) (h_value : UInt64) (p1 : UInt64) (iv_h_formatted : (h_formatted : Int32).toInt = 0 ∨ (h_formatted : Int32).toInt = 1) (iv_h_fed : 0 ≤ (h_fed : Int32).toInt ∧ (h_fed : Int32).toInt ≤ 260) (iv_h_value : inR h_value) : Met l yX11_set pw_X11_set ({ frames := 0, cells := 0, slots := 0, locals := 0 }) (va_Pc [.ref h, .double p1] (fun U => U.heap.size = sz ∧ va_P D vwCl [(h, .inr (8, [.ref h_tape, .ref h_text, .ref h_shower, .ref h_current, .ref h_spare, .int h_formatted, .int h_fed, .int h_illPlace, .double h_value]))] U.heap ∧ va_K D vwCl (ty3 cI cD cJ) U ∧ va_D (fun _ => True) [(h, .inr (8, [.ref h_tape, .ref h_text, .ref h_shower, .ref h_current, .ref h_spare, .int h_formatted, .int h_fed, .int h_illPlace, .double h_value]))])) (va_Qi (fun (r : Int32) (h_value2 : UInt64) => (r.toInt = 0 ∨ r.toInt = 1) ∧ ((r = 1 ∧ inR p1 ∧ h_value2 = nzd p1) ∨ (r = 0 ∧ ¬ inR p1 ∧ h_value2 = h_value)) ∧ (inR h_value2)) (fun (h_value2 : UInt64) (t : State) => va_P D vwCl [(h, .inr (8, [.ref h_tape, .ref h_text, .ref h_shower, .ref h_current, .ref h_spare, .int h_formatted, .int h_fed, .int h_illPlace, .double h_value2]))] t.heap ∧ va_K D vwCl (ty3 cI cD cJ) t ∧ va_D (va_A [(h, .inr (8, [.ref h_tape, .ref h_text, .ref h_shower, .ref h_current, .ref h_spare, .int h_formatted, .int h_fed, .int h_illPlace, .double h_value]))] sz) [(h, .inr (8, [.ref h_tape, .ref h_text, .ref h_shower, .ref h_current, .ref h_spare, .int h_formatted, .int h_fed, .int h_illPlace, .double h_value2]))]) (va_A [(h, .inr (8, [.ref h_tape, .ref h_text, .ref h_shower, .ref h_current, .ref h_spare, .int h_formatted, .int h_fed, .int h_illPlace, .double h_value]))] sz)) 0 0 (va_A [(h, .inr (8, [.ref h_tape, .ref h_text, .ref h_shower, .ref h_current, .ref h_spare, .int h_formatted, .int h_fed, .int h_illPlace, .double h_value]))] sz) := by
  refine Met.ofW (cc := cX11_set) (maxL := 3) (ret := (some .boolean)) (by decide +kernel) rfl ?_
  intro p e s m args below meth c s₁ B hml hv
  obtain ⟨rfl, hsz, hP, hK, hD0⟩ := hv
  have hx := B.exec
  have hb := B.bytes
  have hr := B.returns
  have hts := atoms_spec (ws := pw_X11_set) B.pre
  have hown : s.vm.findClass RX11 = some m.cls := findClass_of_methodNamed B.named
  have hlocks := B.notSynchronized
  subst hsz
  have hD := hD0.self (sz := s.heap.size)
  generalize hAe : va_A [(h, .inr (8, [.ref h_tape, .ref h_text, .ref h_shower, .ref h_current, .ref h_spare, .int h_formatted, .int h_fed, .int h_illPlace, .double h_value]))] s.heap.size = A at hD ⊢
  have hA : ∀ q : Nat, s.heap.size ≤ q → A q := fun q h => by rw [← hAe]; exact Or.inr h
  have hS : va_S A s.heap s.heap [] := va_S.rf
  have hw : ∀ (k : Nat) (w : Cond), ow_X11_set[k]? = some w → w.before _ s = true := fun k w h => hts w (List.mem_cons_of_mem _ (have h9 := List.mem_of_getElem? h; List.mem_append_left _ h9))
  have iX11 : ∀ w ∈ u_ws RX11 TX11 9, w ∈ pw_X11_set := fun w h9 => List.mem_cons_of_mem _ (List.mem_append_right _ (h9))
  have n_0 : ((0 : Int32)).toInt = 0 := by decide
  have n_1 : ((1 : Int32)).toInt = 1 := by decide
  have hl := lv_entry ([.ref h, .double p1]) (n := 3) (Nat.le_of_ble_eq_true rfl)
  rw [lg_entry_eq]
  generalize (lg_sl ([.ref h, .double p1]) ++ List.replicate (3 - (lg_sl ([.ref h, .double p1])).length) Slot.unset).toArray = ls at hl ⊢
  have hl : lv_has ls 3 [(0, .ref h), (1, .double p1)] := hl
  refine lv_dload_n hx hb dX11_set_0 rfl (lv_at hl 1 rfl) ?_
  refine lv_ldc2d (v := 18318360957983683996) hx hb hown (hw 0 (.constantDouble RX11 52 (18318360957983683996)) rfl) dX11_set_1 ?_
  refine lv_dcmp hx hb dX11_set_4 ?_
  refine lv_topi (fun x_1 ex_1 => ?_)
  refine lv_if_le (tgt := 33) hx hb dX11_set_5 (by decide) (fun c_2 => ?_) (fun c_2 => ?_)
  · have ic_2 : (x_1 : Int32).toInt ≤ (0 : Int32).toInt := (fa_le x_1 0).mp c_2
    refine lv_iconst (v := 0) hx hb dX11_set_33 (by decide) ?_
    have hP9 := hP.sub (ws' := [(h, .inr (8, [.ref h_tape, .ref h_text, .ref h_shower, .ref h_current, .ref h_spare, .int h_formatted, .int h_fed, .int h_illPlace, .double h_value]))]) [0] rfl
    have hD9 := hD.sub (ws' := [(h, .inr (8, [.ref h_tape, .ref h_text, .ref h_shower, .ref h_current, .ref h_spare, .int h_formatted, .int h_fed, .int h_illPlace, .double h_value]))]) [0] (by decide) rfl
    exact W.zret (v := 0) hx hb hr rfl (fun t ht hW => ⟨⟨0, (h_value), rfl, (by (try dsimp only); refine ⟨?_, ?_, ?_⟩ <;> first | omega | assumption | (subst_vars; exact Or.inl ⟨rfl, ⟨by omega, by omega⟩, by unfold nzd; split <;> first | rfl | contradiction⟩) | (subst_vars; exact Or.inr ⟨rfl, fun h9 => by have h8 := h9.1; have h7 := h9.2; omega, rfl⟩) | (subst_vars; exact inR_0) | (subst_vars; exact ⟨by omega, by omega⟩)), by rw [ht]; exact hP9, va_K.moved hW.alike hK, hD9⟩, hS.F ht⟩) hS.2.2 dX11_set_34
  · have ic_2 : ¬ ((x_1 : Int32).toInt ≤ (0 : Int32).toInt) := fun h9 => c_2 ((fa_le x_1 0).mpr h9)
    refine lv_dload_n hx hb dX11_set_8 rfl (lv_at hl 1 rfl) ?_
    refine lv_ldc2d (v := 9094988921128908188) hx hb hown (hw 1 (.constantDouble RX11 54 (9094988921128908188)) rfl) dX11_set_9 ?_
    refine lv_dcmp hx hb dX11_set_12 ?_
    refine lv_topi (fun x_3 ex_3 => ?_)
    refine lv_if_ge (tgt := 33) hx hb dX11_set_13 (by decide) (fun c_4 => ?_) (fun c_4 => ?_)
    · have ic_4 : (0 : Int32).toInt ≤ (x_3 : Int32).toInt := (fa_le 0 x_3).mp c_4
      refine lv_iconst (v := 0) hx hb dX11_set_33 (by decide) ?_
      have hP9 := hP.sub (ws' := [(h, .inr (8, [.ref h_tape, .ref h_text, .ref h_shower, .ref h_current, .ref h_spare, .int h_formatted, .int h_fed, .int h_illPlace, .double h_value]))]) [0] rfl
      have hD9 := hD.sub (ws' := [(h, .inr (8, [.ref h_tape, .ref h_text, .ref h_shower, .ref h_current, .ref h_spare, .int h_formatted, .int h_fed, .int h_illPlace, .double h_value]))]) [0] (by decide) rfl
      exact W.zret (v := 0) hx hb hr rfl (fun t ht hW => ⟨⟨0, (h_value), rfl, (by (try dsimp only); refine ⟨?_, ?_, ?_⟩ <;> first | omega | assumption | (subst_vars; exact Or.inl ⟨rfl, ⟨by omega, by omega⟩, by unfold nzd; split <;> first | rfl | contradiction⟩) | (subst_vars; exact Or.inr ⟨rfl, fun h9 => by have h8 := h9.1; have h7 := h9.2; omega, rfl⟩) | (subst_vars; exact inR_0) | (subst_vars; exact ⟨by omega, by omega⟩)), by rw [ht]; exact hP9, va_K.moved hW.alike hK, hD9⟩, hS.F ht⟩) hS.2.2 dX11_set_34
    · have ic_4 : ¬ ((0 : Int32).toInt ≤ (x_3 : Int32).toInt) := fun h9 => c_4 ((fa_le 0 x_3).mpr h9)
      refine lv_aload_n hx hb dX11_set_16 rfl (lv_at hl 0 rfl) ?_
      refine lv_dload_n hx hb dX11_set_17 rfl (lv_at hl 1 rfl) ?_
      refine lv_dconst0 hx hb dX11_set_18 ?_
      refine lv_dcmp hx hb dX11_set_19 ?_
      refine lv_topi (fun x_5 ex_5 => ?_)
      refine lv_if_ne (tgt := 27) hx hb dX11_set_20 (by decide) (fun c_6 => ?_) (fun c_6 => ?_)
      · have ic_6 : ¬ ((x_5 : Int32).toInt = (0 : Int32).toInt) := fun h9 => c_6 ((fa_eq x_5 0).mpr h9)
        refine lv_dload_n hx hb dX11_set_27 rfl (lv_at hl 1 rfl) ?_
        refine va_put (D := D) (ci := 8) (v := .double p1) (ty := .double) (C := RX11) (T := TX11) (N := 9) hx hb hts iX11 tyX11 tyX11_ok nmX11 hown hK hP hD hS 0 rfl rfl 8 (by decide) (hw 2 (.fieldLink RX11 56 "NumberFormats" "value" "D") rfl) (fun _ h9 => h9) rfl (by decide +kernel) rfl rfl (Nat.le_of_ble_eq_true rfl) dX11_set_28 (fun H locs hP hD hS => ?_)
        have hP : va_P D vwCl [(h, .inr (8, [.ref h_tape, .ref h_text, .ref h_shower, .ref h_current, .ref h_spare, .int h_formatted, .int h_fed, .int h_illPlace, .double p1]))] H := hP
        have hD : va_D A [(h, .inr (8, [.ref h_tape, .ref h_text, .ref h_shower, .ref h_current, .ref h_spare, .int h_formatted, .int h_fed, .int h_illPlace, .double p1]))] := hD
        refine lv_iconst (v := 1) hx hb dX11_set_31 (by decide) ?_
        have hP9 := hP.sub (ws' := [(h, .inr (8, [.ref h_tape, .ref h_text, .ref h_shower, .ref h_current, .ref h_spare, .int h_formatted, .int h_fed, .int h_illPlace, .double p1]))]) [0] rfl
        have hD9 := hD.sub (ws' := [(h, .inr (8, [.ref h_tape, .ref h_text, .ref h_shower, .ref h_current, .ref h_spare, .int h_formatted, .int h_fed, .int h_illPlace, .double p1]))]) [0] (by decide) rfl
        exact W.zret (v := 1) hx hb hr rfl (fun t ht hW => ⟨⟨1, (p1), rfl, (by (try dsimp only); refine ⟨?_, ?_, ?_⟩ <;> first | omega | assumption | (subst_vars; exact Or.inl ⟨rfl, ⟨by omega, by omega⟩, by unfold nzd; split <;> first | rfl | contradiction⟩) | (subst_vars; exact Or.inr ⟨rfl, fun h9 => by have h8 := h9.1; have h7 := h9.2; omega, rfl⟩) | (subst_vars; exact inR_0) | (subst_vars; exact ⟨by omega, by omega⟩)), by rw [ht]; exact hP9, va_K.moved hW.alike hK, hD9⟩, hS.F ht⟩) hS.2.2 dX11_set_32
      · have ic_6 : (x_5 : Int32).toInt = (0 : Int32).toInt := (fa_eq x_5 0).mp c_6
        refine lv_dconst0 hx hb dX11_set_23 ?_
        refine lv_goto (tgt := 28) hx hb dX11_set_24 (by decide) ?_
        refine va_put (D := D) (ci := 8) (v := .double FP.dconst0) (ty := .double) (C := RX11) (T := TX11) (N := 9) hx hb hts iX11 tyX11 tyX11_ok nmX11 hown hK hP hD hS 0 rfl rfl 8 (by decide) (hw 2 (.fieldLink RX11 56 "NumberFormats" "value" "D") rfl) (fun _ h9 => h9) rfl (by decide +kernel) rfl rfl (Nat.le_of_ble_eq_true rfl) dX11_set_28 (fun H locs hP hD hS => ?_)
        have hP : va_P D vwCl [(h, .inr (8, [.ref h_tape, .ref h_text, .ref h_shower, .ref h_current, .ref h_spare, .int h_formatted, .int h_fed, .int h_illPlace, .double FP.dconst0]))] H := hP
        have hD : va_D A [(h, .inr (8, [.ref h_tape, .ref h_text, .ref h_shower, .ref h_current, .ref h_spare, .int h_formatted, .int h_fed, .int h_illPlace, .double FP.dconst0]))] := hD
        refine lv_iconst (v := 1) hx hb dX11_set_31 (by decide) ?_
        have hP9 := hP.sub (ws' := [(h, .inr (8, [.ref h_tape, .ref h_text, .ref h_shower, .ref h_current, .ref h_spare, .int h_formatted, .int h_fed, .int h_illPlace, .double FP.dconst0]))]) [0] rfl
        have hD9 := hD.sub (ws' := [(h, .inr (8, [.ref h_tape, .ref h_text, .ref h_shower, .ref h_current, .ref h_spare, .int h_formatted, .int h_fed, .int h_illPlace, .double FP.dconst0]))]) [0] (by decide) rfl
        exact W.zret (v := 1) hx hb hr rfl (fun t ht hW => ⟨⟨1, (FP.dconst0), rfl, (by (try dsimp only); refine ⟨?_, ?_, ?_⟩ <;> first | omega | assumption | (subst_vars; exact Or.inl ⟨rfl, ⟨by omega, by omega⟩, by unfold nzd; split <;> first | rfl | contradiction⟩) | (subst_vars; exact Or.inr ⟨rfl, fun h9 => by have h8 := h9.1; have h7 := h9.2; omega, rfl⟩) | (subst_vars; exact inR_0) | (subst_vars; exact ⟨by omega, by omega⟩)), by rw [ht]; exact hP9, va_K.moved hW.alike hK, hD9⟩, hS.F ht⟩) hS.2.2 dX11_set_32

def ow_X11_reckon : List Cond := [Cond.constantDouble RX11 60 (9218868437227405311), Cond.constantDouble RX11 62 (18442240474082181119), Cond.fieldLink RX11 56 "NumberFormats" "value" "D", Cond.methodLink RX11 64 yX11_set, Cond.instanceMethod yX11_set, Cond.selects RX11 yX11_set yX11_set, Cond.initialized RX11]
def pw_X11_reckon : List Cond := Cond.code yX11_reckon cX11_reckon 5 (some .boolean) :: (ow_X11_reckon ++ (pw_X11_set ++ (wsX110)))
set_option maxRecDepth 20000 in
theorem mo_X11_reckon : ∀ w ∈ ow_X11_reckon, w ∈ lw_tbl := by decide +kernel
set_option maxRecDepth 20000 in
theorem mc_X11_reckon : Cond.code yX11_reckon cX11_reckon 5 (some .boolean) ∈ lw_tbl := by decide +kernel
theorem m_X11_reckon : ∀ w ∈ pw_X11_reckon, w ∈ lw_tbl := List.forall_mem_cons.mpr ⟨mc_X11_reckon, (List.forall_mem_append.mpr ⟨mo_X11_reckon, (List.forall_mem_append.mpr ⟨m_X11_set, inX11⟩)⟩)⟩
theorem ko_X11_reckon : ∀ w ∈ ow_X11_reckon, goodWord w = true := by decide +kernel
theorem k_X11_reckon : pw_X11_reckon.all goodWord = true := List.all_eq_true.mpr (List.forall_mem_cons.mpr ⟨by decide +kernel, (List.forall_mem_append.mpr ⟨ko_X11_reckon, (List.forall_mem_append.mpr ⟨(List.all_eq_true.mp k_X11_set), kX_X11⟩)⟩)⟩)
set_option maxHeartbeats 400000 in
set_option maxRecDepth 100000 in
theorem c_X11_reckon (l : Launch) (D : va_G) (cI cD cJ : ClassId) (sz : Nat) (h : Nat) (h_tape : Nat) (h_text : Nat) (h_shower : Nat) (h_current : Nat) (h_spare : Nat) (h_formatted : Int32) (h_fed : Int32) (h_illPlace : Int32) (h_value : UInt64) (p1 : Int32) (p2 : UInt64) (hv0 : (Op.cmpValue (FP.dcmp p2 p2) CmpOp.l).toInt = 0) (hv1 : (Op.cmpValue (FP.dcmp p2 9218868437227405311) CmpOp.l).toInt ≤ 0) (hv2 : 0 ≤ (Op.cmpValue (FP.dcmp p2 18442240474082181119) CmpOp.g).toInt) (iv_h_formatted : (h_formatted : Int32).toInt = 0 ∨ (h_formatted : Int32).toInt = 1) (iv_h_fed : 0 ≤ (h_fed : Int32).toInt ∧ (h_fed : Int32).toInt ≤ 260) (iv_h_value : inR h_value) : MetD lw_cs l yX11_reckon pw_X11_reckon ({ frames := 1, cells := 0, slots := 0, locals := 22 }) (va_Pc [.ref h, .int p1, .double p2] (fun U => U.heap.size = sz ∧ va_P D vwCl [(h, .inr (8, [.ref h_tape, .ref h_text, .ref h_shower, .ref h_current, .ref h_spare, .int h_formatted, .int h_fed, .int h_illPlace, .double h_value]))] U.heap ∧ va_K D vwCl (ty3 cI cD cJ) U ∧ va_D (fun _ => True) [(h, .inr (8, [.ref h_tape, .ref h_text, .ref h_shower, .ref h_current, .ref h_spare, .int h_formatted, .int h_fed, .int h_illPlace, .double h_value]))])) (va_Qi (fun (r : Int32) (h_value2 : UInt64) => (r.toInt = 0 ∨ r.toInt = 1) ∧ ((rbad p1 p2 ∧ r = 0 ∧ h_value2 = h_value) ∨ (¬ rbad p1 p2 ∧ ∃ q, alike64 q (rk p1 h_value p2) = true ∧ ((r = 1 ∧ inR q ∧ h_value2 = nzd q) ∨ (r = 0 ∧ ¬ inR q ∧ h_value2 = h_value)))) ∧ (inR h_value2)) (fun (h_value2 : UInt64) (t : State) => va_P D vwCl [(h, .inr (8, [.ref h_tape, .ref h_text, .ref h_shower, .ref h_current, .ref h_spare, .int h_formatted, .int h_fed, .int h_illPlace, .double h_value2]))] t.heap ∧ va_K D vwCl (ty3 cI cD cJ) t ∧ va_D (va_A [(h, .inr (8, [.ref h_tape, .ref h_text, .ref h_shower, .ref h_current, .ref h_spare, .int h_formatted, .int h_fed, .int h_illPlace, .double h_value]))] sz) [(h, .inr (8, [.ref h_tape, .ref h_text, .ref h_shower, .ref h_current, .ref h_spare, .int h_formatted, .int h_fed, .int h_illPlace, .double h_value2]))]) (va_A [(h, .inr (8, [.ref h_tape, .ref h_text, .ref h_shower, .ref h_current, .ref h_spare, .int h_formatted, .int h_fed, .int h_illPlace, .double h_value]))] sz)) 0 0 (va_A [(h, .inr (8, [.ref h_tape, .ref h_text, .ref h_shower, .ref h_current, .ref h_spare, .int h_formatted, .int h_fed, .int h_illPlace, .double h_value]))] sz) := by
  refine MetD.ofW (cc := cX11_reckon) (maxL := 5) (ret := (some .boolean)) (by decide +kernel) rfl ?_
  intro p e s m args below meth c s₁ B hml hv hd0
  obtain ⟨rfl, hsz, hP, hK, hD0⟩ := hv
  have hx := B.exec
  have hb := B.bytes
  have hr := B.returns
  have hts := atoms_spec (ws := pw_X11_reckon) B.pre
  have hown : s.vm.findClass RX11 = some m.cls := findClass_of_methodNamed B.named
  have hlocks := B.notSynchronized
  subst hsz
  have hD := hD0.self (sz := s.heap.size)
  generalize hAe : va_A [(h, .inr (8, [.ref h_tape, .ref h_text, .ref h_shower, .ref h_current, .ref h_spare, .int h_formatted, .int h_fed, .int h_illPlace, .double h_value]))] s.heap.size = A at hD ⊢
  have hA : ∀ q : Nat, s.heap.size ≤ q → A q := fun q h => by rw [← hAe]; exact Or.inr h
  have hS : va_S A s.heap s.heap [] := va_S.rf
  have hw : ∀ {d9 : Drawn} (k : Nat) (w : Cond), ow_X11_reckon[k]? = some w → w.before _ (s.setDrawn d9) = true := fun k w h => dr_words hts _ w (List.mem_cons_of_mem _ (have h9 := List.mem_of_getElem? h; List.mem_append_left _ h9))
  have i_X11_set : ∀ w ∈ pw_X11_set, w ∈ pw_X11_reckon := fun w h9 => List.mem_cons_of_mem _ (List.mem_append_right _ (List.mem_append_left _ h9))
  have iX11 : ∀ w ∈ u_ws RX11 TX11 9, w ∈ pw_X11_reckon := fun w h9 => List.mem_cons_of_mem _ (List.mem_append_right _ (List.mem_append_right _ (h9)))
  have n_0 : ((0 : Int32)).toInt = 0 := by decide
  have n_3 : ((3 : Int32)).toInt = 3 := by decide
  have hl := lv_entry ([.ref h, .int p1, .double p2]) (n := 5) (Nat.le_of_ble_eq_true rfl)
  rw [lg_entry_eq]
  generalize (lg_sl ([.ref h, .int p1, .double p2]) ++ List.replicate (5 - (lg_sl ([.ref h, .int p1, .double p2])).length) Slot.unset).toArray = ls at hl ⊢
  have hl : lv_has ls 5 [(0, .ref h), (1, .int p1), (2, .double p2)] := hl
  have b_p1 := ti_b p1
  refine lv_iload_n hx hb dX11_reckon_0 rfl (lv_at hl 1 rfl) ?_
  refine lv_if_lt (tgt := 26) hx hb dX11_reckon_1 (by decide) (fun c_1 => ?_) (fun c_1 => ?_)
  · have ic_1 : (p1 : Int32).toInt < (0 : Int32).toInt := (fa_lt p1 0).mp c_1
    refine lv_iconst (v := 0) hx hb dX11_reckon_26 (by decide) ?_
    refine W.endD hd0 ?_
    have hP9 := hP.sub (ws' := [(h, .inr (8, [.ref h_tape, .ref h_text, .ref h_shower, .ref h_current, .ref h_spare, .int h_formatted, .int h_fed, .int h_illPlace, .double h_value]))]) [0] rfl
    have hD9 := hD.sub (ws' := [(h, .inr (8, [.ref h_tape, .ref h_text, .ref h_shower, .ref h_current, .ref h_spare, .int h_formatted, .int h_fed, .int h_illPlace, .double h_value]))]) [0] (by decide) rfl
    exact W.zret (v := 0) hx hb hr rfl (fun t ht hW => ⟨⟨0, (h_value), rfl, (by (try dsimp only); refine ⟨?_, ?_, ?_⟩ <;> first | omega | assumption | (subst_vars; exact Or.inl ⟨by unfold rbad; omega, rfl, rfl⟩) | (refine Or.inr ⟨by subst_vars; unfold rbad; omega, 0, (by first | exact rk_0 (by omega) (by assumption) | exact rk_1 (by omega) (by assumption) | exact rk_2 (by omega) (by assumption) | exact rk_3 (by omega) (by assumption)), ?_⟩; assumption)), by rw [ht]; exact hP9, va_K.moved hW.alike hK, hD9⟩, hS.F ht⟩) hS.2.2 dX11_reckon_27
  · have ic_1 : ¬ ((p1 : Int32).toInt < (0 : Int32).toInt) := fun h9 => c_1 ((fa_lt p1 0).mpr h9)
    refine lv_iload_n hx hb dX11_reckon_4 rfl (lv_at hl 1 rfl) ?_
    refine lv_iconst (v := 3) hx hb dX11_reckon_5 (by decide) ?_
    refine lv_icmp_gt (tgt := 26) hx hb dX11_reckon_6 (by decide) (fun c_2 => ?_) (fun c_2 => ?_)
    · have ic_2 : (3 : Int32).toInt < (p1 : Int32).toInt := (fa_lt 3 p1).mp c_2
      refine lv_iconst (v := 0) hx hb dX11_reckon_26 (by decide) ?_
      refine W.endD hd0 ?_
      have hP9 := hP.sub (ws' := [(h, .inr (8, [.ref h_tape, .ref h_text, .ref h_shower, .ref h_current, .ref h_spare, .int h_formatted, .int h_fed, .int h_illPlace, .double h_value]))]) [0] rfl
      have hD9 := hD.sub (ws' := [(h, .inr (8, [.ref h_tape, .ref h_text, .ref h_shower, .ref h_current, .ref h_spare, .int h_formatted, .int h_fed, .int h_illPlace, .double h_value]))]) [0] (by decide) rfl
      exact W.zret (v := 0) hx hb hr rfl (fun t ht hW => ⟨⟨0, (h_value), rfl, (by (try dsimp only); refine ⟨?_, ?_, ?_⟩ <;> first | omega | assumption | (subst_vars; exact Or.inl ⟨by unfold rbad; omega, rfl, rfl⟩) | (refine Or.inr ⟨by subst_vars; unfold rbad; omega, 0, (by first | exact rk_0 (by omega) (by assumption) | exact rk_1 (by omega) (by assumption) | exact rk_2 (by omega) (by assumption) | exact rk_3 (by omega) (by assumption)), ?_⟩; assumption)), by rw [ht]; exact hP9, va_K.moved hW.alike hK, hD9⟩, hS.F ht⟩) hS.2.2 dX11_reckon_27
    · have ic_2 : ¬ ((3 : Int32).toInt < (p1 : Int32).toInt) := fun h9 => c_2 ((fa_lt 3 p1).mpr h9)
      refine lv_dload_n hx hb dX11_reckon_9 rfl (lv_at hl 2 rfl) ?_
      refine lv_dload_n hx hb dX11_reckon_10 rfl (lv_at hl 2 rfl) ?_
      refine lv_dcmp hx hb dX11_reckon_11 ?_
      refine lv_topi (fun x_3 ex_3 => ?_)
      refine lv_if_ne (tgt := 26) hx hb dX11_reckon_12 (by decide) (fun c_4 => by have ic_4 : ¬ ((x_3 : Int32).toInt = (0 : Int32).toInt) := fun h9 => c_4 ((fa_eq x_3 0).mpr h9); exfalso; subst_vars; omega) (fun c_4 => ?_)
      have ic_4 : (x_3 : Int32).toInt = (0 : Int32).toInt := (fa_eq x_3 0).mp c_4
      refine lv_iload_n hx hb dX11_reckon_15 rfl (lv_at hl 1 rfl) ?_
      refine lv_iconst (v := 3) hx hb dX11_reckon_16 (by decide) ?_
      refine lv_icmp_ne (tgt := 28) hx hb dX11_reckon_17 (by decide) (fun c_5 => ?_) (fun c_5 => ?_)
      · have ic_5 : ¬ ((p1 : Int32).toInt = (3 : Int32).toInt) := fun h9 => c_5 ((fa_eq p1 3).mpr h9)
        refine lv_dload_n hx hb dX11_reckon_28 rfl (lv_at hl 2 rfl) ?_
        refine lv_ldc2d (v := 9218868437227405311) hx hb hown (hw 0 (.constantDouble RX11 60 (9218868437227405311)) rfl) dX11_reckon_29 ?_
        refine lv_dcmp hx hb dX11_reckon_32 ?_
        refine lv_topi (fun x_6 ex_6 => ?_)
        refine lv_if_gt (tgt := 44) hx hb dX11_reckon_33 (by decide) (fun c_7 => by have ic_7 : (0 : Int32).toInt < (x_6 : Int32).toInt := (fa_lt 0 x_6).mp c_7; exfalso; subst_vars; omega) (fun c_7 => ?_)
        have ic_7 : ¬ ((0 : Int32).toInt < (x_6 : Int32).toInt) := fun h9 => c_7 ((fa_lt 0 x_6).mpr h9)
        refine lv_dload_n hx hb dX11_reckon_36 rfl (lv_at hl 2 rfl) ?_
        refine lv_ldc2d (v := 18442240474082181119) hx hb hown (hw 1 (.constantDouble RX11 62 (18442240474082181119)) rfl) dX11_reckon_37 ?_
        refine lv_dcmp hx hb dX11_reckon_40 ?_
        refine lv_topi (fun x_8 ex_8 => ?_)
        refine lv_if_ge (tgt := 48) hx hb dX11_reckon_41 (by decide) (fun c_9 => ?_) (fun c_9 => by have ic_9 : ¬ ((0 : Int32).toInt ≤ (x_8 : Int32).toInt) := fun h9 => c_9 ((fa_le 0 x_8).mpr h9); exfalso; subst_vars; omega)
        have ic_9 : (0 : Int32).toInt ≤ (x_8 : Int32).toInt := (fa_le 0 x_8).mp c_9
        refine lv_iconst (v := 0) hx hb dX11_reckon_48 (by decide) ?_
        refine lv_istore (lv' := [(4, .int 0), (0, .ref h), (1, .int p1), (2, .double p2)]) hx hb dX11_reckon_49 hl (by decide) rfl (fun ls hl => ?_)
        refine lv_iload hx hb dX11_reckon_51 (lv_at hl 0 rfl) ?_
        refine lv_if_eq (tgt := 63) hx hb dX11_reckon_53 (by decide) (fun c_10 => ?_) (fun c_10 => by have ic_10 : ¬ ((0 : Int32).toInt = (0 : Int32).toInt) := fun h9 => c_10 ((fa_eq 0 0).mpr h9); exfalso; omega)
        have ic_10 : (0 : Int32).toInt = (0 : Int32).toInt := (fa_eq 0 0).mp c_10
        refine lv_iload_n hx hb dX11_reckon_63 rfl (lv_at hl 2 rfl) ?_
        rcases (show (p1 : Int32).toInt < 0 ∨ 2 < (p1 : Int32).toInt ∨ (p1 : Int32).toInt = 0 ∨ (p1 : Int32).toInt = 1 ∨ (p1 : Int32).toInt = 2 by omega) with v_11 | v_11 | v_11 | v_11 | v_11
        · refine lv_tableOut (tgt := 125) hx hb dX11_reckon_64 (Or.inl v_11) (by decide) ?_
          refine lv_aload_n hx hb dX11_reckon_125 rfl (lv_at hl 1 rfl) ?_
          refine lv_aload_n hx hb dX11_reckon_126 rfl (lv_at hl 1 rfl) ?_
          refine va_get (s := s.setDrawn s.drawn) (D := D) (ci := 8) (v := .double h_value) (C := RX11) (T := TX11) (N := 9) hx hb (dr_words hts _) iX11 hown hK hP 0 rfl rfl 8 (by decide) (hw 2 (.fieldLink RX11 56 "NumberFormats" "value" "D") rfl) (fun _ h9 => h9) rfl dX11_reckon_127 ?_
          refine lv_dload_n hx hb dX11_reckon_130 rfl (lv_at hl 3 rfl) ?_
          refine lv_ddiv_any hd0 lw_bits hx hb dX11_reckon_131 (fun d_12 dhd_13 ad_12 hd_13 => ?_)
          have hPc := hP.sub (ws' := [(h, .inr (8, [.ref h_tape, .ref h_text, .ref h_shower, .ref h_current, .ref h_spare, .int h_formatted, .int h_fed, .int h_illPlace, .double h_value]))]) [0] rfl
          have hDc := hD.sub (ws' := [(h, .inr (8, [.ref h_tape, .ref h_text, .ref h_shower, .ref h_current, .ref h_spare, .int h_formatted, .int h_fed, .int h_illPlace, .double h_value]))]) [0] (by decide) rfl
          have hFc := va_free (wc := [(h, .inr (8, [.ref h_tape, .ref h_text, .ref h_shower, .ref h_current, .ref h_spare, .int h_formatted, .int h_fed, .int h_illPlace, .double h_value]))]) hD hS hA [0] rfl
          refine va_calli (va_runV (As := [.double d_12]) (rest := []) ⟨hx, hb, hml, hown, (dr_words hts _)⟩ (c_X11_set l D cI cD cJ s.heap.size h h_tape h_text h_shower h_current h_spare h_formatted h_fed h_illPlace h_value d_12 (by omega) (by omega) (by assumption)) (cwV 1 (dr_words hts _) (goodIn_app (goodIn_r _ [4, 5, 6, 7] rfl (by decide +kernel)) (goodIn_sub i_X11_set k_X11_set)) rfl rfl rfl (by decide +kernel) ⟨Nat.le_of_ble_eq_true rfl, Nat.le_of_ble_eq_true rfl⟩) ⟨fun a U g mk q => by obtain ⟨q0, q1, qP, qK, qD⟩ := q; exact ⟨q0, q1, qP, va_K.moved (u := U) (U := U.calling g mk a) (Vm.Alike.refl U.vm) qK, qD⟩, va_recv hK hPc (ci := 8) (q0 := 0) rfl rfl, fun U hU hW => ⟨rfl, by rw [hU], by rw [hU]; exact hPc, va_K.moved hW.alike hK, hDc.weaken (fun _ _ _ _ => trivial)⟩⟩ rfl rfl hl.1 rfl (lv_room (Nat.le_of_ble_eq_true rfl)) dX11_reckon_132 ⟨Nat.le_of_ble_eq_true rfl, Nat.le_of_ble_eq_true rfl⟩) hS (fun q _ h => hFc q h) hFc (fun x_14 u t H1 locs ht hvm w_15 hB hz1 hk1 hS => ?_)
          generalize u = u_16 at w_15 hB
          obtain ⟨hP1, hK1, hD1⟩ := hB
          rw [ht] at hP1
          try dsimp only at w_15
          obtain ⟨hP, hD⟩ := va_join (wr := []) (w1 := [(h, .inr (8, [.ref h_tape, .ref h_text, .ref h_shower, .ref h_current, .ref h_spare, .int h_formatted, .int h_fed, .int h_illPlace, .double u_16]))]) hP hD [0] [] rfl rfl (by decide) (by decide) hk1 hFc hP1 hD1
          generalize H1 = H at hP hS ⊢
          have hP : va_P D vwCl [(h, .inr (8, [.ref h_tape, .ref h_text, .ref h_shower, .ref h_current, .ref h_spare, .int h_formatted, .int h_fed, .int h_illPlace, .double u_16]))] H := hP
          have hD : va_D A [(h, .inr (8, [.ref h_tape, .ref h_text, .ref h_shower, .ref h_current, .ref h_spare, .int h_formatted, .int h_fed, .int h_illPlace, .double u_16]))] := hD
          obtain ⟨w_15_0, w_15_1, w_15_2⟩ := w_15
          have b_x_14 := ti_b x_14
          refine W.endD hd_13 ?_
          have hP9 := hP.sub (ws' := [(h, .inr (8, [.ref h_tape, .ref h_text, .ref h_shower, .ref h_current, .ref h_spare, .int h_formatted, .int h_fed, .int h_illPlace, .double u_16]))]) [0] rfl
          have hD9 := hD.sub (ws' := [(h, .inr (8, [.ref h_tape, .ref h_text, .ref h_shower, .ref h_current, .ref h_spare, .int h_formatted, .int h_fed, .int h_illPlace, .double u_16]))]) [0] (by decide) rfl
          exact W.zret (v := x_14) hx hb hr (nz01 (by omega)) (fun t ht hW => ⟨⟨x_14, (u_16), rfl, (by (try dsimp only); refine ⟨?_, ?_, ?_⟩ <;> first | omega | assumption | (subst_vars; exact Or.inl ⟨by unfold rbad; omega, rfl, rfl⟩) | (refine Or.inr ⟨by subst_vars; unfold rbad; omega, d_12, (by first | exact rk_0 (by omega) (by assumption) | exact rk_1 (by omega) (by assumption) | exact rk_2 (by omega) (by assumption) | exact rk_3 (by omega) (by assumption)), ?_⟩; assumption)), by rw [ht]; exact hP9, va_K.moved hW.alike hK, hD9⟩, hS.F ht⟩) hS.2.2 dX11_reckon_135
        · refine lv_tableOut (tgt := 125) hx hb dX11_reckon_64 (Or.inr v_11) (by decide) ?_
          refine lv_aload_n hx hb dX11_reckon_125 rfl (lv_at hl 1 rfl) ?_
          refine lv_aload_n hx hb dX11_reckon_126 rfl (lv_at hl 1 rfl) ?_
          refine va_get (s := s.setDrawn s.drawn) (D := D) (ci := 8) (v := .double h_value) (C := RX11) (T := TX11) (N := 9) hx hb (dr_words hts _) iX11 hown hK hP 0 rfl rfl 8 (by decide) (hw 2 (.fieldLink RX11 56 "NumberFormats" "value" "D") rfl) (fun _ h9 => h9) rfl dX11_reckon_127 ?_
          refine lv_dload_n hx hb dX11_reckon_130 rfl (lv_at hl 3 rfl) ?_
          refine lv_ddiv_any hd0 lw_bits hx hb dX11_reckon_131 (fun d_17 dhd_18 ad_17 hd_18 => ?_)
          have hPc := hP.sub (ws' := [(h, .inr (8, [.ref h_tape, .ref h_text, .ref h_shower, .ref h_current, .ref h_spare, .int h_formatted, .int h_fed, .int h_illPlace, .double h_value]))]) [0] rfl
          have hDc := hD.sub (ws' := [(h, .inr (8, [.ref h_tape, .ref h_text, .ref h_shower, .ref h_current, .ref h_spare, .int h_formatted, .int h_fed, .int h_illPlace, .double h_value]))]) [0] (by decide) rfl
          have hFc := va_free (wc := [(h, .inr (8, [.ref h_tape, .ref h_text, .ref h_shower, .ref h_current, .ref h_spare, .int h_formatted, .int h_fed, .int h_illPlace, .double h_value]))]) hD hS hA [0] rfl
          refine va_calli (va_runV (As := [.double d_17]) (rest := []) ⟨hx, hb, hml, hown, (dr_words hts _)⟩ (c_X11_set l D cI cD cJ s.heap.size h h_tape h_text h_shower h_current h_spare h_formatted h_fed h_illPlace h_value d_17 (by omega) (by omega) (by assumption)) (cwV 1 (dr_words hts _) (goodIn_app (goodIn_r _ [4, 5, 6, 7] rfl (by decide +kernel)) (goodIn_sub i_X11_set k_X11_set)) rfl rfl rfl (by decide +kernel) ⟨Nat.le_of_ble_eq_true rfl, Nat.le_of_ble_eq_true rfl⟩) ⟨fun a U g mk q => by obtain ⟨q0, q1, qP, qK, qD⟩ := q; exact ⟨q0, q1, qP, va_K.moved (u := U) (U := U.calling g mk a) (Vm.Alike.refl U.vm) qK, qD⟩, va_recv hK hPc (ci := 8) (q0 := 0) rfl rfl, fun U hU hW => ⟨rfl, by rw [hU], by rw [hU]; exact hPc, va_K.moved hW.alike hK, hDc.weaken (fun _ _ _ _ => trivial)⟩⟩ rfl rfl hl.1 rfl (lv_room (Nat.le_of_ble_eq_true rfl)) dX11_reckon_132 ⟨Nat.le_of_ble_eq_true rfl, Nat.le_of_ble_eq_true rfl⟩) hS (fun q _ h => hFc q h) hFc (fun x_19 u t H1 locs ht hvm w_20 hB hz1 hk1 hS => ?_)
          generalize u = u_21 at w_20 hB
          obtain ⟨hP1, hK1, hD1⟩ := hB
          rw [ht] at hP1
          try dsimp only at w_20
          obtain ⟨hP, hD⟩ := va_join (wr := []) (w1 := [(h, .inr (8, [.ref h_tape, .ref h_text, .ref h_shower, .ref h_current, .ref h_spare, .int h_formatted, .int h_fed, .int h_illPlace, .double u_21]))]) hP hD [0] [] rfl rfl (by decide) (by decide) hk1 hFc hP1 hD1
          generalize H1 = H at hP hS ⊢
          have hP : va_P D vwCl [(h, .inr (8, [.ref h_tape, .ref h_text, .ref h_shower, .ref h_current, .ref h_spare, .int h_formatted, .int h_fed, .int h_illPlace, .double u_21]))] H := hP
          have hD : va_D A [(h, .inr (8, [.ref h_tape, .ref h_text, .ref h_shower, .ref h_current, .ref h_spare, .int h_formatted, .int h_fed, .int h_illPlace, .double u_21]))] := hD
          obtain ⟨w_20_0, w_20_1, w_20_2⟩ := w_20
          have b_x_19 := ti_b x_19
          refine W.endD hd_18 ?_
          have hP9 := hP.sub (ws' := [(h, .inr (8, [.ref h_tape, .ref h_text, .ref h_shower, .ref h_current, .ref h_spare, .int h_formatted, .int h_fed, .int h_illPlace, .double u_21]))]) [0] rfl
          have hD9 := hD.sub (ws' := [(h, .inr (8, [.ref h_tape, .ref h_text, .ref h_shower, .ref h_current, .ref h_spare, .int h_formatted, .int h_fed, .int h_illPlace, .double u_21]))]) [0] (by decide) rfl
          exact W.zret (v := x_19) hx hb hr (nz01 (by omega)) (fun t ht hW => ⟨⟨x_19, (u_21), rfl, (by (try dsimp only); refine ⟨?_, ?_, ?_⟩ <;> first | omega | assumption | (subst_vars; exact Or.inl ⟨by unfold rbad; omega, rfl, rfl⟩) | (refine Or.inr ⟨by subst_vars; unfold rbad; omega, d_17, (by first | exact rk_0 (by omega) (by assumption) | exact rk_1 (by omega) (by assumption) | exact rk_2 (by omega) (by assumption) | exact rk_3 (by omega) (by assumption)), ?_⟩; assumption)), by rw [ht]; exact hP9, va_K.moved hW.alike hK, hD9⟩, hS.F ht⟩) hS.2.2 dX11_reckon_135
        · refine lv_tableIn (off := 28) (tgt := 92) hx hb dX11_reckon_64 (by omega) (by omega) (by rw [v_11]; rfl) (by decide) ?_
          refine lv_aload_n hx hb dX11_reckon_92 rfl (lv_at hl 1 rfl) ?_
          refine lv_aload_n hx hb dX11_reckon_93 rfl (lv_at hl 1 rfl) ?_
          refine va_get (s := s.setDrawn s.drawn) (D := D) (ci := 8) (v := .double h_value) (C := RX11) (T := TX11) (N := 9) hx hb (dr_words hts _) iX11 hown hK hP 0 rfl rfl 8 (by decide) (hw 2 (.fieldLink RX11 56 "NumberFormats" "value" "D") rfl) (fun _ h9 => h9) rfl dX11_reckon_94 ?_
          refine lv_dload_n hx hb dX11_reckon_97 rfl (lv_at hl 3 rfl) ?_
          refine lv_dadd_any hd0 lw_bits hx hb dX11_reckon_98 (fun d_22 dhd_23 ad_22 hd_23 => ?_)
          have hPc := hP.sub (ws' := [(h, .inr (8, [.ref h_tape, .ref h_text, .ref h_shower, .ref h_current, .ref h_spare, .int h_formatted, .int h_fed, .int h_illPlace, .double h_value]))]) [0] rfl
          have hDc := hD.sub (ws' := [(h, .inr (8, [.ref h_tape, .ref h_text, .ref h_shower, .ref h_current, .ref h_spare, .int h_formatted, .int h_fed, .int h_illPlace, .double h_value]))]) [0] (by decide) rfl
          have hFc := va_free (wc := [(h, .inr (8, [.ref h_tape, .ref h_text, .ref h_shower, .ref h_current, .ref h_spare, .int h_formatted, .int h_fed, .int h_illPlace, .double h_value]))]) hD hS hA [0] rfl
          refine va_calli (va_runV (As := [.double d_22]) (rest := []) ⟨hx, hb, hml, hown, (dr_words hts _)⟩ (c_X11_set l D cI cD cJ s.heap.size h h_tape h_text h_shower h_current h_spare h_formatted h_fed h_illPlace h_value d_22 (by omega) (by omega) (by assumption)) (cwV 1 (dr_words hts _) (goodIn_app (goodIn_r _ [4, 5, 6, 7] rfl (by decide +kernel)) (goodIn_sub i_X11_set k_X11_set)) rfl rfl rfl (by decide +kernel) ⟨Nat.le_of_ble_eq_true rfl, Nat.le_of_ble_eq_true rfl⟩) ⟨fun a U g mk q => by obtain ⟨q0, q1, qP, qK, qD⟩ := q; exact ⟨q0, q1, qP, va_K.moved (u := U) (U := U.calling g mk a) (Vm.Alike.refl U.vm) qK, qD⟩, va_recv hK hPc (ci := 8) (q0 := 0) rfl rfl, fun U hU hW => ⟨rfl, by rw [hU], by rw [hU]; exact hPc, va_K.moved hW.alike hK, hDc.weaken (fun _ _ _ _ => trivial)⟩⟩ rfl rfl hl.1 rfl (lv_room (Nat.le_of_ble_eq_true rfl)) dX11_reckon_99 ⟨Nat.le_of_ble_eq_true rfl, Nat.le_of_ble_eq_true rfl⟩) hS (fun q _ h => hFc q h) hFc (fun x_24 u t H1 locs ht hvm w_25 hB hz1 hk1 hS => ?_)
          generalize u = u_26 at w_25 hB
          obtain ⟨hP1, hK1, hD1⟩ := hB
          rw [ht] at hP1
          try dsimp only at w_25
          obtain ⟨hP, hD⟩ := va_join (wr := []) (w1 := [(h, .inr (8, [.ref h_tape, .ref h_text, .ref h_shower, .ref h_current, .ref h_spare, .int h_formatted, .int h_fed, .int h_illPlace, .double u_26]))]) hP hD [0] [] rfl rfl (by decide) (by decide) hk1 hFc hP1 hD1
          generalize H1 = H at hP hS ⊢
          have hP : va_P D vwCl [(h, .inr (8, [.ref h_tape, .ref h_text, .ref h_shower, .ref h_current, .ref h_spare, .int h_formatted, .int h_fed, .int h_illPlace, .double u_26]))] H := hP
          have hD : va_D A [(h, .inr (8, [.ref h_tape, .ref h_text, .ref h_shower, .ref h_current, .ref h_spare, .int h_formatted, .int h_fed, .int h_illPlace, .double u_26]))] := hD
          obtain ⟨w_25_0, w_25_1, w_25_2⟩ := w_25
          have b_x_24 := ti_b x_24
          refine W.endD hd_23 ?_
          have hP9 := hP.sub (ws' := [(h, .inr (8, [.ref h_tape, .ref h_text, .ref h_shower, .ref h_current, .ref h_spare, .int h_formatted, .int h_fed, .int h_illPlace, .double u_26]))]) [0] rfl
          have hD9 := hD.sub (ws' := [(h, .inr (8, [.ref h_tape, .ref h_text, .ref h_shower, .ref h_current, .ref h_spare, .int h_formatted, .int h_fed, .int h_illPlace, .double u_26]))]) [0] (by decide) rfl
          exact W.zret (v := x_24) hx hb hr (nz01 (by omega)) (fun t ht hW => ⟨⟨x_24, (u_26), rfl, (by (try dsimp only); refine ⟨?_, ?_, ?_⟩ <;> first | omega | assumption | (subst_vars; exact Or.inl ⟨by unfold rbad; omega, rfl, rfl⟩) | (refine Or.inr ⟨by subst_vars; unfold rbad; omega, d_22, (by first | exact rk_0 (by omega) (by assumption) | exact rk_1 (by omega) (by assumption) | exact rk_2 (by omega) (by assumption) | exact rk_3 (by omega) (by assumption)), ?_⟩; assumption)), by rw [ht]; exact hP9, va_K.moved hW.alike hK, hD9⟩, hS.F ht⟩) hS.2.2 dX11_reckon_102
        · refine lv_tableIn (off := 39) (tgt := 103) hx hb dX11_reckon_64 (by omega) (by omega) (by rw [v_11]; rfl) (by decide) ?_
          refine lv_aload_n hx hb dX11_reckon_103 rfl (lv_at hl 1 rfl) ?_
          refine lv_aload_n hx hb dX11_reckon_104 rfl (lv_at hl 1 rfl) ?_
          refine va_get (s := s.setDrawn s.drawn) (D := D) (ci := 8) (v := .double h_value) (C := RX11) (T := TX11) (N := 9) hx hb (dr_words hts _) iX11 hown hK hP 0 rfl rfl 8 (by decide) (hw 2 (.fieldLink RX11 56 "NumberFormats" "value" "D") rfl) (fun _ h9 => h9) rfl dX11_reckon_105 ?_
          refine lv_dload_n hx hb dX11_reckon_108 rfl (lv_at hl 3 rfl) ?_
          refine lv_dsub_any hd0 lw_bits hx hb dX11_reckon_109 (fun d_27 dhd_28 ad_27 hd_28 => ?_)
          have hPc := hP.sub (ws' := [(h, .inr (8, [.ref h_tape, .ref h_text, .ref h_shower, .ref h_current, .ref h_spare, .int h_formatted, .int h_fed, .int h_illPlace, .double h_value]))]) [0] rfl
          have hDc := hD.sub (ws' := [(h, .inr (8, [.ref h_tape, .ref h_text, .ref h_shower, .ref h_current, .ref h_spare, .int h_formatted, .int h_fed, .int h_illPlace, .double h_value]))]) [0] (by decide) rfl
          have hFc := va_free (wc := [(h, .inr (8, [.ref h_tape, .ref h_text, .ref h_shower, .ref h_current, .ref h_spare, .int h_formatted, .int h_fed, .int h_illPlace, .double h_value]))]) hD hS hA [0] rfl
          refine va_calli (va_runV (As := [.double d_27]) (rest := []) ⟨hx, hb, hml, hown, (dr_words hts _)⟩ (c_X11_set l D cI cD cJ s.heap.size h h_tape h_text h_shower h_current h_spare h_formatted h_fed h_illPlace h_value d_27 (by omega) (by omega) (by assumption)) (cwV 1 (dr_words hts _) (goodIn_app (goodIn_r _ [4, 5, 6, 7] rfl (by decide +kernel)) (goodIn_sub i_X11_set k_X11_set)) rfl rfl rfl (by decide +kernel) ⟨Nat.le_of_ble_eq_true rfl, Nat.le_of_ble_eq_true rfl⟩) ⟨fun a U g mk q => by obtain ⟨q0, q1, qP, qK, qD⟩ := q; exact ⟨q0, q1, qP, va_K.moved (u := U) (U := U.calling g mk a) (Vm.Alike.refl U.vm) qK, qD⟩, va_recv hK hPc (ci := 8) (q0 := 0) rfl rfl, fun U hU hW => ⟨rfl, by rw [hU], by rw [hU]; exact hPc, va_K.moved hW.alike hK, hDc.weaken (fun _ _ _ _ => trivial)⟩⟩ rfl rfl hl.1 rfl (lv_room (Nat.le_of_ble_eq_true rfl)) dX11_reckon_110 ⟨Nat.le_of_ble_eq_true rfl, Nat.le_of_ble_eq_true rfl⟩) hS (fun q _ h => hFc q h) hFc (fun x_29 u t H1 locs ht hvm w_30 hB hz1 hk1 hS => ?_)
          generalize u = u_31 at w_30 hB
          obtain ⟨hP1, hK1, hD1⟩ := hB
          rw [ht] at hP1
          try dsimp only at w_30
          obtain ⟨hP, hD⟩ := va_join (wr := []) (w1 := [(h, .inr (8, [.ref h_tape, .ref h_text, .ref h_shower, .ref h_current, .ref h_spare, .int h_formatted, .int h_fed, .int h_illPlace, .double u_31]))]) hP hD [0] [] rfl rfl (by decide) (by decide) hk1 hFc hP1 hD1
          generalize H1 = H at hP hS ⊢
          have hP : va_P D vwCl [(h, .inr (8, [.ref h_tape, .ref h_text, .ref h_shower, .ref h_current, .ref h_spare, .int h_formatted, .int h_fed, .int h_illPlace, .double u_31]))] H := hP
          have hD : va_D A [(h, .inr (8, [.ref h_tape, .ref h_text, .ref h_shower, .ref h_current, .ref h_spare, .int h_formatted, .int h_fed, .int h_illPlace, .double u_31]))] := hD
          obtain ⟨w_30_0, w_30_1, w_30_2⟩ := w_30
          have b_x_29 := ti_b x_29
          refine W.endD hd_28 ?_
          have hP9 := hP.sub (ws' := [(h, .inr (8, [.ref h_tape, .ref h_text, .ref h_shower, .ref h_current, .ref h_spare, .int h_formatted, .int h_fed, .int h_illPlace, .double u_31]))]) [0] rfl
          have hD9 := hD.sub (ws' := [(h, .inr (8, [.ref h_tape, .ref h_text, .ref h_shower, .ref h_current, .ref h_spare, .int h_formatted, .int h_fed, .int h_illPlace, .double u_31]))]) [0] (by decide) rfl
          exact W.zret (v := x_29) hx hb hr (nz01 (by omega)) (fun t ht hW => ⟨⟨x_29, (u_31), rfl, (by (try dsimp only); refine ⟨?_, ?_, ?_⟩ <;> first | omega | assumption | (subst_vars; exact Or.inl ⟨by unfold rbad; omega, rfl, rfl⟩) | (refine Or.inr ⟨by subst_vars; unfold rbad; omega, d_27, (by first | exact rk_0 (by omega) (by assumption) | exact rk_1 (by omega) (by assumption) | exact rk_2 (by omega) (by assumption) | exact rk_3 (by omega) (by assumption)), ?_⟩; assumption)), by rw [ht]; exact hP9, va_K.moved hW.alike hK, hD9⟩, hS.F ht⟩) hS.2.2 dX11_reckon_113
        · refine lv_tableIn (off := 50) (tgt := 114) hx hb dX11_reckon_64 (by omega) (by omega) (by rw [v_11]; rfl) (by decide) ?_
          refine lv_aload_n hx hb dX11_reckon_114 rfl (lv_at hl 1 rfl) ?_
          refine lv_aload_n hx hb dX11_reckon_115 rfl (lv_at hl 1 rfl) ?_
          refine va_get (s := s.setDrawn s.drawn) (D := D) (ci := 8) (v := .double h_value) (C := RX11) (T := TX11) (N := 9) hx hb (dr_words hts _) iX11 hown hK hP 0 rfl rfl 8 (by decide) (hw 2 (.fieldLink RX11 56 "NumberFormats" "value" "D") rfl) (fun _ h9 => h9) rfl dX11_reckon_116 ?_
          refine lv_dload_n hx hb dX11_reckon_119 rfl (lv_at hl 3 rfl) ?_
          refine lv_dmul_any hd0 lw_bits hx hb dX11_reckon_120 (fun d_32 dhd_33 ad_32 hd_33 => ?_)
          have hPc := hP.sub (ws' := [(h, .inr (8, [.ref h_tape, .ref h_text, .ref h_shower, .ref h_current, .ref h_spare, .int h_formatted, .int h_fed, .int h_illPlace, .double h_value]))]) [0] rfl
          have hDc := hD.sub (ws' := [(h, .inr (8, [.ref h_tape, .ref h_text, .ref h_shower, .ref h_current, .ref h_spare, .int h_formatted, .int h_fed, .int h_illPlace, .double h_value]))]) [0] (by decide) rfl
          have hFc := va_free (wc := [(h, .inr (8, [.ref h_tape, .ref h_text, .ref h_shower, .ref h_current, .ref h_spare, .int h_formatted, .int h_fed, .int h_illPlace, .double h_value]))]) hD hS hA [0] rfl
          refine va_calli (va_runV (As := [.double d_32]) (rest := []) ⟨hx, hb, hml, hown, (dr_words hts _)⟩ (c_X11_set l D cI cD cJ s.heap.size h h_tape h_text h_shower h_current h_spare h_formatted h_fed h_illPlace h_value d_32 (by omega) (by omega) (by assumption)) (cwV 1 (dr_words hts _) (goodIn_app (goodIn_r _ [4, 5, 6, 7] rfl (by decide +kernel)) (goodIn_sub i_X11_set k_X11_set)) rfl rfl rfl (by decide +kernel) ⟨Nat.le_of_ble_eq_true rfl, Nat.le_of_ble_eq_true rfl⟩) ⟨fun a U g mk q => by obtain ⟨q0, q1, qP, qK, qD⟩ := q; exact ⟨q0, q1, qP, va_K.moved (u := U) (U := U.calling g mk a) (Vm.Alike.refl U.vm) qK, qD⟩, va_recv hK hPc (ci := 8) (q0 := 0) rfl rfl, fun U hU hW => ⟨rfl, by rw [hU], by rw [hU]; exact hPc, va_K.moved hW.alike hK, hDc.weaken (fun _ _ _ _ => trivial)⟩⟩ rfl rfl hl.1 rfl (lv_room (Nat.le_of_ble_eq_true rfl)) dX11_reckon_121 ⟨Nat.le_of_ble_eq_true rfl, Nat.le_of_ble_eq_true rfl⟩) hS (fun q _ h => hFc q h) hFc (fun x_34 u t H1 locs ht hvm w_35 hB hz1 hk1 hS => ?_)
          generalize u = u_36 at w_35 hB
          obtain ⟨hP1, hK1, hD1⟩ := hB
          rw [ht] at hP1
          try dsimp only at w_35
          obtain ⟨hP, hD⟩ := va_join (wr := []) (w1 := [(h, .inr (8, [.ref h_tape, .ref h_text, .ref h_shower, .ref h_current, .ref h_spare, .int h_formatted, .int h_fed, .int h_illPlace, .double u_36]))]) hP hD [0] [] rfl rfl (by decide) (by decide) hk1 hFc hP1 hD1
          generalize H1 = H at hP hS ⊢
          have hP : va_P D vwCl [(h, .inr (8, [.ref h_tape, .ref h_text, .ref h_shower, .ref h_current, .ref h_spare, .int h_formatted, .int h_fed, .int h_illPlace, .double u_36]))] H := hP
          have hD : va_D A [(h, .inr (8, [.ref h_tape, .ref h_text, .ref h_shower, .ref h_current, .ref h_spare, .int h_formatted, .int h_fed, .int h_illPlace, .double u_36]))] := hD
          obtain ⟨w_35_0, w_35_1, w_35_2⟩ := w_35
          have b_x_34 := ti_b x_34
          refine W.endD hd_33 ?_
          have hP9 := hP.sub (ws' := [(h, .inr (8, [.ref h_tape, .ref h_text, .ref h_shower, .ref h_current, .ref h_spare, .int h_formatted, .int h_fed, .int h_illPlace, .double u_36]))]) [0] rfl
          have hD9 := hD.sub (ws' := [(h, .inr (8, [.ref h_tape, .ref h_text, .ref h_shower, .ref h_current, .ref h_spare, .int h_formatted, .int h_fed, .int h_illPlace, .double u_36]))]) [0] (by decide) rfl
          exact W.zret (v := x_34) hx hb hr (nz01 (by omega)) (fun t ht hW => ⟨⟨x_34, (u_36), rfl, (by (try dsimp only); refine ⟨?_, ?_, ?_⟩ <;> first | omega | assumption | (subst_vars; exact Or.inl ⟨by unfold rbad; omega, rfl, rfl⟩) | (refine Or.inr ⟨by subst_vars; unfold rbad; omega, d_32, (by first | exact rk_0 (by omega) (by assumption) | exact rk_1 (by omega) (by assumption) | exact rk_2 (by omega) (by assumption) | exact rk_3 (by omega) (by assumption)), ?_⟩; assumption)), by rw [ht]; exact hP9, va_K.moved hW.alike hK, hD9⟩, hS.F ht⟩) hS.2.2 dX11_reckon_124
      · have ic_5 : (p1 : Int32).toInt = (3 : Int32).toInt := (fa_eq p1 3).mp c_5
        refine lv_dload_n hx hb dX11_reckon_20 rfl (lv_at hl 2 rfl) ?_
        refine lv_dconst0 hx hb dX11_reckon_21 ?_
        refine lv_dcmp hx hb dX11_reckon_22 ?_
        refine lv_topi (fun x_37 ex_37 => ?_)
        refine lv_if_ne (tgt := 28) hx hb dX11_reckon_23 (by decide) (fun c_38 => ?_) (fun c_38 => ?_)
        · have ic_38 : ¬ ((x_37 : Int32).toInt = (0 : Int32).toInt) := fun h9 => c_38 ((fa_eq x_37 0).mpr h9)
          refine lv_dload_n hx hb dX11_reckon_28 rfl (lv_at hl 2 rfl) ?_
          refine lv_ldc2d (v := 9218868437227405311) hx hb hown (hw 0 (.constantDouble RX11 60 (9218868437227405311)) rfl) dX11_reckon_29 ?_
          refine lv_dcmp hx hb dX11_reckon_32 ?_
          refine lv_topi (fun x_39 ex_39 => ?_)
          refine lv_if_gt (tgt := 44) hx hb dX11_reckon_33 (by decide) (fun c_40 => by have ic_40 : (0 : Int32).toInt < (x_39 : Int32).toInt := (fa_lt 0 x_39).mp c_40; exfalso; subst_vars; omega) (fun c_40 => ?_)
          have ic_40 : ¬ ((0 : Int32).toInt < (x_39 : Int32).toInt) := fun h9 => c_40 ((fa_lt 0 x_39).mpr h9)
          refine lv_dload_n hx hb dX11_reckon_36 rfl (lv_at hl 2 rfl) ?_
          refine lv_ldc2d (v := 18442240474082181119) hx hb hown (hw 1 (.constantDouble RX11 62 (18442240474082181119)) rfl) dX11_reckon_37 ?_
          refine lv_dcmp hx hb dX11_reckon_40 ?_
          refine lv_topi (fun x_41 ex_41 => ?_)
          refine lv_if_ge (tgt := 48) hx hb dX11_reckon_41 (by decide) (fun c_42 => ?_) (fun c_42 => by have ic_42 : ¬ ((0 : Int32).toInt ≤ (x_41 : Int32).toInt) := fun h9 => c_42 ((fa_le 0 x_41).mpr h9); exfalso; subst_vars; omega)
          have ic_42 : (0 : Int32).toInt ≤ (x_41 : Int32).toInt := (fa_le 0 x_41).mp c_42
          refine lv_iconst (v := 0) hx hb dX11_reckon_48 (by decide) ?_
          refine lv_istore (lv' := [(4, .int 0), (0, .ref h), (1, .int p1), (2, .double p2)]) hx hb dX11_reckon_49 hl (by decide) rfl (fun ls hl => ?_)
          refine lv_iload hx hb dX11_reckon_51 (lv_at hl 0 rfl) ?_
          refine lv_if_eq (tgt := 63) hx hb dX11_reckon_53 (by decide) (fun c_43 => ?_) (fun c_43 => by have ic_43 : ¬ ((0 : Int32).toInt = (0 : Int32).toInt) := fun h9 => c_43 ((fa_eq 0 0).mpr h9); exfalso; omega)
          have ic_43 : (0 : Int32).toInt = (0 : Int32).toInt := (fa_eq 0 0).mp c_43
          refine lv_iload_n hx hb dX11_reckon_63 rfl (lv_at hl 2 rfl) ?_
          rcases (show (p1 : Int32).toInt < 0 ∨ 2 < (p1 : Int32).toInt ∨ (p1 : Int32).toInt = 0 ∨ (p1 : Int32).toInt = 1 ∨ (p1 : Int32).toInt = 2 by omega) with v_44 | v_44 | v_44 | v_44 | v_44
          · refine lv_tableOut (tgt := 125) hx hb dX11_reckon_64 (Or.inl v_44) (by decide) ?_
            refine lv_aload_n hx hb dX11_reckon_125 rfl (lv_at hl 1 rfl) ?_
            refine lv_aload_n hx hb dX11_reckon_126 rfl (lv_at hl 1 rfl) ?_
            refine va_get (s := s.setDrawn s.drawn) (D := D) (ci := 8) (v := .double h_value) (C := RX11) (T := TX11) (N := 9) hx hb (dr_words hts _) iX11 hown hK hP 0 rfl rfl 8 (by decide) (hw 2 (.fieldLink RX11 56 "NumberFormats" "value" "D") rfl) (fun _ h9 => h9) rfl dX11_reckon_127 ?_
            refine lv_dload_n hx hb dX11_reckon_130 rfl (lv_at hl 3 rfl) ?_
            refine lv_ddiv_any hd0 lw_bits hx hb dX11_reckon_131 (fun d_45 dhd_46 ad_45 hd_46 => ?_)
            have hPc := hP.sub (ws' := [(h, .inr (8, [.ref h_tape, .ref h_text, .ref h_shower, .ref h_current, .ref h_spare, .int h_formatted, .int h_fed, .int h_illPlace, .double h_value]))]) [0] rfl
            have hDc := hD.sub (ws' := [(h, .inr (8, [.ref h_tape, .ref h_text, .ref h_shower, .ref h_current, .ref h_spare, .int h_formatted, .int h_fed, .int h_illPlace, .double h_value]))]) [0] (by decide) rfl
            have hFc := va_free (wc := [(h, .inr (8, [.ref h_tape, .ref h_text, .ref h_shower, .ref h_current, .ref h_spare, .int h_formatted, .int h_fed, .int h_illPlace, .double h_value]))]) hD hS hA [0] rfl
            refine va_calli (va_runV (As := [.double d_45]) (rest := []) ⟨hx, hb, hml, hown, (dr_words hts _)⟩ (c_X11_set l D cI cD cJ s.heap.size h h_tape h_text h_shower h_current h_spare h_formatted h_fed h_illPlace h_value d_45 (by omega) (by omega) (by assumption)) (cwV 1 (dr_words hts _) (goodIn_app (goodIn_r _ [4, 5, 6, 7] rfl (by decide +kernel)) (goodIn_sub i_X11_set k_X11_set)) rfl rfl rfl (by decide +kernel) ⟨Nat.le_of_ble_eq_true rfl, Nat.le_of_ble_eq_true rfl⟩) ⟨fun a U g mk q => by obtain ⟨q0, q1, qP, qK, qD⟩ := q; exact ⟨q0, q1, qP, va_K.moved (u := U) (U := U.calling g mk a) (Vm.Alike.refl U.vm) qK, qD⟩, va_recv hK hPc (ci := 8) (q0 := 0) rfl rfl, fun U hU hW => ⟨rfl, by rw [hU], by rw [hU]; exact hPc, va_K.moved hW.alike hK, hDc.weaken (fun _ _ _ _ => trivial)⟩⟩ rfl rfl hl.1 rfl (lv_room (Nat.le_of_ble_eq_true rfl)) dX11_reckon_132 ⟨Nat.le_of_ble_eq_true rfl, Nat.le_of_ble_eq_true rfl⟩) hS (fun q _ h => hFc q h) hFc (fun x_47 u t H1 locs ht hvm w_48 hB hz1 hk1 hS => ?_)
            generalize u = u_49 at w_48 hB
            obtain ⟨hP1, hK1, hD1⟩ := hB
            rw [ht] at hP1
            try dsimp only at w_48
            obtain ⟨hP, hD⟩ := va_join (wr := []) (w1 := [(h, .inr (8, [.ref h_tape, .ref h_text, .ref h_shower, .ref h_current, .ref h_spare, .int h_formatted, .int h_fed, .int h_illPlace, .double u_49]))]) hP hD [0] [] rfl rfl (by decide) (by decide) hk1 hFc hP1 hD1
            generalize H1 = H at hP hS ⊢
            have hP : va_P D vwCl [(h, .inr (8, [.ref h_tape, .ref h_text, .ref h_shower, .ref h_current, .ref h_spare, .int h_formatted, .int h_fed, .int h_illPlace, .double u_49]))] H := hP
            have hD : va_D A [(h, .inr (8, [.ref h_tape, .ref h_text, .ref h_shower, .ref h_current, .ref h_spare, .int h_formatted, .int h_fed, .int h_illPlace, .double u_49]))] := hD
            obtain ⟨w_48_0, w_48_1, w_48_2⟩ := w_48
            have b_x_47 := ti_b x_47
            refine W.endD hd_46 ?_
            have hP9 := hP.sub (ws' := [(h, .inr (8, [.ref h_tape, .ref h_text, .ref h_shower, .ref h_current, .ref h_spare, .int h_formatted, .int h_fed, .int h_illPlace, .double u_49]))]) [0] rfl
            have hD9 := hD.sub (ws' := [(h, .inr (8, [.ref h_tape, .ref h_text, .ref h_shower, .ref h_current, .ref h_spare, .int h_formatted, .int h_fed, .int h_illPlace, .double u_49]))]) [0] (by decide) rfl
            exact W.zret (v := x_47) hx hb hr (nz01 (by omega)) (fun t ht hW => ⟨⟨x_47, (u_49), rfl, (by (try dsimp only); refine ⟨?_, ?_, ?_⟩ <;> first | omega | assumption | (subst_vars; exact Or.inl ⟨by unfold rbad; omega, rfl, rfl⟩) | (refine Or.inr ⟨by subst_vars; unfold rbad; omega, d_45, (by first | exact rk_0 (by omega) (by assumption) | exact rk_1 (by omega) (by assumption) | exact rk_2 (by omega) (by assumption) | exact rk_3 (by omega) (by assumption)), ?_⟩; assumption)), by rw [ht]; exact hP9, va_K.moved hW.alike hK, hD9⟩, hS.F ht⟩) hS.2.2 dX11_reckon_135
          · refine lv_tableOut (tgt := 125) hx hb dX11_reckon_64 (Or.inr v_44) (by decide) ?_
            refine lv_aload_n hx hb dX11_reckon_125 rfl (lv_at hl 1 rfl) ?_
            refine lv_aload_n hx hb dX11_reckon_126 rfl (lv_at hl 1 rfl) ?_
            refine va_get (s := s.setDrawn s.drawn) (D := D) (ci := 8) (v := .double h_value) (C := RX11) (T := TX11) (N := 9) hx hb (dr_words hts _) iX11 hown hK hP 0 rfl rfl 8 (by decide) (hw 2 (.fieldLink RX11 56 "NumberFormats" "value" "D") rfl) (fun _ h9 => h9) rfl dX11_reckon_127 ?_
            refine lv_dload_n hx hb dX11_reckon_130 rfl (lv_at hl 3 rfl) ?_
            refine lv_ddiv_any hd0 lw_bits hx hb dX11_reckon_131 (fun d_50 dhd_51 ad_50 hd_51 => ?_)
            have hPc := hP.sub (ws' := [(h, .inr (8, [.ref h_tape, .ref h_text, .ref h_shower, .ref h_current, .ref h_spare, .int h_formatted, .int h_fed, .int h_illPlace, .double h_value]))]) [0] rfl
            have hDc := hD.sub (ws' := [(h, .inr (8, [.ref h_tape, .ref h_text, .ref h_shower, .ref h_current, .ref h_spare, .int h_formatted, .int h_fed, .int h_illPlace, .double h_value]))]) [0] (by decide) rfl
            have hFc := va_free (wc := [(h, .inr (8, [.ref h_tape, .ref h_text, .ref h_shower, .ref h_current, .ref h_spare, .int h_formatted, .int h_fed, .int h_illPlace, .double h_value]))]) hD hS hA [0] rfl
            refine va_calli (va_runV (As := [.double d_50]) (rest := []) ⟨hx, hb, hml, hown, (dr_words hts _)⟩ (c_X11_set l D cI cD cJ s.heap.size h h_tape h_text h_shower h_current h_spare h_formatted h_fed h_illPlace h_value d_50 (by omega) (by omega) (by assumption)) (cwV 1 (dr_words hts _) (goodIn_app (goodIn_r _ [4, 5, 6, 7] rfl (by decide +kernel)) (goodIn_sub i_X11_set k_X11_set)) rfl rfl rfl (by decide +kernel) ⟨Nat.le_of_ble_eq_true rfl, Nat.le_of_ble_eq_true rfl⟩) ⟨fun a U g mk q => by obtain ⟨q0, q1, qP, qK, qD⟩ := q; exact ⟨q0, q1, qP, va_K.moved (u := U) (U := U.calling g mk a) (Vm.Alike.refl U.vm) qK, qD⟩, va_recv hK hPc (ci := 8) (q0 := 0) rfl rfl, fun U hU hW => ⟨rfl, by rw [hU], by rw [hU]; exact hPc, va_K.moved hW.alike hK, hDc.weaken (fun _ _ _ _ => trivial)⟩⟩ rfl rfl hl.1 rfl (lv_room (Nat.le_of_ble_eq_true rfl)) dX11_reckon_132 ⟨Nat.le_of_ble_eq_true rfl, Nat.le_of_ble_eq_true rfl⟩) hS (fun q _ h => hFc q h) hFc (fun x_52 u t H1 locs ht hvm w_53 hB hz1 hk1 hS => ?_)
            generalize u = u_54 at w_53 hB
            obtain ⟨hP1, hK1, hD1⟩ := hB
            rw [ht] at hP1
            try dsimp only at w_53
            obtain ⟨hP, hD⟩ := va_join (wr := []) (w1 := [(h, .inr (8, [.ref h_tape, .ref h_text, .ref h_shower, .ref h_current, .ref h_spare, .int h_formatted, .int h_fed, .int h_illPlace, .double u_54]))]) hP hD [0] [] rfl rfl (by decide) (by decide) hk1 hFc hP1 hD1
            generalize H1 = H at hP hS ⊢
            have hP : va_P D vwCl [(h, .inr (8, [.ref h_tape, .ref h_text, .ref h_shower, .ref h_current, .ref h_spare, .int h_formatted, .int h_fed, .int h_illPlace, .double u_54]))] H := hP
            have hD : va_D A [(h, .inr (8, [.ref h_tape, .ref h_text, .ref h_shower, .ref h_current, .ref h_spare, .int h_formatted, .int h_fed, .int h_illPlace, .double u_54]))] := hD
            obtain ⟨w_53_0, w_53_1, w_53_2⟩ := w_53
            have b_x_52 := ti_b x_52
            refine W.endD hd_51 ?_
            have hP9 := hP.sub (ws' := [(h, .inr (8, [.ref h_tape, .ref h_text, .ref h_shower, .ref h_current, .ref h_spare, .int h_formatted, .int h_fed, .int h_illPlace, .double u_54]))]) [0] rfl
            have hD9 := hD.sub (ws' := [(h, .inr (8, [.ref h_tape, .ref h_text, .ref h_shower, .ref h_current, .ref h_spare, .int h_formatted, .int h_fed, .int h_illPlace, .double u_54]))]) [0] (by decide) rfl
            exact W.zret (v := x_52) hx hb hr (nz01 (by omega)) (fun t ht hW => ⟨⟨x_52, (u_54), rfl, (by (try dsimp only); refine ⟨?_, ?_, ?_⟩ <;> first | omega | assumption | (subst_vars; exact Or.inl ⟨by unfold rbad; omega, rfl, rfl⟩) | (refine Or.inr ⟨by subst_vars; unfold rbad; omega, d_50, (by first | exact rk_0 (by omega) (by assumption) | exact rk_1 (by omega) (by assumption) | exact rk_2 (by omega) (by assumption) | exact rk_3 (by omega) (by assumption)), ?_⟩; assumption)), by rw [ht]; exact hP9, va_K.moved hW.alike hK, hD9⟩, hS.F ht⟩) hS.2.2 dX11_reckon_135
          · refine lv_tableIn (off := 28) (tgt := 92) hx hb dX11_reckon_64 (by omega) (by omega) (by rw [v_44]; rfl) (by decide) ?_
            refine lv_aload_n hx hb dX11_reckon_92 rfl (lv_at hl 1 rfl) ?_
            refine lv_aload_n hx hb dX11_reckon_93 rfl (lv_at hl 1 rfl) ?_
            refine va_get (s := s.setDrawn s.drawn) (D := D) (ci := 8) (v := .double h_value) (C := RX11) (T := TX11) (N := 9) hx hb (dr_words hts _) iX11 hown hK hP 0 rfl rfl 8 (by decide) (hw 2 (.fieldLink RX11 56 "NumberFormats" "value" "D") rfl) (fun _ h9 => h9) rfl dX11_reckon_94 ?_
            refine lv_dload_n hx hb dX11_reckon_97 rfl (lv_at hl 3 rfl) ?_
            refine lv_dadd_any hd0 lw_bits hx hb dX11_reckon_98 (fun d_55 dhd_56 ad_55 hd_56 => ?_)
            have hPc := hP.sub (ws' := [(h, .inr (8, [.ref h_tape, .ref h_text, .ref h_shower, .ref h_current, .ref h_spare, .int h_formatted, .int h_fed, .int h_illPlace, .double h_value]))]) [0] rfl
            have hDc := hD.sub (ws' := [(h, .inr (8, [.ref h_tape, .ref h_text, .ref h_shower, .ref h_current, .ref h_spare, .int h_formatted, .int h_fed, .int h_illPlace, .double h_value]))]) [0] (by decide) rfl
            have hFc := va_free (wc := [(h, .inr (8, [.ref h_tape, .ref h_text, .ref h_shower, .ref h_current, .ref h_spare, .int h_formatted, .int h_fed, .int h_illPlace, .double h_value]))]) hD hS hA [0] rfl
            refine va_calli (va_runV (As := [.double d_55]) (rest := []) ⟨hx, hb, hml, hown, (dr_words hts _)⟩ (c_X11_set l D cI cD cJ s.heap.size h h_tape h_text h_shower h_current h_spare h_formatted h_fed h_illPlace h_value d_55 (by omega) (by omega) (by assumption)) (cwV 1 (dr_words hts _) (goodIn_app (goodIn_r _ [4, 5, 6, 7] rfl (by decide +kernel)) (goodIn_sub i_X11_set k_X11_set)) rfl rfl rfl (by decide +kernel) ⟨Nat.le_of_ble_eq_true rfl, Nat.le_of_ble_eq_true rfl⟩) ⟨fun a U g mk q => by obtain ⟨q0, q1, qP, qK, qD⟩ := q; exact ⟨q0, q1, qP, va_K.moved (u := U) (U := U.calling g mk a) (Vm.Alike.refl U.vm) qK, qD⟩, va_recv hK hPc (ci := 8) (q0 := 0) rfl rfl, fun U hU hW => ⟨rfl, by rw [hU], by rw [hU]; exact hPc, va_K.moved hW.alike hK, hDc.weaken (fun _ _ _ _ => trivial)⟩⟩ rfl rfl hl.1 rfl (lv_room (Nat.le_of_ble_eq_true rfl)) dX11_reckon_99 ⟨Nat.le_of_ble_eq_true rfl, Nat.le_of_ble_eq_true rfl⟩) hS (fun q _ h => hFc q h) hFc (fun x_57 u t H1 locs ht hvm w_58 hB hz1 hk1 hS => ?_)
            generalize u = u_59 at w_58 hB
            obtain ⟨hP1, hK1, hD1⟩ := hB
            rw [ht] at hP1
            try dsimp only at w_58
            obtain ⟨hP, hD⟩ := va_join (wr := []) (w1 := [(h, .inr (8, [.ref h_tape, .ref h_text, .ref h_shower, .ref h_current, .ref h_spare, .int h_formatted, .int h_fed, .int h_illPlace, .double u_59]))]) hP hD [0] [] rfl rfl (by decide) (by decide) hk1 hFc hP1 hD1
            generalize H1 = H at hP hS ⊢
            have hP : va_P D vwCl [(h, .inr (8, [.ref h_tape, .ref h_text, .ref h_shower, .ref h_current, .ref h_spare, .int h_formatted, .int h_fed, .int h_illPlace, .double u_59]))] H := hP
            have hD : va_D A [(h, .inr (8, [.ref h_tape, .ref h_text, .ref h_shower, .ref h_current, .ref h_spare, .int h_formatted, .int h_fed, .int h_illPlace, .double u_59]))] := hD
            obtain ⟨w_58_0, w_58_1, w_58_2⟩ := w_58
            have b_x_57 := ti_b x_57
            refine W.endD hd_56 ?_
            have hP9 := hP.sub (ws' := [(h, .inr (8, [.ref h_tape, .ref h_text, .ref h_shower, .ref h_current, .ref h_spare, .int h_formatted, .int h_fed, .int h_illPlace, .double u_59]))]) [0] rfl
            have hD9 := hD.sub (ws' := [(h, .inr (8, [.ref h_tape, .ref h_text, .ref h_shower, .ref h_current, .ref h_spare, .int h_formatted, .int h_fed, .int h_illPlace, .double u_59]))]) [0] (by decide) rfl
            exact W.zret (v := x_57) hx hb hr (nz01 (by omega)) (fun t ht hW => ⟨⟨x_57, (u_59), rfl, (by (try dsimp only); refine ⟨?_, ?_, ?_⟩ <;> first | omega | assumption | (subst_vars; exact Or.inl ⟨by unfold rbad; omega, rfl, rfl⟩) | (refine Or.inr ⟨by subst_vars; unfold rbad; omega, d_55, (by first | exact rk_0 (by omega) (by assumption) | exact rk_1 (by omega) (by assumption) | exact rk_2 (by omega) (by assumption) | exact rk_3 (by omega) (by assumption)), ?_⟩; assumption)), by rw [ht]; exact hP9, va_K.moved hW.alike hK, hD9⟩, hS.F ht⟩) hS.2.2 dX11_reckon_102
          · refine lv_tableIn (off := 39) (tgt := 103) hx hb dX11_reckon_64 (by omega) (by omega) (by rw [v_44]; rfl) (by decide) ?_
            refine lv_aload_n hx hb dX11_reckon_103 rfl (lv_at hl 1 rfl) ?_
            refine lv_aload_n hx hb dX11_reckon_104 rfl (lv_at hl 1 rfl) ?_
            refine va_get (s := s.setDrawn s.drawn) (D := D) (ci := 8) (v := .double h_value) (C := RX11) (T := TX11) (N := 9) hx hb (dr_words hts _) iX11 hown hK hP 0 rfl rfl 8 (by decide) (hw 2 (.fieldLink RX11 56 "NumberFormats" "value" "D") rfl) (fun _ h9 => h9) rfl dX11_reckon_105 ?_
            refine lv_dload_n hx hb dX11_reckon_108 rfl (lv_at hl 3 rfl) ?_
            refine lv_dsub_any hd0 lw_bits hx hb dX11_reckon_109 (fun d_60 dhd_61 ad_60 hd_61 => ?_)
            have hPc := hP.sub (ws' := [(h, .inr (8, [.ref h_tape, .ref h_text, .ref h_shower, .ref h_current, .ref h_spare, .int h_formatted, .int h_fed, .int h_illPlace, .double h_value]))]) [0] rfl
            have hDc := hD.sub (ws' := [(h, .inr (8, [.ref h_tape, .ref h_text, .ref h_shower, .ref h_current, .ref h_spare, .int h_formatted, .int h_fed, .int h_illPlace, .double h_value]))]) [0] (by decide) rfl
            have hFc := va_free (wc := [(h, .inr (8, [.ref h_tape, .ref h_text, .ref h_shower, .ref h_current, .ref h_spare, .int h_formatted, .int h_fed, .int h_illPlace, .double h_value]))]) hD hS hA [0] rfl
            refine va_calli (va_runV (As := [.double d_60]) (rest := []) ⟨hx, hb, hml, hown, (dr_words hts _)⟩ (c_X11_set l D cI cD cJ s.heap.size h h_tape h_text h_shower h_current h_spare h_formatted h_fed h_illPlace h_value d_60 (by omega) (by omega) (by assumption)) (cwV 1 (dr_words hts _) (goodIn_app (goodIn_r _ [4, 5, 6, 7] rfl (by decide +kernel)) (goodIn_sub i_X11_set k_X11_set)) rfl rfl rfl (by decide +kernel) ⟨Nat.le_of_ble_eq_true rfl, Nat.le_of_ble_eq_true rfl⟩) ⟨fun a U g mk q => by obtain ⟨q0, q1, qP, qK, qD⟩ := q; exact ⟨q0, q1, qP, va_K.moved (u := U) (U := U.calling g mk a) (Vm.Alike.refl U.vm) qK, qD⟩, va_recv hK hPc (ci := 8) (q0 := 0) rfl rfl, fun U hU hW => ⟨rfl, by rw [hU], by rw [hU]; exact hPc, va_K.moved hW.alike hK, hDc.weaken (fun _ _ _ _ => trivial)⟩⟩ rfl rfl hl.1 rfl (lv_room (Nat.le_of_ble_eq_true rfl)) dX11_reckon_110 ⟨Nat.le_of_ble_eq_true rfl, Nat.le_of_ble_eq_true rfl⟩) hS (fun q _ h => hFc q h) hFc (fun x_62 u t H1 locs ht hvm w_63 hB hz1 hk1 hS => ?_)
            generalize u = u_64 at w_63 hB
            obtain ⟨hP1, hK1, hD1⟩ := hB
            rw [ht] at hP1
            try dsimp only at w_63
            obtain ⟨hP, hD⟩ := va_join (wr := []) (w1 := [(h, .inr (8, [.ref h_tape, .ref h_text, .ref h_shower, .ref h_current, .ref h_spare, .int h_formatted, .int h_fed, .int h_illPlace, .double u_64]))]) hP hD [0] [] rfl rfl (by decide) (by decide) hk1 hFc hP1 hD1
            generalize H1 = H at hP hS ⊢
            have hP : va_P D vwCl [(h, .inr (8, [.ref h_tape, .ref h_text, .ref h_shower, .ref h_current, .ref h_spare, .int h_formatted, .int h_fed, .int h_illPlace, .double u_64]))] H := hP
            have hD : va_D A [(h, .inr (8, [.ref h_tape, .ref h_text, .ref h_shower, .ref h_current, .ref h_spare, .int h_formatted, .int h_fed, .int h_illPlace, .double u_64]))] := hD
            obtain ⟨w_63_0, w_63_1, w_63_2⟩ := w_63
            have b_x_62 := ti_b x_62
            refine W.endD hd_61 ?_
            have hP9 := hP.sub (ws' := [(h, .inr (8, [.ref h_tape, .ref h_text, .ref h_shower, .ref h_current, .ref h_spare, .int h_formatted, .int h_fed, .int h_illPlace, .double u_64]))]) [0] rfl
            have hD9 := hD.sub (ws' := [(h, .inr (8, [.ref h_tape, .ref h_text, .ref h_shower, .ref h_current, .ref h_spare, .int h_formatted, .int h_fed, .int h_illPlace, .double u_64]))]) [0] (by decide) rfl
            exact W.zret (v := x_62) hx hb hr (nz01 (by omega)) (fun t ht hW => ⟨⟨x_62, (u_64), rfl, (by (try dsimp only); refine ⟨?_, ?_, ?_⟩ <;> first | omega | assumption | (subst_vars; exact Or.inl ⟨by unfold rbad; omega, rfl, rfl⟩) | (refine Or.inr ⟨by subst_vars; unfold rbad; omega, d_60, (by first | exact rk_0 (by omega) (by assumption) | exact rk_1 (by omega) (by assumption) | exact rk_2 (by omega) (by assumption) | exact rk_3 (by omega) (by assumption)), ?_⟩; assumption)), by rw [ht]; exact hP9, va_K.moved hW.alike hK, hD9⟩, hS.F ht⟩) hS.2.2 dX11_reckon_113
          · refine lv_tableIn (off := 50) (tgt := 114) hx hb dX11_reckon_64 (by omega) (by omega) (by rw [v_44]; rfl) (by decide) ?_
            refine lv_aload_n hx hb dX11_reckon_114 rfl (lv_at hl 1 rfl) ?_
            refine lv_aload_n hx hb dX11_reckon_115 rfl (lv_at hl 1 rfl) ?_
            refine va_get (s := s.setDrawn s.drawn) (D := D) (ci := 8) (v := .double h_value) (C := RX11) (T := TX11) (N := 9) hx hb (dr_words hts _) iX11 hown hK hP 0 rfl rfl 8 (by decide) (hw 2 (.fieldLink RX11 56 "NumberFormats" "value" "D") rfl) (fun _ h9 => h9) rfl dX11_reckon_116 ?_
            refine lv_dload_n hx hb dX11_reckon_119 rfl (lv_at hl 3 rfl) ?_
            refine lv_dmul_any hd0 lw_bits hx hb dX11_reckon_120 (fun d_65 dhd_66 ad_65 hd_66 => ?_)
            have hPc := hP.sub (ws' := [(h, .inr (8, [.ref h_tape, .ref h_text, .ref h_shower, .ref h_current, .ref h_spare, .int h_formatted, .int h_fed, .int h_illPlace, .double h_value]))]) [0] rfl
            have hDc := hD.sub (ws' := [(h, .inr (8, [.ref h_tape, .ref h_text, .ref h_shower, .ref h_current, .ref h_spare, .int h_formatted, .int h_fed, .int h_illPlace, .double h_value]))]) [0] (by decide) rfl
            have hFc := va_free (wc := [(h, .inr (8, [.ref h_tape, .ref h_text, .ref h_shower, .ref h_current, .ref h_spare, .int h_formatted, .int h_fed, .int h_illPlace, .double h_value]))]) hD hS hA [0] rfl
            refine va_calli (va_runV (As := [.double d_65]) (rest := []) ⟨hx, hb, hml, hown, (dr_words hts _)⟩ (c_X11_set l D cI cD cJ s.heap.size h h_tape h_text h_shower h_current h_spare h_formatted h_fed h_illPlace h_value d_65 (by omega) (by omega) (by assumption)) (cwV 1 (dr_words hts _) (goodIn_app (goodIn_r _ [4, 5, 6, 7] rfl (by decide +kernel)) (goodIn_sub i_X11_set k_X11_set)) rfl rfl rfl (by decide +kernel) ⟨Nat.le_of_ble_eq_true rfl, Nat.le_of_ble_eq_true rfl⟩) ⟨fun a U g mk q => by obtain ⟨q0, q1, qP, qK, qD⟩ := q; exact ⟨q0, q1, qP, va_K.moved (u := U) (U := U.calling g mk a) (Vm.Alike.refl U.vm) qK, qD⟩, va_recv hK hPc (ci := 8) (q0 := 0) rfl rfl, fun U hU hW => ⟨rfl, by rw [hU], by rw [hU]; exact hPc, va_K.moved hW.alike hK, hDc.weaken (fun _ _ _ _ => trivial)⟩⟩ rfl rfl hl.1 rfl (lv_room (Nat.le_of_ble_eq_true rfl)) dX11_reckon_121 ⟨Nat.le_of_ble_eq_true rfl, Nat.le_of_ble_eq_true rfl⟩) hS (fun q _ h => hFc q h) hFc (fun x_67 u t H1 locs ht hvm w_68 hB hz1 hk1 hS => ?_)
            generalize u = u_69 at w_68 hB
            obtain ⟨hP1, hK1, hD1⟩ := hB
            rw [ht] at hP1
            try dsimp only at w_68
            obtain ⟨hP, hD⟩ := va_join (wr := []) (w1 := [(h, .inr (8, [.ref h_tape, .ref h_text, .ref h_shower, .ref h_current, .ref h_spare, .int h_formatted, .int h_fed, .int h_illPlace, .double u_69]))]) hP hD [0] [] rfl rfl (by decide) (by decide) hk1 hFc hP1 hD1
            generalize H1 = H at hP hS ⊢
            have hP : va_P D vwCl [(h, .inr (8, [.ref h_tape, .ref h_text, .ref h_shower, .ref h_current, .ref h_spare, .int h_formatted, .int h_fed, .int h_illPlace, .double u_69]))] H := hP
            have hD : va_D A [(h, .inr (8, [.ref h_tape, .ref h_text, .ref h_shower, .ref h_current, .ref h_spare, .int h_formatted, .int h_fed, .int h_illPlace, .double u_69]))] := hD
            obtain ⟨w_68_0, w_68_1, w_68_2⟩ := w_68
            have b_x_67 := ti_b x_67
            refine W.endD hd_66 ?_
            have hP9 := hP.sub (ws' := [(h, .inr (8, [.ref h_tape, .ref h_text, .ref h_shower, .ref h_current, .ref h_spare, .int h_formatted, .int h_fed, .int h_illPlace, .double u_69]))]) [0] rfl
            have hD9 := hD.sub (ws' := [(h, .inr (8, [.ref h_tape, .ref h_text, .ref h_shower, .ref h_current, .ref h_spare, .int h_formatted, .int h_fed, .int h_illPlace, .double u_69]))]) [0] (by decide) rfl
            exact W.zret (v := x_67) hx hb hr (nz01 (by omega)) (fun t ht hW => ⟨⟨x_67, (u_69), rfl, (by (try dsimp only); refine ⟨?_, ?_, ?_⟩ <;> first | omega | assumption | (subst_vars; exact Or.inl ⟨by unfold rbad; omega, rfl, rfl⟩) | (refine Or.inr ⟨by subst_vars; unfold rbad; omega, d_65, (by first | exact rk_0 (by omega) (by assumption) | exact rk_1 (by omega) (by assumption) | exact rk_2 (by omega) (by assumption) | exact rk_3 (by omega) (by assumption)), ?_⟩; assumption)), by rw [ht]; exact hP9, va_K.moved hW.alike hK, hD9⟩, hS.F ht⟩) hS.2.2 dX11_reckon_124
        · have ic_38 : (x_37 : Int32).toInt = (0 : Int32).toInt := (fa_eq x_37 0).mp c_38
          refine lv_iconst (v := 0) hx hb dX11_reckon_26 (by decide) ?_
          refine W.endD hd0 ?_
          have hP9 := hP.sub (ws' := [(h, .inr (8, [.ref h_tape, .ref h_text, .ref h_shower, .ref h_current, .ref h_spare, .int h_formatted, .int h_fed, .int h_illPlace, .double h_value]))]) [0] rfl
          have hD9 := hD.sub (ws' := [(h, .inr (8, [.ref h_tape, .ref h_text, .ref h_shower, .ref h_current, .ref h_spare, .int h_formatted, .int h_fed, .int h_illPlace, .double h_value]))]) [0] (by decide) rfl
          exact W.zret (v := 0) hx hb hr rfl (fun t ht hW => ⟨⟨0, (h_value), rfl, (by (try dsimp only); refine ⟨?_, ?_, ?_⟩ <;> first | omega | assumption | (subst_vars; exact Or.inl ⟨by unfold rbad; omega, rfl, rfl⟩) | (refine Or.inr ⟨by subst_vars; unfold rbad; omega, 0, (by first | exact rk_0 (by omega) (by assumption) | exact rk_1 (by omega) (by assumption) | exact rk_2 (by omega) (by assumption) | exact rk_3 (by omega) (by assumption)), ?_⟩; assumption)), by rw [ht]; exact hP9, va_K.moved hW.alike hK, hD9⟩, hS.F ht⟩) hS.2.2 dX11_reckon_27

def ow_X11_illAt : List Cond := [Cond.fieldLink RX11 37 "NumberFormats" "illPlace" "I"]
def pw_X11_illAt : List Cond := Cond.code yX11_illAt cX11_illAt 1 (some .int) :: (ow_X11_illAt ++ (wsX110))
set_option maxRecDepth 20000 in
theorem mo_X11_illAt : ∀ w ∈ ow_X11_illAt, w ∈ lw_tbl := by decide +kernel
set_option maxRecDepth 20000 in
theorem mc_X11_illAt : Cond.code yX11_illAt cX11_illAt 1 (some .int) ∈ lw_tbl := by decide +kernel
theorem m_X11_illAt : ∀ w ∈ pw_X11_illAt, w ∈ lw_tbl := List.forall_mem_cons.mpr ⟨mc_X11_illAt, (List.forall_mem_append.mpr ⟨mo_X11_illAt, inX11⟩)⟩
theorem ko_X11_illAt : ∀ w ∈ ow_X11_illAt, goodWord w = true := by decide +kernel
theorem k_X11_illAt : pw_X11_illAt.all goodWord = true := List.all_eq_true.mpr (List.forall_mem_cons.mpr ⟨by decide +kernel, (List.forall_mem_append.mpr ⟨ko_X11_illAt, kX_X11⟩)⟩)
set_option maxHeartbeats 400000 in
set_option maxRecDepth 100000 in
theorem c_X11_illAt (l : Launch) (D : va_G) (cI cD cJ : ClassId) (sz : Nat) (h : Nat) (h_tape : Nat) (h_text : Nat) (h_shower : Nat) (h_current : Nat) (h_spare : Nat) (h_formatted : Int32) (h_fed : Int32) (h_illPlace : Int32) (h_value : UInt64) (iv_h_formatted : (h_formatted : Int32).toInt = 0 ∨ (h_formatted : Int32).toInt = 1) (iv_h_fed : 0 ≤ (h_fed : Int32).toInt ∧ (h_fed : Int32).toInt ≤ 260) (iv_h_value : inR h_value) : Met l yX11_illAt pw_X11_illAt ({ frames := 0, cells := 0, slots := 0, locals := 0 }) (va_Pc [.ref h] (fun U => va_P D vwCl [(h, .inr (8, [.ref h_tape, .ref h_text, .ref h_shower, .ref h_current, .ref h_spare, .int h_formatted, .int h_fed, .int h_illPlace, .double h_value]))] U.heap ∧ va_K D vwCl (ty3 cI cD cJ) U)) (va_Qi (fun (r : Int32) (u : Unit) => True) (fun _ _ => True) (fun _ => False)) 0 0 (fun _ => False) := by
  refine Met.ofW (cc := cX11_illAt) (maxL := 1) (ret := (some .int)) (by decide +kernel) rfl ?_
  intro p e s m args below meth c s₁ B hml hv
  obtain ⟨rfl, hP, hK⟩ := hv
  have hx := B.exec
  have hb := B.bytes
  have hr := B.returns
  have hts := atoms_spec (ws := pw_X11_illAt) B.pre
  have hown : s.vm.findClass RX11 = some m.cls := findClass_of_methodNamed B.named
  have hlocks := B.notSynchronized
  have hS : va_S (fun _ => False) s.heap s.heap [] := va_S.rf
  have hw : ∀ (k : Nat) (w : Cond), ow_X11_illAt[k]? = some w → w.before _ s = true := fun k w h => hts w (List.mem_cons_of_mem _ (have h9 := List.mem_of_getElem? h; List.mem_append_left _ h9))
  have iX11 : ∀ w ∈ u_ws RX11 TX11 9, w ∈ pw_X11_illAt := fun w h9 => List.mem_cons_of_mem _ (List.mem_append_right _ (h9))
  have hl := lv_entry ([.ref h]) (n := 1) (Nat.le_of_ble_eq_true rfl)
  rw [lg_entry_eq]
  generalize (lg_sl ([.ref h]) ++ List.replicate (1 - (lg_sl ([.ref h])).length) Slot.unset).toArray = ls at hl ⊢
  have hl : lv_has ls 1 [(0, .ref h)] := hl
  refine lv_aload_n hx hb dX11_illAt_0 rfl (lv_at hl 0 rfl) ?_
  refine va_get (D := D) (ci := 8) (v := .int h_illPlace) (C := RX11) (T := TX11) (N := 9) hx hb hts iX11 hown hK hP 0 rfl rfl 7 (by decide) (hw 0 (.fieldLink RX11 37 "NumberFormats" "illPlace" "I") rfl) (fun _ h9 => h9) rfl dX11_illAt_1 ?_
  exact W.iret (v := h_illPlace) hx hb hr (fun t ht hW => ⟨⟨h_illPlace, (), rfl, trivial, trivial⟩, hS.F ht⟩) hS.2.2 dX11_illAt_4

def ow_X11_output : List Cond := [Cond.fieldLink RX11 23 "NumberFormats" "shower" "LNumberFormats$Shower;", Cond.methodLink RX11 108 yX9_signAt, Cond.instanceMethod yX9_signAt, Cond.selects RX9 yX9_signAt yX9_signAt, Cond.initialized RX9]
def pw_X11_output : List Cond := Cond.code yX11_output cX11_output 2 (some .int) :: (ow_X11_output ++ (pw_X9_signAt ++ (wsX110)))
set_option maxRecDepth 20000 in
theorem mo_X11_output : ∀ w ∈ ow_X11_output, w ∈ lw_tbl := by decide +kernel
set_option maxRecDepth 20000 in
theorem mc_X11_output : Cond.code yX11_output cX11_output 2 (some .int) ∈ lw_tbl := by decide +kernel
theorem m_X11_output : ∀ w ∈ pw_X11_output, w ∈ lw_tbl := List.forall_mem_cons.mpr ⟨mc_X11_output, (List.forall_mem_append.mpr ⟨mo_X11_output, (List.forall_mem_append.mpr ⟨m_X9_signAt, inX11⟩)⟩)⟩
theorem ko_X11_output : ∀ w ∈ ow_X11_output, goodWord w = true := by decide +kernel
theorem k_X11_output : pw_X11_output.all goodWord = true := List.all_eq_true.mpr (List.forall_mem_cons.mpr ⟨by decide +kernel, (List.forall_mem_append.mpr ⟨ko_X11_output, (List.forall_mem_append.mpr ⟨(List.all_eq_true.mp k_X9_signAt), kX_X11⟩)⟩)⟩)
set_option maxHeartbeats 400000 in
set_option maxRecDepth 100000 in
theorem c_X11_output (l : Launch) (D : va_G) (cI cD cJ : ClassId) (sz : Nat) (h : Nat) (h_tape : Nat) (h_text : Nat) (h_shower : Nat) (h_current : Nat) (h_spare : Nat) (h_formatted : Int32) (h_fed : Int32) (h_illPlace : Int32) (h_value : UInt64) (h_shower_pen : Nat) (h_shower_numberView : Nat) (h_shower_fractionView : Nat) (h_shower_dateView : Nat) (h_shower_pen_decimal : Nat) (h_shower_pen_row : Nat) (h_shower_pen_turned : Nat) (h_shower_pen_length : Int32) (h_shower_pen_slots : Int32) (h_shower_pen_slotsPut : Int32) (h_shower_pen_hidden : Int32) (h_shower_pen_zeroSeen : Int32) (h_shower_pen_groups : Int32) (h_shower_pen_rowF : Nat → Int32) (p1 : Int32) (iv_h_formatted : (h_formatted : Int32).toInt = 0 ∨ (h_formatted : Int32).toInt = 1) (iv_h_fed : 0 ≤ (h_fed : Int32).toInt ∧ (h_fed : Int32).toInt ≤ 260) (iv_h_value : inR h_value) (iv_h_shower_pen_length : 0 ≤ (h_shower_pen_length : Int32).toInt ∧ (h_shower_pen_length : Int32).toInt ≤ 1024) (iv_h_shower_pen_slots : 0 ≤ (h_shower_pen_slots : Int32).toInt ∧ (h_shower_pen_slots : Int32).toInt ≤ 256) (iv_h_shower_pen_zeroSeen : (h_shower_pen_zeroSeen : Int32).toInt = 0 ∨ (h_shower_pen_zeroSeen : Int32).toInt = 1) (iv_h_shower_pen_groups : (h_shower_pen_groups : Int32).toInt = 0 ∨ (h_shower_pen_groups : Int32).toInt = 1) : Met l yX11_output pw_X11_output ({ frames := 2, cells := 0, slots := 0, locals := 42 }) (va_Pc [.ref h, .int p1] (fun U => va_P D vwCl [(h, .inr (8, [.ref h_tape, .ref h_text, .ref h_shower, .ref h_current, .ref h_spare, .int h_formatted, .int h_fed, .int h_illPlace, .double h_value])), (h_shower, .inr (6, [.ref h_shower_pen, .ref h_shower_numberView, .ref h_shower_fractionView, .ref h_shower_dateView])), (h_shower_pen, .inr (5, [.ref h_shower_pen_decimal, .ref h_shower_pen_row, .ref h_shower_pen_turned, .int h_shower_pen_length, .int h_shower_pen_slots, .int h_shower_pen_slotsPut, .int h_shower_pen_hidden, .int h_shower_pen_zeroSeen, .int h_shower_pen_groups])), (h_shower_pen_row, .inl (cI, 1024, .inl h_shower_pen_rowF))] U.heap ∧ va_K D vwCl (ty3 cI cD cJ) U)) (va_Qi (fun (r : Int32) (u : Unit) => True) (fun _ _ => True) (fun _ => False)) 0 0 (fun _ => False) := by
  refine Met.ofW (cc := cX11_output) (maxL := 2) (ret := (some .int)) (by decide +kernel) rfl ?_
  intro p e s m args below meth c s₁ B hml hv
  obtain ⟨rfl, hP, hK⟩ := hv
  have hx := B.exec
  have hb := B.bytes
  have hr := B.returns
  have hts := atoms_spec (ws := pw_X11_output) B.pre
  have hown : s.vm.findClass RX11 = some m.cls := findClass_of_methodNamed B.named
  have hlocks := B.notSynchronized
  have hS : va_S (fun _ => False) s.heap s.heap [] := va_S.rf
  have hw : ∀ (k : Nat) (w : Cond), ow_X11_output[k]? = some w → w.before _ s = true := fun k w h => hts w (List.mem_cons_of_mem _ (have h9 := List.mem_of_getElem? h; List.mem_append_left _ h9))
  have i_X9_signAt : ∀ w ∈ pw_X9_signAt, w ∈ pw_X11_output := fun w h9 => List.mem_cons_of_mem _ (List.mem_append_right _ (List.mem_append_left _ h9))
  have iX11 : ∀ w ∈ u_ws RX11 TX11 9, w ∈ pw_X11_output := fun w h9 => List.mem_cons_of_mem _ (List.mem_append_right _ (List.mem_append_right _ (h9)))
  have hl := lv_entry ([.ref h, .int p1]) (n := 2) (Nat.le_of_ble_eq_true rfl)
  rw [lg_entry_eq]
  generalize (lg_sl ([.ref h, .int p1]) ++ List.replicate (2 - (lg_sl ([.ref h, .int p1])).length) Slot.unset).toArray = ls at hl ⊢
  have hl : lv_has ls 2 [(0, .ref h), (1, .int p1)] := hl
  have b_p1 := ti_b p1
  refine lv_aload_n hx hb dX11_output_0 rfl (lv_at hl 0 rfl) ?_
  refine va_get (D := D) (ci := 8) (v := .ref h_shower) (C := RX11) (T := TX11) (N := 9) hx hb hts iX11 hown hK hP 0 rfl rfl 2 (by decide) (hw 0 (.fieldLink RX11 23 "NumberFormats" "shower" "LNumberFormats$Shower;") rfl) (fun _ h9 => h9) rfl dX11_output_1 ?_
  refine lv_iload_n hx hb dX11_output_4 rfl (lv_at hl 1 rfl) ?_
  have hPc := hP.sub (ws' := [(h_shower, .inr (6, [.ref h_shower_pen, .ref h_shower_numberView, .ref h_shower_fractionView, .ref h_shower_dateView])), (h_shower_pen, .inr (5, [.ref h_shower_pen_decimal, .ref h_shower_pen_row, .ref h_shower_pen_turned, .int h_shower_pen_length, .int h_shower_pen_slots, .int h_shower_pen_slotsPut, .int h_shower_pen_hidden, .int h_shower_pen_zeroSeen, .int h_shower_pen_groups])), (h_shower_pen_row, .inl (cI, 1024, .inl h_shower_pen_rowF))]) [1, 2, 3] rfl
  refine va_calli (va_runV (As := [.int p1]) (rest := []) ⟨hx, hb, hml, hown, hts⟩ (c_X9_signAt l D cI cD cJ s.heap.size h_shower h_shower_pen h_shower_numberView h_shower_fractionView h_shower_dateView h_shower_pen_decimal h_shower_pen_row h_shower_pen_turned h_shower_pen_length h_shower_pen_slots h_shower_pen_slotsPut h_shower_pen_hidden h_shower_pen_zeroSeen h_shower_pen_groups h_shower_pen_rowF p1 (by omega) (by omega) (by omega) (by omega)) (cwV 1 hts (goodIn_app (goodIn_r _ [2, 3, 4, 5] rfl (by decide +kernel)) (goodIn_sub i_X9_signAt k_X9_signAt)) rfl rfl rfl (by decide +kernel) ⟨Nat.le_of_ble_eq_true rfl, Nat.le_of_ble_eq_true rfl⟩) ⟨fun a U g mk q => by obtain ⟨q0, qP, qK⟩ := q; exact ⟨q0, qP, va_K.moved (u := U) (U := U.calling g mk a) (Vm.Alike.refl U.vm) qK⟩, va_recv hK hPc (ci := 6) (q0 := 0) rfl rfl, fun U hU hW => ⟨rfl, by rw [hU]; exact hPc, va_K.moved hW.alike hK⟩⟩ rfl rfl hl.1 rfl (lv_room (Nat.le_of_ble_eq_true rfl)) dX11_output_5 ⟨Nat.le_of_ble_eq_true rfl, Nat.le_of_ble_eq_true rfl⟩) hS (fun q _ h => h.elim) (fun q h => h.elim) (fun x_1 u t H1 locs ht hvm w_2 hB hz1 hk1 hS => ?_)
  have hP : va_P D vwCl [(h, .inr (8, [.ref h_tape, .ref h_text, .ref h_shower, .ref h_current, .ref h_spare, .int h_formatted, .int h_fed, .int h_illPlace, .double h_value])), (h_shower, .inr (6, [.ref h_shower_pen, .ref h_shower_numberView, .ref h_shower_fractionView, .ref h_shower_dateView])), (h_shower_pen, .inr (5, [.ref h_shower_pen_decimal, .ref h_shower_pen_row, .ref h_shower_pen_turned, .int h_shower_pen_length, .int h_shower_pen_slots, .int h_shower_pen_slotsPut, .int h_shower_pen_hidden, .int h_shower_pen_zeroSeen, .int h_shower_pen_groups])), (h_shower_pen_row, .inl (cI, 1024, .inl h_shower_pen_rowF))] H1 := hP.kept (fun k9 q9 h9 => hk1 q9.1 (vx_lt hP h9) (fun h => h))
  generalize H1 = H at hP hS ⊢
  have b_x_1 := ti_b x_1
  exact W.iret (v := x_1) hx hb hr (fun t ht hW => ⟨⟨x_1, (), rfl, trivial, trivial⟩, hS.F ht⟩) hS.2.2 dX11_output_8

