def ow_X0_mostTenths : List Cond := [Cond.methodLink RX0 45 yX2_from, Cond.instanceMethod yX2_from, Cond.selects RX2 yX2_from yX2_from, Cond.initialized RX2, Cond.methodLink RX0 49 yX2_to, Cond.instanceMethod yX2_to, Cond.selects RX2 yX2_to yX2_to, Cond.methodLink RX0 56 yX2_kind, Cond.instanceMethod yX2_kind, Cond.selects RX2 yX2_kind yX2_kind, Cond.methodLink RX0 59 yX2_rowFrom, Cond.instanceMethod yX2_rowFrom, Cond.selects RX2 yX2_rowFrom yX2_rowFrom, Cond.methodLink RX0 63 yJ9_max_7cf53, Cond.static yJ9_max_7cf53, Cond.initialized RJ9]
def pw_X0_mostTenths : List Cond := Cond.code yX0_mostTenths cX0_mostTenths 4 (some .int) :: (ow_X0_mostTenths ++ (pw_X2_from ++ (pw_X2_to ++ (pw_X2_kind ++ (pw_X2_rowFrom ++ (pw_J9_max_7cf53))))))
set_option maxRecDepth 20000 in
theorem mo_X0_mostTenths : ∀ w ∈ ow_X0_mostTenths, w ∈ lw_tbl := by decide +kernel
set_option maxRecDepth 20000 in
theorem mc_X0_mostTenths : Cond.code yX0_mostTenths cX0_mostTenths 4 (some .int) ∈ lw_tbl := by decide +kernel
theorem m_X0_mostTenths : ∀ w ∈ pw_X0_mostTenths, w ∈ lw_tbl := List.forall_mem_cons.mpr ⟨mc_X0_mostTenths, (List.forall_mem_append.mpr ⟨mo_X0_mostTenths, (List.forall_mem_append.mpr ⟨m_X2_from, (List.forall_mem_append.mpr ⟨m_X2_to, (List.forall_mem_append.mpr ⟨m_X2_kind, (List.forall_mem_append.mpr ⟨m_X2_rowFrom, m_J9_max_7cf53⟩)⟩)⟩)⟩)⟩)⟩
theorem ko_X0_mostTenths : ∀ w ∈ ow_X0_mostTenths, goodWord w = true := by decide +kernel
theorem k_X0_mostTenths : pw_X0_mostTenths.all goodWord = true := List.all_eq_true.mpr (List.forall_mem_cons.mpr ⟨by decide +kernel, (List.forall_mem_append.mpr ⟨ko_X0_mostTenths, (List.forall_mem_append.mpr ⟨(List.all_eq_true.mp k_X2_from), (List.forall_mem_append.mpr ⟨(List.all_eq_true.mp k_X2_to), (List.forall_mem_append.mpr ⟨(List.all_eq_true.mp k_X2_kind), (List.forall_mem_append.mpr ⟨(List.all_eq_true.mp k_X2_rowFrom), (List.all_eq_true.mp k_J9_max_7cf53)⟩)⟩)⟩)⟩)⟩)⟩)
set_option maxHeartbeats 400000 in
set_option maxRecDepth 100000 in
theorem c_X0_mostTenths (l : Launch) (D : va_G) (cI cD cJ : ClassId) (sz : Nat) (f : Nat) (f_kinds : Nat) (f_signs : Nat) (f_sizes : Nat) (f_places : Nat) (f_limits : Nat) (f_starts : Nat) (f_sorts : Nat) (f_count : Int32) (f_sections : Int32) (f_fifth : Int32) (f_kindsF : Nat → Int32) (f_startsF : Nat → Int32) (p1 : Int32) (hs9 : p1.toInt ≤ 4) (iv_f_count : 0 ≤ (f_count : Int32).toInt ∧ (f_count : Int32).toInt ≤ 255) (iv_f_sections : 0 ≤ (f_sections : Int32).toInt ∧ (f_sections : Int32).toInt ≤ 4) (iv_f_startsF : ∀ k9 : Nat, k9 < 4 → 0 ≤ (f_startsF k9).toInt ∧ (f_startsF k9).toInt ≤ 255) : Met l yX0_mostTenths pw_X0_mostTenths ({ frames := 2, cells := 0, slots := 0, locals := 45 }) (va_Pc [.ref f, .int p1] (fun U => va_P D vwCl [(f, .inr (2, [.ref f_kinds, .ref f_signs, .ref f_sizes, .ref f_places, .ref f_limits, .ref f_starts, .ref f_sorts, .int f_count, .int f_sections, .int f_fifth])), (f_kinds, .inl (cI, 255, .inl f_kindsF)), (f_starts, .inl (cI, 4, .inl f_startsF))] U.heap ∧ va_K D vwCl (ty3 cI cD cJ) U)) (va_Qi (fun (r : Int32) (u : Unit) => True) (fun _ _ => True) (fun _ => False)) 0 0 (fun _ => False) := by
  refine Met.ofW (cc := cX0_mostTenths) (maxL := 4) (ret := (some .int)) (by decide +kernel) rfl ?_
  intro p e s m args below meth c s₁ B hml hv
  obtain ⟨rfl, hP, hK⟩ := hv
  have hx := B.exec
  have hb := B.bytes
  have hr := B.returns
  have hts := atoms_spec (ws := pw_X0_mostTenths) B.pre
  have hown : s.vm.findClass RX0 = some m.cls := findClass_of_methodNamed B.named
  have hlocks := B.notSynchronized
  have hS : va_S (fun _ => False) s.heap s.heap [] := va_S.rf
  have hw : ∀ (k : Nat) (w : Cond), ow_X0_mostTenths[k]? = some w → w.before _ s = true := fun k w h => hts w (List.mem_cons_of_mem _ (have h9 := List.mem_of_getElem? h; List.mem_append_left _ h9))
  have i_X2_from : ∀ w ∈ pw_X2_from, w ∈ pw_X0_mostTenths := fun w h9 => List.mem_cons_of_mem _ (List.mem_append_right _ (List.mem_append_left _ h9))
  have i_X2_to : ∀ w ∈ pw_X2_to, w ∈ pw_X0_mostTenths := fun w h9 => List.mem_cons_of_mem _ (List.mem_append_right _ (List.mem_append_right _ (List.mem_append_left _ h9)))
  have i_X2_kind : ∀ w ∈ pw_X2_kind, w ∈ pw_X0_mostTenths := fun w h9 => List.mem_cons_of_mem _ (List.mem_append_right _ (List.mem_append_right _ (List.mem_append_right _ (List.mem_append_left _ h9))))
  have i_X2_rowFrom : ∀ w ∈ pw_X2_rowFrom, w ∈ pw_X0_mostTenths := fun w h9 => List.mem_cons_of_mem _ (List.mem_append_right _ (List.mem_append_right _ (List.mem_append_right _ (List.mem_append_right _ (List.mem_append_left _ h9)))))
  have i_J9_max_7cf53 : ∀ w ∈ pw_J9_max_7cf53, w ∈ pw_X0_mostTenths := fun w h9 => List.mem_cons_of_mem _ (List.mem_append_right _ (List.mem_append_right _ (List.mem_append_right _ (List.mem_append_right _ (List.mem_append_right _ (h9))))))
  have n_0 : ((0 : Int32)).toInt = 0 := by decide
  have n_1 : ((1 : Int32)).toInt = 1 := by decide
  have n_15 : ((15 : Int32)).toInt = 15 := by decide
  have n_16 : ((16 : Int32)).toInt = 16 := by decide
  have hl := lv_entry ([.ref f, .int p1]) (n := 4) (Nat.le_of_ble_eq_true rfl)
  rw [lg_entry_eq]
  generalize (lg_sl ([.ref f, .int p1]) ++ List.replicate (4 - (lg_sl ([.ref f, .int p1])).length) Slot.unset).toArray = ls at hl ⊢
  have hl : lv_has ls 4 [(0, .ref f), (1, .int p1)] := hl
  have b_p1 := ti_b p1
  refine zz_cap (fun Z hZ1 hZ2 => ?_)
  refine lv_iconst (v := 0) hx hb dX0_mostTenths_0 (by decide) ?_
  refine lv_istore_n (lv' := [(2, .int 0), (0, .ref f), (1, .int p1)]) hx hb dX0_mostTenths_1 rfl hl (by decide) rfl (fun ls hl => ?_)
  refine lv_aload_n hx hb dX0_mostTenths_2 rfl (lv_at hl 1 rfl) ?_
  refine lv_iload_n hx hb dX0_mostTenths_3 rfl (lv_at hl 2 rfl) ?_
  have hPc := hP.sub (ws' := [(f, .inr (2, [.ref f_kinds, .ref f_signs, .ref f_sizes, .ref f_places, .ref f_limits, .ref f_starts, .ref f_sorts, .int f_count, .int f_sections, .int f_fifth])), (f_starts, .inl (cI, 4, .inl f_startsF))]) [0, 2] rfl
  refine va_calli (va_runV (As := [.int p1]) (rest := []) ⟨hx, hb, hml, hown, hts⟩ (c_X2_from l D cI cD cJ s.heap.size f f_kinds f_signs f_sizes f_places f_limits f_starts f_sorts f_count f_sections f_fifth f_startsF p1 (by omega) (by omega) (by assumption)) (cwV 1 hts (goodIn_app (goodIn_r _ [1, 2, 3, 4] rfl (by decide +kernel)) (goodIn_sub i_X2_from k_X2_from)) rfl rfl rfl (by decide +kernel) ⟨Nat.le_of_ble_eq_true rfl, Nat.le_of_ble_eq_true rfl⟩) ⟨fun a U g mk q => by obtain ⟨q0, qP, qK⟩ := q; exact ⟨q0, qP, va_K.moved (u := U) (U := U.calling g mk a) (Vm.Alike.refl U.vm) qK⟩, va_recv hK hPc (ci := 2) (q0 := 0) rfl rfl, fun U hU hW => ⟨rfl, by rw [hU]; exact hPc, va_K.moved hW.alike hK⟩⟩ rfl rfl hl.1 rfl (lv_room (Nat.le_of_ble_eq_true rfl)) dX0_mostTenths_4 ⟨Nat.le_of_ble_eq_true rfl, Nat.le_of_ble_eq_true rfl⟩) hS (fun q _ h => h.elim) (fun q h => h.elim) (fun x_1 u t H1 locs ht hvm w_2 hB hz1 hk1 hS => ?_)
  have hP : va_P D vwCl [(f, .inr (2, [.ref f_kinds, .ref f_signs, .ref f_sizes, .ref f_places, .ref f_limits, .ref f_starts, .ref f_sorts, .int f_count, .int f_sections, .int f_fifth])), (f_kinds, .inl (cI, 255, .inl f_kindsF)), (f_starts, .inl (cI, 4, .inl f_startsF))] H1 := hP.kept (fun k9 q9 h9 => hk1 q9.1 (vx_lt hP h9) (fun h => h))
  generalize H1 = H at hP hS ⊢
  try dsimp only at w_2
  refine lv_istore_n (lv' := [(3, .int x_1), (2, .int 0), (0, .ref f), (1, .int p1)]) hx hb dX0_mostTenths_7 rfl hl (by decide) rfl (fun ls hl => ?_)
  have L_8 : ∀ (N : Nat) (x_3 : Int32) (x_4 : Int32) (H : Heap) (locs : List Loc) (ls : Array Slot), (0 ≤ (x_3 : Int32).toInt) → ((2147483647 - (x_3 : Int32).toInt).toNat < N) → va_P D vwCl [(f, .inr (2, [.ref f_kinds, .ref f_signs, .ref f_sizes, .ref f_places, .ref f_limits, .ref f_starts, .ref f_sorts, .int f_count, .int f_sections, .int f_fifth])), (f_kinds, .inl (cI, 255, .inl f_kindsF)), (f_starts, .inl (cI, 4, .inl f_startsF))] H → va_S (fun _ => False) s.heap H locs → lv_has ls 4 [(3, .int x_3), (2, .int x_4), (0, .ref f), (1, .int p1)] → Z 0 0 H locs (F0 m 8 ls []) := by
    intro N
    induction N with
    | zero => intro _ _ _ _ _ _ hmu; exact absurd hmu (Nat.not_lt_zero _)
    | succ N ih_8 =>
      intro x_3 x_4 H locs ls g8_0 hmu hP hS hl
      refine hZ2 ?_
      refine lv_iload_n hx hb dX0_mostTenths_8 rfl (lv_at hl 0 rfl) ?_
      refine lv_aload_n hx hb dX0_mostTenths_9 rfl (lv_at hl 2 rfl) ?_
      refine lv_iload_n hx hb dX0_mostTenths_10 rfl (lv_at hl 3 rfl) ?_
      have hPc := hP.sub (ws' := [(f, .inr (2, [.ref f_kinds, .ref f_signs, .ref f_sizes, .ref f_places, .ref f_limits, .ref f_starts, .ref f_sorts, .int f_count, .int f_sections, .int f_fifth])), (f_starts, .inl (cI, 4, .inl f_startsF))]) [0, 2] rfl
      refine va_calli (va_runV (As := [.int p1]) (rest := [.int x_3]) ⟨hx, hb, hml, hown, hts⟩ (c_X2_to l D cI cD cJ H.size f f_kinds f_signs f_sizes f_places f_limits f_starts f_sorts f_count f_sections f_fifth f_startsF p1 (by omega) (by omega) (by omega) (by assumption)) (cwV 1 hts (goodIn_app (goodIn_r _ [5, 6, 7, 4] rfl (by decide +kernel)) (goodIn_sub i_X2_to k_X2_to)) rfl rfl rfl (by decide +kernel) ⟨Nat.le_of_ble_eq_true rfl, Nat.le_of_ble_eq_true rfl⟩) ⟨fun a U g mk q => by obtain ⟨q0, qP, qK⟩ := q; exact ⟨q0, qP, va_K.moved (u := U) (U := U.calling g mk a) (Vm.Alike.refl U.vm) qK⟩, va_recv hK hPc (ci := 2) (q0 := 0) rfl rfl, fun U hU hW => ⟨rfl, by rw [hU]; exact hPc, va_K.moved hW.alike hK⟩⟩ rfl rfl hl.1 rfl (lv_room (Nat.le_of_ble_eq_true rfl)) dX0_mostTenths_11 ⟨Nat.le_of_ble_eq_true rfl, Nat.le_of_ble_eq_true rfl⟩) hS (fun q _ h => h.elim) (fun q h => h.elim) (fun x_5 u t H1 locs ht hvm w_6 hB hz1 hk1 hS => ?_)
      have hP : va_P D vwCl [(f, .inr (2, [.ref f_kinds, .ref f_signs, .ref f_sizes, .ref f_places, .ref f_limits, .ref f_starts, .ref f_sorts, .int f_count, .int f_sections, .int f_fifth])), (f_kinds, .inl (cI, 255, .inl f_kindsF)), (f_starts, .inl (cI, 4, .inl f_startsF))] H1 := hP.kept (fun k9 q9 h9 => hk1 q9.1 (vx_lt hP h9) (fun h => h))
      generalize H1 = H at hP hS ⊢
      try dsimp only at w_6
      refine lv_icmp_ge (tgt := 52) hx hb dX0_mostTenths_14 (by decide) (fun c_7 => ?_) (fun c_7 => ?_)
      · have ic_7 : (x_5 : Int32).toInt ≤ (x_3 : Int32).toInt := (fa_le x_5 x_3).mp c_7
        refine lv_iload_n hx hb dX0_mostTenths_52 rfl (lv_at hl 1 rfl) ?_
        exact W.iret (v := x_4) hx hb hr (fun t ht hW => ⟨⟨x_4, (), rfl, trivial, trivial⟩, hS.F ht⟩) hS.2.2 dX0_mostTenths_53
      · have ic_7 : ¬ ((x_5 : Int32).toInt ≤ (x_3 : Int32).toInt) := fun h9 => c_7 ((fa_le x_5 x_3).mpr h9)
        refine lv_aload_n hx hb dX0_mostTenths_17 rfl (lv_at hl 2 rfl) ?_
        refine lv_iload_n hx hb dX0_mostTenths_18 rfl (lv_at hl 0 rfl) ?_
        have hPc := hP.sub (ws' := [(f, .inr (2, [.ref f_kinds, .ref f_signs, .ref f_sizes, .ref f_places, .ref f_limits, .ref f_starts, .ref f_sorts, .int f_count, .int f_sections, .int f_fifth])), (f_kinds, .inl (cI, 255, .inl f_kindsF))]) [0, 1] rfl
        refine va_calli (va_runV (As := [.int x_3]) (rest := []) ⟨hx, hb, hml, hown, hts⟩ (c_X2_kind l D cI cD cJ H.size f f_kinds f_signs f_sizes f_places f_limits f_starts f_sorts f_count f_sections f_fifth f_kindsF x_3 (by omega) (by omega)) (cwV 1 hts (goodIn_app (goodIn_r _ [8, 9, 10, 4] rfl (by decide +kernel)) (goodIn_sub i_X2_kind k_X2_kind)) rfl rfl rfl (by decide +kernel) ⟨Nat.le_of_ble_eq_true rfl, Nat.le_of_ble_eq_true rfl⟩) ⟨fun a U g mk q => by obtain ⟨q0, qP, qK⟩ := q; exact ⟨q0, qP, va_K.moved (u := U) (U := U.calling g mk a) (Vm.Alike.refl U.vm) qK⟩, va_recv hK hPc (ci := 2) (q0 := 0) rfl rfl, fun U hU hW => ⟨rfl, by rw [hU]; exact hPc, va_K.moved hW.alike hK⟩⟩ rfl rfl hl.1 rfl (lv_room (Nat.le_of_ble_eq_true rfl)) dX0_mostTenths_19 ⟨Nat.le_of_ble_eq_true rfl, Nat.le_of_ble_eq_true rfl⟩) hS (fun q _ h => h.elim) (fun q h => h.elim) (fun x_8 u t H1 locs ht hvm w_9 hB hz1 hk1 hS => ?_)
        have hP : va_P D vwCl [(f, .inr (2, [.ref f_kinds, .ref f_signs, .ref f_sizes, .ref f_places, .ref f_limits, .ref f_starts, .ref f_sorts, .int f_count, .int f_sections, .int f_fifth])), (f_kinds, .inl (cI, 255, .inl f_kindsF)), (f_starts, .inl (cI, 4, .inl f_startsF))] H1 := hP.kept (fun k9 q9 h9 => hk1 q9.1 (vx_lt hP h9) (fun h => h))
        generalize H1 = H at hP hS ⊢
        have b_x_8 := ti_b x_8
        refine lv_bipush (v := 15) hx hb dX0_mostTenths_22 (by decide) ?_
        refine lv_icmp_ne (tgt := 46) hx hb dX0_mostTenths_24 (by decide) (fun c_10 => ?_) (fun c_10 => ?_)
        · have ic_10 : ¬ ((x_8 : Int32).toInt = (15 : Int32).toInt) := fun h9 => c_10 ((fa_eq x_8 15).mpr h9)
          obtain ⟨x_11, ex_11⟩ : ∃ y : Int32, y = x_3 + 1 := ⟨_, rfl⟩
          have b_x_3 := ti_b x_3
          have tx_11 := ti_add ex_11
          refine lv_iinc (v := x_11) (lv' := [(3, .int x_11), (2, .int x_4), (0, .ref f), (1, .int p1)]) hx hb dX0_mostTenths_46 hl (k := 0) rfl (by rw [ex_11]; rfl) (by decide) rfl (fun ls hl => ?_)
          refine lv_goto (tgt := 8) hx hb dX0_mostTenths_49 (by decide) ?_
          exact hZ1 (ih_8 x_11 x_4 _ _ _ (by omega) (by omega) hP hS hl)
        · have ic_10 : (x_8 : Int32).toInt = (15 : Int32).toInt := (fa_eq x_8 15).mp c_10
          refine lv_iload_n hx hb dX0_mostTenths_27 rfl (lv_at hl 1 rfl) ?_
          refine lv_aload_n hx hb dX0_mostTenths_28 rfl (lv_at hl 2 rfl) ?_
          refine lv_bipush (v := 16) hx hb dX0_mostTenths_29 (by decide) ?_
          refine lv_iload_n hx hb dX0_mostTenths_31 rfl (lv_at hl 0 rfl) ?_
          refine lv_iconst (v := 1) hx hb dX0_mostTenths_32 (by decide) ?_
          refine lv_iadd hx hb dX0_mostTenths_33 ?_
          refine lv_topi (fun x_12 ex_12 => ?_)
          have b_x_3 := ti_b x_3
          have tx_12 := ti_add ex_12
          refine lv_aload_n hx hb dX0_mostTenths_34 rfl (lv_at hl 2 rfl) ?_
          refine lv_iload_n hx hb dX0_mostTenths_35 rfl (lv_at hl 3 rfl) ?_
          have hPc := hP.sub (ws' := [(f, .inr (2, [.ref f_kinds, .ref f_signs, .ref f_sizes, .ref f_places, .ref f_limits, .ref f_starts, .ref f_sorts, .int f_count, .int f_sections, .int f_fifth])), (f_starts, .inl (cI, 4, .inl f_startsF))]) [0, 2] rfl
          refine va_calli (va_runV (As := [.int p1]) (rest := [.int x_12, .int 16, .ref f, .int x_4]) ⟨hx, hb, hml, hown, hts⟩ (c_X2_to l D cI cD cJ H.size f f_kinds f_signs f_sizes f_places f_limits f_starts f_sorts f_count f_sections f_fifth f_startsF p1 (by omega) (by omega) (by omega) (by assumption)) (cwV 1 hts (goodIn_app (goodIn_r _ [5, 6, 7, 4] rfl (by decide +kernel)) (goodIn_sub i_X2_to k_X2_to)) rfl rfl rfl (by decide +kernel) ⟨Nat.le_of_ble_eq_true rfl, Nat.le_of_ble_eq_true rfl⟩) ⟨fun a U g mk q => by obtain ⟨q0, qP, qK⟩ := q; exact ⟨q0, qP, va_K.moved (u := U) (U := U.calling g mk a) (Vm.Alike.refl U.vm) qK⟩, va_recv hK hPc (ci := 2) (q0 := 0) rfl rfl, fun U hU hW => ⟨rfl, by rw [hU]; exact hPc, va_K.moved hW.alike hK⟩⟩ rfl rfl hl.1 rfl (lv_room (Nat.le_of_ble_eq_true rfl)) dX0_mostTenths_36 ⟨Nat.le_of_ble_eq_true rfl, Nat.le_of_ble_eq_true rfl⟩) hS (fun q _ h => h.elim) (fun q h => h.elim) (fun x_13 u t H1 locs ht hvm w_14 hB hz1 hk1 hS => ?_)
          have hP : va_P D vwCl [(f, .inr (2, [.ref f_kinds, .ref f_signs, .ref f_sizes, .ref f_places, .ref f_limits, .ref f_starts, .ref f_sorts, .int f_count, .int f_sections, .int f_fifth])), (f_kinds, .inl (cI, 255, .inl f_kindsF)), (f_starts, .inl (cI, 4, .inl f_startsF))] H1 := hP.kept (fun k9 q9 h9 => hk1 q9.1 (vx_lt hP h9) (fun h => h))
          generalize H1 = H at hP hS ⊢
          try dsimp only at w_14
          have hPc := hP.sub (ws' := [(f, .inr (2, [.ref f_kinds, .ref f_signs, .ref f_sizes, .ref f_places, .ref f_limits, .ref f_starts, .ref f_sorts, .int f_count, .int f_sections, .int f_fifth])), (f_kinds, .inl (cI, 255, .inl f_kindsF))]) [0, 1] rfl
          refine va_calli (va_runV (As := [.int 16, .int x_12, .int x_13]) (rest := [.int x_4]) ⟨hx, hb, hml, hown, hts⟩ (c_X2_rowFrom l D cI cD cJ H.size f f_kinds f_signs f_sizes f_places f_limits f_starts f_sorts f_count f_sections f_fifth f_kindsF 16 x_12 x_13 (by omega) (by omega) (by omega) (by omega) (by omega)) (cwV 3 hts (goodIn_app (goodIn_r _ [11, 12, 13, 4] rfl (by decide +kernel)) (goodIn_sub i_X2_rowFrom k_X2_rowFrom)) rfl rfl rfl (by decide +kernel) ⟨Nat.le_of_ble_eq_true rfl, Nat.le_of_ble_eq_true rfl⟩) ⟨fun a U g mk q => by obtain ⟨q0, qP, qK⟩ := q; exact ⟨q0, qP, va_K.moved (u := U) (U := U.calling g mk a) (Vm.Alike.refl U.vm) qK⟩, va_recv hK hPc (ci := 2) (q0 := 0) rfl rfl, fun U hU hW => ⟨rfl, by rw [hU]; exact hPc, va_K.moved hW.alike hK⟩⟩ rfl rfl hl.1 rfl (lv_room (Nat.le_of_ble_eq_true rfl)) dX0_mostTenths_39 ⟨Nat.le_of_ble_eq_true rfl, Nat.le_of_ble_eq_true rfl⟩) hS (fun q _ h => h.elim) (fun q h => h.elim) (fun x_15 u t H1 locs ht hvm w_16 hB hz1 hk1 hS => ?_)
          have hP : va_P D vwCl [(f, .inr (2, [.ref f_kinds, .ref f_signs, .ref f_sizes, .ref f_places, .ref f_limits, .ref f_starts, .ref f_sorts, .int f_count, .int f_sections, .int f_fifth])), (f_kinds, .inl (cI, 255, .inl f_kindsF)), (f_starts, .inl (cI, 4, .inl f_startsF))] H1 := hP.kept (fun k9 q9 h9 => hk1 q9.1 (vx_lt hP h9) (fun h => h))
          generalize H1 = H at hP hS ⊢
          try dsimp only at w_16
          have hPc := hP.sub (ws' := []) [] rfl
          refine va_calli (va_runS (As := [.int x_4, .int x_15]) (rest := []) ⟨hx, hb, hml, hown, hts⟩ (c_J9_max_7cf53 l D cI cD cJ H.size x_4 x_15) (va_cwS 2 hts (goodIn_app (goodIn_r _ [14, 15, 16] rfl (by decide +kernel)) (goodIn_sub i_J9_max_7cf53 k_J9_max_7cf53)) rfl rfl rfl (by decide +kernel) ⟨Nat.le_of_ble_eq_true rfl, Nat.le_of_ble_eq_true rfl⟩) ⟨fun a U g mk q => by obtain ⟨q0, qP, qK⟩ := q; exact ⟨q0, qP, va_K.moved (u := U) (U := U.calling g mk a) (Vm.Alike.refl U.vm) qK⟩, fun U hU hW => ⟨rfl, by rw [hU]; exact hPc, va_K.moved hW.alike hK⟩⟩ rfl rfl hl.1 rfl (lv_room (Nat.le_of_ble_eq_true rfl)) dX0_mostTenths_42 ⟨Nat.le_of_ble_eq_true rfl, Nat.le_of_ble_eq_true rfl⟩) hS (fun q _ h => h.elim) (fun q h => h.elim) (fun x_17 u t H1 locs ht hvm w_18 hB hz1 hk1 hS => ?_)
          have hP : va_P D vwCl [(f, .inr (2, [.ref f_kinds, .ref f_signs, .ref f_sizes, .ref f_places, .ref f_limits, .ref f_starts, .ref f_sorts, .int f_count, .int f_sections, .int f_fifth])), (f_kinds, .inl (cI, 255, .inl f_kindsF)), (f_starts, .inl (cI, 4, .inl f_startsF))] H1 := hP.kept (fun k9 q9 h9 => hk1 q9.1 (vx_lt hP h9) (fun h => h))
          generalize H1 = H at hP hS ⊢
          try dsimp only at w_18
          have b_x_17 := ti_b x_17
          refine lv_istore_n (lv' := [(2, .int x_17), (3, .int x_3), (0, .ref f), (1, .int p1)]) hx hb dX0_mostTenths_45 rfl hl (by decide) rfl (fun ls hl => ?_)
          obtain ⟨x_19, ex_19⟩ : ∃ y : Int32, y = x_3 + 1 := ⟨_, rfl⟩
          have b_x_3 := ti_b x_3
          have tx_19 := ti_add ex_19
          refine lv_iinc (v := x_19) (lv' := [(3, .int x_19), (2, .int x_17), (0, .ref f), (1, .int p1)]) hx hb dX0_mostTenths_46 hl (k := 1) rfl (by rw [ex_19]; rfl) (by decide) rfl (fun ls hl => ?_)
          refine lv_goto (tgt := 8) hx hb dX0_mostTenths_49 (by decide) ?_
          exact hZ1 (ih_8 x_19 x_17 _ _ _ (by omega) (by omega) hP hS hl)
  exact hZ1 (L_8 (((2147483647 - (x_1 : Int32).toInt).toNat) + 1) x_1 0 _ _ _ (by omega) (by omega) hP hS hl)

def ow_X0_findDay : List Cond := [Cond.constant RX0 100 (693899), Cond.constant RX0 101 (146097), Cond.constant RX0 102 (36524), Cond.constant RX0 103 (146096), Cond.fieldLink RX0 104 "NumberFormats$DateView" "day" "I", Cond.fieldLink RX0 107 "NumberFormats$DateView" "month" "I", Cond.fieldLink RX0 110 "NumberFormats$DateView" "year" "I", Cond.fieldLink RX0 113 "NumberFormats$DateView" "weekday" "I"]
def pw_X0_findDay : List Cond := Cond.code yX0_findDay cX0_findDay 8 none :: (ow_X0_findDay ++ (wsX00))
set_option maxRecDepth 20000 in
theorem mo_X0_findDay : ∀ w ∈ ow_X0_findDay, w ∈ lw_tbl := by decide +kernel
set_option maxRecDepth 20000 in
theorem mc_X0_findDay : Cond.code yX0_findDay cX0_findDay 8 none ∈ lw_tbl := by decide +kernel
theorem m_X0_findDay : ∀ w ∈ pw_X0_findDay, w ∈ lw_tbl := List.forall_mem_cons.mpr ⟨mc_X0_findDay, (List.forall_mem_append.mpr ⟨mo_X0_findDay, inX0⟩)⟩
theorem ko_X0_findDay : ∀ w ∈ ow_X0_findDay, goodWord w = true := by decide +kernel
theorem k_X0_findDay : pw_X0_findDay.all goodWord = true := List.all_eq_true.mpr (List.forall_mem_cons.mpr ⟨by decide +kernel, (List.forall_mem_append.mpr ⟨ko_X0_findDay, kX_X0⟩)⟩)
set_option maxHeartbeats 400000 in
set_option maxRecDepth 100000 in
theorem c_X0_findDay (l : Launch) (D : va_G) (cI cD cJ : ClassId) (sz : Nat) (dv : Nat) (dv_seconds : Int64) (dv_thousandths : Int32) (dv_tenthsPut : Int32) (dv_year : Int32) (dv_month : Int32) (dv_day : Int32) (dv_weekday : Int32) (dv_halves : Int32) (p1 : Int32) (iv_dv_halves : (dv_halves : Int32).toInt = 0 ∨ (dv_halves : Int32).toInt = 1) : Met l yX0_findDay pw_X0_findDay ({ frames := 0, cells := 0, slots := 0, locals := 0 }) (va_Pc [.ref dv, .int p1] (fun U => U.heap.size = sz ∧ va_P D vwCl [(dv, .inr (0, [.long dv_seconds, .int dv_thousandths, .int dv_tenthsPut, .int dv_year, .int dv_month, .int dv_day, .int dv_weekday, .int dv_halves]))] U.heap ∧ va_K D vwCl (ty3 cI cD cJ) U ∧ va_D (fun _ => True) [(dv, .inr (0, [.long dv_seconds, .int dv_thousandths, .int dv_tenthsPut, .int dv_year, .int dv_month, .int dv_day, .int dv_weekday, .int dv_halves]))])) (va_Qv (fun (u : Int32 × Int32 × Int32 × Int32) => match u with | (dv_year2, dv_month2, dv_day2, dv_weekday2) => True) (fun (u : Int32 × Int32 × Int32 × Int32) (t : State) => match u with | (dv_year2, dv_month2, dv_day2, dv_weekday2) => va_P D vwCl [(dv, .inr (0, [.long dv_seconds, .int dv_thousandths, .int dv_tenthsPut, .int dv_year2, .int dv_month2, .int dv_day2, .int dv_weekday2, .int dv_halves]))] t.heap ∧ va_K D vwCl (ty3 cI cD cJ) t ∧ va_D (va_A [(dv, .inr (0, [.long dv_seconds, .int dv_thousandths, .int dv_tenthsPut, .int dv_year, .int dv_month, .int dv_day, .int dv_weekday, .int dv_halves]))] sz) [(dv, .inr (0, [.long dv_seconds, .int dv_thousandths, .int dv_tenthsPut, .int dv_year2, .int dv_month2, .int dv_day2, .int dv_weekday2, .int dv_halves]))]) (va_A [(dv, .inr (0, [.long dv_seconds, .int dv_thousandths, .int dv_tenthsPut, .int dv_year, .int dv_month, .int dv_day, .int dv_weekday, .int dv_halves]))] sz)) 0 0 (va_A [(dv, .inr (0, [.long dv_seconds, .int dv_thousandths, .int dv_tenthsPut, .int dv_year, .int dv_month, .int dv_day, .int dv_weekday, .int dv_halves]))] sz) := by
  refine Met.ofW (cc := cX0_findDay) (maxL := 8) (ret := none) (by decide +kernel) rfl ?_
  intro p e s m args below meth c s₁ B hml hv
  obtain ⟨rfl, hsz, hP, hK, hD0⟩ := hv
  have hx := B.exec
  have hb := B.bytes
  have hr := B.returns
  have hts := atoms_spec (ws := pw_X0_findDay) B.pre
  have hown : s.vm.findClass RX0 = some m.cls := findClass_of_methodNamed B.named
  have hlocks := B.notSynchronized
  subst hsz
  have hD := hD0.self (sz := s.heap.size)
  generalize hAe : va_A [(dv, .inr (0, [.long dv_seconds, .int dv_thousandths, .int dv_tenthsPut, .int dv_year, .int dv_month, .int dv_day, .int dv_weekday, .int dv_halves]))] s.heap.size = A at hD ⊢
  have hA : ∀ q : Nat, s.heap.size ≤ q → A q := fun q h => by rw [← hAe]; exact Or.inr h
  have hS : va_S A s.heap s.heap [] := va_S.rf
  have hw : ∀ (k : Nat) (w : Cond), ow_X0_findDay[k]? = some w → w.before _ s = true := fun k w h => hts w (List.mem_cons_of_mem _ (have h9 := List.mem_of_getElem? h; List.mem_append_left _ h9))
  have iX0 : ∀ w ∈ u_ws RX0 TX0 8, w ∈ pw_X0_findDay := fun w h9 => List.mem_cons_of_mem _ (List.mem_append_right _ (h9))
  have n_0 : ((0 : Int32)).toInt = 0 := by decide
  have n_1 : ((1 : Int32)).toInt = 1 := by decide
  have n_10 : ((10 : Int32)).toInt = 10 := by decide
  have n_100 : ((100 : Int32)).toInt = 100 := by decide
  have n_1460 : ((1460 : Int32)).toInt = 1460 := by decide
  have n_146096 : ((146096 : Int32)).toInt = 146096 := by decide
  have n_146097 : ((146097 : Int32)).toInt = 146097 := by decide
  have n_153 : ((153 : Int32)).toInt = 153 := by decide
  have n_2 : ((2 : Int32)).toInt = 2 := by decide
  have n_3 : ((3 : Int32)).toInt = 3 := by decide
  have n_365 : ((365 : Int32)).toInt = 365 := by decide
  have n_36524 : ((36524 : Int32)).toInt = 36524 := by decide
  have n_4 : ((4 : Int32)).toInt = 4 := by decide
  have n_400 : ((400 : Int32)).toInt = 400 := by decide
  have n_5 : ((5 : Int32)).toInt = 5 := by decide
  have n_6 : ((6 : Int32)).toInt = 6 := by decide
  have n_693899 : ((693899 : Int32)).toInt = 693899 := by decide
  have n_7 : ((7 : Int32)).toInt = 7 := by decide
  have n_9 : ((9 : Int32)).toInt = 9 := by decide
  have hl := lv_entry ([.ref dv, .int p1]) (n := 8) (Nat.le_of_ble_eq_true rfl)
  rw [lg_entry_eq]
  generalize (lg_sl ([.ref dv, .int p1]) ++ List.replicate (8 - (lg_sl ([.ref dv, .int p1])).length) Slot.unset).toArray = ls at hl ⊢
  have hl : lv_has ls 8 [(0, .ref dv), (1, .int p1)] := hl
  have b_p1 := ti_b p1
  refine zz_cap (fun Z hZ1 hZ2 => ?_)
  refine lv_iload_n hx hb dX0_findDay_0 rfl (lv_at hl 1 rfl) ?_
  refine lv_ldc (v := 693899) hx hb hown (hw 0 (.constant RX0 100 (693899)) rfl) dX0_findDay_1 ?_
  refine lv_iadd hx hb dX0_findDay_3 ?_
  refine lv_topi (fun x_1 ex_1 => ?_)
  have b_p1 := ti_b p1
  have tx_1 := ti_add ex_1
  refine lv_istore_n (lv' := [(2, .int x_1), (0, .ref dv), (1, .int p1)]) hx hb dX0_findDay_4 rfl hl (by decide) rfl (fun ls hl => ?_)
  refine lv_iload_n hx hb dX0_findDay_5 rfl (lv_at hl 0 rfl) ?_
  refine lv_ldc (v := 146097) hx hb hown (hw 1 (.constant RX0 101 (146097)) rfl) dX0_findDay_6 ?_
  refine lv_idiv hx hb dX0_findDay_8 (by decide) ?_
  refine lv_topi (fun x_2 ex_2 => ?_)
  have tx_2 := ti_div ex_2 (by decide)
  rw [n_146097] at tx_2
  refine lv_istore_n (lv' := [(3, .int x_2), (2, .int x_1), (0, .ref dv), (1, .int p1)]) hx hb dX0_findDay_9 rfl hl (by decide) rfl (fun ls hl => ?_)
  refine lv_iload_n hx hb dX0_findDay_10 rfl (lv_at hl 1 rfl) ?_
  refine lv_ldc (v := 146097) hx hb hown (hw 1 (.constant RX0 101 (146097)) rfl) dX0_findDay_11 ?_
  refine lv_irem hx hb dX0_findDay_13 (by decide) ?_
  refine lv_topi (fun x_3 ex_3 => ?_)
  have tx_3 := ti_rem ex_3 (by decide)
  rw [n_146097] at tx_3
  refine lv_istore (lv' := [(4, .int x_3), (3, .int x_2), (2, .int x_1), (0, .ref dv), (1, .int p1)]) hx hb dX0_findDay_14 hl (by decide) rfl (fun ls hl => ?_)
  refine lv_iload hx hb dX0_findDay_16 (lv_at hl 0 rfl) ?_
  refine lv_iload hx hb dX0_findDay_18 (lv_at hl 0 rfl) ?_
  refine lv_sipush (v := 1460) hx hb dX0_findDay_20 (by decide) ?_
  refine lv_idiv hx hb dX0_findDay_23 (by decide) ?_
  refine lv_topi (fun x_4 ex_4 => ?_)
  have tx_4 := ti_div ex_4 (by decide)
  rw [n_1460] at tx_4
  refine lv_isub hx hb dX0_findDay_24 ?_
  refine lv_topi (fun x_5 ex_5 => ?_)
  have b_x_3 := ti_b x_3
  have b_x_4 := ti_b x_4
  have tx_5 := ti_sub ex_5
  refine lv_iload hx hb dX0_findDay_25 (lv_at hl 0 rfl) ?_
  refine lv_ldc (v := 36524) hx hb hown (hw 2 (.constant RX0 102 (36524)) rfl) dX0_findDay_27 ?_
  refine lv_idiv hx hb dX0_findDay_29 (by decide) ?_
  refine lv_topi (fun x_6 ex_6 => ?_)
  have tx_6 := ti_div ex_6 (by decide)
  rw [n_36524] at tx_6
  refine lv_iadd hx hb dX0_findDay_30 ?_
  refine lv_topi (fun x_7 ex_7 => ?_)
  have b_x_6 := ti_b x_6
  have tx_7 := ti_add ex_7
  refine lv_iload hx hb dX0_findDay_31 (lv_at hl 0 rfl) ?_
  refine lv_ldc (v := 146096) hx hb hown (hw 3 (.constant RX0 103 (146096)) rfl) dX0_findDay_33 ?_
  refine lv_idiv hx hb dX0_findDay_35 (by decide) ?_
  refine lv_topi (fun x_8 ex_8 => ?_)
  have tx_8 := ti_div ex_8 (by decide)
  rw [n_146096] at tx_8
  refine lv_isub hx hb dX0_findDay_36 ?_
  refine lv_topi (fun x_9 ex_9 => ?_)
  have b_x_8 := ti_b x_8
  have tx_9 := ti_sub ex_9
  refine lv_sipush (v := 365) hx hb dX0_findDay_37 (by decide) ?_
  refine lv_idiv hx hb dX0_findDay_40 (by decide) ?_
  refine lv_topi (fun x_10 ex_10 => ?_)
  have tx_10 := ti_div ex_10 (by decide)
  rw [n_365] at tx_10
  refine lv_istore (lv' := [(5, .int x_10), (4, .int x_3), (3, .int x_2), (2, .int x_1), (0, .ref dv), (1, .int p1)]) hx hb dX0_findDay_41 hl (by decide) rfl (fun ls hl => ?_)
  refine lv_iload hx hb dX0_findDay_43 (lv_at hl 1 rfl) ?_
  refine lv_sipush (v := 365) hx hb dX0_findDay_45 (by decide) ?_
  refine lv_iload hx hb dX0_findDay_48 (lv_at hl 0 rfl) ?_
  refine lv_imul hx hb dX0_findDay_50 ?_
  refine lv_topi (fun x_11 ex_11 => ?_)
  have tx_11 := ti_mul ex_11
  rw [n_365] at tx_11
  refine lv_iload hx hb dX0_findDay_51 (lv_at hl 0 rfl) ?_
  refine lv_iconst (v := 4) hx hb dX0_findDay_53 (by decide) ?_
  refine lv_idiv hx hb dX0_findDay_54 (by decide) ?_
  refine lv_topi (fun x_12 ex_12 => ?_)
  have tx_12 := ti_div ex_12 (by decide)
  rw [n_4] at tx_12
  refine lv_iadd hx hb dX0_findDay_55 ?_
  refine lv_topi (fun x_13 ex_13 => ?_)
  have b_x_11 := ti_b x_11
  have b_x_12 := ti_b x_12
  have tx_13 := ti_add ex_13
  refine lv_iload hx hb dX0_findDay_56 (lv_at hl 0 rfl) ?_
  refine lv_bipush (v := 100) hx hb dX0_findDay_58 (by decide) ?_
  refine lv_idiv hx hb dX0_findDay_60 (by decide) ?_
  refine lv_topi (fun x_14 ex_14 => ?_)
  have tx_14 := ti_div ex_14 (by decide)
  rw [n_100] at tx_14
  refine lv_isub hx hb dX0_findDay_61 ?_
  refine lv_topi (fun x_15 ex_15 => ?_)
  have b_x_14 := ti_b x_14
  have tx_15 := ti_sub ex_15
  refine lv_isub hx hb dX0_findDay_62 ?_
  refine lv_topi (fun x_16 ex_16 => ?_)
  have b_x_3 := ti_b x_3
  have tx_16 := ti_sub ex_16
  refine lv_istore (lv' := [(6, .int x_16), (5, .int x_10), (4, .int x_3), (3, .int x_2), (2, .int x_1), (0, .ref dv), (1, .int p1)]) hx hb dX0_findDay_63 hl (by decide) rfl (fun ls hl => ?_)
  refine lv_iconst (v := 5) hx hb dX0_findDay_65 (by decide) ?_
  refine lv_iload hx hb dX0_findDay_66 (lv_at hl 0 rfl) ?_
  refine lv_imul hx hb dX0_findDay_68 ?_
  refine lv_topi (fun x_17 ex_17 => ?_)
  have tx_17 := ti_mul ex_17
  rw [n_5] at tx_17
  refine lv_iconst (v := 2) hx hb dX0_findDay_69 (by decide) ?_
  refine lv_iadd hx hb dX0_findDay_70 ?_
  refine lv_topi (fun x_18 ex_18 => ?_)
  have b_x_17 := ti_b x_17
  have tx_18 := ti_add ex_18
  refine lv_sipush (v := 153) hx hb dX0_findDay_71 (by decide) ?_
  refine lv_idiv hx hb dX0_findDay_74 (by decide) ?_
  refine lv_topi (fun x_19 ex_19 => ?_)
  have tx_19 := ti_div ex_19 (by decide)
  rw [n_153] at tx_19
  refine lv_istore (lv' := [(7, .int x_19), (6, .int x_16), (5, .int x_10), (4, .int x_3), (3, .int x_2), (2, .int x_1), (0, .ref dv), (1, .int p1)]) hx hb dX0_findDay_75 hl (by decide) rfl (fun ls hl => ?_)
  refine lv_aload_n hx hb dX0_findDay_77 rfl (lv_at hl 6 rfl) ?_
  refine lv_iload hx hb dX0_findDay_78 (lv_at hl 1 rfl) ?_
  refine lv_sipush (v := 153) hx hb dX0_findDay_80 (by decide) ?_
  refine lv_iload hx hb dX0_findDay_83 (lv_at hl 0 rfl) ?_
  refine lv_imul hx hb dX0_findDay_85 ?_
  refine lv_topi (fun x_20 ex_20 => ?_)
  have tx_20 := ti_mul ex_20
  rw [n_153] at tx_20
  refine lv_iconst (v := 2) hx hb dX0_findDay_86 (by decide) ?_
  refine lv_iadd hx hb dX0_findDay_87 ?_
  refine lv_topi (fun x_21 ex_21 => ?_)
  have b_x_20 := ti_b x_20
  have tx_21 := ti_add ex_21
  refine lv_iconst (v := 5) hx hb dX0_findDay_88 (by decide) ?_
  refine lv_idiv hx hb dX0_findDay_89 (by decide) ?_
  refine lv_topi (fun x_22 ex_22 => ?_)
  have tx_22 := ti_div ex_22 (by decide)
  rw [n_5] at tx_22
  refine lv_isub hx hb dX0_findDay_90 ?_
  refine lv_topi (fun x_23 ex_23 => ?_)
  have b_x_22 := ti_b x_22
  have tx_23 := ti_sub ex_23
  refine lv_iconst (v := 1) hx hb dX0_findDay_91 (by decide) ?_
  refine lv_iadd hx hb dX0_findDay_92 ?_
  refine lv_topi (fun x_24 ex_24 => ?_)
  have tx_24 := ti_add ex_24
  refine va_put (D := D) (ci := 0) (v := .int x_24) (ty := .int) (C := RX0) (T := TX0) (N := 8) hx hb hts iX0 tyX0 tyX0_ok nmX0 hown hK hP hD hS 0 rfl rfl 5 (by decide) (hw 4 (.fieldLink RX0 104 "NumberFormats$DateView" "day" "I") rfl) (fun _ h9 => h9) rfl (by decide +kernel) rfl rfl (Nat.le_of_ble_eq_true rfl) dX0_findDay_93 (fun H locs hP hD hS => ?_)
  have hP : va_P D vwCl [(dv, .inr (0, [.long dv_seconds, .int dv_thousandths, .int dv_tenthsPut, .int dv_year, .int dv_month, .int x_24, .int dv_weekday, .int dv_halves]))] H := hP
  have hD : va_D A [(dv, .inr (0, [.long dv_seconds, .int dv_thousandths, .int dv_tenthsPut, .int dv_year, .int dv_month, .int x_24, .int dv_weekday, .int dv_halves]))] := hD
  refine lv_aload_n hx hb dX0_findDay_96 rfl (lv_at hl 6 rfl) ?_
  refine lv_iload hx hb dX0_findDay_97 (lv_at hl 0 rfl) ?_
  refine lv_bipush (v := 10) hx hb dX0_findDay_99 (by decide) ?_
  have K_116 : ∀ (z_25 : Int32) (H : Heap) (locs : List Loc) (ls : Array Slot), va_P D vwCl [(dv, .inr (0, [.long dv_seconds, .int dv_thousandths, .int dv_tenthsPut, .int dv_year, .int dv_month, .int x_24, .int dv_weekday, .int dv_halves]))] H → va_D A [(dv, .inr (0, [.long dv_seconds, .int dv_thousandths, .int dv_tenthsPut, .int dv_year, .int dv_month, .int x_24, .int dv_weekday, .int dv_halves]))] → va_S A s.heap H locs → lv_has ls 8 [(5, .int x_10), (3, .int x_2), (0, .ref dv), (1, .int p1)] → Z 0 0 H locs (F0 m 116 ls [.int z_25, .ref dv]) := by
    intro z_25 H locs ls  hP hD hS hl
    refine hZ2 ?_
    refine va_put (D := D) (ci := 0) (v := .int z_25) (ty := .int) (C := RX0) (T := TX0) (N := 8) hx hb hts iX0 tyX0 tyX0_ok nmX0 hown hK hP hD hS 0 rfl rfl 4 (by decide) (hw 5 (.fieldLink RX0 107 "NumberFormats$DateView" "month" "I") rfl) (fun _ h9 => h9) rfl (by decide +kernel) rfl rfl (Nat.le_of_ble_eq_true rfl) dX0_findDay_116 (fun H locs hP hD hS => ?_)
    have hP : va_P D vwCl [(dv, .inr (0, [.long dv_seconds, .int dv_thousandths, .int dv_tenthsPut, .int dv_year, .int z_25, .int x_24, .int dv_weekday, .int dv_halves]))] H := hP
    have hD : va_D A [(dv, .inr (0, [.long dv_seconds, .int dv_thousandths, .int dv_tenthsPut, .int dv_year, .int z_25, .int x_24, .int dv_weekday, .int dv_halves]))] := hD
    refine lv_aload_n hx hb dX0_findDay_119 rfl (lv_at hl 2 rfl) ?_
    refine lv_iload_n hx hb dX0_findDay_120 rfl (lv_at hl 1 rfl) ?_
    refine lv_sipush (v := 400) hx hb dX0_findDay_121 (by decide) ?_
    refine lv_imul hx hb dX0_findDay_124 ?_
    refine lv_topi (fun x_26 ex_26 => ?_)
    have tx_26 := ti_mul ex_26
    rw [n_400] at tx_26
    refine lv_iload hx hb dX0_findDay_125 (lv_at hl 0 rfl) ?_
    refine lv_iadd hx hb dX0_findDay_127 ?_
    refine lv_topi (fun x_27 ex_27 => ?_)
    have b_x_26 := ti_b x_26
    have b_x_10 := ti_b x_10
    have tx_27 := ti_add ex_27
    refine lv_aload_n hx hb dX0_findDay_128 rfl (lv_at hl 2 rfl) ?_
    refine va_get (D := D) (ci := 0) (v := .int z_25) (C := RX0) (T := TX0) (N := 8) hx hb hts iX0 hown hK hP 0 rfl rfl 4 (by decide) (hw 5 (.fieldLink RX0 107 "NumberFormats$DateView" "month" "I") rfl) (fun _ h9 => h9) rfl dX0_findDay_129 ?_
    refine lv_iconst (v := 2) hx hb dX0_findDay_132 (by decide) ?_
    have K_141 : ∀ (z_28 : Int32) (H : Heap) (locs : List Loc) (ls : Array Slot), ((z_28 : Int32).toInt = 0 ∨ (z_28 : Int32).toInt = 1) → va_P D vwCl [(dv, .inr (0, [.long dv_seconds, .int dv_thousandths, .int dv_tenthsPut, .int dv_year, .int z_25, .int x_24, .int dv_weekday, .int dv_halves]))] H → va_D A [(dv, .inr (0, [.long dv_seconds, .int dv_thousandths, .int dv_tenthsPut, .int dv_year, .int z_25, .int x_24, .int dv_weekday, .int dv_halves]))] → va_S A s.heap H locs → lv_has ls 8 [(0, .ref dv), (1, .int p1)] → Z 0 0 H locs (F0 m 141 ls [.int z_28, .int x_27, .ref dv]) := by
      intro z_28 H locs ls g141_0 hP hD hS hl
      refine hZ2 ?_
      refine lv_iadd hx hb dX0_findDay_141 ?_
      refine lv_topi (fun x_29 ex_29 => ?_)
      have b_z_28 := ti_b z_28
      have tx_29 := ti_add ex_29
      refine va_put (D := D) (ci := 0) (v := .int x_29) (ty := .int) (C := RX0) (T := TX0) (N := 8) hx hb hts iX0 tyX0 tyX0_ok nmX0 hown hK hP hD hS 0 rfl rfl 3 (by decide) (hw 6 (.fieldLink RX0 110 "NumberFormats$DateView" "year" "I") rfl) (fun _ h9 => h9) rfl (by decide +kernel) rfl rfl (Nat.le_of_ble_eq_true rfl) dX0_findDay_142 (fun H locs hP hD hS => ?_)
      have hP : va_P D vwCl [(dv, .inr (0, [.long dv_seconds, .int dv_thousandths, .int dv_tenthsPut, .int x_29, .int z_25, .int x_24, .int dv_weekday, .int dv_halves]))] H := hP
      have hD : va_D A [(dv, .inr (0, [.long dv_seconds, .int dv_thousandths, .int dv_tenthsPut, .int x_29, .int z_25, .int x_24, .int dv_weekday, .int dv_halves]))] := hD
      refine lv_aload_n hx hb dX0_findDay_145 rfl (lv_at hl 0 rfl) ?_
      refine lv_iload_n hx hb dX0_findDay_146 rfl (lv_at hl 1 rfl) ?_
      refine lv_bipush (v := 6) hx hb dX0_findDay_147 (by decide) ?_
      refine lv_iadd hx hb dX0_findDay_149 ?_
      refine lv_topi (fun x_30 ex_30 => ?_)
      have b_p1 := ti_b p1
      have tx_30 := ti_add ex_30
      refine lv_bipush (v := 7) hx hb dX0_findDay_150 (by decide) ?_
      refine lv_irem hx hb dX0_findDay_152 (by decide) ?_
      refine lv_topi (fun x_31 ex_31 => ?_)
      have tx_31 := ti_rem ex_31 (by decide)
      rw [n_7] at tx_31
      refine va_put (D := D) (ci := 0) (v := .int x_31) (ty := .int) (C := RX0) (T := TX0) (N := 8) hx hb hts iX0 tyX0 tyX0_ok nmX0 hown hK hP hD hS 0 rfl rfl 6 (by decide) (hw 7 (.fieldLink RX0 113 "NumberFormats$DateView" "weekday" "I") rfl) (fun _ h9 => h9) rfl (by decide +kernel) rfl rfl (Nat.le_of_ble_eq_true rfl) dX0_findDay_153 (fun H locs hP hD hS => ?_)
      have hP : va_P D vwCl [(dv, .inr (0, [.long dv_seconds, .int dv_thousandths, .int dv_tenthsPut, .int x_29, .int z_25, .int x_24, .int x_31, .int dv_halves]))] H := hP
      have hD : va_D A [(dv, .inr (0, [.long dv_seconds, .int dv_thousandths, .int dv_tenthsPut, .int x_29, .int z_25, .int x_24, .int x_31, .int dv_halves]))] := hD
      have hP9 := hP.sub (ws' := [(dv, .inr (0, [.long dv_seconds, .int dv_thousandths, .int dv_tenthsPut, .int x_29, .int z_25, .int x_24, .int x_31, .int dv_halves]))]) [0] rfl
      have hD9 := hD.sub (ws' := [(dv, .inr (0, [.long dv_seconds, .int dv_thousandths, .int dv_tenthsPut, .int x_29, .int z_25, .int x_24, .int x_31, .int dv_halves]))]) [0] (by decide) rfl
      exact W.vret hx hb hr (fun t ht hW => ⟨⟨(x_29, z_25, x_24, x_31), rfl, trivial, by rw [ht]; exact hP9, va_K.moved hW.alike hK, hD9⟩, hS.F ht⟩) hS.2.2 dX0_findDay_156
    refine lv_icmp_gt (tgt := 140) hx hb dX0_findDay_133 (by decide) (fun c_32 => ?_) (fun c_32 => ?_)
    · have ic_32 : (2 : Int32).toInt < (z_25 : Int32).toInt := (fa_lt 2 z_25).mp c_32
      refine lv_iconst (v := 0) hx hb dX0_findDay_140 (by decide) ?_
      exact hZ1 (K_141 0 _ _ _ (by omega) hP hD hS (lv_sub hl [2, 3] rfl))
    · have ic_32 : ¬ ((2 : Int32).toInt < (z_25 : Int32).toInt) := fun h9 => c_32 ((fa_lt 2 z_25).mpr h9)
      refine lv_iconst (v := 1) hx hb dX0_findDay_136 (by decide) ?_
      refine lv_goto (tgt := 141) hx hb dX0_findDay_137 (by decide) ?_
      exact hZ1 (K_141 1 _ _ _ (by omega) hP hD hS (lv_sub hl [2, 3] rfl))
  refine lv_icmp_ge (tgt := 111) hx hb dX0_findDay_101 (by decide) (fun c_33 => ?_) (fun c_33 => ?_)
  · have ic_33 : (10 : Int32).toInt ≤ (x_19 : Int32).toInt := (fa_le 10 x_19).mp c_33
    refine lv_iload hx hb dX0_findDay_111 (lv_at hl 0 rfl) ?_
    refine lv_bipush (v := 9) hx hb dX0_findDay_113 (by decide) ?_
    refine lv_isub hx hb dX0_findDay_115 ?_
    refine lv_topi (fun x_34 ex_34 => ?_)
    have b_x_19 := ti_b x_19
    have tx_34 := ti_sub ex_34
    exact hZ1 (K_116 x_34 _ _ _ hP hD hS (lv_sub hl [2, 4, 6, 7] rfl))
  · have ic_33 : ¬ ((10 : Int32).toInt ≤ (x_19 : Int32).toInt) := fun h9 => c_33 ((fa_le 10 x_19).mpr h9)
    refine lv_iload hx hb dX0_findDay_104 (lv_at hl 0 rfl) ?_
    refine lv_iconst (v := 3) hx hb dX0_findDay_106 (by decide) ?_
    refine lv_iadd hx hb dX0_findDay_107 ?_
    refine lv_topi (fun x_35 ex_35 => ?_)
    have b_x_19 := ti_b x_19
    have tx_35 := ti_add ex_35
    refine lv_goto (tgt := 116) hx hb dX0_findDay_108 (by decide) ?_
    exact hZ1 (K_116 x_35 _ _ _ hP hD hS (lv_sub hl [2, 4, 6, 7] rfl))

def ow_X0_settle : List Cond := [Cond.constantDouble RX0 68 (4703607668705591296), Cond.constant RX0 70 (86400), Cond.methodLink RX0 71 yX1_load, Cond.instanceMethod yX1_load, Cond.selects RX1 yX1_load yX1_load, Cond.initialized RX1, Cond.methodLink RX0 77 yX1_round, Cond.instanceMethod yX1_round, Cond.selects RX1 yX1_round yX1_round, Cond.methodLink RX0 81 yX1_whole, Cond.instanceMethod yX1_whole, Cond.selects RX1 yX1_whole yX1_whole, Cond.constantLong RX0 85 (1000), Cond.fieldLink RX0 87 "NumberFormats$DateView" "seconds" "J", Cond.fieldLink RX0 91 "NumberFormats$DateView" "thousandths" "I", Cond.constantLong RX0 94 (86400), Cond.methodLink RX0 96 yX0_findDay, Cond.instanceMethod yX0_findDay, Cond.selects RX0 yX0_findDay yX0_findDay, Cond.initialized RX0, Cond.constant RX0 99 (2958466)]
def pw_X0_settle : List Cond := Cond.code yX0_settle cX0_settle 10 (some .boolean) :: (ow_X0_settle ++ (pw_X1_load ++ (pw_X1_round ++ (pw_X1_whole ++ (pw_X0_findDay ++ (wsX00))))))
set_option maxRecDepth 20000 in
theorem mo_X0_settle : ∀ w ∈ ow_X0_settle, w ∈ lw_tbl := by decide +kernel
set_option maxRecDepth 20000 in
theorem mc_X0_settle : Cond.code yX0_settle cX0_settle 10 (some .boolean) ∈ lw_tbl := by decide +kernel
theorem m_X0_settle : ∀ w ∈ pw_X0_settle, w ∈ lw_tbl := List.forall_mem_cons.mpr ⟨mc_X0_settle, (List.forall_mem_append.mpr ⟨mo_X0_settle, (List.forall_mem_append.mpr ⟨m_X1_load, (List.forall_mem_append.mpr ⟨m_X1_round, (List.forall_mem_append.mpr ⟨m_X1_whole, (List.forall_mem_append.mpr ⟨m_X0_findDay, inX0⟩)⟩)⟩)⟩)⟩)⟩
theorem ko_X0_settle : ∀ w ∈ ow_X0_settle, goodWord w = true := by decide +kernel
theorem k_X0_settle : pw_X0_settle.all goodWord = true := List.all_eq_true.mpr (List.forall_mem_cons.mpr ⟨by decide +kernel, (List.forall_mem_append.mpr ⟨ko_X0_settle, (List.forall_mem_append.mpr ⟨(List.all_eq_true.mp k_X1_load), (List.forall_mem_append.mpr ⟨(List.all_eq_true.mp k_X1_round), (List.forall_mem_append.mpr ⟨(List.all_eq_true.mp k_X1_whole), (List.forall_mem_append.mpr ⟨(List.all_eq_true.mp k_X0_findDay), kX_X0⟩)⟩)⟩)⟩)⟩)⟩)
set_option maxHeartbeats 400000 in
set_option maxRecDepth 100000 in
theorem c_X0_settle (l : Launch) (D : va_G) (cI cD cJ : ClassId) (sz : Nat) (dv : Nat) (dv_seconds : Int64) (dv_thousandths : Int32) (dv_tenthsPut : Int32) (dv_year : Int32) (dv_month : Int32) (dv_day : Int32) (dv_weekday : Int32) (dv_halves : Int32) (d : Nat) (d_limbs : Nat) (d_digits : Nat) (d_used : Int32) (d_count : Int32) (d_scale : Int32) (d_limbsF : Nat → Int64) (d_digitsF : Nat → Int32) (p1 : UInt64) (p2 : Int32) (iv_dv_halves : (dv_halves : Int32).toInt = 0 ∨ (dv_halves : Int32).toInt = 1) (iv_d_used : 0 ≤ (d_used : Int32).toInt ∧ (d_used : Int32).toInt ≤ 100) (iv_d_count : 0 ≤ (d_count : Int32).toInt ∧ (d_count : Int32).toInt ≤ 910) : MetD lw_cs l yX0_settle pw_X0_settle ({ frames := 4, cells := 0, slots := 0, locals := 99 }) (va_Pc [.ref dv, .ref d, .double p1, .int p2] (fun U => U.heap.size = sz ∧ va_P D vwCl [(dv, .inr (0, [.long dv_seconds, .int dv_thousandths, .int dv_tenthsPut, .int dv_year, .int dv_month, .int dv_day, .int dv_weekday, .int dv_halves])), (d, .inr (1, [.ref d_limbs, .ref d_digits, .int d_used, .int d_count, .int d_scale])), (d_limbs, .inl (cJ, 100, .inr (.inl d_limbsF))), (d_digits, .inl (cI, 910, .inl d_digitsF))] U.heap ∧ va_K D vwCl (ty3 cI cD cJ) U ∧ va_D (fun _ => True) [(dv, .inr (0, [.long dv_seconds, .int dv_thousandths, .int dv_tenthsPut, .int dv_year, .int dv_month, .int dv_day, .int dv_weekday, .int dv_halves])), (d, .inr (1, [.ref d_limbs, .ref d_digits, .int d_used, .int d_count, .int d_scale])), (d_limbs, .inl (cJ, 100, .inr (.inl d_limbsF))), (d_digits, .inl (cI, 910, .inl d_digitsF))])) (va_Qi (fun (r : Int32) (u : Int64 × Int32 × Int32 × Int32 × Int32 × Int32 × Int32 × Int32 × Int32 × (Nat → Int64) × (Nat → Int32)) => match u with | (dv_seconds2, dv_thousandths2, dv_year2, dv_month2, dv_day2, dv_weekday2, d_used2, d_count2, d_scale2, d_limbsF2, d_digitsF2) => (r.toInt = 0 ∨ r.toInt = 1) ∧ (0 ≤ (d_used2 : Int32).toInt ∧ (d_used2 : Int32).toInt ≤ 100) ∧ (0 ≤ (d_count2 : Int32).toInt ∧ (d_count2 : Int32).toInt ≤ 910)) (fun (u : Int64 × Int32 × Int32 × Int32 × Int32 × Int32 × Int32 × Int32 × Int32 × (Nat → Int64) × (Nat → Int32)) (t : State) => match u with | (dv_seconds2, dv_thousandths2, dv_year2, dv_month2, dv_day2, dv_weekday2, d_used2, d_count2, d_scale2, d_limbsF2, d_digitsF2) => va_P D vwCl [(dv, .inr (0, [.long dv_seconds2, .int dv_thousandths2, .int dv_tenthsPut, .int dv_year2, .int dv_month2, .int dv_day2, .int dv_weekday2, .int dv_halves])), (d, .inr (1, [.ref d_limbs, .ref d_digits, .int d_used2, .int d_count2, .int d_scale2])), (d_limbs, .inl (cJ, 100, .inr (.inl d_limbsF2))), (d_digits, .inl (cI, 910, .inl d_digitsF2))] t.heap ∧ va_K D vwCl (ty3 cI cD cJ) t ∧ va_D (va_A [(dv, .inr (0, [.long dv_seconds, .int dv_thousandths, .int dv_tenthsPut, .int dv_year, .int dv_month, .int dv_day, .int dv_weekday, .int dv_halves])), (d, .inr (1, [.ref d_limbs, .ref d_digits, .int d_used, .int d_count, .int d_scale])), (d_limbs, .inl (cJ, 100, .inr (.inl d_limbsF))), (d_digits, .inl (cI, 910, .inl d_digitsF))] sz) [(dv, .inr (0, [.long dv_seconds2, .int dv_thousandths2, .int dv_tenthsPut, .int dv_year2, .int dv_month2, .int dv_day2, .int dv_weekday2, .int dv_halves])), (d, .inr (1, [.ref d_limbs, .ref d_digits, .int d_used2, .int d_count2, .int d_scale2])), (d_limbs, .inl (cJ, 100, .inr (.inl d_limbsF2))), (d_digits, .inl (cI, 910, .inl d_digitsF2))]) (va_A [(dv, .inr (0, [.long dv_seconds, .int dv_thousandths, .int dv_tenthsPut, .int dv_year, .int dv_month, .int dv_day, .int dv_weekday, .int dv_halves])), (d, .inr (1, [.ref d_limbs, .ref d_digits, .int d_used, .int d_count, .int d_scale])), (d_limbs, .inl (cJ, 100, .inr (.inl d_limbsF))), (d_digits, .inl (cI, 910, .inl d_digitsF))] sz)) 0 0 (va_A [(dv, .inr (0, [.long dv_seconds, .int dv_thousandths, .int dv_tenthsPut, .int dv_year, .int dv_month, .int dv_day, .int dv_weekday, .int dv_halves])), (d, .inr (1, [.ref d_limbs, .ref d_digits, .int d_used, .int d_count, .int d_scale])), (d_limbs, .inl (cJ, 100, .inr (.inl d_limbsF))), (d_digits, .inl (cI, 910, .inl d_digitsF))] sz) := by
  refine MetD.ofW (cc := cX0_settle) (maxL := 10) (ret := (some .boolean)) (by decide +kernel) rfl ?_
  intro p e s m args below meth c s₁ B hml hv hd0
  obtain ⟨rfl, hsz, hP, hK, hD0⟩ := hv
  have hx := B.exec
  have hb := B.bytes
  have hr := B.returns
  have hts := atoms_spec (ws := pw_X0_settle) B.pre
  have hown : s.vm.findClass RX0 = some m.cls := findClass_of_methodNamed B.named
  have hlocks := B.notSynchronized
  subst hsz
  have hD := hD0.self (sz := s.heap.size)
  generalize hAe : va_A [(dv, .inr (0, [.long dv_seconds, .int dv_thousandths, .int dv_tenthsPut, .int dv_year, .int dv_month, .int dv_day, .int dv_weekday, .int dv_halves])), (d, .inr (1, [.ref d_limbs, .ref d_digits, .int d_used, .int d_count, .int d_scale])), (d_limbs, .inl (cJ, 100, .inr (.inl d_limbsF))), (d_digits, .inl (cI, 910, .inl d_digitsF))] s.heap.size = A at hD ⊢
  have hA : ∀ q : Nat, s.heap.size ≤ q → A q := fun q h => by rw [← hAe]; exact Or.inr h
  have hS : va_S A s.heap s.heap [] := va_S.rf
  have hw : ∀ {d9 : Drawn} (k : Nat) (w : Cond), ow_X0_settle[k]? = some w → w.before _ (s.setDrawn d9) = true := fun k w h => dr_words hts _ w (List.mem_cons_of_mem _ (have h9 := List.mem_of_getElem? h; List.mem_append_left _ h9))
  have i_X1_load : ∀ w ∈ pw_X1_load, w ∈ pw_X0_settle := fun w h9 => List.mem_cons_of_mem _ (List.mem_append_right _ (List.mem_append_left _ h9))
  have i_X1_round : ∀ w ∈ pw_X1_round, w ∈ pw_X0_settle := fun w h9 => List.mem_cons_of_mem _ (List.mem_append_right _ (List.mem_append_right _ (List.mem_append_left _ h9)))
  have i_X1_whole : ∀ w ∈ pw_X1_whole, w ∈ pw_X0_settle := fun w h9 => List.mem_cons_of_mem _ (List.mem_append_right _ (List.mem_append_right _ (List.mem_append_right _ (List.mem_append_left _ h9))))
  have i_X0_findDay : ∀ w ∈ pw_X0_findDay, w ∈ pw_X0_settle := fun w h9 => List.mem_cons_of_mem _ (List.mem_append_right _ (List.mem_append_right _ (List.mem_append_right _ (List.mem_append_right _ (List.mem_append_left _ h9)))))
  have iX0 : ∀ w ∈ u_ws RX0 TX0 8, w ∈ pw_X0_settle := fun w h9 => List.mem_cons_of_mem _ (List.mem_append_right _ (List.mem_append_right _ (List.mem_append_right _ (List.mem_append_right _ (List.mem_append_right _ (h9))))))
  have n_0 : ((0 : Int32)).toInt = 0 := by decide
  have n_1 : ((1 : Int32)).toInt = 1 := by decide
  have n_10 : ((10 : Int32)).toInt = 10 := by decide
  have n_1000 : ((1000 : Int32)).toInt = 1000 := by decide
  have n_2958466 : ((2958466 : Int32)).toInt = 2958466 := by decide
  have n_86400 : ((86400 : Int32)).toInt = 86400 := by decide
  have nl_1000 : ((1000 : Int64)).toInt = 1000 := by decide
  have nl_86400 : ((86400 : Int64)).toInt = 86400 := by decide
  have hl := lv_entry ([.ref dv, .ref d, .double p1, .int p2]) (n := 10) (Nat.le_of_ble_eq_true rfl)
  rw [lg_entry_eq]
  generalize (lg_sl ([.ref dv, .ref d, .double p1, .int p2]) ++ List.replicate (10 - (lg_sl ([.ref dv, .ref d, .double p1, .int p2])).length) Slot.unset).toArray = ls at hl ⊢
  have hl : lv_has ls 10 [(0, .ref dv), (1, .ref d), (2, .double p1), (4, .int p2)] := hl
  have b_p2 := ti_b p2
  refine zz_capD (fun Z hZ1 hZ2 => ?_)
  refine lv_dload_n hx hb dX0_settle_0 rfl (lv_at hl 2 rfl) ?_
  refine lv_dconst0 hx hb dX0_settle_1 ?_
  refine lv_dcmp hx hb dX0_settle_2 ?_
  refine lv_topi (fun x_1 ex_1 => ?_)
  refine lv_if_lt (tgt := 14) hx hb dX0_settle_3 (by decide) (fun c_2 => ?_) (fun c_2 => ?_)
  · have ic_2 : (x_1 : Int32).toInt < (0 : Int32).toInt := (fa_lt x_1 0).mp c_2
    refine lv_iconst (v := 0) hx hb dX0_settle_14 (by decide) ?_
    refine W.endD hd0 ?_
    have hP9 := hP.sub (ws' := [(dv, .inr (0, [.long dv_seconds, .int dv_thousandths, .int dv_tenthsPut, .int dv_year, .int dv_month, .int dv_day, .int dv_weekday, .int dv_halves])), (d, .inr (1, [.ref d_limbs, .ref d_digits, .int d_used, .int d_count, .int d_scale])), (d_limbs, .inl (cJ, 100, .inr (.inl d_limbsF))), (d_digits, .inl (cI, 910, .inl d_digitsF))]) [0, 1, 2, 3] rfl
    have hD9 := hD.sub (ws' := [(dv, .inr (0, [.long dv_seconds, .int dv_thousandths, .int dv_tenthsPut, .int dv_year, .int dv_month, .int dv_day, .int dv_weekday, .int dv_halves])), (d, .inr (1, [.ref d_limbs, .ref d_digits, .int d_used, .int d_count, .int d_scale])), (d_limbs, .inl (cJ, 100, .inr (.inl d_limbsF))), (d_digits, .inl (cI, 910, .inl d_digitsF))]) [0, 1, 2, 3] (by decide) rfl
    exact W.zret (v := 0) hx hb hr rfl (fun t ht hW => ⟨⟨0, (dv_seconds, dv_thousandths, dv_year, dv_month, dv_day, dv_weekday, d_used, d_count, d_scale, d_limbsF, d_digitsF), rfl, (by (try dsimp only); refine ⟨?_, ?_, ?_⟩ <;> first | omega | assumption), by rw [ht]; exact hP9, va_K.moved hW.alike hK, hD9⟩, hS.F ht⟩) hS.2.2 dX0_settle_15
  · have ic_2 : ¬ ((x_1 : Int32).toInt < (0 : Int32).toInt) := fun h9 => c_2 ((fa_lt x_1 0).mpr h9)
    refine lv_dload_n hx hb dX0_settle_6 rfl (lv_at hl 2 rfl) ?_
    refine lv_ldc2d (v := 4703607668705591296) hx hb hown (hw 0 (.constantDouble RX0 68 (4703607668705591296)) rfl) dX0_settle_7 ?_
    refine lv_dcmp hx hb dX0_settle_10 ?_
    refine lv_topi (fun x_3 ex_3 => ?_)
    refine lv_if_lt (tgt := 16) hx hb dX0_settle_11 (by decide) (fun c_4 => ?_) (fun c_4 => ?_)
    · have ic_4 : (x_3 : Int32).toInt < (0 : Int32).toInt := (fa_lt x_3 0).mp c_4
      refine lv_iconst (v := 1) hx hb dX0_settle_16 (by decide) ?_
      refine lv_istore (lv' := [(5, .int 1), (0, .ref dv), (1, .ref d), (2, .double p1), (4, .int p2)]) hx hb dX0_settle_17 hl (by decide) rfl (fun ls hl => ?_)
      refine lv_sipush (v := 1000) hx hb dX0_settle_19 (by decide) ?_
      refine lv_istore (lv' := [(6, .int 1000), (5, .int 1), (0, .ref dv), (1, .ref d), (2, .double p1), (4, .int p2)]) hx hb dX0_settle_22 hl (by decide) rfl (fun ls hl => ?_)
      refine lv_iconst (v := 0) hx hb dX0_settle_24 (by decide) ?_
      refine lv_istore (lv' := [(7, .int 0), (6, .int 1000), (5, .int 1), (0, .ref dv), (1, .ref d), (2, .double p1), (4, .int p2)]) hx hb dX0_settle_25 hl (by decide) rfl (fun ls hl => ?_)
      have L_27 : ∀ (N : Nat) (x_5 : Int32) (x_6 : Int32) (x_7 : Int32) (H : Heap) (locs : List Loc) (ls : Array Slot) (dq27_8 : Drawn), s.drawn.sameBut dq27_8 lw_cs → (0 ≤ (x_5 : Int32).toInt) → ((2147483647 - (x_5 : Int32).toInt).toNat < N) → va_P D vwCl [(dv, .inr (0, [.long dv_seconds, .int dv_thousandths, .int dv_tenthsPut, .int dv_year, .int dv_month, .int dv_day, .int dv_weekday, .int dv_halves])), (d, .inr (1, [.ref d_limbs, .ref d_digits, .int d_used, .int d_count, .int d_scale])), (d_limbs, .inl (cJ, 100, .inr (.inl d_limbsF))), (d_digits, .inl (cI, 910, .inl d_digitsF))] H → va_D A [(dv, .inr (0, [.long dv_seconds, .int dv_thousandths, .int dv_tenthsPut, .int dv_year, .int dv_month, .int dv_day, .int dv_weekday, .int dv_halves])), (d, .inr (1, [.ref d_limbs, .ref d_digits, .int d_used, .int d_count, .int d_scale])), (d_limbs, .inl (cJ, 100, .inr (.inl d_limbsF))), (d_digits, .inl (cI, 910, .inl d_digitsF))] → va_S A s.heap H locs → lv_has ls 10 [(7, .int x_5), (6, .int x_6), (5, .int x_7), (0, .ref dv), (1, .ref d), (2, .double p1), (4, .int p2)] → Z dq27_8 0 0 H locs (F0 m 27 ls []) := by
        intro N
        induction N with
        | zero => intro _ _ _ _ _ _ _ _ _ hmu; exact absurd hmu (Nat.not_lt_zero _)
        | succ N ih_27 =>
          intro x_5 x_6 x_7 H locs ls dq27_8 hdq27_8 g27_0 hmu hP hD hS hl
          refine hZ2 ?_
          refine lv_iload hx hb dX0_settle_27 (lv_at hl 0 rfl) ?_
          refine lv_iload hx hb dX0_settle_29 (lv_at hl 6 rfl) ?_
          refine lv_icmp_ge (tgt := 54) hx hb dX0_settle_31 (by decide) (fun c_9 => ?_) (fun c_9 => ?_)
          · have ic_9 : (p2 : Int32).toInt ≤ (x_5 : Int32).toInt := (fa_le p2 x_5).mp c_9
            refine lv_aload_n hx hb dX0_settle_54 rfl (lv_at hl 4 rfl) ?_
            refine lv_dload_n hx hb dX0_settle_55 rfl (lv_at hl 5 rfl) ?_
            refine lv_ldc (v := 86400) hx hb hown (hw 1 (.constant RX0 70 (86400)) rfl) dX0_settle_56 ?_
            refine lv_iload hx hb dX0_settle_58 (lv_at hl 2 rfl) ?_
            refine lv_imul hx hb dX0_settle_60 ?_
            refine lv_topi (fun x_10 ex_10 => ?_)
            have tx_10 := ti_mul ex_10
            rw [n_86400] at tx_10
            have hPc := hP.sub (ws' := [(d, .inr (1, [.ref d_limbs, .ref d_digits, .int d_used, .int d_count, .int d_scale])), (d_limbs, .inl (cJ, 100, .inr (.inl d_limbsF))), (d_digits, .inl (cI, 910, .inl d_digitsF))]) [1, 2, 3] rfl
            have hDc := hD.sub (ws' := [(d, .inr (1, [.ref d_limbs, .ref d_digits, .int d_used, .int d_count, .int d_scale])), (d_limbs, .inl (cJ, 100, .inr (.inl d_limbsF))), (d_digits, .inl (cI, 910, .inl d_digitsF))]) [1, 2, 3] (by decide) rfl
            have hFc := va_free (wc := [(d, .inr (1, [.ref d_limbs, .ref d_digits, .int d_used, .int d_count, .int d_scale])), (d_limbs, .inl (cJ, 100, .inr (.inl d_limbsF))), (d_digits, .inl (cI, 910, .inl d_digitsF))]) hD hS hA [1, 2, 3] rfl
            refine va_callvD hdq27_8 (va_runV_D (As := [.double p1, .int x_10]) (rest := []) ⟨hx, hb, hml, hown, (dr_words hts _)⟩ (c_X1_load l D cI cD cJ H.size d d_limbs d_digits d_used d_count d_scale d_limbsF d_digitsF p1 x_10 (by omega) (by omega)) (cwV 2 (dr_words hts _) (goodIn_app (goodIn_r _ [3, 4, 5, 6] rfl (by decide +kernel)) (goodIn_sub i_X1_load k_X1_load)) rfl rfl rfl (by decide +kernel) ⟨Nat.le_of_ble_eq_true rfl, Nat.le_of_ble_eq_true rfl⟩) ⟨fun a U g mk q => by obtain ⟨q0, q1, qP, qK, qD⟩ := q; exact ⟨q0, q1, qP, va_K.moved (u := U) (U := U.calling g mk a) (Vm.Alike.refl U.vm) qK, qD⟩, va_recv hK hPc (ci := 1) (q0 := 0) rfl rfl, fun U hU hW => ⟨rfl, by rw [hU], by rw [hU]; exact hPc, va_K.moved hW.alike hK, hDc.weaken (fun _ _ _ _ => trivial)⟩⟩ rfl rfl hl.1 rfl (lv_room (Nat.le_of_ble_eq_true rfl)) dX0_settle_61 ⟨Nat.le_of_ble_eq_true rfl, Nat.le_of_ble_eq_true rfl⟩) hS (fun q _ h => hFc q h) hFc (fun u t H1 locs ht hvm w_11 hB hz1 hk1 hS dhd_12 hd_12 => ?_)
            obtain ⟨u_13, u_14, u_15, u_16, u_17⟩ := u
            obtain ⟨hP1, hK1, hD1⟩ := hB
            rw [ht] at hP1
            try dsimp only at w_11
            obtain ⟨hP, hD⟩ := va_join (wr := [(dv, .inr (0, [.long dv_seconds, .int dv_thousandths, .int dv_tenthsPut, .int dv_year, .int dv_month, .int dv_day, .int dv_weekday, .int dv_halves]))]) (w1 := [(d, .inr (1, [.ref d_limbs, .ref d_digits, .int u_13, .int u_14, .int u_15])), (d_limbs, .inl (cJ, 100, .inr (.inl u_16))), (d_digits, .inl (cI, 910, .inl u_17))]) hP hD [1, 2, 3] [0] rfl rfl (by decide) (by decide) hk1 hFc hP1 hD1
            generalize H1 = H at hP hS ⊢
            have hP : va_P D vwCl [(dv, .inr (0, [.long dv_seconds, .int dv_thousandths, .int dv_tenthsPut, .int dv_year, .int dv_month, .int dv_day, .int dv_weekday, .int dv_halves])), (d, .inr (1, [.ref d_limbs, .ref d_digits, .int u_13, .int u_14, .int u_15])), (d_limbs, .inl (cJ, 100, .inr (.inl u_16))), (d_digits, .inl (cI, 910, .inl u_17))] H := hP
            have hD : va_D A [(dv, .inr (0, [.long dv_seconds, .int dv_thousandths, .int dv_tenthsPut, .int dv_year, .int dv_month, .int dv_day, .int dv_weekday, .int dv_halves])), (d, .inr (1, [.ref d_limbs, .ref d_digits, .int u_13, .int u_14, .int u_15])), (d_limbs, .inl (cJ, 100, .inr (.inl u_16))), (d_digits, .inl (cI, 910, .inl u_17))] := hD
            obtain ⟨w_11_0, w_11_1⟩ := w_11
            refine lv_aload_n hx hb dX0_settle_64 rfl (lv_at hl 4 rfl) ?_
            refine lv_iconst (v := 0) hx hb dX0_settle_65 (by decide) ?_
            have hPc := hP.sub (ws' := [(d, .inr (1, [.ref d_limbs, .ref d_digits, .int u_13, .int u_14, .int u_15])), (d_digits, .inl (cI, 910, .inl u_17))]) [1, 3] rfl
            have hDc := hD.sub (ws' := [(d, .inr (1, [.ref d_limbs, .ref d_digits, .int u_13, .int u_14, .int u_15])), (d_digits, .inl (cI, 910, .inl u_17))]) [1, 3] (by decide) rfl
            have hFc := va_free (wc := [(d, .inr (1, [.ref d_limbs, .ref d_digits, .int u_13, .int u_14, .int u_15])), (d_digits, .inl (cI, 910, .inl u_17))]) hD hS hA [1, 3] rfl
            refine va_callv (va_runV (As := [.int 0]) (rest := []) ⟨hx, hb, hml, hown, (dr_words hts _)⟩ (c_X1_round l D cI cD cJ H.size d d_limbs d_digits u_13 u_14 u_15 u_17 0 (by omega) (by omega)) (cwV 1 (dr_words hts _) (goodIn_app (goodIn_r _ [7, 8, 9, 6] rfl (by decide +kernel)) (goodIn_sub i_X1_round k_X1_round)) rfl rfl rfl (by decide +kernel) ⟨Nat.le_of_ble_eq_true rfl, Nat.le_of_ble_eq_true rfl⟩) ⟨fun a U g mk q => by obtain ⟨q0, q1, qP, qK, qD⟩ := q; exact ⟨q0, q1, qP, va_K.moved (u := U) (U := U.calling g mk a) (Vm.Alike.refl U.vm) qK, qD⟩, va_recv hK hPc (ci := 1) (q0 := 0) rfl rfl, fun U hU hW => ⟨rfl, by rw [hU], by rw [hU]; exact hPc, va_K.moved hW.alike hK, hDc.weaken (fun _ _ _ _ => trivial)⟩⟩ rfl rfl hl.1 rfl (lv_room (Nat.le_of_ble_eq_true rfl)) dX0_settle_66 ⟨Nat.le_of_ble_eq_true rfl, Nat.le_of_ble_eq_true rfl⟩) hS (fun q _ h => hFc q h) hFc (fun u t H1 locs ht hvm w_18 hB hz1 hk1 hS => ?_)
            obtain ⟨u_19, u_20⟩ := u
            obtain ⟨hP1, hK1, hD1⟩ := hB
            rw [ht] at hP1
            try dsimp only at w_18
            obtain ⟨hP, hD⟩ := va_join (wr := [(dv, .inr (0, [.long dv_seconds, .int dv_thousandths, .int dv_tenthsPut, .int dv_year, .int dv_month, .int dv_day, .int dv_weekday, .int dv_halves])), (d_limbs, .inl (cJ, 100, .inr (.inl u_16)))]) (w1 := [(d, .inr (1, [.ref d_limbs, .ref d_digits, .int u_13, .int u_19, .int u_15])), (d_digits, .inl (cI, 910, .inl u_20))]) hP hD [1, 3] [0, 2] rfl rfl (by decide) (by decide) hk1 hFc hP1 hD1
            generalize H1 = H at hP hS ⊢
            have hP : va_P D vwCl [(dv, .inr (0, [.long dv_seconds, .int dv_thousandths, .int dv_tenthsPut, .int dv_year, .int dv_month, .int dv_day, .int dv_weekday, .int dv_halves])), (d_limbs, .inl (cJ, 100, .inr (.inl u_16))), (d, .inr (1, [.ref d_limbs, .ref d_digits, .int u_13, .int u_19, .int u_15])), (d_digits, .inl (cI, 910, .inl u_20))] H := hP
            have hD : va_D A [(dv, .inr (0, [.long dv_seconds, .int dv_thousandths, .int dv_tenthsPut, .int dv_year, .int dv_month, .int dv_day, .int dv_weekday, .int dv_halves])), (d_limbs, .inl (cJ, 100, .inr (.inl u_16))), (d, .inr (1, [.ref d_limbs, .ref d_digits, .int u_13, .int u_19, .int u_15])), (d_digits, .inl (cI, 910, .inl u_20))] := hD
            refine lv_aload_n hx hb dX0_settle_69 rfl (lv_at hl 4 rfl) ?_
            have hPc := hP.sub (ws' := [(d, .inr (1, [.ref d_limbs, .ref d_digits, .int u_13, .int u_19, .int u_15])), (d_digits, .inl (cI, 910, .inl u_20))]) [2, 3] rfl
            refine va_calll (va_runV (As := []) (rest := []) ⟨hx, hb, hml, hown, (dr_words hts _)⟩ (c_X1_whole l D cI cD cJ H.size d d_limbs d_digits u_13 u_19 u_15 u_20 (by omega) (by omega)) (cwV 0 (dr_words hts _) (goodIn_app (goodIn_r _ [10, 11, 12, 6] rfl (by decide +kernel)) (goodIn_sub i_X1_whole k_X1_whole)) rfl rfl rfl (by decide +kernel) ⟨Nat.le_of_ble_eq_true rfl, Nat.le_of_ble_eq_true rfl⟩) ⟨fun a U g mk q => by obtain ⟨q0, qP, qK⟩ := q; exact ⟨q0, qP, va_K.moved (u := U) (U := U.calling g mk a) (Vm.Alike.refl U.vm) qK⟩, va_recv hK hPc (ci := 1) (q0 := 0) rfl rfl, fun U hU hW => ⟨rfl, by rw [hU]; exact hPc, va_K.moved hW.alike hK⟩⟩ rfl rfl hl.1 rfl (lv_room (Nat.le_of_ble_eq_true rfl)) dX0_settle_70 ⟨Nat.le_of_ble_eq_true rfl, Nat.le_of_ble_eq_true rfl⟩) hS (fun q _ h => h.elim) (fun q h => h.elim) (fun y_21 u t H1 locs ht hvm w_22 hB hz1 hk1 hS => ?_)
            have hP : va_P D vwCl [(dv, .inr (0, [.long dv_seconds, .int dv_thousandths, .int dv_tenthsPut, .int dv_year, .int dv_month, .int dv_day, .int dv_weekday, .int dv_halves])), (d_limbs, .inl (cJ, 100, .inr (.inl u_16))), (d, .inr (1, [.ref d_limbs, .ref d_digits, .int u_13, .int u_19, .int u_15])), (d_digits, .inl (cI, 910, .inl u_20))] H1 := hP.kept (fun k9 q9 h9 => hk1 q9.1 (vx_lt hP h9) (fun h => h))
            generalize H1 = H at hP hS ⊢
            refine lv_iload hx hb dX0_settle_73 (lv_at hl 1 rfl) ?_
            refine lv_i2l hx hb dX0_settle_75 rfl ?_
            refine lv_topl (fun y_23 ey_23 => ?_)
            have ty_23 := tl_i2l ey_23
            refine lv_lmul hx hb dX0_settle_76 ?_
            refine lv_topl (fun y_24 ey_24 => ?_)
            refine lv_lstore (lv' := [(7, .long y_24), (6, .int x_6), (5, .int x_7), (0, .ref dv), (1, .ref d), (2, .double p1), (4, .int p2)]) hx hb dX0_settle_77 hl (by decide) rfl (fun ls hl => ?_)
            refine lv_aload_n hx hb dX0_settle_79 rfl (lv_at hl 3 rfl) ?_
            refine lv_lload hx hb dX0_settle_80 (lv_at hl 0 rfl) ?_
            refine lv_ldc2 (v := 1000) hx hb hown (hw 12 (.constantLong RX0 85 (1000)) rfl) dX0_settle_82 ?_
            refine lv_ldiv hx hb dX0_settle_85 (by decide) ?_
            refine lv_topl (fun y_25 ey_25 => ?_)
            have ty_25 := tl_div ey_25 (by decide)
            rw [nl_1000] at ty_25
            refine va_put (s := s.setDrawn dhd_12) (D := D) (ci := 0) (v := .long y_25) (ty := .long) (C := RX0) (T := TX0) (N := 8) hx hb (dr_words hts _) iX0 tyX0 tyX0_ok nmX0 hown hK hP hD hS 0 rfl rfl 0 (by decide) (hw 13 (.fieldLink RX0 87 "NumberFormats$DateView" "seconds" "J") rfl) (fun _ h9 => h9) rfl (by decide +kernel) rfl rfl (Nat.le_of_ble_eq_true rfl) dX0_settle_86 (fun H locs hP hD hS => ?_)
            have hP : va_P D vwCl [(dv, .inr (0, [.long y_25, .int dv_thousandths, .int dv_tenthsPut, .int dv_year, .int dv_month, .int dv_day, .int dv_weekday, .int dv_halves])), (d_limbs, .inl (cJ, 100, .inr (.inl u_16))), (d, .inr (1, [.ref d_limbs, .ref d_digits, .int u_13, .int u_19, .int u_15])), (d_digits, .inl (cI, 910, .inl u_20))] H := hP
            have hD : va_D A [(dv, .inr (0, [.long y_25, .int dv_thousandths, .int dv_tenthsPut, .int dv_year, .int dv_month, .int dv_day, .int dv_weekday, .int dv_halves])), (d_limbs, .inl (cJ, 100, .inr (.inl u_16))), (d, .inr (1, [.ref d_limbs, .ref d_digits, .int u_13, .int u_19, .int u_15])), (d_digits, .inl (cI, 910, .inl u_20))] := hD
            refine lv_aload_n hx hb dX0_settle_89 rfl (lv_at hl 3 rfl) ?_
            refine lv_lload hx hb dX0_settle_90 (lv_at hl 0 rfl) ?_
            refine lv_ldc2 (v := 1000) hx hb hown (hw 12 (.constantLong RX0 85 (1000)) rfl) dX0_settle_92 ?_
            refine lv_lrem hx hb dX0_settle_95 (by decide) ?_
            refine lv_topl (fun y_26 ey_26 => ?_)
            have ty_26 := tl_rem ey_26 (by decide)
            rw [nl_1000] at ty_26
            refine lv_l2i hx hb dX0_settle_96 rfl ?_
            refine lv_topi (fun x_27 ex_27 => ?_)
            have tx_27 := ti_l2i ex_27
            refine va_put (s := s.setDrawn dhd_12) (D := D) (ci := 0) (v := .int x_27) (ty := .int) (C := RX0) (T := TX0) (N := 8) hx hb (dr_words hts _) iX0 tyX0 tyX0_ok nmX0 hown hK hP hD hS 0 rfl rfl 1 (by decide) (hw 14 (.fieldLink RX0 91 "NumberFormats$DateView" "thousandths" "I") rfl) (fun _ h9 => h9) rfl (by decide +kernel) rfl rfl (Nat.le_of_ble_eq_true rfl) dX0_settle_97 (fun H locs hP hD hS => ?_)
            have hP : va_P D vwCl [(dv, .inr (0, [.long y_25, .int x_27, .int dv_tenthsPut, .int dv_year, .int dv_month, .int dv_day, .int dv_weekday, .int dv_halves])), (d_limbs, .inl (cJ, 100, .inr (.inl u_16))), (d, .inr (1, [.ref d_limbs, .ref d_digits, .int u_13, .int u_19, .int u_15])), (d_digits, .inl (cI, 910, .inl u_20))] H := hP
            have hD : va_D A [(dv, .inr (0, [.long y_25, .int x_27, .int dv_tenthsPut, .int dv_year, .int dv_month, .int dv_day, .int dv_weekday, .int dv_halves])), (d_limbs, .inl (cJ, 100, .inr (.inl u_16))), (d, .inr (1, [.ref d_limbs, .ref d_digits, .int u_13, .int u_19, .int u_15])), (d_digits, .inl (cI, 910, .inl u_20))] := hD
            refine lv_aload_n hx hb dX0_settle_100 rfl (lv_at hl 3 rfl) ?_
            refine va_get (s := s.setDrawn dhd_12) (D := D) (ci := 0) (v := .long y_25) (C := RX0) (T := TX0) (N := 8) hx hb (dr_words hts _) iX0 hown hK hP 0 rfl rfl 0 (by decide) (hw 13 (.fieldLink RX0 87 "NumberFormats$DateView" "seconds" "J") rfl) (fun _ h9 => h9) rfl dX0_settle_101 ?_
            refine lv_ldc2 (v := 86400) hx hb hown (hw 15 (.constantLong RX0 94 (86400)) rfl) dX0_settle_104 ?_
            refine lv_ldiv hx hb dX0_settle_107 (by decide) ?_
            refine lv_topl (fun y_28 ey_28 => ?_)
            have ty_28 := tl_div ey_28 (by decide)
            rw [nl_86400] at ty_28
            refine lv_l2i hx hb dX0_settle_108 rfl ?_
            refine lv_topi (fun x_29 ex_29 => ?_)
            have tx_29 := ti_l2i ex_29
            refine lv_istore (lv' := [(9, .int x_29), (7, .long y_24), (6, .int x_6), (5, .int x_7), (0, .ref dv), (1, .ref d), (2, .double p1), (4, .int p2)]) hx hb dX0_settle_109 hl (by decide) rfl (fun ls hl => ?_)
            refine lv_aload_n hx hb dX0_settle_111 rfl (lv_at hl 4 rfl) ?_
            refine lv_iload hx hb dX0_settle_112 (lv_at hl 0 rfl) ?_
            have hPc := hP.sub (ws' := [(dv, .inr (0, [.long y_25, .int x_27, .int dv_tenthsPut, .int dv_year, .int dv_month, .int dv_day, .int dv_weekday, .int dv_halves]))]) [0] rfl
            have hDc := hD.sub (ws' := [(dv, .inr (0, [.long y_25, .int x_27, .int dv_tenthsPut, .int dv_year, .int dv_month, .int dv_day, .int dv_weekday, .int dv_halves]))]) [0] (by decide) rfl
            have hFc := va_free (wc := [(dv, .inr (0, [.long y_25, .int x_27, .int dv_tenthsPut, .int dv_year, .int dv_month, .int dv_day, .int dv_weekday, .int dv_halves]))]) hD hS hA [0] rfl
            refine va_callv (va_runV (As := [.int x_29]) (rest := []) ⟨hx, hb, hml, hown, (dr_words hts _)⟩ (c_X0_findDay l D cI cD cJ H.size dv y_25 x_27 dv_tenthsPut dv_year dv_month dv_day dv_weekday dv_halves x_29 (by omega)) (cwV 1 (dr_words hts _) (goodIn_app (goodIn_r _ [17, 18, 19, 20] rfl (by decide +kernel)) (goodIn_sub i_X0_findDay k_X0_findDay)) rfl rfl rfl (by decide +kernel) ⟨Nat.le_of_ble_eq_true rfl, Nat.le_of_ble_eq_true rfl⟩) ⟨fun a U g mk q => by obtain ⟨q0, q1, qP, qK, qD⟩ := q; exact ⟨q0, q1, qP, va_K.moved (u := U) (U := U.calling g mk a) (Vm.Alike.refl U.vm) qK, qD⟩, va_recv hK hPc (ci := 0) (q0 := 0) rfl rfl, fun U hU hW => ⟨rfl, by rw [hU], by rw [hU]; exact hPc, va_K.moved hW.alike hK, hDc.weaken (fun _ _ _ _ => trivial)⟩⟩ rfl rfl hl.1 rfl (lv_room (Nat.le_of_ble_eq_true rfl)) dX0_settle_114 ⟨Nat.le_of_ble_eq_true rfl, Nat.le_of_ble_eq_true rfl⟩) hS (fun q _ h => hFc q h) hFc (fun u t H1 locs ht hvm w_30 hB hz1 hk1 hS => ?_)
            obtain ⟨u_31, u_32, u_33, u_34⟩ := u
            obtain ⟨hP1, hK1, hD1⟩ := hB
            rw [ht] at hP1
            obtain ⟨hP, hD⟩ := va_join (wr := [(d_limbs, .inl (cJ, 100, .inr (.inl u_16))), (d, .inr (1, [.ref d_limbs, .ref d_digits, .int u_13, .int u_19, .int u_15])), (d_digits, .inl (cI, 910, .inl u_20))]) (w1 := [(dv, .inr (0, [.long y_25, .int x_27, .int dv_tenthsPut, .int u_31, .int u_32, .int u_33, .int u_34, .int dv_halves]))]) hP hD [0] [1, 2, 3] rfl rfl (by decide) (by decide) hk1 hFc hP1 hD1
            generalize H1 = H at hP hS ⊢
            have hP : va_P D vwCl [(d_limbs, .inl (cJ, 100, .inr (.inl u_16))), (d, .inr (1, [.ref d_limbs, .ref d_digits, .int u_13, .int u_19, .int u_15])), (d_digits, .inl (cI, 910, .inl u_20)), (dv, .inr (0, [.long y_25, .int x_27, .int dv_tenthsPut, .int u_31, .int u_32, .int u_33, .int u_34, .int dv_halves]))] H := hP
            have hD : va_D A [(d_limbs, .inl (cJ, 100, .inr (.inl u_16))), (d, .inr (1, [.ref d_limbs, .ref d_digits, .int u_13, .int u_19, .int u_15])), (d_digits, .inl (cI, 910, .inl u_20)), (dv, .inr (0, [.long y_25, .int x_27, .int dv_tenthsPut, .int u_31, .int u_32, .int u_33, .int u_34, .int dv_halves]))] := hD
            refine lv_iload hx hb dX0_settle_117 (lv_at hl 0 rfl) ?_
            refine lv_ldc (v := 2958466) hx hb hown (hw 20 (.constant RX0 99 (2958466)) rfl) dX0_settle_119 ?_
            refine lv_icmp_ge (tgt := 128) hx hb dX0_settle_121 (by decide) (fun c_35 => ?_) (fun c_35 => ?_)
            · have ic_35 : (2958466 : Int32).toInt ≤ (x_29 : Int32).toInt := (fa_le 2958466 x_29).mp c_35
              refine lv_iconst (v := 0) hx hb dX0_settle_128 (by decide) ?_
              refine W.endD hd_12 ?_
              have hP9 := hP.sub (ws' := [(dv, .inr (0, [.long y_25, .int x_27, .int dv_tenthsPut, .int u_31, .int u_32, .int u_33, .int u_34, .int dv_halves])), (d, .inr (1, [.ref d_limbs, .ref d_digits, .int u_13, .int u_19, .int u_15])), (d_limbs, .inl (cJ, 100, .inr (.inl u_16))), (d_digits, .inl (cI, 910, .inl u_20))]) [3, 1, 0, 2] rfl
              have hD9 := hD.sub (ws' := [(dv, .inr (0, [.long y_25, .int x_27, .int dv_tenthsPut, .int u_31, .int u_32, .int u_33, .int u_34, .int dv_halves])), (d, .inr (1, [.ref d_limbs, .ref d_digits, .int u_13, .int u_19, .int u_15])), (d_limbs, .inl (cJ, 100, .inr (.inl u_16))), (d_digits, .inl (cI, 910, .inl u_20))]) [3, 1, 0, 2] (by decide) rfl
              exact W.zret (v := 0) hx hb hr rfl (fun t ht hW => ⟨⟨0, (y_25, x_27, u_31, u_32, u_33, u_34, u_13, u_19, u_15, u_16, u_20), rfl, (by (try dsimp only); refine ⟨?_, ?_, ?_⟩ <;> first | omega | assumption), by rw [ht]; exact hP9, va_K.moved hW.alike hK, hD9⟩, hS.F ht⟩) hS.2.2 dX0_settle_129
            · have ic_35 : ¬ ((2958466 : Int32).toInt ≤ (x_29 : Int32).toInt) := fun h9 => c_35 ((fa_le 2958466 x_29).mpr h9)
              refine lv_iconst (v := 1) hx hb dX0_settle_124 (by decide) ?_
              refine lv_goto (tgt := 129) hx hb dX0_settle_125 (by decide) ?_
              refine W.endD hd_12 ?_
              have hP9 := hP.sub (ws' := [(dv, .inr (0, [.long y_25, .int x_27, .int dv_tenthsPut, .int u_31, .int u_32, .int u_33, .int u_34, .int dv_halves])), (d, .inr (1, [.ref d_limbs, .ref d_digits, .int u_13, .int u_19, .int u_15])), (d_limbs, .inl (cJ, 100, .inr (.inl u_16))), (d_digits, .inl (cI, 910, .inl u_20))]) [3, 1, 0, 2] rfl
              have hD9 := hD.sub (ws' := [(dv, .inr (0, [.long y_25, .int x_27, .int dv_tenthsPut, .int u_31, .int u_32, .int u_33, .int u_34, .int dv_halves])), (d, .inr (1, [.ref d_limbs, .ref d_digits, .int u_13, .int u_19, .int u_15])), (d_limbs, .inl (cJ, 100, .inr (.inl u_16))), (d_digits, .inl (cI, 910, .inl u_20))]) [3, 1, 0, 2] (by decide) rfl
              exact W.zret (v := 1) hx hb hr rfl (fun t ht hW => ⟨⟨1, (y_25, x_27, u_31, u_32, u_33, u_34, u_13, u_19, u_15, u_16, u_20), rfl, (by (try dsimp only); refine ⟨?_, ?_, ?_⟩ <;> first | omega | assumption), by rw [ht]; exact hP9, va_K.moved hW.alike hK, hD9⟩, hS.F ht⟩) hS.2.2 dX0_settle_129
          · have ic_9 : ¬ ((p2 : Int32).toInt ≤ (x_5 : Int32).toInt) := fun h9 => c_9 ((fa_le p2 x_5).mpr h9)
            refine lv_iload hx hb dX0_settle_34 (lv_at hl 2 rfl) ?_
            refine lv_bipush (v := 10) hx hb dX0_settle_36 (by decide) ?_
            refine lv_imul hx hb dX0_settle_38 ?_
            refine lv_topi (fun x_36 ex_36 => ?_)
            have tx_36 := ti_mul ex_36
            rw [n_10] at tx_36
            refine lv_istore (lv' := [(5, .int x_36), (7, .int x_5), (6, .int x_6), (0, .ref dv), (1, .ref d), (2, .double p1), (4, .int p2)]) hx hb dX0_settle_39 hl (by decide) rfl (fun ls hl => ?_)
            refine lv_iload hx hb dX0_settle_41 (lv_at hl 2 rfl) ?_
            refine lv_bipush (v := 10) hx hb dX0_settle_43 (by decide) ?_
            refine lv_idiv hx hb dX0_settle_45 (by decide) ?_
            refine lv_topi (fun x_37 ex_37 => ?_)
            have tx_37 := ti_div ex_37 (by decide)
            rw [n_10] at tx_37
            refine lv_istore (lv' := [(6, .int x_37), (5, .int x_36), (7, .int x_5), (0, .ref dv), (1, .ref d), (2, .double p1), (4, .int p2)]) hx hb dX0_settle_46 hl (by decide) rfl (fun ls hl => ?_)
            obtain ⟨x_38, ex_38⟩ : ∃ y : Int32, y = x_5 + 1 := ⟨_, rfl⟩
            have b_x_5 := ti_b x_5
            have tx_38 := ti_add ex_38
            refine lv_iinc (v := x_38) (lv' := [(7, .int x_38), (6, .int x_37), (5, .int x_36), (0, .ref dv), (1, .ref d), (2, .double p1), (4, .int p2)]) hx hb dX0_settle_48 hl (k := 2) rfl (by rw [ex_38]; rfl) (by decide) rfl (fun ls hl => ?_)
            refine lv_goto (tgt := 27) hx hb dX0_settle_51 (by decide) ?_
            exact hZ1 (ih_27 x_38 x_37 x_36 _ _ _ dq27_8 hdq27_8 (by omega) (by omega) hP hD hS hl)
      exact hZ1 (L_27 (((2147483647 - (0 : Int32).toInt).toNat) + 1) 0 1000 1 _ _ _ s.drawn hd0 (by omega) (by omega) hP hD hS hl)
    · have ic_4 : ¬ ((x_3 : Int32).toInt < (0 : Int32).toInt) := fun h9 => c_4 ((fa_lt x_3 0).mpr h9)
      refine lv_iconst (v := 0) hx hb dX0_settle_14 (by decide) ?_
      refine W.endD hd0 ?_
      have hP9 := hP.sub (ws' := [(dv, .inr (0, [.long dv_seconds, .int dv_thousandths, .int dv_tenthsPut, .int dv_year, .int dv_month, .int dv_day, .int dv_weekday, .int dv_halves])), (d, .inr (1, [.ref d_limbs, .ref d_digits, .int d_used, .int d_count, .int d_scale])), (d_limbs, .inl (cJ, 100, .inr (.inl d_limbsF))), (d_digits, .inl (cI, 910, .inl d_digitsF))]) [0, 1, 2, 3] rfl
      have hD9 := hD.sub (ws' := [(dv, .inr (0, [.long dv_seconds, .int dv_thousandths, .int dv_tenthsPut, .int dv_year, .int dv_month, .int dv_day, .int dv_weekday, .int dv_halves])), (d, .inr (1, [.ref d_limbs, .ref d_digits, .int d_used, .int d_count, .int d_scale])), (d_limbs, .inl (cJ, 100, .inr (.inl d_limbsF))), (d_digits, .inl (cI, 910, .inl d_digitsF))]) [0, 1, 2, 3] (by decide) rfl
      exact W.zret (v := 0) hx hb hr rfl (fun t ht hW => ⟨⟨0, (dv_seconds, dv_thousandths, dv_year, dv_month, dv_day, dv_weekday, d_used, d_count, d_scale, d_limbsF, d_digitsF), rfl, (by (try dsimp only); refine ⟨?_, ?_, ?_⟩ <;> first | omega | assumption), by rw [ht]; exact hP9, va_K.moved hW.alike hK, hD9⟩, hS.F ht⟩) hS.2.2 dX0_settle_15

def ow_X0_hour : List Cond := [Cond.fieldLink RX0 87 "NumberFormats$DateView" "seconds" "J", Cond.constantLong RX0 94 (86400), Cond.constantLong RX0 146 (3600)]
def pw_X0_hour : List Cond := Cond.code yX0_hour cX0_hour 1 (some .int) :: (ow_X0_hour ++ (wsX00))
set_option maxRecDepth 20000 in
theorem mo_X0_hour : ∀ w ∈ ow_X0_hour, w ∈ lw_tbl := by decide +kernel
set_option maxRecDepth 20000 in
theorem mc_X0_hour : Cond.code yX0_hour cX0_hour 1 (some .int) ∈ lw_tbl := by decide +kernel
theorem m_X0_hour : ∀ w ∈ pw_X0_hour, w ∈ lw_tbl := List.forall_mem_cons.mpr ⟨mc_X0_hour, (List.forall_mem_append.mpr ⟨mo_X0_hour, inX0⟩)⟩
theorem ko_X0_hour : ∀ w ∈ ow_X0_hour, goodWord w = true := by decide +kernel
theorem k_X0_hour : pw_X0_hour.all goodWord = true := List.all_eq_true.mpr (List.forall_mem_cons.mpr ⟨by decide +kernel, (List.forall_mem_append.mpr ⟨ko_X0_hour, kX_X0⟩)⟩)
set_option maxHeartbeats 400000 in
set_option maxRecDepth 100000 in
theorem c_X0_hour (l : Launch) (D : va_G) (cI cD cJ : ClassId) (sz : Nat) (dv : Nat) (dv_seconds : Int64) (dv_thousandths : Int32) (dv_tenthsPut : Int32) (dv_year : Int32) (dv_month : Int32) (dv_day : Int32) (dv_weekday : Int32) (dv_halves : Int32) (iv_dv_halves : (dv_halves : Int32).toInt = 0 ∨ (dv_halves : Int32).toInt = 1) : Met l yX0_hour pw_X0_hour ({ frames := 0, cells := 0, slots := 0, locals := 0 }) (va_Pc [.ref dv] (fun U => va_P D vwCl [(dv, .inr (0, [.long dv_seconds, .int dv_thousandths, .int dv_tenthsPut, .int dv_year, .int dv_month, .int dv_day, .int dv_weekday, .int dv_halves]))] U.heap ∧ va_K D vwCl (ty3 cI cD cJ) U)) (va_Qi (fun (r : Int32) (u : Unit) => True) (fun _ _ => True) (fun _ => False)) 0 0 (fun _ => False) := by
  refine Met.ofW (cc := cX0_hour) (maxL := 1) (ret := (some .int)) (by decide +kernel) rfl ?_
  intro p e s m args below meth c s₁ B hml hv
  obtain ⟨rfl, hP, hK⟩ := hv
  have hx := B.exec
  have hb := B.bytes
  have hr := B.returns
  have hts := atoms_spec (ws := pw_X0_hour) B.pre
  have hown : s.vm.findClass RX0 = some m.cls := findClass_of_methodNamed B.named
  have hlocks := B.notSynchronized
  have hS : va_S (fun _ => False) s.heap s.heap [] := va_S.rf
  have hw : ∀ (k : Nat) (w : Cond), ow_X0_hour[k]? = some w → w.before _ s = true := fun k w h => hts w (List.mem_cons_of_mem _ (have h9 := List.mem_of_getElem? h; List.mem_append_left _ h9))
  have iX0 : ∀ w ∈ u_ws RX0 TX0 8, w ∈ pw_X0_hour := fun w h9 => List.mem_cons_of_mem _ (List.mem_append_right _ (h9))
  have nl_3600 : ((3600 : Int64)).toInt = 3600 := by decide
  have nl_86400 : ((86400 : Int64)).toInt = 86400 := by decide
  have hl := lv_entry ([.ref dv]) (n := 1) (Nat.le_of_ble_eq_true rfl)
  rw [lg_entry_eq]
  generalize (lg_sl ([.ref dv]) ++ List.replicate (1 - (lg_sl ([.ref dv])).length) Slot.unset).toArray = ls at hl ⊢
  have hl : lv_has ls 1 [(0, .ref dv)] := hl
  refine lv_aload_n hx hb dX0_hour_0 rfl (lv_at hl 0 rfl) ?_
  refine va_get (D := D) (ci := 0) (v := .long dv_seconds) (C := RX0) (T := TX0) (N := 8) hx hb hts iX0 hown hK hP 0 rfl rfl 0 (by decide) (hw 0 (.fieldLink RX0 87 "NumberFormats$DateView" "seconds" "J") rfl) (fun _ h9 => h9) rfl dX0_hour_1 ?_
  refine lv_ldc2 (v := 86400) hx hb hown (hw 1 (.constantLong RX0 94 (86400)) rfl) dX0_hour_4 ?_
  refine lv_lrem hx hb dX0_hour_7 (by decide) ?_
  refine lv_topl (fun y_1 ey_1 => ?_)
  have ty_1 := tl_rem ey_1 (by decide)
  rw [nl_86400] at ty_1
  refine lv_ldc2 (v := 3600) hx hb hown (hw 2 (.constantLong RX0 146 (3600)) rfl) dX0_hour_8 ?_
  refine lv_ldiv hx hb dX0_hour_11 (by decide) ?_
  refine lv_topl (fun y_2 ey_2 => ?_)
  have ty_2 := tl_div ey_2 (by decide)
  rw [nl_3600] at ty_2
  refine lv_l2i hx hb dX0_hour_12 rfl ?_
  refine lv_topi (fun x_3 ex_3 => ?_)
  have tx_3 := ti_l2i ex_3
  exact W.iret (v := x_3) hx hb hr (fun t ht hW => ⟨⟨x_3, (), rfl, trivial, trivial⟩, hS.F ht⟩) hS.2.2 dX0_hour_13

def ow_X0_putTenth : List Cond := [Cond.fieldLink RX0 41 "NumberFormats$DateView" "tenthsPut" "I", Cond.methodLink RX0 139 yX7_add, Cond.instanceMethod yX7_add, Cond.selects RX7 yX7_add yX7_add, Cond.initialized RX7, Cond.fieldLink RX0 91 "NumberFormats$DateView" "thousandths" "I"]
def pw_X0_putTenth : List Cond := Cond.code yX0_putTenth cX0_putTenth 3 none :: (ow_X0_putTenth ++ (pw_X7_add ++ (wsX00)))
set_option maxRecDepth 20000 in
theorem mo_X0_putTenth : ∀ w ∈ ow_X0_putTenth, w ∈ lw_tbl := by decide +kernel
set_option maxRecDepth 20000 in
theorem mc_X0_putTenth : Cond.code yX0_putTenth cX0_putTenth 3 none ∈ lw_tbl := by decide +kernel
theorem m_X0_putTenth : ∀ w ∈ pw_X0_putTenth, w ∈ lw_tbl := List.forall_mem_cons.mpr ⟨mc_X0_putTenth, (List.forall_mem_append.mpr ⟨mo_X0_putTenth, (List.forall_mem_append.mpr ⟨m_X7_add, inX0⟩)⟩)⟩
theorem ko_X0_putTenth : ∀ w ∈ ow_X0_putTenth, goodWord w = true := by decide +kernel
theorem k_X0_putTenth : pw_X0_putTenth.all goodWord = true := List.all_eq_true.mpr (List.forall_mem_cons.mpr ⟨by decide +kernel, (List.forall_mem_append.mpr ⟨ko_X0_putTenth, (List.forall_mem_append.mpr ⟨(List.all_eq_true.mp k_X7_add), kX_X0⟩)⟩)⟩)
set_option maxHeartbeats 400000 in
set_option maxRecDepth 100000 in
theorem c_X0_putTenth (l : Launch) (D : va_G) (cI cD cJ : ClassId) (sz : Nat) (dv : Nat) (dv_seconds : Int64) (dv_thousandths : Int32) (dv_tenthsPut : Int32) (dv_year : Int32) (dv_month : Int32) (dv_day : Int32) (dv_weekday : Int32) (dv_halves : Int32) (pe : Nat) (pe_decimal : Nat) (pe_row : Nat) (pe_turned : Nat) (pe_length : Int32) (pe_slots : Int32) (pe_slotsPut : Int32) (pe_hidden : Int32) (pe_zeroSeen : Int32) (pe_groups : Int32) (pe_rowF : Nat → Int32) (iv_dv_halves : (dv_halves : Int32).toInt = 0 ∨ (dv_halves : Int32).toInt = 1) (iv_pe_length : 0 ≤ (pe_length : Int32).toInt ∧ (pe_length : Int32).toInt ≤ 1024) (iv_pe_slots : 0 ≤ (pe_slots : Int32).toInt ∧ (pe_slots : Int32).toInt ≤ 256) (iv_pe_zeroSeen : (pe_zeroSeen : Int32).toInt = 0 ∨ (pe_zeroSeen : Int32).toInt = 1) (iv_pe_groups : (pe_groups : Int32).toInt = 0 ∨ (pe_groups : Int32).toInt = 1) : Met l yX0_putTenth pw_X0_putTenth ({ frames := 1, cells := 0, slots := 0, locals := 21 }) (va_Pc [.ref dv, .ref pe] (fun U => U.heap.size = sz ∧ va_P D vwCl [(dv, .inr (0, [.long dv_seconds, .int dv_thousandths, .int dv_tenthsPut, .int dv_year, .int dv_month, .int dv_day, .int dv_weekday, .int dv_halves])), (pe, .inr (5, [.ref pe_decimal, .ref pe_row, .ref pe_turned, .int pe_length, .int pe_slots, .int pe_slotsPut, .int pe_hidden, .int pe_zeroSeen, .int pe_groups])), (pe_row, .inl (cI, 1024, .inl pe_rowF))] U.heap ∧ va_K D vwCl (ty3 cI cD cJ) U ∧ va_D (fun _ => True) [(dv, .inr (0, [.long dv_seconds, .int dv_thousandths, .int dv_tenthsPut, .int dv_year, .int dv_month, .int dv_day, .int dv_weekday, .int dv_halves])), (pe, .inr (5, [.ref pe_decimal, .ref pe_row, .ref pe_turned, .int pe_length, .int pe_slots, .int pe_slotsPut, .int pe_hidden, .int pe_zeroSeen, .int pe_groups])), (pe_row, .inl (cI, 1024, .inl pe_rowF))])) (va_Qv (fun (u : Int32 × Int32 × (Nat → Int32)) => match u with | (dv_tenthsPut2, pe_length2, pe_rowF2) => (0 ≤ (pe_length2 : Int32).toInt ∧ (pe_length2 : Int32).toInt ≤ 1024)) (fun (u : Int32 × Int32 × (Nat → Int32)) (t : State) => match u with | (dv_tenthsPut2, pe_length2, pe_rowF2) => va_P D vwCl [(dv, .inr (0, [.long dv_seconds, .int dv_thousandths, .int dv_tenthsPut2, .int dv_year, .int dv_month, .int dv_day, .int dv_weekday, .int dv_halves])), (pe, .inr (5, [.ref pe_decimal, .ref pe_row, .ref pe_turned, .int pe_length2, .int pe_slots, .int pe_slotsPut, .int pe_hidden, .int pe_zeroSeen, .int pe_groups])), (pe_row, .inl (cI, 1024, .inl pe_rowF2))] t.heap ∧ va_K D vwCl (ty3 cI cD cJ) t ∧ va_D (va_A [(dv, .inr (0, [.long dv_seconds, .int dv_thousandths, .int dv_tenthsPut, .int dv_year, .int dv_month, .int dv_day, .int dv_weekday, .int dv_halves])), (pe, .inr (5, [.ref pe_decimal, .ref pe_row, .ref pe_turned, .int pe_length, .int pe_slots, .int pe_slotsPut, .int pe_hidden, .int pe_zeroSeen, .int pe_groups])), (pe_row, .inl (cI, 1024, .inl pe_rowF))] sz) [(dv, .inr (0, [.long dv_seconds, .int dv_thousandths, .int dv_tenthsPut2, .int dv_year, .int dv_month, .int dv_day, .int dv_weekday, .int dv_halves])), (pe, .inr (5, [.ref pe_decimal, .ref pe_row, .ref pe_turned, .int pe_length2, .int pe_slots, .int pe_slotsPut, .int pe_hidden, .int pe_zeroSeen, .int pe_groups])), (pe_row, .inl (cI, 1024, .inl pe_rowF2))]) (va_A [(dv, .inr (0, [.long dv_seconds, .int dv_thousandths, .int dv_tenthsPut, .int dv_year, .int dv_month, .int dv_day, .int dv_weekday, .int dv_halves])), (pe, .inr (5, [.ref pe_decimal, .ref pe_row, .ref pe_turned, .int pe_length, .int pe_slots, .int pe_slotsPut, .int pe_hidden, .int pe_zeroSeen, .int pe_groups])), (pe_row, .inl (cI, 1024, .inl pe_rowF))] sz)) 0 0 (va_A [(dv, .inr (0, [.long dv_seconds, .int dv_thousandths, .int dv_tenthsPut, .int dv_year, .int dv_month, .int dv_day, .int dv_weekday, .int dv_halves])), (pe, .inr (5, [.ref pe_decimal, .ref pe_row, .ref pe_turned, .int pe_length, .int pe_slots, .int pe_slotsPut, .int pe_hidden, .int pe_zeroSeen, .int pe_groups])), (pe_row, .inl (cI, 1024, .inl pe_rowF))] sz) := by
  refine Met.ofW (cc := cX0_putTenth) (maxL := 3) (ret := none) (by decide +kernel) rfl ?_
  intro p e s m args below meth c s₁ B hml hv
  obtain ⟨rfl, hsz, hP, hK, hD0⟩ := hv
  have hx := B.exec
  have hb := B.bytes
  have hr := B.returns
  have hts := atoms_spec (ws := pw_X0_putTenth) B.pre
  have hown : s.vm.findClass RX0 = some m.cls := findClass_of_methodNamed B.named
  have hlocks := B.notSynchronized
  subst hsz
  have hD := hD0.self (sz := s.heap.size)
  generalize hAe : va_A [(dv, .inr (0, [.long dv_seconds, .int dv_thousandths, .int dv_tenthsPut, .int dv_year, .int dv_month, .int dv_day, .int dv_weekday, .int dv_halves])), (pe, .inr (5, [.ref pe_decimal, .ref pe_row, .ref pe_turned, .int pe_length, .int pe_slots, .int pe_slotsPut, .int pe_hidden, .int pe_zeroSeen, .int pe_groups])), (pe_row, .inl (cI, 1024, .inl pe_rowF))] s.heap.size = A at hD ⊢
  have hA : ∀ q : Nat, s.heap.size ≤ q → A q := fun q h => by rw [← hAe]; exact Or.inr h
  have hS : va_S A s.heap s.heap [] := va_S.rf
  have hw : ∀ (k : Nat) (w : Cond), ow_X0_putTenth[k]? = some w → w.before _ s = true := fun k w h => hts w (List.mem_cons_of_mem _ (have h9 := List.mem_of_getElem? h; List.mem_append_left _ h9))
  have i_X7_add : ∀ w ∈ pw_X7_add, w ∈ pw_X0_putTenth := fun w h9 => List.mem_cons_of_mem _ (List.mem_append_right _ (List.mem_append_left _ h9))
  have iX0 : ∀ w ∈ u_ws RX0 TX0 8, w ∈ pw_X0_putTenth := fun w h9 => List.mem_cons_of_mem _ (List.mem_append_right _ (List.mem_append_right _ (h9)))
  have n_1 : ((1 : Int32)).toInt = 1 := by decide
  have n_10 : ((10 : Int32)).toInt = 10 := by decide
  have n_100 : ((100 : Int32)).toInt = 100 := by decide
  have n_2 : ((2 : Int32)).toInt = 2 := by decide
  have n_48 : ((48 : Int32)).toInt = 48 := by decide
  have hl := lv_entry ([.ref dv, .ref pe]) (n := 3) (Nat.le_of_ble_eq_true rfl)
  rw [lg_entry_eq]
  generalize (lg_sl ([.ref dv, .ref pe]) ++ List.replicate (3 - (lg_sl ([.ref dv, .ref pe])).length) Slot.unset).toArray = ls at hl ⊢
  have hl : lv_has ls 3 [(0, .ref dv), (1, .ref pe)] := hl
  refine zz_cap (fun Z hZ1 hZ2 => ?_)
  refine lv_aload_n hx hb dX0_putTenth_0 rfl (lv_at hl 0 rfl) ?_
  refine lv_dup hx hb dX0_putTenth_1 rfl ?_
  refine va_get (D := D) (ci := 0) (v := .int dv_tenthsPut) (C := RX0) (T := TX0) (N := 8) hx hb hts iX0 hown hK hP 0 rfl rfl 2 (by decide) (hw 0 (.fieldLink RX0 41 "NumberFormats$DateView" "tenthsPut" "I") rfl) (fun _ h9 => h9) rfl dX0_putTenth_2 ?_
  refine lv_iconst (v := 1) hx hb dX0_putTenth_5 (by decide) ?_
  refine lv_iadd hx hb dX0_putTenth_6 ?_
  refine lv_topi (fun x_1 ex_1 => ?_)
  have b_dv_tenthsPut := ti_b dv_tenthsPut
  have tx_1 := ti_add ex_1
  refine va_put (D := D) (ci := 0) (v := .int x_1) (ty := .int) (C := RX0) (T := TX0) (N := 8) hx hb hts iX0 tyX0 tyX0_ok nmX0 hown hK hP hD hS 0 rfl rfl 2 (by decide) (hw 0 (.fieldLink RX0 41 "NumberFormats$DateView" "tenthsPut" "I") rfl) (fun _ h9 => h9) rfl (by decide +kernel) rfl rfl (Nat.le_of_ble_eq_true rfl) dX0_putTenth_7 (fun H locs hP hD hS => ?_)
  have hP : va_P D vwCl [(dv, .inr (0, [.long dv_seconds, .int dv_thousandths, .int x_1, .int dv_year, .int dv_month, .int dv_day, .int dv_weekday, .int dv_halves])), (pe, .inr (5, [.ref pe_decimal, .ref pe_row, .ref pe_turned, .int pe_length, .int pe_slots, .int pe_slotsPut, .int pe_hidden, .int pe_zeroSeen, .int pe_groups])), (pe_row, .inl (cI, 1024, .inl pe_rowF))] H := hP
  have hD : va_D A [(dv, .inr (0, [.long dv_seconds, .int dv_thousandths, .int x_1, .int dv_year, .int dv_month, .int dv_day, .int dv_weekday, .int dv_halves])), (pe, .inr (5, [.ref pe_decimal, .ref pe_row, .ref pe_turned, .int pe_length, .int pe_slots, .int pe_slotsPut, .int pe_hidden, .int pe_zeroSeen, .int pe_groups])), (pe_row, .inl (cI, 1024, .inl pe_rowF))] := hD
  refine lv_aload_n hx hb dX0_putTenth_10 rfl (lv_at hl 0 rfl) ?_
  refine va_get (D := D) (ci := 0) (v := .int x_1) (C := RX0) (T := TX0) (N := 8) hx hb hts iX0 hown hK hP 0 rfl rfl 2 (by decide) (hw 0 (.fieldLink RX0 41 "NumberFormats$DateView" "tenthsPut" "I") rfl) (fun _ h9 => h9) rfl dX0_putTenth_11 ?_
  refine lv_iconst (v := 1) hx hb dX0_putTenth_14 (by decide) ?_
  have K_50 : ∀ (z_2 : Int32) (H : Heap) (locs : List Loc) (ls : Array Slot), va_P D vwCl [(dv, .inr (0, [.long dv_seconds, .int dv_thousandths, .int x_1, .int dv_year, .int dv_month, .int dv_day, .int dv_weekday, .int dv_halves])), (pe, .inr (5, [.ref pe_decimal, .ref pe_row, .ref pe_turned, .int pe_length, .int pe_slots, .int pe_slotsPut, .int pe_hidden, .int pe_zeroSeen, .int pe_groups])), (pe_row, .inl (cI, 1024, .inl pe_rowF))] H → va_D A [(dv, .inr (0, [.long dv_seconds, .int dv_thousandths, .int x_1, .int dv_year, .int dv_month, .int dv_day, .int dv_weekday, .int dv_halves])), (pe, .inr (5, [.ref pe_decimal, .ref pe_row, .ref pe_turned, .int pe_length, .int pe_slots, .int pe_slotsPut, .int pe_hidden, .int pe_zeroSeen, .int pe_groups])), (pe_row, .inl (cI, 1024, .inl pe_rowF))] → va_S A s.heap H locs → lv_has ls 3 [(1, .ref pe)] → Z 0 0 H locs (F0 m 50 ls [.int z_2]) := by
    intro z_2 H locs ls  hP hD hS hl
    refine hZ2 ?_
    refine lv_istore_n (lv' := [(2, .int z_2), (1, .ref pe)]) hx hb dX0_putTenth_50 rfl hl (by decide) rfl (fun ls hl => ?_)
    refine lv_aload_n hx hb dX0_putTenth_51 rfl (lv_at hl 1 rfl) ?_
    refine lv_bipush (v := 48) hx hb dX0_putTenth_52 (by decide) ?_
    refine lv_iload_n hx hb dX0_putTenth_54 rfl (lv_at hl 0 rfl) ?_
    refine lv_bipush (v := 10) hx hb dX0_putTenth_55 (by decide) ?_
    refine lv_irem hx hb dX0_putTenth_57 (by decide) ?_
    refine lv_topi (fun x_3 ex_3 => ?_)
    have tx_3 := ti_rem ex_3 (by decide)
    rw [n_10] at tx_3
    refine lv_iadd hx hb dX0_putTenth_58 ?_
    refine lv_topi (fun x_4 ex_4 => ?_)
    have b_x_3 := ti_b x_3
    have tx_4 := ti_add ex_4
    have hPc := hP.sub (ws' := [(pe, .inr (5, [.ref pe_decimal, .ref pe_row, .ref pe_turned, .int pe_length, .int pe_slots, .int pe_slotsPut, .int pe_hidden, .int pe_zeroSeen, .int pe_groups])), (pe_row, .inl (cI, 1024, .inl pe_rowF))]) [1, 2] rfl
    have hDc := hD.sub (ws' := [(pe, .inr (5, [.ref pe_decimal, .ref pe_row, .ref pe_turned, .int pe_length, .int pe_slots, .int pe_slotsPut, .int pe_hidden, .int pe_zeroSeen, .int pe_groups])), (pe_row, .inl (cI, 1024, .inl pe_rowF))]) [1, 2] (by decide) rfl
    have hFc := va_free (wc := [(pe, .inr (5, [.ref pe_decimal, .ref pe_row, .ref pe_turned, .int pe_length, .int pe_slots, .int pe_slotsPut, .int pe_hidden, .int pe_zeroSeen, .int pe_groups])), (pe_row, .inl (cI, 1024, .inl pe_rowF))]) hD hS hA [1, 2] rfl
    refine va_callv (va_runV (As := [.int x_4]) (rest := []) ⟨hx, hb, hml, hown, hts⟩ (c_X7_add l D cI cD cJ H.size pe pe_decimal pe_row pe_turned pe_length pe_slots pe_slotsPut pe_hidden pe_zeroSeen pe_groups pe_rowF x_4 (by omega) (by omega) (by omega) (by omega)) (cwV 1 hts (goodIn_app (goodIn_r _ [2, 3, 4, 5] rfl (by decide +kernel)) (goodIn_sub i_X7_add k_X7_add)) rfl rfl rfl (by decide +kernel) ⟨Nat.le_of_ble_eq_true rfl, Nat.le_of_ble_eq_true rfl⟩) ⟨fun a U g mk q => by obtain ⟨q0, q1, qP, qK, qD⟩ := q; exact ⟨q0, q1, qP, va_K.moved (u := U) (U := U.calling g mk a) (Vm.Alike.refl U.vm) qK, qD⟩, va_recv hK hPc (ci := 5) (q0 := 0) rfl rfl, fun U hU hW => ⟨rfl, by rw [hU], by rw [hU]; exact hPc, va_K.moved hW.alike hK, hDc.weaken (fun _ _ _ _ => trivial)⟩⟩ rfl rfl hl.1 rfl (lv_room (Nat.le_of_ble_eq_true rfl)) dX0_putTenth_59 ⟨Nat.le_of_ble_eq_true rfl, Nat.le_of_ble_eq_true rfl⟩) hS (fun q _ h => hFc q h) hFc (fun u t H1 locs ht hvm w_5 hB hz1 hk1 hS => ?_)
    obtain ⟨u_6, u_7⟩ := u
    obtain ⟨hP1, hK1, hD1⟩ := hB
    rw [ht] at hP1
    try dsimp only at w_5
    obtain ⟨hP, hD⟩ := va_join (wr := [(dv, .inr (0, [.long dv_seconds, .int dv_thousandths, .int x_1, .int dv_year, .int dv_month, .int dv_day, .int dv_weekday, .int dv_halves]))]) (w1 := [(pe, .inr (5, [.ref pe_decimal, .ref pe_row, .ref pe_turned, .int u_6, .int pe_slots, .int pe_slotsPut, .int pe_hidden, .int pe_zeroSeen, .int pe_groups])), (pe_row, .inl (cI, 1024, .inl u_7))]) hP hD [1, 2] [0] rfl rfl (by decide) (by decide) hk1 hFc hP1 hD1
    generalize H1 = H at hP hS ⊢
    have hP : va_P D vwCl [(dv, .inr (0, [.long dv_seconds, .int dv_thousandths, .int x_1, .int dv_year, .int dv_month, .int dv_day, .int dv_weekday, .int dv_halves])), (pe, .inr (5, [.ref pe_decimal, .ref pe_row, .ref pe_turned, .int u_6, .int pe_slots, .int pe_slotsPut, .int pe_hidden, .int pe_zeroSeen, .int pe_groups])), (pe_row, .inl (cI, 1024, .inl u_7))] H := hP
    have hD : va_D A [(dv, .inr (0, [.long dv_seconds, .int dv_thousandths, .int x_1, .int dv_year, .int dv_month, .int dv_day, .int dv_weekday, .int dv_halves])), (pe, .inr (5, [.ref pe_decimal, .ref pe_row, .ref pe_turned, .int u_6, .int pe_slots, .int pe_slotsPut, .int pe_hidden, .int pe_zeroSeen, .int pe_groups])), (pe_row, .inl (cI, 1024, .inl u_7))] := hD
    have hP9 := hP.sub (ws' := [(dv, .inr (0, [.long dv_seconds, .int dv_thousandths, .int x_1, .int dv_year, .int dv_month, .int dv_day, .int dv_weekday, .int dv_halves])), (pe, .inr (5, [.ref pe_decimal, .ref pe_row, .ref pe_turned, .int u_6, .int pe_slots, .int pe_slotsPut, .int pe_hidden, .int pe_zeroSeen, .int pe_groups])), (pe_row, .inl (cI, 1024, .inl u_7))]) [0, 1, 2] rfl
    have hD9 := hD.sub (ws' := [(dv, .inr (0, [.long dv_seconds, .int dv_thousandths, .int x_1, .int dv_year, .int dv_month, .int dv_day, .int dv_weekday, .int dv_halves])), (pe, .inr (5, [.ref pe_decimal, .ref pe_row, .ref pe_turned, .int u_6, .int pe_slots, .int pe_slotsPut, .int pe_hidden, .int pe_zeroSeen, .int pe_groups])), (pe_row, .inl (cI, 1024, .inl u_7))]) [0, 1, 2] (by decide) rfl
    exact W.vret hx hb hr (fun t ht hW => ⟨⟨(x_1, u_6, u_7), rfl, (by (try dsimp only); first | omega | assumption), by rw [ht]; exact hP9, va_K.moved hW.alike hK, hD9⟩, hS.F ht⟩) hS.2.2 dX0_putTenth_62
  refine lv_icmp_ne (tgt := 28) hx hb dX0_putTenth_15 (by decide) (fun c_8 => ?_) (fun c_8 => ?_)
  · have ic_8 : ¬ ((x_1 : Int32).toInt = (1 : Int32).toInt) := fun h9 => c_8 ((fa_eq x_1 1).mpr h9)
    refine lv_aload_n hx hb dX0_putTenth_28 rfl (lv_at hl 0 rfl) ?_
    refine va_get (D := D) (ci := 0) (v := .int x_1) (C := RX0) (T := TX0) (N := 8) hx hb hts iX0 hown hK hP 0 rfl rfl 2 (by decide) (hw 0 (.fieldLink RX0 41 "NumberFormats$DateView" "tenthsPut" "I") rfl) (fun _ h9 => h9) rfl dX0_putTenth_29 ?_
    refine lv_iconst (v := 2) hx hb dX0_putTenth_32 (by decide) ?_
    refine lv_icmp_ne (tgt := 46) hx hb dX0_putTenth_33 (by decide) (fun c_9 => ?_) (fun c_9 => ?_)
    · have ic_9 : ¬ ((x_1 : Int32).toInt = (2 : Int32).toInt) := fun h9 => c_9 ((fa_eq x_1 2).mpr h9)
      refine lv_aload_n hx hb dX0_putTenth_46 rfl (lv_at hl 0 rfl) ?_
      refine va_get (D := D) (ci := 0) (v := .int dv_thousandths) (C := RX0) (T := TX0) (N := 8) hx hb hts iX0 hown hK hP 0 rfl rfl 1 (by decide) (hw 5 (.fieldLink RX0 91 "NumberFormats$DateView" "thousandths" "I") rfl) (fun _ h9 => h9) rfl dX0_putTenth_47 ?_
      exact hZ1 (K_50 dv_thousandths _ _ _ hP hD hS (lv_sub hl [1] rfl))
    · have ic_9 : (x_1 : Int32).toInt = (2 : Int32).toInt := (fa_eq x_1 2).mp c_9
      refine lv_aload_n hx hb dX0_putTenth_36 rfl (lv_at hl 0 rfl) ?_
      refine va_get (D := D) (ci := 0) (v := .int dv_thousandths) (C := RX0) (T := TX0) (N := 8) hx hb hts iX0 hown hK hP 0 rfl rfl 1 (by decide) (hw 5 (.fieldLink RX0 91 "NumberFormats$DateView" "thousandths" "I") rfl) (fun _ h9 => h9) rfl dX0_putTenth_37 ?_
      refine lv_bipush (v := 10) hx hb dX0_putTenth_40 (by decide) ?_
      refine lv_idiv hx hb dX0_putTenth_42 (by decide) ?_
      refine lv_topi (fun x_10 ex_10 => ?_)
      have tx_10 := ti_div ex_10 (by decide)
      rw [n_10] at tx_10
      refine lv_goto (tgt := 50) hx hb dX0_putTenth_43 (by decide) ?_
      exact hZ1 (K_50 x_10 _ _ _ hP hD hS (lv_sub hl [1] rfl))
  · have ic_8 : (x_1 : Int32).toInt = (1 : Int32).toInt := (fa_eq x_1 1).mp c_8
    refine lv_aload_n hx hb dX0_putTenth_18 rfl (lv_at hl 0 rfl) ?_
    refine va_get (D := D) (ci := 0) (v := .int dv_thousandths) (C := RX0) (T := TX0) (N := 8) hx hb hts iX0 hown hK hP 0 rfl rfl 1 (by decide) (hw 5 (.fieldLink RX0 91 "NumberFormats$DateView" "thousandths" "I") rfl) (fun _ h9 => h9) rfl dX0_putTenth_19 ?_
    refine lv_bipush (v := 100) hx hb dX0_putTenth_22 (by decide) ?_
    refine lv_idiv hx hb dX0_putTenth_24 (by decide) ?_
    refine lv_topi (fun x_11 ex_11 => ?_)
    have tx_11 := ti_div ex_11 (by decide)
    rw [n_100] at tx_11
    refine lv_goto (tgt := 50) hx hb dX0_putTenth_25 (by decide) ?_
    exact hZ1 (K_50 x_11 _ _ _ hP hD hS (lv_sub hl [1] rfl))

def ow_X0_putElapsed : List Cond := [Cond.methodLink RX0 128 yX7_addNumber, Cond.instanceMethod yX7_addNumber, Cond.selects RX7 yX7_addNumber yX7_addNumber, Cond.initialized RX7, Cond.fieldLink RX0 87 "NumberFormats$DateView" "seconds" "J", Cond.constantLong RX0 126 (60), Cond.constantLong RX0 146 (3600)]
def pw_X0_putElapsed : List Cond := Cond.code yX0_putElapsed cX0_putElapsed 4 none :: (ow_X0_putElapsed ++ (pw_X7_addNumber ++ (wsX00)))
set_option maxRecDepth 20000 in
theorem mo_X0_putElapsed : ∀ w ∈ ow_X0_putElapsed, w ∈ lw_tbl := by decide +kernel
set_option maxRecDepth 20000 in
theorem mc_X0_putElapsed : Cond.code yX0_putElapsed cX0_putElapsed 4 none ∈ lw_tbl := by decide +kernel
theorem m_X0_putElapsed : ∀ w ∈ pw_X0_putElapsed, w ∈ lw_tbl := List.forall_mem_cons.mpr ⟨mc_X0_putElapsed, (List.forall_mem_append.mpr ⟨mo_X0_putElapsed, (List.forall_mem_append.mpr ⟨m_X7_addNumber, inX0⟩)⟩)⟩
theorem ko_X0_putElapsed : ∀ w ∈ ow_X0_putElapsed, goodWord w = true := by decide +kernel
theorem k_X0_putElapsed : pw_X0_putElapsed.all goodWord = true := List.all_eq_true.mpr (List.forall_mem_cons.mpr ⟨by decide +kernel, (List.forall_mem_append.mpr ⟨ko_X0_putElapsed, (List.forall_mem_append.mpr ⟨(List.all_eq_true.mp k_X7_addNumber), kX_X0⟩)⟩)⟩)
set_option maxHeartbeats 400000 in
set_option maxRecDepth 100000 in
theorem c_X0_putElapsed (l : Launch) (D : va_G) (cI cD cJ : ClassId) (sz : Nat) (dv : Nat) (dv_seconds : Int64) (dv_thousandths : Int32) (dv_tenthsPut : Int32) (dv_year : Int32) (dv_month : Int32) (dv_day : Int32) (dv_weekday : Int32) (dv_halves : Int32) (pe : Nat) (pe_decimal : Nat) (pe_row : Nat) (pe_turned : Nat) (pe_length : Int32) (pe_slots : Int32) (pe_slotsPut : Int32) (pe_hidden : Int32) (pe_zeroSeen : Int32) (pe_groups : Int32) (pe_rowF : Nat → Int32) (pe_turnedF : Nat → Int32) (p1 : Int32) (p2 : Int32) (iv_dv_halves : (dv_halves : Int32).toInt = 0 ∨ (dv_halves : Int32).toInt = 1) (iv_pe_length : 0 ≤ (pe_length : Int32).toInt ∧ (pe_length : Int32).toInt ≤ 1024) (iv_pe_slots : 0 ≤ (pe_slots : Int32).toInt ∧ (pe_slots : Int32).toInt ≤ 256) (iv_pe_zeroSeen : (pe_zeroSeen : Int32).toInt = 0 ∨ (pe_zeroSeen : Int32).toInt = 1) (iv_pe_groups : (pe_groups : Int32).toInt = 0 ∨ (pe_groups : Int32).toInt = 1) : Met l yX0_putElapsed pw_X0_putElapsed ({ frames := 2, cells := 0, slots := 0, locals := 48 }) (va_Pc [.ref dv, .ref pe, .int p1, .int p2] (fun U => U.heap.size = sz ∧ va_P D vwCl [(dv, .inr (0, [.long dv_seconds, .int dv_thousandths, .int dv_tenthsPut, .int dv_year, .int dv_month, .int dv_day, .int dv_weekday, .int dv_halves])), (pe, .inr (5, [.ref pe_decimal, .ref pe_row, .ref pe_turned, .int pe_length, .int pe_slots, .int pe_slotsPut, .int pe_hidden, .int pe_zeroSeen, .int pe_groups])), (pe_row, .inl (cI, 1024, .inl pe_rowF)), (pe_turned, .inl (cI, 20, .inl pe_turnedF))] U.heap ∧ va_K D vwCl (ty3 cI cD cJ) U ∧ va_D (fun _ => True) [(dv, .inr (0, [.long dv_seconds, .int dv_thousandths, .int dv_tenthsPut, .int dv_year, .int dv_month, .int dv_day, .int dv_weekday, .int dv_halves])), (pe, .inr (5, [.ref pe_decimal, .ref pe_row, .ref pe_turned, .int pe_length, .int pe_slots, .int pe_slotsPut, .int pe_hidden, .int pe_zeroSeen, .int pe_groups])), (pe_row, .inl (cI, 1024, .inl pe_rowF)), (pe_turned, .inl (cI, 20, .inl pe_turnedF))])) (va_Qv (fun (u : Int32 × (Nat → Int32) × (Nat → Int32)) => match u with | (pe_length2, pe_rowF2, pe_turnedF2) => (0 ≤ (pe_length2 : Int32).toInt ∧ (pe_length2 : Int32).toInt ≤ 1024)) (fun (u : Int32 × (Nat → Int32) × (Nat → Int32)) (t : State) => match u with | (pe_length2, pe_rowF2, pe_turnedF2) => va_P D vwCl [(dv, .inr (0, [.long dv_seconds, .int dv_thousandths, .int dv_tenthsPut, .int dv_year, .int dv_month, .int dv_day, .int dv_weekday, .int dv_halves])), (pe, .inr (5, [.ref pe_decimal, .ref pe_row, .ref pe_turned, .int pe_length2, .int pe_slots, .int pe_slotsPut, .int pe_hidden, .int pe_zeroSeen, .int pe_groups])), (pe_row, .inl (cI, 1024, .inl pe_rowF2)), (pe_turned, .inl (cI, 20, .inl pe_turnedF2))] t.heap ∧ va_K D vwCl (ty3 cI cD cJ) t ∧ va_D (va_A [(dv, .inr (0, [.long dv_seconds, .int dv_thousandths, .int dv_tenthsPut, .int dv_year, .int dv_month, .int dv_day, .int dv_weekday, .int dv_halves])), (pe, .inr (5, [.ref pe_decimal, .ref pe_row, .ref pe_turned, .int pe_length, .int pe_slots, .int pe_slotsPut, .int pe_hidden, .int pe_zeroSeen, .int pe_groups])), (pe_row, .inl (cI, 1024, .inl pe_rowF)), (pe_turned, .inl (cI, 20, .inl pe_turnedF))] sz) [(dv, .inr (0, [.long dv_seconds, .int dv_thousandths, .int dv_tenthsPut, .int dv_year, .int dv_month, .int dv_day, .int dv_weekday, .int dv_halves])), (pe, .inr (5, [.ref pe_decimal, .ref pe_row, .ref pe_turned, .int pe_length2, .int pe_slots, .int pe_slotsPut, .int pe_hidden, .int pe_zeroSeen, .int pe_groups])), (pe_row, .inl (cI, 1024, .inl pe_rowF2)), (pe_turned, .inl (cI, 20, .inl pe_turnedF2))]) (va_A [(dv, .inr (0, [.long dv_seconds, .int dv_thousandths, .int dv_tenthsPut, .int dv_year, .int dv_month, .int dv_day, .int dv_weekday, .int dv_halves])), (pe, .inr (5, [.ref pe_decimal, .ref pe_row, .ref pe_turned, .int pe_length, .int pe_slots, .int pe_slotsPut, .int pe_hidden, .int pe_zeroSeen, .int pe_groups])), (pe_row, .inl (cI, 1024, .inl pe_rowF)), (pe_turned, .inl (cI, 20, .inl pe_turnedF))] sz)) 0 0 (va_A [(dv, .inr (0, [.long dv_seconds, .int dv_thousandths, .int dv_tenthsPut, .int dv_year, .int dv_month, .int dv_day, .int dv_weekday, .int dv_halves])), (pe, .inr (5, [.ref pe_decimal, .ref pe_row, .ref pe_turned, .int pe_length, .int pe_slots, .int pe_slotsPut, .int pe_hidden, .int pe_zeroSeen, .int pe_groups])), (pe_row, .inl (cI, 1024, .inl pe_rowF)), (pe_turned, .inl (cI, 20, .inl pe_turnedF))] sz) := by
  refine Met.ofW (cc := cX0_putElapsed) (maxL := 4) (ret := none) (by decide +kernel) rfl ?_
  intro p e s m args below meth c s₁ B hml hv
  obtain ⟨rfl, hsz, hP, hK, hD0⟩ := hv
  have hx := B.exec
  have hb := B.bytes
  have hr := B.returns
  have hts := atoms_spec (ws := pw_X0_putElapsed) B.pre
  have hown : s.vm.findClass RX0 = some m.cls := findClass_of_methodNamed B.named
  have hlocks := B.notSynchronized
  subst hsz
  have hD := hD0.self (sz := s.heap.size)
  generalize hAe : va_A [(dv, .inr (0, [.long dv_seconds, .int dv_thousandths, .int dv_tenthsPut, .int dv_year, .int dv_month, .int dv_day, .int dv_weekday, .int dv_halves])), (pe, .inr (5, [.ref pe_decimal, .ref pe_row, .ref pe_turned, .int pe_length, .int pe_slots, .int pe_slotsPut, .int pe_hidden, .int pe_zeroSeen, .int pe_groups])), (pe_row, .inl (cI, 1024, .inl pe_rowF)), (pe_turned, .inl (cI, 20, .inl pe_turnedF))] s.heap.size = A at hD ⊢
  have hA : ∀ q : Nat, s.heap.size ≤ q → A q := fun q h => by rw [← hAe]; exact Or.inr h
  have hS : va_S A s.heap s.heap [] := va_S.rf
  have hw : ∀ (k : Nat) (w : Cond), ow_X0_putElapsed[k]? = some w → w.before _ s = true := fun k w h => hts w (List.mem_cons_of_mem _ (have h9 := List.mem_of_getElem? h; List.mem_append_left _ h9))
  have i_X7_addNumber : ∀ w ∈ pw_X7_addNumber, w ∈ pw_X0_putElapsed := fun w h9 => List.mem_cons_of_mem _ (List.mem_append_right _ (List.mem_append_left _ h9))
  have iX0 : ∀ w ∈ u_ws RX0 TX0 8, w ∈ pw_X0_putElapsed := fun w h9 => List.mem_cons_of_mem _ (List.mem_append_right _ (List.mem_append_right _ (h9)))
  have n_104 : ((104 : Int32)).toInt = 104 := by decide
  have n_109 : ((109 : Int32)).toInt = 109 := by decide
  have nl_3600 : ((3600 : Int64)).toInt = 3600 := by decide
  have nl_60 : ((60 : Int64)).toInt = 60 := by decide
  have hl := lv_entry ([.ref dv, .ref pe, .int p1, .int p2]) (n := 4) (Nat.le_of_ble_eq_true rfl)
  rw [lg_entry_eq]
  generalize (lg_sl ([.ref dv, .ref pe, .int p1, .int p2]) ++ List.replicate (4 - (lg_sl ([.ref dv, .ref pe, .int p1, .int p2])).length) Slot.unset).toArray = ls at hl ⊢
  have hl : lv_has ls 4 [(0, .ref dv), (1, .ref pe), (2, .int p1), (3, .int p2)] := hl
  have b_p1 := ti_b p1
  have b_p2 := ti_b p2
  refine zz_cap (fun Z hZ1 hZ2 => ?_)
  refine lv_aload_n hx hb dX0_putElapsed_0 rfl (lv_at hl 1 rfl) ?_
  refine lv_iload_n hx hb dX0_putElapsed_1 rfl (lv_at hl 2 rfl) ?_
  refine lv_bipush (v := 104) hx hb dX0_putElapsed_2 (by decide) ?_
  have K_39 : ∀ (z_1 : Int64) (H : Heap) (locs : List Loc) (ls : Array Slot), va_P D vwCl [(dv, .inr (0, [.long dv_seconds, .int dv_thousandths, .int dv_tenthsPut, .int dv_year, .int dv_month, .int dv_day, .int dv_weekday, .int dv_halves])), (pe, .inr (5, [.ref pe_decimal, .ref pe_row, .ref pe_turned, .int pe_length, .int pe_slots, .int pe_slotsPut, .int pe_hidden, .int pe_zeroSeen, .int pe_groups])), (pe_row, .inl (cI, 1024, .inl pe_rowF)), (pe_turned, .inl (cI, 20, .inl pe_turnedF))] H → va_D A [(dv, .inr (0, [.long dv_seconds, .int dv_thousandths, .int dv_tenthsPut, .int dv_year, .int dv_month, .int dv_day, .int dv_weekday, .int dv_halves])), (pe, .inr (5, [.ref pe_decimal, .ref pe_row, .ref pe_turned, .int pe_length, .int pe_slots, .int pe_slotsPut, .int pe_hidden, .int pe_zeroSeen, .int pe_groups])), (pe_row, .inl (cI, 1024, .inl pe_rowF)), (pe_turned, .inl (cI, 20, .inl pe_turnedF))] → va_S A s.heap H locs → lv_has ls 4 [(3, .int p2)] → Z 0 0 H locs (F0 m 39 ls [.long z_1, .ref pe]) := by
    intro z_1 H locs ls  hP hD hS hl
    refine hZ2 ?_
    refine lv_iload_n hx hb dX0_putElapsed_39 rfl (lv_at hl 0 rfl) ?_
    have hPc := hP.sub (ws' := [(pe, .inr (5, [.ref pe_decimal, .ref pe_row, .ref pe_turned, .int pe_length, .int pe_slots, .int pe_slotsPut, .int pe_hidden, .int pe_zeroSeen, .int pe_groups])), (pe_row, .inl (cI, 1024, .inl pe_rowF)), (pe_turned, .inl (cI, 20, .inl pe_turnedF))]) [1, 2, 3] rfl
    have hDc := hD.sub (ws' := [(pe, .inr (5, [.ref pe_decimal, .ref pe_row, .ref pe_turned, .int pe_length, .int pe_slots, .int pe_slotsPut, .int pe_hidden, .int pe_zeroSeen, .int pe_groups])), (pe_row, .inl (cI, 1024, .inl pe_rowF)), (pe_turned, .inl (cI, 20, .inl pe_turnedF))]) [1, 2, 3] (by decide) rfl
    have hFc := va_free (wc := [(pe, .inr (5, [.ref pe_decimal, .ref pe_row, .ref pe_turned, .int pe_length, .int pe_slots, .int pe_slotsPut, .int pe_hidden, .int pe_zeroSeen, .int pe_groups])), (pe_row, .inl (cI, 1024, .inl pe_rowF)), (pe_turned, .inl (cI, 20, .inl pe_turnedF))]) hD hS hA [1, 2, 3] rfl
    refine va_callv (va_runV (As := [.long z_1, .int p2]) (rest := []) ⟨hx, hb, hml, hown, hts⟩ (c_X7_addNumber l D cI cD cJ H.size pe pe_decimal pe_row pe_turned pe_length pe_slots pe_slotsPut pe_hidden pe_zeroSeen pe_groups pe_rowF pe_turnedF z_1 p2 (by omega) (by omega) (by omega) (by omega)) (cwV 2 hts (goodIn_app (goodIn_r _ [1, 2, 3, 4] rfl (by decide +kernel)) (goodIn_sub i_X7_addNumber k_X7_addNumber)) rfl rfl rfl (by decide +kernel) ⟨Nat.le_of_ble_eq_true rfl, Nat.le_of_ble_eq_true rfl⟩) ⟨fun a U g mk q => by obtain ⟨q0, q1, qP, qK, qD⟩ := q; exact ⟨q0, q1, qP, va_K.moved (u := U) (U := U.calling g mk a) (Vm.Alike.refl U.vm) qK, qD⟩, va_recv hK hPc (ci := 5) (q0 := 0) rfl rfl, fun U hU hW => ⟨rfl, by rw [hU], by rw [hU]; exact hPc, va_K.moved hW.alike hK, hDc.weaken (fun _ _ _ _ => trivial)⟩⟩ rfl rfl hl.1 rfl (lv_room (Nat.le_of_ble_eq_true rfl)) dX0_putElapsed_40 ⟨Nat.le_of_ble_eq_true rfl, Nat.le_of_ble_eq_true rfl⟩) hS (fun q _ h => hFc q h) hFc (fun u t H1 locs ht hvm w_2 hB hz1 hk1 hS => ?_)
    obtain ⟨u_3, u_4, u_5⟩ := u
    obtain ⟨hP1, hK1, hD1⟩ := hB
    rw [ht] at hP1
    try dsimp only at w_2
    obtain ⟨hP, hD⟩ := va_join (wr := [(dv, .inr (0, [.long dv_seconds, .int dv_thousandths, .int dv_tenthsPut, .int dv_year, .int dv_month, .int dv_day, .int dv_weekday, .int dv_halves]))]) (w1 := [(pe, .inr (5, [.ref pe_decimal, .ref pe_row, .ref pe_turned, .int u_3, .int pe_slots, .int pe_slotsPut, .int pe_hidden, .int pe_zeroSeen, .int pe_groups])), (pe_row, .inl (cI, 1024, .inl u_4)), (pe_turned, .inl (cI, 20, .inl u_5))]) hP hD [1, 2, 3] [0] rfl rfl (by decide) (by decide) hk1 hFc hP1 hD1
    generalize H1 = H at hP hS ⊢
    have hP : va_P D vwCl [(dv, .inr (0, [.long dv_seconds, .int dv_thousandths, .int dv_tenthsPut, .int dv_year, .int dv_month, .int dv_day, .int dv_weekday, .int dv_halves])), (pe, .inr (5, [.ref pe_decimal, .ref pe_row, .ref pe_turned, .int u_3, .int pe_slots, .int pe_slotsPut, .int pe_hidden, .int pe_zeroSeen, .int pe_groups])), (pe_row, .inl (cI, 1024, .inl u_4)), (pe_turned, .inl (cI, 20, .inl u_5))] H := hP
    have hD : va_D A [(dv, .inr (0, [.long dv_seconds, .int dv_thousandths, .int dv_tenthsPut, .int dv_year, .int dv_month, .int dv_day, .int dv_weekday, .int dv_halves])), (pe, .inr (5, [.ref pe_decimal, .ref pe_row, .ref pe_turned, .int u_3, .int pe_slots, .int pe_slotsPut, .int pe_hidden, .int pe_zeroSeen, .int pe_groups])), (pe_row, .inl (cI, 1024, .inl u_4)), (pe_turned, .inl (cI, 20, .inl u_5))] := hD
    have hP9 := hP.sub (ws' := [(dv, .inr (0, [.long dv_seconds, .int dv_thousandths, .int dv_tenthsPut, .int dv_year, .int dv_month, .int dv_day, .int dv_weekday, .int dv_halves])), (pe, .inr (5, [.ref pe_decimal, .ref pe_row, .ref pe_turned, .int u_3, .int pe_slots, .int pe_slotsPut, .int pe_hidden, .int pe_zeroSeen, .int pe_groups])), (pe_row, .inl (cI, 1024, .inl u_4)), (pe_turned, .inl (cI, 20, .inl u_5))]) [0, 1, 2, 3] rfl
    have hD9 := hD.sub (ws' := [(dv, .inr (0, [.long dv_seconds, .int dv_thousandths, .int dv_tenthsPut, .int dv_year, .int dv_month, .int dv_day, .int dv_weekday, .int dv_halves])), (pe, .inr (5, [.ref pe_decimal, .ref pe_row, .ref pe_turned, .int u_3, .int pe_slots, .int pe_slotsPut, .int pe_hidden, .int pe_zeroSeen, .int pe_groups])), (pe_row, .inl (cI, 1024, .inl u_4)), (pe_turned, .inl (cI, 20, .inl u_5))]) [0, 1, 2, 3] (by decide) rfl
    exact W.vret hx hb hr (fun t ht hW => ⟨⟨(u_3, u_4, u_5), rfl, (by (try dsimp only); first | omega | assumption), by rw [ht]; exact hP9, va_K.moved hW.alike hK, hD9⟩, hS.F ht⟩) hS.2.2 dX0_putElapsed_43
  refine lv_icmp_ne (tgt := 18) hx hb dX0_putElapsed_4 (by decide) (fun c_6 => ?_) (fun c_6 => ?_)
  · have ic_6 : ¬ ((p1 : Int32).toInt = (104 : Int32).toInt) := fun h9 => c_6 ((fa_eq p1 104).mpr h9)
    refine lv_iload_n hx hb dX0_putElapsed_18 rfl (lv_at hl 2 rfl) ?_
    refine lv_bipush (v := 109) hx hb dX0_putElapsed_19 (by decide) ?_
    refine lv_icmp_ne (tgt := 35) hx hb dX0_putElapsed_21 (by decide) (fun c_7 => ?_) (fun c_7 => ?_)
    · have ic_7 : ¬ ((p1 : Int32).toInt = (109 : Int32).toInt) := fun h9 => c_7 ((fa_eq p1 109).mpr h9)
      refine lv_aload_n hx hb dX0_putElapsed_35 rfl (lv_at hl 0 rfl) ?_
      refine va_get (D := D) (ci := 0) (v := .long dv_seconds) (C := RX0) (T := TX0) (N := 8) hx hb hts iX0 hown hK hP 0 rfl rfl 0 (by decide) (hw 4 (.fieldLink RX0 87 "NumberFormats$DateView" "seconds" "J") rfl) (fun _ h9 => h9) rfl dX0_putElapsed_36 ?_
      exact hZ1 (K_39 dv_seconds _ _ _ hP hD hS (lv_sub hl [3] rfl))
    · have ic_7 : (p1 : Int32).toInt = (109 : Int32).toInt := (fa_eq p1 109).mp c_7
      refine lv_aload_n hx hb dX0_putElapsed_24 rfl (lv_at hl 0 rfl) ?_
      refine va_get (D := D) (ci := 0) (v := .long dv_seconds) (C := RX0) (T := TX0) (N := 8) hx hb hts iX0 hown hK hP 0 rfl rfl 0 (by decide) (hw 4 (.fieldLink RX0 87 "NumberFormats$DateView" "seconds" "J") rfl) (fun _ h9 => h9) rfl dX0_putElapsed_25 ?_
      refine lv_ldc2 (v := 60) hx hb hown (hw 5 (.constantLong RX0 126 (60)) rfl) dX0_putElapsed_28 ?_
      refine lv_ldiv hx hb dX0_putElapsed_31 (by decide) ?_
      refine lv_topl (fun y_8 ey_8 => ?_)
      have ty_8 := tl_div ey_8 (by decide)
      rw [nl_60] at ty_8
      refine lv_goto (tgt := 39) hx hb dX0_putElapsed_32 (by decide) ?_
      exact hZ1 (K_39 y_8 _ _ _ hP hD hS (lv_sub hl [3] rfl))
  · have ic_6 : (p1 : Int32).toInt = (104 : Int32).toInt := (fa_eq p1 104).mp c_6
    refine lv_aload_n hx hb dX0_putElapsed_7 rfl (lv_at hl 0 rfl) ?_
    refine va_get (D := D) (ci := 0) (v := .long dv_seconds) (C := RX0) (T := TX0) (N := 8) hx hb hts iX0 hown hK hP 0 rfl rfl 0 (by decide) (hw 4 (.fieldLink RX0 87 "NumberFormats$DateView" "seconds" "J") rfl) (fun _ h9 => h9) rfl dX0_putElapsed_8 ?_
    refine lv_ldc2 (v := 3600) hx hb hown (hw 6 (.constantLong RX0 146 (3600)) rfl) dX0_putElapsed_11 ?_
    refine lv_ldiv hx hb dX0_putElapsed_14 (by decide) ?_
    refine lv_topl (fun y_9 ey_9 => ?_)
    have ty_9 := tl_div ey_9 (by decide)
    rw [nl_3600] at ty_9
    refine lv_goto (tgt := 39) hx hb dX0_putElapsed_15 (by decide) ?_
    exact hZ1 (K_39 y_9 _ _ _ hP hD hS (lv_sub hl [3] rfl))

