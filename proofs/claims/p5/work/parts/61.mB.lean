def ow_X12_has : List Cond := []
def pw_X12_has : List Cond := Cond.code yX12_has cX12_has 6 (some .boolean) :: (ow_X12_has)
set_option maxRecDepth 20000 in
theorem mo_X12_has : ∀ w ∈ ow_X12_has, w ∈ lw_tbl := by decide +kernel
set_option maxRecDepth 20000 in
theorem mc_X12_has : Cond.code yX12_has cX12_has 6 (some .boolean) ∈ lw_tbl := by decide +kernel
theorem m_X12_has : ∀ w ∈ pw_X12_has, w ∈ lw_tbl := List.forall_mem_cons.mpr ⟨mc_X12_has, mo_X12_has⟩
theorem ko_X12_has : ∀ w ∈ ow_X12_has, goodWord w = true := by decide +kernel
theorem k_X12_has : pw_X12_has.all goodWord = true := List.all_eq_true.mpr (List.forall_mem_cons.mpr ⟨by decide +kernel, ko_X12_has⟩)
set_option maxHeartbeats 400000 in
set_option maxRecDepth 100000 in
theorem c_X12_has (l : Launch) (D : va_G) (cI cD cJ : ClassId) (sz : Nat) (ar_kinds : Nat) (ar_kindsF : Nat → Int32) (p1 : Int32) (p2 : Int32) (p3 : Int32) (hh0 : 0 ≤ p1.toInt) (hh1 : p1.toInt ≤ 258) (hh2 : p2.toInt ≤ 258) : Met l yX12_has pw_X12_has ({ frames := 0, cells := 0, slots := 0, locals := 0 }) (va_Pc [.ref ar_kinds, .int p1, .int p2, .int p3] (fun U => va_P D vwCl [(ar_kinds, .inl (cI, 260, .inl ar_kindsF))] U.heap ∧ va_K D vwCl (ty3 cI cD cJ) U)) (va_Qi (fun (r : Int32) (u : Unit) => (r.toInt = 0 ∨ r.toInt = 1)) (fun _ _ => True) (fun _ => False)) 0 0 (fun _ => False) := by
  refine Met.ofW (cc := cX12_has) (maxL := 6) (ret := (some .boolean)) (by decide +kernel) rfl ?_
  intro p e s m args below meth c s₁ B hml hv
  obtain ⟨rfl, hP, hK⟩ := hv
  have hx := B.exec
  have hb := B.bytes
  have hr := B.returns
  have hts := atoms_spec (ws := pw_X12_has) B.pre
  have hown : s.vm.findClass RX12 = some m.cls := findClass_of_methodNamed B.named
  have hlocks := B.notSynchronized
  have hS : va_S (fun _ => False) s.heap s.heap [] := va_S.rf
  have hw : ∀ (k : Nat) (w : Cond), ow_X12_has[k]? = some w → w.before _ s = true := fun k w h => hts w (List.mem_cons_of_mem _ (have h9 := List.mem_of_getElem? h; h9))
  have n_0 : ((0 : Int32)).toInt = 0 := by decide
  have n_1 : ((1 : Int32)).toInt = 1 := by decide
  have hl := lv_entry ([.ref ar_kinds, .int p1, .int p2, .int p3]) (n := 6) (Nat.le_of_ble_eq_true rfl)
  rw [lg_entry_eq]
  generalize (lg_sl ([.ref ar_kinds, .int p1, .int p2, .int p3]) ++ List.replicate (6 - (lg_sl ([.ref ar_kinds, .int p1, .int p2, .int p3])).length) Slot.unset).toArray = ls at hl ⊢
  have hl : lv_has ls 6 [(0, .ref ar_kinds), (1, .int p1), (2, .int p2), (3, .int p3)] := hl
  have b_p1 := ti_b p1
  have b_p2 := ti_b p2
  have b_p3 := ti_b p3
  refine zz_cap (fun Z hZ1 hZ2 => ?_)
  refine lv_iconst (v := 0) hx hb dX12_has_0 (by decide) ?_
  refine lv_istore (lv' := [(4, .int 0), (0, .ref ar_kinds), (1, .int p1), (2, .int p2), (3, .int p3)]) hx hb dX12_has_1 hl (by decide) rfl (fun ls hl => ?_)
  refine lv_iload_n hx hb dX12_has_3 rfl (lv_at hl 2 rfl) ?_
  refine lv_istore (lv' := [(5, .int p1), (4, .int 0), (0, .ref ar_kinds), (1, .int p1), (2, .int p2), (3, .int p3)]) hx hb dX12_has_4 hl (by decide) rfl (fun ls hl => ?_)
  have L_6 : ∀ (N : Nat) (x_1 : Int32) (x_2 : Int32) (H : Heap) (locs : List Loc) (ls : Array Slot), (p1.toInt ≤ (x_1 : Int32).toInt) → ((x_2 : Int32).toInt = 0 ∨ (x_2 : Int32).toInt = 1) → ((2147483647 - (x_1 : Int32).toInt).toNat < N) → va_P D vwCl [(ar_kinds, .inl (cI, 260, .inl ar_kindsF))] H → va_S (fun _ => False) s.heap H locs → lv_has ls 6 [(5, .int x_1), (4, .int x_2), (0, .ref ar_kinds), (2, .int p2), (3, .int p3)] → Z 0 0 H locs (F0 m 6 ls []) := by
    intro N
    induction N with
    | zero => intro _ _ _ _ _ _ _ hmu; exact absurd hmu (Nat.not_lt_zero _)
    | succ N ih_6 =>
      intro x_1 x_2 H locs ls g6_0 g6_1 hmu hP hS hl
      refine hZ2 ?_
      refine lv_iload hx hb dX12_has_6 (lv_at hl 0 rfl) ?_
      refine lv_iload_n hx hb dX12_has_8 rfl (lv_at hl 3 rfl) ?_
      refine lv_icmp_ge (tgt := 38) hx hb dX12_has_9 (by decide) (fun c_3 => ?_) (fun c_3 => ?_)
      · have ic_3 : (p2 : Int32).toInt ≤ (x_1 : Int32).toInt := (fa_le p2 x_1).mp c_3
        refine lv_iload hx hb dX12_has_38 (lv_at hl 1 rfl) ?_
        exact W.zret (v := x_2) hx hb hr (nz01 (by omega)) (fun t ht hW => ⟨⟨x_2, (), rfl, (by (try dsimp only); first | omega | assumption), trivial⟩, hS.F ht⟩) hS.2.2 dX12_has_40
      · have ic_3 : ¬ ((p2 : Int32).toInt ≤ (x_1 : Int32).toInt) := fun h9 => c_3 ((fa_le p2 x_1).mpr h9)
        refine lv_iload hx hb dX12_has_12 (lv_at hl 1 rfl) ?_
        have K_30 : ∀ (z_4 : Int32) (H : Heap) (locs : List Loc) (ls : Array Slot), ((z_4 : Int32).toInt = 0 ∨ (z_4 : Int32).toInt = 1) → va_P D vwCl [(ar_kinds, .inl (cI, 260, .inl ar_kindsF))] H → va_S (fun _ => False) s.heap H locs → lv_has ls 6 [(5, .int x_1), (0, .ref ar_kinds), (2, .int p2), (3, .int p3)] → Z 0 0 H locs (F0 m 30 ls [.int z_4]) := by
          intro z_4 H locs ls g30_0 hP hS hl
          refine hZ2 ?_
          refine lv_istore (lv' := [(4, .int z_4), (5, .int x_1), (0, .ref ar_kinds), (2, .int p2), (3, .int p3)]) hx hb dX12_has_30 hl (by decide) rfl (fun ls hl => ?_)
          obtain ⟨x_5, ex_5⟩ : ∃ y : Int32, y = x_1 + 1 := ⟨_, rfl⟩
          have b_x_1 := ti_b x_1
          have tx_5 := ti_add ex_5
          refine lv_iinc (v := x_5) (lv' := [(5, .int x_5), (4, .int z_4), (0, .ref ar_kinds), (2, .int p2), (3, .int p3)]) hx hb dX12_has_32 hl (k := 1) rfl (by rw [ex_5]; rfl) (by decide) rfl (fun ls hl => ?_)
          refine lv_goto (tgt := 6) hx hb dX12_has_35 (by decide) ?_
          exact hZ1 (ih_6 x_5 z_4 _ _ _ (by omega) (by omega) (by omega) hP hS hl)
        have K_25 : ∀ (H : Heap) (locs : List Loc) (ls : Array Slot), va_P D vwCl [(ar_kinds, .inl (cI, 260, .inl ar_kindsF))] H → va_S (fun _ => False) s.heap H locs → lv_has ls 6 [(5, .int x_1), (0, .ref ar_kinds), (2, .int p2), (3, .int p3)] → Z 0 0 H locs (F0 m 25 ls []) := by
          intro  H locs ls  hP hS hl
          refine hZ2 ?_
          refine lv_iconst (v := 1) hx hb dX12_has_25 (by decide) ?_
          refine lv_goto (tgt := 30) hx hb dX12_has_26 (by decide) ?_
          exact hZ1 (K_30 1 _ _ _ (by omega) hP hS hl)
        refine lv_if_ne (tgt := 25) hx hb dX12_has_14 (by decide) (fun c_6 => ?_) (fun c_6 => ?_)
        · have ic_6 : ¬ ((x_2 : Int32).toInt = (0 : Int32).toInt) := fun h9 => c_6 ((fa_eq x_2 0).mpr h9)
          exact hZ1 (K_25  _ _ _ hP hS (lv_sub hl [0, 2, 3, 4] rfl))
        · have ic_6 : (x_2 : Int32).toInt = (0 : Int32).toInt := (fa_eq x_2 0).mp c_6
          refine lv_aload_n hx hb dX12_has_17 rfl (lv_at hl 2 rfl) ?_
          refine lv_iload hx hb dX12_has_18 (lv_at hl 0 rfl) ?_
          have h_20 : vp_in x_1 260 := by rw [vp_in_iff]; omega
          refine va_iald hx hb hK hP 0 0 rfl rfl h_20 dX12_has_20 ?_
          refine lv_topi (fun x_7 ex_7 => ?_)
          refine lv_iload_n hx hb dX12_has_21 rfl (lv_at hl 4 rfl) ?_
          refine lv_icmp_ne (tgt := 29) hx hb dX12_has_22 (by decide) (fun c_8 => ?_) (fun c_8 => ?_)
          · have ic_8 : ¬ ((x_7 : Int32).toInt = (p3 : Int32).toInt) := fun h9 => c_8 ((fa_eq x_7 p3).mpr h9)
            refine lv_iconst (v := 0) hx hb dX12_has_29 (by decide) ?_
            exact hZ1 (K_30 0 _ _ _ (by omega) hP hS (lv_sub hl [0, 2, 3, 4] rfl))
          · have ic_8 : (x_7 : Int32).toInt = (p3 : Int32).toInt := (fa_eq x_7 p3).mp c_8
            exact hZ1 (K_25  _ _ _ hP hS (lv_sub hl [0, 2, 3, 4] rfl))
  exact hZ1 (L_6 (((2147483647 - (p1 : Int32).toInt).toNat) + 1) p1 0 _ _ _ (by omega) (by omega) (by omega) hP hS (lv_sub hl [0, 1, 2, 4, 5] rfl))

def ow_X12_sortOf : List Cond := [Cond.methodLink RX12 225 yX12_has, Cond.static yX12_has, Cond.initialized RX12]
def pw_X12_sortOf : List Cond := Cond.code yX12_sortOf cX12_sortOf 3 (some .int) :: (ow_X12_sortOf ++ (pw_X12_has))
set_option maxRecDepth 20000 in
theorem mo_X12_sortOf : ∀ w ∈ ow_X12_sortOf, w ∈ lw_tbl := by decide +kernel
set_option maxRecDepth 20000 in
theorem mc_X12_sortOf : Cond.code yX12_sortOf cX12_sortOf 3 (some .int) ∈ lw_tbl := by decide +kernel
theorem m_X12_sortOf : ∀ w ∈ pw_X12_sortOf, w ∈ lw_tbl := List.forall_mem_cons.mpr ⟨mc_X12_sortOf, (List.forall_mem_append.mpr ⟨mo_X12_sortOf, m_X12_has⟩)⟩
theorem ko_X12_sortOf : ∀ w ∈ ow_X12_sortOf, goodWord w = true := by decide +kernel
theorem k_X12_sortOf : pw_X12_sortOf.all goodWord = true := List.all_eq_true.mpr (List.forall_mem_cons.mpr ⟨by decide +kernel, (List.forall_mem_append.mpr ⟨ko_X12_sortOf, (List.all_eq_true.mp k_X12_has)⟩)⟩)
set_option maxHeartbeats 400000 in
set_option maxRecDepth 100000 in
theorem c_X12_sortOf (l : Launch) (D : va_G) (cI cD cJ : ClassId) (sz : Nat) (ar_kinds : Nat) (ar_kindsF : Nat → Int32) (p1 : Int32) (p2 : Int32) (hh0 : 0 ≤ p1.toInt) (hh1 : p1.toInt ≤ 258) (hh2 : p2.toInt ≤ 258) : Met l yX12_sortOf pw_X12_sortOf ({ frames := 1, cells := 0, slots := 0, locals := 25 }) (va_Pc [.ref ar_kinds, .int p1, .int p2] (fun U => va_P D vwCl [(ar_kinds, .inl (cI, 260, .inl ar_kindsF))] U.heap ∧ va_K D vwCl (ty3 cI cD cJ) U)) (va_Qi (fun (r : Int32) (u : Unit) => True) (fun _ _ => True) (fun _ => False)) 0 0 (fun _ => False) := by
  refine Met.ofW (cc := cX12_sortOf) (maxL := 3) (ret := (some .int)) (by decide +kernel) rfl ?_
  intro p e s m args below meth c s₁ B hml hv
  obtain ⟨rfl, hP, hK⟩ := hv
  have hx := B.exec
  have hb := B.bytes
  have hr := B.returns
  have hts := atoms_spec (ws := pw_X12_sortOf) B.pre
  have hown : s.vm.findClass RX12 = some m.cls := findClass_of_methodNamed B.named
  have hlocks := B.notSynchronized
  have hS : va_S (fun _ => False) s.heap s.heap [] := va_S.rf
  have hw : ∀ (k : Nat) (w : Cond), ow_X12_sortOf[k]? = some w → w.before _ s = true := fun k w h => hts w (List.mem_cons_of_mem _ (have h9 := List.mem_of_getElem? h; List.mem_append_left _ h9))
  have i_X12_has : ∀ w ∈ pw_X12_has, w ∈ pw_X12_sortOf := fun w h9 => List.mem_cons_of_mem _ (List.mem_append_right _ (h9))
  have n_0 : ((0 : Int32)).toInt = 0 := by decide
  have n_1 : ((1 : Int32)).toInt = 1 := by decide
  have n_10 : ((10 : Int32)).toInt = 10 := by decide
  have n_12 : ((12 : Int32)).toInt = 12 := by decide
  have n_2 : ((2 : Int32)).toInt = 2 := by decide
  have n_3 : ((3 : Int32)).toInt = 3 := by decide
  have n_6 : ((6 : Int32)).toInt = 6 := by decide
  have n_8 : ((8 : Int32)).toInt = 8 := by decide
  have n_9 : ((9 : Int32)).toInt = 9 := by decide
  have hl := lv_entry ([.ref ar_kinds, .int p1, .int p2]) (n := 3) (Nat.le_of_ble_eq_true rfl)
  rw [lg_entry_eq]
  generalize (lg_sl ([.ref ar_kinds, .int p1, .int p2]) ++ List.replicate (3 - (lg_sl ([.ref ar_kinds, .int p1, .int p2])).length) Slot.unset).toArray = ls at hl ⊢
  have hl : lv_has ls 3 [(0, .ref ar_kinds), (1, .int p1), (2, .int p2)] := hl
  have b_p1 := ti_b p1
  have b_p2 := ti_b p2
  refine lv_aload_n hx hb dX12_sortOf_0 rfl (lv_at hl 0 rfl) ?_
  refine lv_iload_n hx hb dX12_sortOf_1 rfl (lv_at hl 1 rfl) ?_
  refine lv_iload_n hx hb dX12_sortOf_2 rfl (lv_at hl 2 rfl) ?_
  refine lv_bipush (v := 10) hx hb dX12_sortOf_3 (by decide) ?_
  have hPc := hP.sub (ws' := [(ar_kinds, .inl (cI, 260, .inl ar_kindsF))]) [0] rfl
  refine va_calli (va_runS (As := [.ref ar_kinds, .int p1, .int p2, .int 10]) (rest := []) ⟨hx, hb, hml, hown, hts⟩ (c_X12_has l D cI cD cJ s.heap.size ar_kinds ar_kindsF p1 p2 10 (by omega) (by omega) (by omega)) (va_cwS 4 hts (goodIn_app (goodIn_r _ [1, 2, 3] rfl (by decide +kernel)) (goodIn_sub i_X12_has k_X12_has)) rfl rfl rfl (by decide +kernel) ⟨Nat.le_of_ble_eq_true rfl, Nat.le_of_ble_eq_true rfl⟩) ⟨fun a U g mk q => by obtain ⟨q0, qP, qK⟩ := q; exact ⟨q0, qP, va_K.moved (u := U) (U := U.calling g mk a) (Vm.Alike.refl U.vm) qK⟩, fun U hU hW => ⟨rfl, by rw [hU]; exact hPc, va_K.moved hW.alike hK⟩⟩ rfl rfl hl.1 rfl (lv_room (Nat.le_of_ble_eq_true rfl)) dX12_sortOf_5 ⟨Nat.le_of_ble_eq_true rfl, Nat.le_of_ble_eq_true rfl⟩) hS (fun q _ h => h.elim) (fun q h => h.elim) (fun x_1 u t H1 locs ht hvm w_2 hB hz1 hk1 hS => ?_)
  have hP : va_P D vwCl [(ar_kinds, .inl (cI, 260, .inl ar_kindsF))] H1 := hP.kept (fun k9 q9 h9 => hk1 q9.1 (vx_lt hP h9) (fun h => h))
  generalize H1 = H at hP hS ⊢
  try dsimp only at w_2
  have b_x_1 := ti_b x_1
  refine lv_if_ne (tgt := 33) hx hb dX12_sortOf_8 (by decide) (fun c_3 => ?_) (fun c_3 => ?_)
  · have ic_3 : ¬ ((x_1 : Int32).toInt = (0 : Int32).toInt) := fun h9 => c_3 ((fa_eq x_1 0).mpr h9)
    refine lv_iconst (v := 3) hx hb dX12_sortOf_33 (by decide) ?_
    exact W.iret (v := 3) hx hb hr (fun t ht hW => ⟨⟨3, (), rfl, trivial, trivial⟩, hS.F ht⟩) hS.2.2 dX12_sortOf_34
  · have ic_3 : (x_1 : Int32).toInt = (0 : Int32).toInt := (fa_eq x_1 0).mp c_3
    refine lv_aload_n hx hb dX12_sortOf_11 rfl (lv_at hl 0 rfl) ?_
    refine lv_iload_n hx hb dX12_sortOf_12 rfl (lv_at hl 1 rfl) ?_
    refine lv_iload_n hx hb dX12_sortOf_13 rfl (lv_at hl 2 rfl) ?_
    refine lv_bipush (v := 12) hx hb dX12_sortOf_14 (by decide) ?_
    have hPc := hP.sub (ws' := [(ar_kinds, .inl (cI, 260, .inl ar_kindsF))]) [0] rfl
    refine va_calli (va_runS (As := [.ref ar_kinds, .int p1, .int p2, .int 12]) (rest := []) ⟨hx, hb, hml, hown, hts⟩ (c_X12_has l D cI cD cJ H.size ar_kinds ar_kindsF p1 p2 12 (by omega) (by omega) (by omega)) (va_cwS 4 hts (goodIn_app (goodIn_r _ [1, 2, 3] rfl (by decide +kernel)) (goodIn_sub i_X12_has k_X12_has)) rfl rfl rfl (by decide +kernel) ⟨Nat.le_of_ble_eq_true rfl, Nat.le_of_ble_eq_true rfl⟩) ⟨fun a U g mk q => by obtain ⟨q0, qP, qK⟩ := q; exact ⟨q0, qP, va_K.moved (u := U) (U := U.calling g mk a) (Vm.Alike.refl U.vm) qK⟩, fun U hU hW => ⟨rfl, by rw [hU]; exact hPc, va_K.moved hW.alike hK⟩⟩ rfl rfl hl.1 rfl (lv_room (Nat.le_of_ble_eq_true rfl)) dX12_sortOf_16 ⟨Nat.le_of_ble_eq_true rfl, Nat.le_of_ble_eq_true rfl⟩) hS (fun q _ h => h.elim) (fun q h => h.elim) (fun x_4 u t H1 locs ht hvm w_5 hB hz1 hk1 hS => ?_)
    have hP : va_P D vwCl [(ar_kinds, .inl (cI, 260, .inl ar_kindsF))] H1 := hP.kept (fun k9 q9 h9 => hk1 q9.1 (vx_lt hP h9) (fun h => h))
    generalize H1 = H at hP hS ⊢
    try dsimp only at w_5
    have b_x_4 := ti_b x_4
    refine lv_if_ne (tgt := 33) hx hb dX12_sortOf_19 (by decide) (fun c_6 => ?_) (fun c_6 => ?_)
    · have ic_6 : ¬ ((x_4 : Int32).toInt = (0 : Int32).toInt) := fun h9 => c_6 ((fa_eq x_4 0).mpr h9)
      refine lv_iconst (v := 3) hx hb dX12_sortOf_33 (by decide) ?_
      exact W.iret (v := 3) hx hb hr (fun t ht hW => ⟨⟨3, (), rfl, trivial, trivial⟩, hS.F ht⟩) hS.2.2 dX12_sortOf_34
    · have ic_6 : (x_4 : Int32).toInt = (0 : Int32).toInt := (fa_eq x_4 0).mp c_6
      refine lv_aload_n hx hb dX12_sortOf_22 rfl (lv_at hl 0 rfl) ?_
      refine lv_iload_n hx hb dX12_sortOf_23 rfl (lv_at hl 1 rfl) ?_
      refine lv_iload_n hx hb dX12_sortOf_24 rfl (lv_at hl 2 rfl) ?_
      refine lv_bipush (v := 9) hx hb dX12_sortOf_25 (by decide) ?_
      have hPc := hP.sub (ws' := [(ar_kinds, .inl (cI, 260, .inl ar_kindsF))]) [0] rfl
      refine va_calli (va_runS (As := [.ref ar_kinds, .int p1, .int p2, .int 9]) (rest := []) ⟨hx, hb, hml, hown, hts⟩ (c_X12_has l D cI cD cJ H.size ar_kinds ar_kindsF p1 p2 9 (by omega) (by omega) (by omega)) (va_cwS 4 hts (goodIn_app (goodIn_r _ [1, 2, 3] rfl (by decide +kernel)) (goodIn_sub i_X12_has k_X12_has)) rfl rfl rfl (by decide +kernel) ⟨Nat.le_of_ble_eq_true rfl, Nat.le_of_ble_eq_true rfl⟩) ⟨fun a U g mk q => by obtain ⟨q0, qP, qK⟩ := q; exact ⟨q0, qP, va_K.moved (u := U) (U := U.calling g mk a) (Vm.Alike.refl U.vm) qK⟩, fun U hU hW => ⟨rfl, by rw [hU]; exact hPc, va_K.moved hW.alike hK⟩⟩ rfl rfl hl.1 rfl (lv_room (Nat.le_of_ble_eq_true rfl)) dX12_sortOf_27 ⟨Nat.le_of_ble_eq_true rfl, Nat.le_of_ble_eq_true rfl⟩) hS (fun q _ h => h.elim) (fun q h => h.elim) (fun x_7 u t H1 locs ht hvm w_8 hB hz1 hk1 hS => ?_)
      have hP : va_P D vwCl [(ar_kinds, .inl (cI, 260, .inl ar_kindsF))] H1 := hP.kept (fun k9 q9 h9 => hk1 q9.1 (vx_lt hP h9) (fun h => h))
      generalize H1 = H at hP hS ⊢
      try dsimp only at w_8
      have b_x_7 := ti_b x_7
      refine lv_if_eq (tgt := 35) hx hb dX12_sortOf_30 (by decide) (fun c_9 => ?_) (fun c_9 => ?_)
      · have ic_9 : (x_7 : Int32).toInt = (0 : Int32).toInt := (fa_eq x_7 0).mp c_9
        refine lv_aload_n hx hb dX12_sortOf_35 rfl (lv_at hl 0 rfl) ?_
        refine lv_iload_n hx hb dX12_sortOf_36 rfl (lv_at hl 1 rfl) ?_
        refine lv_iload_n hx hb dX12_sortOf_37 rfl (lv_at hl 2 rfl) ?_
        refine lv_bipush (v := 6) hx hb dX12_sortOf_38 (by decide) ?_
        have hPc := hP.sub (ws' := [(ar_kinds, .inl (cI, 260, .inl ar_kindsF))]) [0] rfl
        refine va_calli (va_runS (As := [.ref ar_kinds, .int p1, .int p2, .int 6]) (rest := []) ⟨hx, hb, hml, hown, hts⟩ (c_X12_has l D cI cD cJ H.size ar_kinds ar_kindsF p1 p2 6 (by omega) (by omega) (by omega)) (va_cwS 4 hts (goodIn_app (goodIn_r _ [1, 2, 3] rfl (by decide +kernel)) (goodIn_sub i_X12_has k_X12_has)) rfl rfl rfl (by decide +kernel) ⟨Nat.le_of_ble_eq_true rfl, Nat.le_of_ble_eq_true rfl⟩) ⟨fun a U g mk q => by obtain ⟨q0, qP, qK⟩ := q; exact ⟨q0, qP, va_K.moved (u := U) (U := U.calling g mk a) (Vm.Alike.refl U.vm) qK⟩, fun U hU hW => ⟨rfl, by rw [hU]; exact hPc, va_K.moved hW.alike hK⟩⟩ rfl rfl hl.1 rfl (lv_room (Nat.le_of_ble_eq_true rfl)) dX12_sortOf_40 ⟨Nat.le_of_ble_eq_true rfl, Nat.le_of_ble_eq_true rfl⟩) hS (fun q _ h => h.elim) (fun q h => h.elim) (fun x_10 u t H1 locs ht hvm w_11 hB hz1 hk1 hS => ?_)
        have hP : va_P D vwCl [(ar_kinds, .inl (cI, 260, .inl ar_kindsF))] H1 := hP.kept (fun k9 q9 h9 => hk1 q9.1 (vx_lt hP h9) (fun h => h))
        generalize H1 = H at hP hS ⊢
        try dsimp only at w_11
        have b_x_10 := ti_b x_10
        refine lv_if_eq (tgt := 50) hx hb dX12_sortOf_43 (by decide) (fun c_12 => ?_) (fun c_12 => ?_)
        · have ic_12 : (x_10 : Int32).toInt = (0 : Int32).toInt := (fa_eq x_10 0).mp c_12
          refine lv_aload_n hx hb dX12_sortOf_50 rfl (lv_at hl 0 rfl) ?_
          refine lv_iload_n hx hb dX12_sortOf_51 rfl (lv_at hl 1 rfl) ?_
          refine lv_iload_n hx hb dX12_sortOf_52 rfl (lv_at hl 2 rfl) ?_
          refine lv_bipush (v := 8) hx hb dX12_sortOf_53 (by decide) ?_
          have hPc := hP.sub (ws' := [(ar_kinds, .inl (cI, 260, .inl ar_kindsF))]) [0] rfl
          refine va_calli (va_runS (As := [.ref ar_kinds, .int p1, .int p2, .int 8]) (rest := []) ⟨hx, hb, hml, hown, hts⟩ (c_X12_has l D cI cD cJ H.size ar_kinds ar_kindsF p1 p2 8 (by omega) (by omega) (by omega)) (va_cwS 4 hts (goodIn_app (goodIn_r _ [1, 2, 3] rfl (by decide +kernel)) (goodIn_sub i_X12_has k_X12_has)) rfl rfl rfl (by decide +kernel) ⟨Nat.le_of_ble_eq_true rfl, Nat.le_of_ble_eq_true rfl⟩) ⟨fun a U g mk q => by obtain ⟨q0, qP, qK⟩ := q; exact ⟨q0, qP, va_K.moved (u := U) (U := U.calling g mk a) (Vm.Alike.refl U.vm) qK⟩, fun U hU hW => ⟨rfl, by rw [hU]; exact hPc, va_K.moved hW.alike hK⟩⟩ rfl rfl hl.1 rfl (lv_room (Nat.le_of_ble_eq_true rfl)) dX12_sortOf_55 ⟨Nat.le_of_ble_eq_true rfl, Nat.le_of_ble_eq_true rfl⟩) hS (fun q _ h => h.elim) (fun q h => h.elim) (fun x_13 u t H1 locs ht hvm w_14 hB hz1 hk1 hS => ?_)
          have hP : va_P D vwCl [(ar_kinds, .inl (cI, 260, .inl ar_kindsF))] H1 := hP.kept (fun k9 q9 h9 => hk1 q9.1 (vx_lt hP h9) (fun h => h))
          generalize H1 = H at hP hS ⊢
          try dsimp only at w_14
          have b_x_13 := ti_b x_13
          refine lv_if_eq (tgt := 66) hx hb dX12_sortOf_58 (by decide) (fun c_15 => ?_) (fun c_15 => ?_)
          · have ic_15 : (x_13 : Int32).toInt = (0 : Int32).toInt := (fa_eq x_13 0).mp c_15
            refine lv_aload_n hx hb dX12_sortOf_66 rfl (lv_at hl 0 rfl) ?_
            refine lv_iload_n hx hb dX12_sortOf_67 rfl (lv_at hl 1 rfl) ?_
            refine lv_iload_n hx hb dX12_sortOf_68 rfl (lv_at hl 2 rfl) ?_
            refine lv_iconst (v := 1) hx hb dX12_sortOf_69 (by decide) ?_
            have hPc := hP.sub (ws' := [(ar_kinds, .inl (cI, 260, .inl ar_kindsF))]) [0] rfl
            refine va_calli (va_runS (As := [.ref ar_kinds, .int p1, .int p2, .int 1]) (rest := []) ⟨hx, hb, hml, hown, hts⟩ (c_X12_has l D cI cD cJ H.size ar_kinds ar_kindsF p1 p2 1 (by omega) (by omega) (by omega)) (va_cwS 4 hts (goodIn_app (goodIn_r _ [1, 2, 3] rfl (by decide +kernel)) (goodIn_sub i_X12_has k_X12_has)) rfl rfl rfl (by decide +kernel) ⟨Nat.le_of_ble_eq_true rfl, Nat.le_of_ble_eq_true rfl⟩) ⟨fun a U g mk q => by obtain ⟨q0, qP, qK⟩ := q; exact ⟨q0, qP, va_K.moved (u := U) (U := U.calling g mk a) (Vm.Alike.refl U.vm) qK⟩, fun U hU hW => ⟨rfl, by rw [hU]; exact hPc, va_K.moved hW.alike hK⟩⟩ rfl rfl hl.1 rfl (lv_room (Nat.le_of_ble_eq_true rfl)) dX12_sortOf_70 ⟨Nat.le_of_ble_eq_true rfl, Nat.le_of_ble_eq_true rfl⟩) hS (fun q _ h => h.elim) (fun q h => h.elim) (fun x_16 u t H1 locs ht hvm w_17 hB hz1 hk1 hS => ?_)
            have hP : va_P D vwCl [(ar_kinds, .inl (cI, 260, .inl ar_kindsF))] H1 := hP.kept (fun k9 q9 h9 => hk1 q9.1 (vx_lt hP h9) (fun h => h))
            generalize H1 = H at hP hS ⊢
            try dsimp only at w_17
            have b_x_16 := ti_b x_16
            refine lv_if_eq (tgt := 80) hx hb dX12_sortOf_73 (by decide) (fun c_18 => ?_) (fun c_18 => ?_)
            · have ic_18 : (x_16 : Int32).toInt = (0 : Int32).toInt := (fa_eq x_16 0).mp c_18
              refine lv_iconst (v := 0) hx hb dX12_sortOf_80 (by decide) ?_
              exact W.iret (v := 0) hx hb hr (fun t ht hW => ⟨⟨0, (), rfl, trivial, trivial⟩, hS.F ht⟩) hS.2.2 dX12_sortOf_81
            · have ic_18 : ¬ ((x_16 : Int32).toInt = (0 : Int32).toInt) := fun h9 => c_18 ((fa_eq x_16 0).mpr h9)
              refine lv_iconst (v := 1) hx hb dX12_sortOf_76 (by decide) ?_
              refine lv_goto (tgt := 81) hx hb dX12_sortOf_77 (by decide) ?_
              exact W.iret (v := 1) hx hb hr (fun t ht hW => ⟨⟨1, (), rfl, trivial, trivial⟩, hS.F ht⟩) hS.2.2 dX12_sortOf_81
          · have ic_15 : ¬ ((x_13 : Int32).toInt = (0 : Int32).toInt) := fun h9 => c_15 ((fa_eq x_13 0).mpr h9)
            refine lv_bipush (v := 8) hx hb dX12_sortOf_61 (by decide) ?_
            refine lv_goto (tgt := 81) hx hb dX12_sortOf_63 (by decide) ?_
            exact W.iret (v := 8) hx hb hr (fun t ht hW => ⟨⟨8, (), rfl, trivial, trivial⟩, hS.F ht⟩) hS.2.2 dX12_sortOf_81
        · have ic_12 : ¬ ((x_10 : Int32).toInt = (0 : Int32).toInt) := fun h9 => c_12 ((fa_eq x_10 0).mpr h9)
          refine lv_iconst (v := 2) hx hb dX12_sortOf_46 (by decide) ?_
          refine lv_goto (tgt := 81) hx hb dX12_sortOf_47 (by decide) ?_
          exact W.iret (v := 2) hx hb hr (fun t ht hW => ⟨⟨2, (), rfl, trivial, trivial⟩, hS.F ht⟩) hS.2.2 dX12_sortOf_81
      · have ic_9 : ¬ ((x_7 : Int32).toInt = (0 : Int32).toInt) := fun h9 => c_9 ((fa_eq x_7 0).mpr h9)
        refine lv_iconst (v := 3) hx hb dX12_sortOf_33 (by decide) ?_
        exact W.iret (v := 3) hx hb hr (fun t ht hW => ⟨⟨3, (), rfl, trivial, trivial⟩, hS.F ht⟩) hS.2.2 dX12_sortOf_34

def ow_X12_find : List Cond := []
def pw_X12_find : List Cond := Cond.code yX12_find cX12_find 5 (some .int) :: (ow_X12_find)
set_option maxRecDepth 20000 in
theorem mo_X12_find : ∀ w ∈ ow_X12_find, w ∈ lw_tbl := by decide +kernel
set_option maxRecDepth 20000 in
theorem mc_X12_find : Cond.code yX12_find cX12_find 5 (some .int) ∈ lw_tbl := by decide +kernel
theorem m_X12_find : ∀ w ∈ pw_X12_find, w ∈ lw_tbl := List.forall_mem_cons.mpr ⟨mc_X12_find, mo_X12_find⟩
theorem ko_X12_find : ∀ w ∈ ow_X12_find, goodWord w = true := by decide +kernel
theorem k_X12_find : pw_X12_find.all goodWord = true := List.all_eq_true.mpr (List.forall_mem_cons.mpr ⟨by decide +kernel, ko_X12_find⟩)
set_option maxHeartbeats 400000 in
set_option maxRecDepth 100000 in
theorem c_X12_find (l : Launch) (D : va_G) (cI cD cJ : ClassId) (sz : Nat) (ar_kinds : Nat) (ar_kindsF : Nat → Int32) (p1 : Int32) (p2 : Int32) (p3 : Int32) (hh0 : 0 ≤ p1.toInt) (hh1 : p1.toInt ≤ 258) (hh2 : p2.toInt ≤ 258) : Met l yX12_find pw_X12_find ({ frames := 0, cells := 0, slots := 0, locals := 0 }) (va_Pc [.ref ar_kinds, .int p1, .int p2, .int p3] (fun U => va_P D vwCl [(ar_kinds, .inl (cI, 260, .inl ar_kindsF))] U.heap ∧ va_K D vwCl (ty3 cI cD cJ) U)) (va_Qi (fun (r : Int32) (u : Unit) => (p1.toInt ≤ r.toInt ∧ (r.toInt ≤ p2.toInt ∨ r.toInt = p1.toInt))) (fun _ _ => True) (fun _ => False)) 0 0 (fun _ => False) := by
  refine Met.ofW (cc := cX12_find) (maxL := 5) (ret := (some .int)) (by decide +kernel) rfl ?_
  intro p e s m args below meth c s₁ B hml hv
  obtain ⟨rfl, hP, hK⟩ := hv
  have hx := B.exec
  have hb := B.bytes
  have hr := B.returns
  have hts := atoms_spec (ws := pw_X12_find) B.pre
  have hown : s.vm.findClass RX12 = some m.cls := findClass_of_methodNamed B.named
  have hlocks := B.notSynchronized
  have hS : va_S (fun _ => False) s.heap s.heap [] := va_S.rf
  have hw : ∀ (k : Nat) (w : Cond), ow_X12_find[k]? = some w → w.before _ s = true := fun k w h => hts w (List.mem_cons_of_mem _ (have h9 := List.mem_of_getElem? h; h9))
  have n_1 : ((1 : Int32)).toInt = 1 := by decide
  have hl := lv_entry ([.ref ar_kinds, .int p1, .int p2, .int p3]) (n := 5) (Nat.le_of_ble_eq_true rfl)
  rw [lg_entry_eq]
  generalize (lg_sl ([.ref ar_kinds, .int p1, .int p2, .int p3]) ++ List.replicate (5 - (lg_sl ([.ref ar_kinds, .int p1, .int p2, .int p3])).length) Slot.unset).toArray = ls at hl ⊢
  have hl : lv_has ls 5 [(0, .ref ar_kinds), (1, .int p1), (2, .int p2), (3, .int p3)] := hl
  have b_p1 := ti_b p1
  have b_p2 := ti_b p2
  have b_p3 := ti_b p3
  refine zz_cap (fun Z hZ1 hZ2 => ?_)
  refine lv_iload_n hx hb dX12_find_0 rfl (lv_at hl 1 rfl) ?_
  refine lv_istore (lv' := [(4, .int p1), (0, .ref ar_kinds), (1, .int p1), (2, .int p2), (3, .int p3)]) hx hb dX12_find_1 hl (by decide) rfl (fun ls hl => ?_)
  have L_3 : ∀ (N : Nat) (x_1 : Int32) (H : Heap) (locs : List Loc) (ls : Array Slot), (p1.toInt ≤ (x_1 : Int32).toInt) → ((x_1 : Int32).toInt ≤ p2.toInt ∨ (x_1 : Int32).toInt = p1.toInt) → ((2147483647 - (x_1 : Int32).toInt).toNat < N) → va_P D vwCl [(ar_kinds, .inl (cI, 260, .inl ar_kindsF))] H → va_S (fun _ => False) s.heap H locs → lv_has ls 5 [(4, .int x_1), (0, .ref ar_kinds), (2, .int p2), (3, .int p3)] → Z 0 0 H locs (F0 m 3 ls []) := by
    intro N
    induction N with
    | zero => intro _ _ _ _ _ _ hmu; exact absurd hmu (Nat.not_lt_zero _)
    | succ N ih_3 =>
      intro x_1 H locs ls g3_0 g3_1 hmu hP hS hl
      refine hZ2 ?_
      refine lv_iload hx hb dX12_find_3 (lv_at hl 0 rfl) ?_
      refine lv_iload_n hx hb dX12_find_5 rfl (lv_at hl 2 rfl) ?_
      refine lv_icmp_ge (tgt := 23) hx hb dX12_find_6 (by decide) (fun c_2 => ?_) (fun c_2 => ?_)
      · have ic_2 : (p2 : Int32).toInt ≤ (x_1 : Int32).toInt := (fa_le p2 x_1).mp c_2
        refine lv_iload hx hb dX12_find_23 (lv_at hl 0 rfl) ?_
        exact W.iret (v := x_1) hx hb hr (fun t ht hW => ⟨⟨x_1, (), rfl, (by (try dsimp only); first | omega | assumption), trivial⟩, hS.F ht⟩) hS.2.2 dX12_find_25
      · have ic_2 : ¬ ((p2 : Int32).toInt ≤ (x_1 : Int32).toInt) := fun h9 => c_2 ((fa_le p2 x_1).mpr h9)
        refine lv_aload_n hx hb dX12_find_9 rfl (lv_at hl 1 rfl) ?_
        refine lv_iload hx hb dX12_find_10 (lv_at hl 0 rfl) ?_
        have h_12 : vp_in x_1 260 := by rw [vp_in_iff]; omega
        refine va_iald hx hb hK hP 0 0 rfl rfl h_12 dX12_find_12 ?_
        refine lv_topi (fun x_3 ex_3 => ?_)
        refine lv_iload_n hx hb dX12_find_13 rfl (lv_at hl 3 rfl) ?_
        refine lv_icmp_eq (tgt := 23) hx hb dX12_find_14 (by decide) (fun c_4 => ?_) (fun c_4 => ?_)
        · have ic_4 : (x_3 : Int32).toInt = (p3 : Int32).toInt := (fa_eq x_3 p3).mp c_4
          refine lv_iload hx hb dX12_find_23 (lv_at hl 0 rfl) ?_
          exact W.iret (v := x_1) hx hb hr (fun t ht hW => ⟨⟨x_1, (), rfl, (by (try dsimp only); first | omega | assumption), trivial⟩, hS.F ht⟩) hS.2.2 dX12_find_25
        · have ic_4 : ¬ ((x_3 : Int32).toInt = (p3 : Int32).toInt) := fun h9 => c_4 ((fa_eq x_3 p3).mpr h9)
          obtain ⟨x_5, ex_5⟩ : ∃ y : Int32, y = x_1 + 1 := ⟨_, rfl⟩
          have b_x_1 := ti_b x_1
          have tx_5 := ti_add ex_5
          refine lv_iinc (v := x_5) (lv' := [(4, .int x_5), (0, .ref ar_kinds), (2, .int p2), (3, .int p3)]) hx hb dX12_find_17 hl (k := 0) rfl (by rw [ex_5]; rfl) (by decide) rfl (fun ls hl => ?_)
          refine lv_goto (tgt := 3) hx hb dX12_find_20 (by decide) ?_
          exact hZ1 (ih_3 x_5 _ _ _ (by omega) (by omega) (by omega) hP hS hl)
  exact hZ1 (L_3 (((2147483647 - (p1 : Int32).toInt).toNat) + 1) p1 _ _ _ (by omega) (by omega) (by omega) hP hS (lv_sub hl [0, 1, 3, 4] rfl))

def ow_X12_rowFrom : List Cond := []
def pw_X12_rowFrom : List Cond := Cond.code yX12_rowFrom cX12_rowFrom 4 (some .int) :: (ow_X12_rowFrom)
set_option maxRecDepth 20000 in
theorem mo_X12_rowFrom : ∀ w ∈ ow_X12_rowFrom, w ∈ lw_tbl := by decide +kernel
set_option maxRecDepth 20000 in
theorem mc_X12_rowFrom : Cond.code yX12_rowFrom cX12_rowFrom 4 (some .int) ∈ lw_tbl := by decide +kernel
theorem m_X12_rowFrom : ∀ w ∈ pw_X12_rowFrom, w ∈ lw_tbl := List.forall_mem_cons.mpr ⟨mc_X12_rowFrom, mo_X12_rowFrom⟩
theorem ko_X12_rowFrom : ∀ w ∈ ow_X12_rowFrom, goodWord w = true := by decide +kernel
theorem k_X12_rowFrom : pw_X12_rowFrom.all goodWord = true := List.all_eq_true.mpr (List.forall_mem_cons.mpr ⟨by decide +kernel, ko_X12_rowFrom⟩)
set_option maxHeartbeats 400000 in
set_option maxRecDepth 100000 in
theorem c_X12_rowFrom (l : Launch) (D : va_G) (cI cD cJ : ClassId) (sz : Nat) (ar_kinds : Nat) (ar_kindsF : Nat → Int32) (p1 : Int32) (p2 : Int32) (hh0 : 0 ≤ p1.toInt) (hh1 : p1.toInt ≤ 300) (hh2 : p2.toInt ≤ 258) : Met l yX12_rowFrom pw_X12_rowFrom ({ frames := 0, cells := 0, slots := 0, locals := 0 }) (va_Pc [.ref ar_kinds, .int p1, .int p2] (fun U => va_P D vwCl [(ar_kinds, .inl (cI, 260, .inl ar_kindsF))] U.heap ∧ va_K D vwCl (ty3 cI cD cJ) U)) (va_Qi (fun (r : Int32) (u : Unit) => (0 ≤ r.toInt ∧ (r.toInt = 0 ∨ p1.toInt + r.toInt ≤ p2.toInt))) (fun _ _ => True) (fun _ => False)) 0 0 (fun _ => False) := by
  refine Met.ofW (cc := cX12_rowFrom) (maxL := 4) (ret := (some .int)) (by decide +kernel) rfl ?_
  intro p e s m args below meth c s₁ B hml hv
  obtain ⟨rfl, hP, hK⟩ := hv
  have hx := B.exec
  have hb := B.bytes
  have hr := B.returns
  have hts := atoms_spec (ws := pw_X12_rowFrom) B.pre
  have hown : s.vm.findClass RX12 = some m.cls := findClass_of_methodNamed B.named
  have hlocks := B.notSynchronized
  have hS : va_S (fun _ => False) s.heap s.heap [] := va_S.rf
  have hw : ∀ (k : Nat) (w : Cond), ow_X12_rowFrom[k]? = some w → w.before _ s = true := fun k w h => hts w (List.mem_cons_of_mem _ (have h9 := List.mem_of_getElem? h; h9))
  have n_0 : ((0 : Int32)).toInt = 0 := by decide
  have n_1 : ((1 : Int32)).toInt = 1 := by decide
  have hl := lv_entry ([.ref ar_kinds, .int p1, .int p2]) (n := 4) (Nat.le_of_ble_eq_true rfl)
  rw [lg_entry_eq]
  generalize (lg_sl ([.ref ar_kinds, .int p1, .int p2]) ++ List.replicate (4 - (lg_sl ([.ref ar_kinds, .int p1, .int p2])).length) Slot.unset).toArray = ls at hl ⊢
  have hl : lv_has ls 4 [(0, .ref ar_kinds), (1, .int p1), (2, .int p2)] := hl
  have b_p1 := ti_b p1
  have b_p2 := ti_b p2
  refine zz_cap (fun Z hZ1 hZ2 => ?_)
  refine lv_iconst (v := 0) hx hb dX12_rowFrom_0 (by decide) ?_
  refine lv_istore_n (lv' := [(3, .int 0), (0, .ref ar_kinds), (1, .int p1), (2, .int p2)]) hx hb dX12_rowFrom_1 rfl hl (by decide) rfl (fun ls hl => ?_)
  have L_2 : ∀ (N : Nat) (x_1 : Int32) (H : Heap) (locs : List Loc) (ls : Array Slot), (0 ≤ (x_1 : Int32).toInt) → ((x_1 : Int32).toInt = 0 ∨ p1.toInt + (x_1 : Int32).toInt ≤ p2.toInt) → ((400 - (x_1 : Int32).toInt).toNat < N) → va_P D vwCl [(ar_kinds, .inl (cI, 260, .inl ar_kindsF))] H → va_S (fun _ => False) s.heap H locs → lv_has ls 4 [(3, .int x_1), (0, .ref ar_kinds), (1, .int p1), (2, .int p2)] → Z 0 0 H locs (F0 m 2 ls []) := by
    intro N
    induction N with
    | zero => intro _ _ _ _ _ _ hmu; exact absurd hmu (Nat.not_lt_zero _)
    | succ N ih_2 =>
      intro x_1 H locs ls g2_0 g2_1 hmu hP hS hl
      refine hZ2 ?_
      refine lv_iload_n hx hb dX12_rowFrom_2 rfl (lv_at hl 2 rfl) ?_
      refine lv_iload_n hx hb dX12_rowFrom_3 rfl (lv_at hl 0 rfl) ?_
      refine lv_iadd hx hb dX12_rowFrom_4 ?_
      refine lv_topi (fun x_2 ex_2 => ?_)
      have b_p1 := ti_b p1
      have b_x_1 := ti_b x_1
      have tx_2 := ti_add ex_2
      refine lv_iload_n hx hb dX12_rowFrom_5 rfl (lv_at hl 3 rfl) ?_
      refine lv_icmp_ge (tgt := 24) hx hb dX12_rowFrom_6 (by decide) (fun c_3 => ?_) (fun c_3 => ?_)
      · have ic_3 : (p2 : Int32).toInt ≤ (x_2 : Int32).toInt := (fa_le p2 x_2).mp c_3
        refine lv_iload_n hx hb dX12_rowFrom_24 rfl (lv_at hl 0 rfl) ?_
        exact W.iret (v := x_1) hx hb hr (fun t ht hW => ⟨⟨x_1, (), rfl, (by (try dsimp only); first | omega | assumption), trivial⟩, hS.F ht⟩) hS.2.2 dX12_rowFrom_25
      · have ic_3 : ¬ ((p2 : Int32).toInt ≤ (x_2 : Int32).toInt) := fun h9 => c_3 ((fa_le p2 x_2).mpr h9)
        refine lv_aload_n hx hb dX12_rowFrom_9 rfl (lv_at hl 1 rfl) ?_
        refine lv_iload_n hx hb dX12_rowFrom_10 rfl (lv_at hl 2 rfl) ?_
        refine lv_iload_n hx hb dX12_rowFrom_11 rfl (lv_at hl 0 rfl) ?_
        refine lv_iadd hx hb dX12_rowFrom_12 ?_
        refine lv_topi (fun x_4 ex_4 => ?_)
        have b_p1 := ti_b p1
        have b_x_1 := ti_b x_1
        have tx_4 := ti_add ex_4
        have h_13 : vp_in x_4 260 := by rw [vp_in_iff]; omega
        refine va_iald hx hb hK hP 0 0 rfl rfl h_13 dX12_rowFrom_13 ?_
        refine lv_topi (fun x_5 ex_5 => ?_)
        refine lv_iconst (v := 1) hx hb dX12_rowFrom_14 (by decide) ?_
        refine lv_icmp_ne (tgt := 24) hx hb dX12_rowFrom_15 (by decide) (fun c_6 => ?_) (fun c_6 => ?_)
        · have ic_6 : ¬ ((x_5 : Int32).toInt = (1 : Int32).toInt) := fun h9 => c_6 ((fa_eq x_5 1).mpr h9)
          refine lv_iload_n hx hb dX12_rowFrom_24 rfl (lv_at hl 0 rfl) ?_
          exact W.iret (v := x_1) hx hb hr (fun t ht hW => ⟨⟨x_1, (), rfl, (by (try dsimp only); first | omega | assumption), trivial⟩, hS.F ht⟩) hS.2.2 dX12_rowFrom_25
        · have ic_6 : (x_5 : Int32).toInt = (1 : Int32).toInt := (fa_eq x_5 1).mp c_6
          obtain ⟨x_7, ex_7⟩ : ∃ y : Int32, y = x_1 + 1 := ⟨_, rfl⟩
          have b_x_1 := ti_b x_1
          have tx_7 := ti_add ex_7
          refine lv_iinc (v := x_7) (lv' := [(3, .int x_7), (0, .ref ar_kinds), (1, .int p1), (2, .int p2)]) hx hb dX12_rowFrom_18 hl (k := 0) rfl (by rw [ex_7]; rfl) (by decide) rfl (fun ls hl => ?_)
          refine lv_goto (tgt := 2) hx hb dX12_rowFrom_21 (by decide) ?_
          exact hZ1 (ih_2 x_7 _ _ _ (by omega) (by omega) (by omega) hP hS hl)
  exact hZ1 (L_2 (((400 - (0 : Int32).toInt).toNat) + 1) 0 _ _ _ (by omega) (by omega) (by omega) hP hS hl)

def ow_X12_isFraction : List Cond := [Cond.methodLink RX12 229 yX12_find, Cond.static yX12_find, Cond.initialized RX12]
def pw_X12_isFraction : List Cond := Cond.code yX12_isFraction cX12_isFraction 4 (some .boolean) :: (ow_X12_isFraction ++ (pw_X12_find))
set_option maxRecDepth 20000 in
theorem mo_X12_isFraction : ∀ w ∈ ow_X12_isFraction, w ∈ lw_tbl := by decide +kernel
set_option maxRecDepth 20000 in
theorem mc_X12_isFraction : Cond.code yX12_isFraction cX12_isFraction 4 (some .boolean) ∈ lw_tbl := by decide +kernel
theorem m_X12_isFraction : ∀ w ∈ pw_X12_isFraction, w ∈ lw_tbl := List.forall_mem_cons.mpr ⟨mc_X12_isFraction, (List.forall_mem_append.mpr ⟨mo_X12_isFraction, m_X12_find⟩)⟩
theorem ko_X12_isFraction : ∀ w ∈ ow_X12_isFraction, goodWord w = true := by decide +kernel
theorem k_X12_isFraction : pw_X12_isFraction.all goodWord = true := List.all_eq_true.mpr (List.forall_mem_cons.mpr ⟨by decide +kernel, (List.forall_mem_append.mpr ⟨ko_X12_isFraction, (List.all_eq_true.mp k_X12_find)⟩)⟩)
set_option maxHeartbeats 400000 in
set_option maxRecDepth 100000 in
theorem c_X12_isFraction (l : Launch) (D : va_G) (cI cD cJ : ClassId) (sz : Nat) (ar_kinds : Nat) (ar_kindsF : Nat → Int32) (p1 : Int32) (p2 : Int32) (hh0 : 0 ≤ p1.toInt) (hh1 : p1.toInt ≤ 258) (hh2 : p2.toInt ≤ 258) : Met l yX12_isFraction pw_X12_isFraction ({ frames := 1, cells := 0, slots := 0, locals := 24 }) (va_Pc [.ref ar_kinds, .int p1, .int p2] (fun U => va_P D vwCl [(ar_kinds, .inl (cI, 260, .inl ar_kindsF))] U.heap ∧ va_K D vwCl (ty3 cI cD cJ) U)) (va_Qi (fun (r : Int32) (u : Unit) => (r.toInt = 0 ∨ r.toInt = 1)) (fun _ _ => True) (fun _ => False)) 0 0 (fun _ => False) := by
  refine Met.ofW (cc := cX12_isFraction) (maxL := 4) (ret := (some .boolean)) (by decide +kernel) rfl ?_
  intro p e s m args below meth c s₁ B hml hv
  obtain ⟨rfl, hP, hK⟩ := hv
  have hx := B.exec
  have hb := B.bytes
  have hr := B.returns
  have hts := atoms_spec (ws := pw_X12_isFraction) B.pre
  have hown : s.vm.findClass RX12 = some m.cls := findClass_of_methodNamed B.named
  have hlocks := B.notSynchronized
  have hS : va_S (fun _ => False) s.heap s.heap [] := va_S.rf
  have hw : ∀ (k : Nat) (w : Cond), ow_X12_isFraction[k]? = some w → w.before _ s = true := fun k w h => hts w (List.mem_cons_of_mem _ (have h9 := List.mem_of_getElem? h; List.mem_append_left _ h9))
  have i_X12_find : ∀ w ∈ pw_X12_find, w ∈ pw_X12_isFraction := fun w h9 => List.mem_cons_of_mem _ (List.mem_append_right _ (h9))
  have n_0 : ((0 : Int32)).toInt = 0 := by decide
  have n_1 : ((1 : Int32)).toInt = 1 := by decide
  have n_13 : ((13 : Int32)).toInt = 13 := by decide
  have n_5 : ((5 : Int32)).toInt = 5 := by decide
  have hl := lv_entry ([.ref ar_kinds, .int p1, .int p2]) (n := 4) (Nat.le_of_ble_eq_true rfl)
  rw [lg_entry_eq]
  generalize (lg_sl ([.ref ar_kinds, .int p1, .int p2]) ++ List.replicate (4 - (lg_sl ([.ref ar_kinds, .int p1, .int p2])).length) Slot.unset).toArray = ls at hl ⊢
  have hl : lv_has ls 4 [(0, .ref ar_kinds), (1, .int p1), (2, .int p2)] := hl
  have b_p1 := ti_b p1
  have b_p2 := ti_b p2
  refine zz_cap (fun Z hZ1 hZ2 => ?_)
  refine lv_aload_n hx hb dX12_isFraction_0 rfl (lv_at hl 0 rfl) ?_
  refine lv_iload_n hx hb dX12_isFraction_1 rfl (lv_at hl 1 rfl) ?_
  refine lv_iload_n hx hb dX12_isFraction_2 rfl (lv_at hl 2 rfl) ?_
  refine lv_iconst (v := 5) hx hb dX12_isFraction_3 (by decide) ?_
  have hPc := hP.sub (ws' := [(ar_kinds, .inl (cI, 260, .inl ar_kindsF))]) [0] rfl
  refine va_calli (va_runS (As := [.ref ar_kinds, .int p1, .int p2, .int 5]) (rest := []) ⟨hx, hb, hml, hown, hts⟩ (c_X12_find l D cI cD cJ s.heap.size ar_kinds ar_kindsF p1 p2 5 (by omega) (by omega) (by omega)) (va_cwS 4 hts (goodIn_app (goodIn_r _ [1, 2, 3] rfl (by decide +kernel)) (goodIn_sub i_X12_find k_X12_find)) rfl rfl rfl (by decide +kernel) ⟨Nat.le_of_ble_eq_true rfl, Nat.le_of_ble_eq_true rfl⟩) ⟨fun a U g mk q => by obtain ⟨q0, qP, qK⟩ := q; exact ⟨q0, qP, va_K.moved (u := U) (U := U.calling g mk a) (Vm.Alike.refl U.vm) qK⟩, fun U hU hW => ⟨rfl, by rw [hU]; exact hPc, va_K.moved hW.alike hK⟩⟩ rfl rfl hl.1 rfl (lv_room (Nat.le_of_ble_eq_true rfl)) dX12_isFraction_4 ⟨Nat.le_of_ble_eq_true rfl, Nat.le_of_ble_eq_true rfl⟩) hS (fun q _ h => h.elim) (fun q h => h.elim) (fun x_1 u t H1 locs ht hvm w_2 hB hz1 hk1 hS => ?_)
  have hP : va_P D vwCl [(ar_kinds, .inl (cI, 260, .inl ar_kindsF))] H1 := hP.kept (fun k9 q9 h9 => hk1 q9.1 (vx_lt hP h9) (fun h => h))
  generalize H1 = H at hP hS ⊢
  try dsimp only at w_2
  have b_x_1 := ti_b x_1
  refine lv_istore_n (lv' := [(3, .int x_1), (0, .ref ar_kinds), (1, .int p1), (2, .int p2)]) hx hb dX12_isFraction_7 rfl hl (by decide) rfl (fun ls hl => ?_)
  refine lv_iload_n hx hb dX12_isFraction_8 rfl (lv_at hl 0 rfl) ?_
  refine lv_iload_n hx hb dX12_isFraction_9 rfl (lv_at hl 2 rfl) ?_
  refine lv_icmp_le (tgt := 52) hx hb dX12_isFraction_10 (by decide) (fun c_3 => ?_) (fun c_3 => ?_)
  · have ic_3 : (x_1 : Int32).toInt ≤ (p1 : Int32).toInt := (fa_le x_1 p1).mp c_3
    refine lv_iconst (v := 0) hx hb dX12_isFraction_52 (by decide) ?_
    exact W.zret (v := 0) hx hb hr rfl (fun t ht hW => ⟨⟨0, (), rfl, (by (try dsimp only); first | omega | assumption), trivial⟩, hS.F ht⟩) hS.2.2 dX12_isFraction_53
  · have ic_3 : ¬ ((x_1 : Int32).toInt ≤ (p1 : Int32).toInt) := fun h9 => c_3 ((fa_le x_1 p1).mpr h9)
    refine lv_iload_n hx hb dX12_isFraction_13 rfl (lv_at hl 0 rfl) ?_
    refine lv_iconst (v := 1) hx hb dX12_isFraction_14 (by decide) ?_
    refine lv_iadd hx hb dX12_isFraction_15 ?_
    refine lv_topi (fun x_4 ex_4 => ?_)
    have b_x_1 := ti_b x_1
    have tx_4 := ti_add ex_4
    refine lv_iload_n hx hb dX12_isFraction_16 rfl (lv_at hl 3 rfl) ?_
    refine lv_icmp_ge (tgt := 52) hx hb dX12_isFraction_17 (by decide) (fun c_5 => ?_) (fun c_5 => ?_)
    · have ic_5 : (p2 : Int32).toInt ≤ (x_4 : Int32).toInt := (fa_le p2 x_4).mp c_5
      refine lv_iconst (v := 0) hx hb dX12_isFraction_52 (by decide) ?_
      exact W.zret (v := 0) hx hb hr rfl (fun t ht hW => ⟨⟨0, (), rfl, (by (try dsimp only); first | omega | assumption), trivial⟩, hS.F ht⟩) hS.2.2 dX12_isFraction_53
    · have ic_5 : ¬ ((p2 : Int32).toInt ≤ (x_4 : Int32).toInt) := fun h9 => c_5 ((fa_le p2 x_4).mpr h9)
      refine lv_aload_n hx hb dX12_isFraction_20 rfl (lv_at hl 1 rfl) ?_
      refine lv_iload_n hx hb dX12_isFraction_21 rfl (lv_at hl 0 rfl) ?_
      refine lv_iconst (v := 1) hx hb dX12_isFraction_22 (by decide) ?_
      refine lv_isub hx hb dX12_isFraction_23 ?_
      refine lv_topi (fun x_6 ex_6 => ?_)
      have b_x_1 := ti_b x_1
      have tx_6 := ti_sub ex_6
      have h_24 : vp_in x_6 260 := by rw [vp_in_iff]; omega
      refine va_iald hx hb hK hP 0 0 rfl rfl h_24 dX12_isFraction_24 ?_
      refine lv_topi (fun x_7 ex_7 => ?_)
      refine lv_iconst (v := 1) hx hb dX12_isFraction_25 (by decide) ?_
      refine lv_icmp_ne (tgt := 52) hx hb dX12_isFraction_26 (by decide) (fun c_8 => ?_) (fun c_8 => ?_)
      · have ic_8 : ¬ ((x_7 : Int32).toInt = (1 : Int32).toInt) := fun h9 => c_8 ((fa_eq x_7 1).mpr h9)
        refine lv_iconst (v := 0) hx hb dX12_isFraction_52 (by decide) ?_
        exact W.zret (v := 0) hx hb hr rfl (fun t ht hW => ⟨⟨0, (), rfl, (by (try dsimp only); first | omega | assumption), trivial⟩, hS.F ht⟩) hS.2.2 dX12_isFraction_53
      · have ic_8 : (x_7 : Int32).toInt = (1 : Int32).toInt := (fa_eq x_7 1).mp c_8
        refine lv_aload_n hx hb dX12_isFraction_29 rfl (lv_at hl 1 rfl) ?_
        refine lv_iload_n hx hb dX12_isFraction_30 rfl (lv_at hl 0 rfl) ?_
        refine lv_iconst (v := 1) hx hb dX12_isFraction_31 (by decide) ?_
        refine lv_iadd hx hb dX12_isFraction_32 ?_
        refine lv_topi (fun x_9 ex_9 => ?_)
        have b_x_1 := ti_b x_1
        have tx_9 := ti_add ex_9
        have h_33 : vp_in x_9 260 := by rw [vp_in_iff]; omega
        refine va_iald hx hb hK hP 0 0 rfl rfl h_33 dX12_isFraction_33 ?_
        refine lv_topi (fun x_10 ex_10 => ?_)
        refine lv_iconst (v := 1) hx hb dX12_isFraction_34 (by decide) ?_
        have K_48 : ∀ (H : Heap) (locs : List Loc) (ls : Array Slot), va_P D vwCl [(ar_kinds, .inl (cI, 260, .inl ar_kindsF))] H → va_S (fun _ => False) s.heap H locs → lv_has ls 4 [] → Z 0 0 H locs (F0 m 48 ls []) := by
          intro  H locs ls  hP hS hl
          refine hZ2 ?_
          refine lv_iconst (v := 1) hx hb dX12_isFraction_48 (by decide) ?_
          refine lv_goto (tgt := 53) hx hb dX12_isFraction_49 (by decide) ?_
          exact W.zret (v := 1) hx hb hr rfl (fun t ht hW => ⟨⟨1, (), rfl, (by (try dsimp only); first | omega | assumption), trivial⟩, hS.F ht⟩) hS.2.2 dX12_isFraction_53
        refine lv_icmp_eq (tgt := 48) hx hb dX12_isFraction_35 (by decide) (fun c_11 => ?_) (fun c_11 => ?_)
        · have ic_11 : (x_10 : Int32).toInt = (1 : Int32).toInt := (fa_eq x_10 1).mp c_11
          exact hZ1 (K_48  _ _ _ hP hS (lv_sub hl [] rfl))
        · have ic_11 : ¬ ((x_10 : Int32).toInt = (1 : Int32).toInt) := fun h9 => c_11 ((fa_eq x_10 1).mpr h9)
          refine lv_aload_n hx hb dX12_isFraction_38 rfl (lv_at hl 1 rfl) ?_
          refine lv_iload_n hx hb dX12_isFraction_39 rfl (lv_at hl 0 rfl) ?_
          refine lv_iconst (v := 1) hx hb dX12_isFraction_40 (by decide) ?_
          refine lv_iadd hx hb dX12_isFraction_41 ?_
          refine lv_topi (fun x_12 ex_12 => ?_)
          have b_x_1 := ti_b x_1
          have tx_12 := ti_add ex_12
          have h_42 : vp_in x_12 260 := by rw [vp_in_iff]; omega
          refine va_iald hx hb hK hP 0 0 rfl rfl h_42 dX12_isFraction_42 ?_
          refine lv_topi (fun x_13 ex_13 => ?_)
          refine lv_bipush (v := 13) hx hb dX12_isFraction_43 (by decide) ?_
          refine lv_icmp_ne (tgt := 52) hx hb dX12_isFraction_45 (by decide) (fun c_14 => ?_) (fun c_14 => ?_)
          · have ic_14 : ¬ ((x_13 : Int32).toInt = (13 : Int32).toInt) := fun h9 => c_14 ((fa_eq x_13 13).mpr h9)
            refine lv_iconst (v := 0) hx hb dX12_isFraction_52 (by decide) ?_
            exact W.zret (v := 0) hx hb hr rfl (fun t ht hW => ⟨⟨0, (), rfl, (by (try dsimp only); first | omega | assumption), trivial⟩, hS.F ht⟩) hS.2.2 dX12_isFraction_53
          · have ic_14 : (x_13 : Int32).toInt = (13 : Int32).toInt := (fa_eq x_13 13).mp c_14
            exact hZ1 (K_48  _ _ _ hP hS (lv_sub hl [] rfl))

def ow_X12_tenths : List Cond := []
def pw_X12_tenths : List Cond := Cond.code yX12_tenths cX12_tenths 6 (some .int) :: (ow_X12_tenths)
set_option maxRecDepth 20000 in
theorem mo_X12_tenths : ∀ w ∈ ow_X12_tenths, w ∈ lw_tbl := by decide +kernel
set_option maxRecDepth 20000 in
theorem mc_X12_tenths : Cond.code yX12_tenths cX12_tenths 6 (some .int) ∈ lw_tbl := by decide +kernel
theorem m_X12_tenths : ∀ w ∈ pw_X12_tenths, w ∈ lw_tbl := List.forall_mem_cons.mpr ⟨mc_X12_tenths, mo_X12_tenths⟩
theorem ko_X12_tenths : ∀ w ∈ ow_X12_tenths, goodWord w = true := by decide +kernel
theorem k_X12_tenths : pw_X12_tenths.all goodWord = true := List.all_eq_true.mpr (List.forall_mem_cons.mpr ⟨by decide +kernel, ko_X12_tenths⟩)
set_option maxHeartbeats 400000 in
set_option maxRecDepth 100000 in
theorem c_X12_tenths (l : Launch) (D : va_G) (cI cD cJ : ClassId) (sz : Nat) (ar_kinds : Nat) (ar_kindsF : Nat → Int32) (ar_whats : Nat) (ar_whatsF : Nat → Int32) (p1 : Int32) (p2 : Int32) (p3 : Int32) (hh0 : 0 ≤ p1.toInt) (hh1 : p1.toInt ≤ 257) (hh2 : 0 ≤ p2.toInt) (hh3 : p3.toInt ≤ 257) : Met l yX12_tenths pw_X12_tenths ({ frames := 0, cells := 0, slots := 0, locals := 0 }) (va_Pc [.ref ar_kinds, .ref ar_whats, .int p1, .int p2, .int p3] (fun U => va_P D vwCl [(ar_kinds, .inl (cI, 260, .inl ar_kindsF)), (ar_whats, .inl (cI, 260, .inl ar_whatsF))] U.heap ∧ va_K D vwCl (ty3 cI cD cJ) U)) (va_Qi (fun (r : Int32) (u : Unit) => (TT ar_kindsF ar_whatsF p1 p2 p3 r)) (fun _ _ => True) (fun _ => False)) 0 0 (fun _ => False) := by
  refine Met.ofW (cc := cX12_tenths) (maxL := 6) (ret := (some .int)) (by decide +kernel) rfl ?_
  intro p e s m args below meth c s₁ B hml hv
  obtain ⟨rfl, hP, hK⟩ := hv
  have hx := B.exec
  have hb := B.bytes
  have hr := B.returns
  have hts := atoms_spec (ws := pw_X12_tenths) B.pre
  have hown : s.vm.findClass RX12 = some m.cls := findClass_of_methodNamed B.named
  have hlocks := B.notSynchronized
  have hS : va_S (fun _ => False) s.heap s.heap [] := va_S.rf
  have hw : ∀ (k : Nat) (w : Cond), ow_X12_tenths[k]? = some w → w.before _ s = true := fun k w h => hts w (List.mem_cons_of_mem _ (have h9 := List.mem_of_getElem? h; h9))
  have n_0 : ((0 : Int32)).toInt = 0 := by decide
  have n_1 : ((1 : Int32)).toInt = 1 := by decide
  have n_10 : ((10 : Int32)).toInt = 10 := by decide
  have n_115 : ((115 : Int32)).toInt = 115 := by decide
  have n_12 : ((12 : Int32)).toInt = 12 := by decide
  have n_2 : ((2 : Int32)).toInt = 2 := by decide
  have n_3 : ((3 : Int32)).toInt = 3 := by decide
  have n_48 : ((48 : Int32)).toInt = 48 := by decide
  have n_8 : ((8 : Int32)).toInt = 8 := by decide
  have hl := lv_entry ([.ref ar_kinds, .ref ar_whats, .int p1, .int p2, .int p3]) (n := 6) (Nat.le_of_ble_eq_true rfl)
  rw [lg_entry_eq]
  generalize (lg_sl ([.ref ar_kinds, .ref ar_whats, .int p1, .int p2, .int p3]) ++ List.replicate (6 - (lg_sl ([.ref ar_kinds, .ref ar_whats, .int p1, .int p2, .int p3])).length) Slot.unset).toArray = ls at hl ⊢
  have hl : lv_has ls 6 [(0, .ref ar_kinds), (1, .ref ar_whats), (2, .int p1), (3, .int p2), (4, .int p3)] := hl
  have b_p1 := ti_b p1
  have b_p2 := ti_b p2
  have b_p3 := ti_b p3
  refine zz_cap (fun Z hZ1 hZ2 => ?_)
  refine lv_iload_n hx hb dX12_tenths_0 rfl (lv_at hl 2 rfl) ?_
  refine lv_iload_n hx hb dX12_tenths_1 rfl (lv_at hl 3 rfl) ?_
  refine lv_icmp_le (tgt := 45) hx hb dX12_tenths_2 (by decide) (fun c_1 => ?_) (fun c_1 => ?_)
  · have ic_1 : (p1 : Int32).toInt ≤ (p2 : Int32).toInt := (fa_le p1 p2).mp c_1
    refine lv_iconst (v := 0) hx hb dX12_tenths_45 (by decide) ?_
    exact W.iret (v := 0) hx hb hr (fun t ht hW => ⟨⟨0, (), rfl, (by (try dsimp only); first | omega | assumption | exact TT_no1 (by omega) | exact TT_no2 hk2 (by omega) | exact TT_no3 hkp (by omega) (by omega) hkq (by omega) (by omega) | exact TT_no4 hwy (by omega) hwz (by omega) | exact Or.inl ⟨hTG, TN_3 g50_0 (by omega)⟩ | exact Or.inl ⟨hTG, TN_b g50_0 (by omega)⟩ | exact Or.inl ⟨hTG, TN_k g50_0 (by omega) hpA hxA (by omega)⟩ | exact Or.inl ⟨hTG, TN_w g50_0 (by omega) hpB hxB (by omega)⟩), trivial⟩, hS.F ht⟩) hS.2.2 dX12_tenths_46
  · have ic_1 : ¬ ((p1 : Int32).toInt ≤ (p2 : Int32).toInt) := fun h9 => c_1 ((fa_le p1 p2).mpr h9)
    refine lv_aload_n hx hb dX12_tenths_5 rfl (lv_at hl 0 rfl) ?_
    refine lv_iload_n hx hb dX12_tenths_6 rfl (lv_at hl 2 rfl) ?_
    have h_7 : vp_in p1 260 := by rw [vp_in_iff]; omega
    refine va_iald hx hb hK hP 0 0 rfl rfl h_7 dX12_tenths_7 ?_
    refine lv_topi (fun x_2 ex_2 => ?_)
    refine lv_iconst (v := 2) hx hb dX12_tenths_8 (by decide) ?_
    have hk2 := ex_2
    refine lv_icmp_ne (tgt := 45) hx hb dX12_tenths_9 (by decide) (fun c_3 => ?_) (fun c_3 => ?_)
    · have ic_3 : ¬ ((x_2 : Int32).toInt = (2 : Int32).toInt) := fun h9 => c_3 ((fa_eq x_2 2).mpr h9)
      refine lv_iconst (v := 0) hx hb dX12_tenths_45 (by decide) ?_
      exact W.iret (v := 0) hx hb hr (fun t ht hW => ⟨⟨0, (), rfl, (by (try dsimp only); first | omega | assumption | exact TT_no1 (by omega) | exact TT_no2 hk2 (by omega) | exact TT_no3 hkp (by omega) (by omega) hkq (by omega) (by omega) | exact TT_no4 hwy (by omega) hwz (by omega) | exact Or.inl ⟨hTG, TN_3 g50_0 (by omega)⟩ | exact Or.inl ⟨hTG, TN_b g50_0 (by omega)⟩ | exact Or.inl ⟨hTG, TN_k g50_0 (by omega) hpA hxA (by omega)⟩ | exact Or.inl ⟨hTG, TN_w g50_0 (by omega) hpB hxB (by omega)⟩), trivial⟩, hS.F ht⟩) hS.2.2 dX12_tenths_46
    · have ic_3 : (x_2 : Int32).toInt = (2 : Int32).toInt := (fa_eq x_2 2).mp c_3
      refine lv_aload_n hx hb dX12_tenths_12 rfl (lv_at hl 0 rfl) ?_
      refine lv_iload_n hx hb dX12_tenths_13 rfl (lv_at hl 2 rfl) ?_
      refine lv_iconst (v := 1) hx hb dX12_tenths_14 (by decide) ?_
      refine lv_isub hx hb dX12_tenths_15 ?_
      refine lv_topi (fun x_4 ex_4 => ?_)
      have b_p1 := ti_b p1
      have tx_4 := ti_sub ex_4
      have h_16 : vp_in x_4 260 := by rw [vp_in_iff]; omega
      refine va_iald hx hb hK hP 0 0 rfl rfl h_16 dX12_tenths_16 ?_
      refine lv_topi (fun x_5 ex_5 => ?_)
      have hkp := ex_5
      refine lv_bipush (v := 10) hx hb dX12_tenths_17 (by decide) ?_
      have K_32 : ∀ (H : Heap) (locs : List Loc) (ls : Array Slot), ((ar_kindsF (p1.toInt - 1).toNat).toInt = 10 ∨ (ar_kindsF (p1.toInt - 1).toNat).toInt = 12) → va_P D vwCl [(ar_kinds, .inl (cI, 260, .inl ar_kindsF)), (ar_whats, .inl (cI, 260, .inl ar_whatsF))] H → va_S (fun _ => False) s.heap H locs → lv_has ls 6 [(0, .ref ar_kinds), (1, .ref ar_whats), (2, .int p1), (4, .int p3)] → Z 0 0 H locs (F0 m 32 ls []) := by
        intro  H locs ls g32_0 hP hS hl
        refine hZ2 ?_
        refine lv_aload_n hx hb dX12_tenths_32 rfl (lv_at hl 1 rfl) ?_
        refine lv_iload_n hx hb dX12_tenths_33 rfl (lv_at hl 2 rfl) ?_
        refine lv_iconst (v := 1) hx hb dX12_tenths_34 (by decide) ?_
        refine lv_isub hx hb dX12_tenths_35 ?_
        refine lv_topi (fun x_6 ex_6 => ?_)
        have b_p1 := ti_b p1
        have tx_6 := ti_sub ex_6
        have h_36 : vp_in x_6 260 := by rw [vp_in_iff]; omega
        refine va_iald hx hb hK hP 1 0 rfl rfl h_36 dX12_tenths_36 ?_
        refine lv_topi (fun x_7 ex_7 => ?_)
        have hwy := ex_7
        refine lv_bipush (v := 8) hx hb dX12_tenths_37 (by decide) ?_
        refine lv_idiv hx hb dX12_tenths_39 (by decide) ?_
        refine lv_topi (fun x_8 ex_8 => ?_)
        have tx_8 := ti_div ex_8 (by decide)
        rw [n_8] at tx_8
        try (have ux_8 := ti_divE ex_8 (by decide) (by omega); rw [n_8] at ux_8)
        have hwz := ex_8
        refine lv_bipush (v := 115) hx hb dX12_tenths_40 (by decide) ?_
        refine lv_icmp_eq (tgt := 47) hx hb dX12_tenths_42 (by decide) (fun c_9 => ?_) (fun c_9 => ?_)
        · have ic_9 : (x_8 : Int32).toInt = (115 : Int32).toInt := (fa_eq x_8 115).mp c_9
          have hTG := TG_of (i := p1) (a := p2) (by omega) hk2 (by omega) g32_0 hwy (by omega) hwz (by omega)
          refine lv_iconst (v := 0) hx hb dX12_tenths_47 (by decide) ?_
          refine lv_istore (lv' := [(5, .int 0), (0, .ref ar_kinds), (1, .ref ar_whats), (2, .int p1), (4, .int p3)]) hx hb dX12_tenths_48 hl (by decide) rfl (fun ls hl => ?_)
          have L_50 : ∀ (N : Nat) (x_10 : Int32) (H : Heap) (locs : List Loc) (ls : Array Slot), (TL ar_kindsF ar_whatsF p1 p3 x_10) → ((4 - (x_10 : Int32).toInt).toNat < N) → va_P D vwCl [(ar_kinds, .inl (cI, 260, .inl ar_kindsF)), (ar_whats, .inl (cI, 260, .inl ar_whatsF))] H → va_S (fun _ => False) s.heap H locs → lv_has ls 6 [(5, .int x_10), (0, .ref ar_kinds), (1, .ref ar_whats), (2, .int p1), (4, .int p3)] → Z 0 0 H locs (F0 m 50 ls []) := by
            intro N
            induction N with
            | zero => intro _ _ _ _ _ hmu; exact absurd hmu (Nat.not_lt_zero _)
            | succ N ih_50 =>
              intro x_10 H locs ls g50_0 hmu hP hS hl
              refine hZ2 ?_
              have hq9 := TL_lin g50_0
              refine lv_iload hx hb dX12_tenths_50 (lv_at hl 0 rfl) ?_
              refine lv_iconst (v := 3) hx hb dX12_tenths_52 (by decide) ?_
              refine lv_icmp_ge (tgt := 98) hx hb dX12_tenths_53 (by decide) (fun c_11 => ?_) (fun c_11 => ?_)
              · have ic_11 : (3 : Int32).toInt ≤ (x_10 : Int32).toInt := (fa_le 3 x_10).mp c_11
                refine lv_iload hx hb dX12_tenths_98 (lv_at hl 0 rfl) ?_
                exact W.iret (v := x_10) hx hb hr (fun t ht hW => ⟨⟨x_10, (), rfl, (by (try dsimp only); first | omega | assumption | exact TT_no1 (by omega) | exact TT_no2 hk2 (by omega) | exact TT_no3 hkp (by omega) (by omega) hkq (by omega) (by omega) | exact TT_no4 hwy (by omega) hwz (by omega) | exact Or.inl ⟨hTG, TN_3 g50_0 (by omega)⟩ | exact Or.inl ⟨hTG, TN_b g50_0 (by omega)⟩ | exact Or.inl ⟨hTG, TN_k g50_0 (by omega) hpA hxA (by omega)⟩ | exact Or.inl ⟨hTG, TN_w g50_0 (by omega) hpB hxB (by omega)⟩), trivial⟩, hS.F ht⟩) hS.2.2 dX12_tenths_100
              · have ic_11 : ¬ ((3 : Int32).toInt ≤ (x_10 : Int32).toInt) := fun h9 => c_11 ((fa_le 3 x_10).mpr h9)
                refine lv_iload_n hx hb dX12_tenths_56 rfl (lv_at hl 3 rfl) ?_
                refine lv_iconst (v := 1) hx hb dX12_tenths_57 (by decide) ?_
                refine lv_iadd hx hb dX12_tenths_58 ?_
                refine lv_topi (fun x_12 ex_12 => ?_)
                have b_p1 := ti_b p1
                have tx_12 := ti_add ex_12
                refine lv_iload hx hb dX12_tenths_59 (lv_at hl 0 rfl) ?_
                refine lv_iadd hx hb dX12_tenths_61 ?_
                refine lv_topi (fun x_13 ex_13 => ?_)
                have b_x_10 := ti_b x_10
                have tx_13 := ti_add ex_13
                refine lv_iload hx hb dX12_tenths_62 (lv_at hl 4 rfl) ?_
                refine lv_icmp_ge (tgt := 98) hx hb dX12_tenths_64 (by decide) (fun c_14 => ?_) (fun c_14 => ?_)
                · have ic_14 : (p3 : Int32).toInt ≤ (x_13 : Int32).toInt := (fa_le p3 x_13).mp c_14
                  refine lv_iload hx hb dX12_tenths_98 (lv_at hl 0 rfl) ?_
                  exact W.iret (v := x_10) hx hb hr (fun t ht hW => ⟨⟨x_10, (), rfl, (by (try dsimp only); first | omega | assumption | exact TT_no1 (by omega) | exact TT_no2 hk2 (by omega) | exact TT_no3 hkp (by omega) (by omega) hkq (by omega) (by omega) | exact TT_no4 hwy (by omega) hwz (by omega) | exact Or.inl ⟨hTG, TN_3 g50_0 (by omega)⟩ | exact Or.inl ⟨hTG, TN_b g50_0 (by omega)⟩ | exact Or.inl ⟨hTG, TN_k g50_0 (by omega) hpA hxA (by omega)⟩ | exact Or.inl ⟨hTG, TN_w g50_0 (by omega) hpB hxB (by omega)⟩), trivial⟩, hS.F ht⟩) hS.2.2 dX12_tenths_100
                · have ic_14 : ¬ ((p3 : Int32).toInt ≤ (x_13 : Int32).toInt) := fun h9 => c_14 ((fa_le p3 x_13).mpr h9)
                  refine lv_aload_n hx hb dX12_tenths_67 rfl (lv_at hl 1 rfl) ?_
                  refine lv_iload_n hx hb dX12_tenths_68 rfl (lv_at hl 3 rfl) ?_
                  refine lv_iconst (v := 1) hx hb dX12_tenths_69 (by decide) ?_
                  refine lv_iadd hx hb dX12_tenths_70 ?_
                  refine lv_topi (fun x_15 ex_15 => ?_)
                  have b_p1 := ti_b p1
                  have tx_15 := ti_add ex_15
                  refine lv_iload hx hb dX12_tenths_71 (lv_at hl 0 rfl) ?_
                  refine lv_iadd hx hb dX12_tenths_73 ?_
                  refine lv_topi (fun x_16 ex_16 => ?_)
                  have b_x_10 := ti_b x_10
                  have tx_16 := ti_add ex_16
                  have hpA : (x_16 : Int32).toInt = p1.toInt + 1 + x_10.toInt := by omega
                  have h_74 : vp_in x_16 260 := by rw [vp_in_iff]; omega
                  refine va_iald hx hb hK hP 0 0 rfl rfl h_74 dX12_tenths_74 ?_
                  refine lv_topi (fun x_17 ex_17 => ?_)
                  have hxA := ex_17
                  refine lv_iconst (v := 1) hx hb dX12_tenths_75 (by decide) ?_
                  refine lv_icmp_ne (tgt := 98) hx hb dX12_tenths_76 (by decide) (fun c_18 => ?_) (fun c_18 => ?_)
                  · have ic_18 : ¬ ((x_17 : Int32).toInt = (1 : Int32).toInt) := fun h9 => c_18 ((fa_eq x_17 1).mpr h9)
                    refine lv_iload hx hb dX12_tenths_98 (lv_at hl 0 rfl) ?_
                    exact W.iret (v := x_10) hx hb hr (fun t ht hW => ⟨⟨x_10, (), rfl, (by (try dsimp only); first | omega | assumption | exact TT_no1 (by omega) | exact TT_no2 hk2 (by omega) | exact TT_no3 hkp (by omega) (by omega) hkq (by omega) (by omega) | exact TT_no4 hwy (by omega) hwz (by omega) | exact Or.inl ⟨hTG, TN_3 g50_0 (by omega)⟩ | exact Or.inl ⟨hTG, TN_b g50_0 (by omega)⟩ | exact Or.inl ⟨hTG, TN_k g50_0 (by omega) hpA hxA (by omega)⟩ | exact Or.inl ⟨hTG, TN_w g50_0 (by omega) hpB hxB (by omega)⟩), trivial⟩, hS.F ht⟩) hS.2.2 dX12_tenths_100
                  · have ic_18 : (x_17 : Int32).toInt = (1 : Int32).toInt := (fa_eq x_17 1).mp c_18
                    refine lv_aload_n hx hb dX12_tenths_79 rfl (lv_at hl 2 rfl) ?_
                    refine lv_iload_n hx hb dX12_tenths_80 rfl (lv_at hl 3 rfl) ?_
                    refine lv_iconst (v := 1) hx hb dX12_tenths_81 (by decide) ?_
                    refine lv_iadd hx hb dX12_tenths_82 ?_
                    refine lv_topi (fun x_19 ex_19 => ?_)
                    have b_p1 := ti_b p1
                    have tx_19 := ti_add ex_19
                    refine lv_iload hx hb dX12_tenths_83 (lv_at hl 0 rfl) ?_
                    refine lv_iadd hx hb dX12_tenths_85 ?_
                    refine lv_topi (fun x_20 ex_20 => ?_)
                    have b_x_10 := ti_b x_10
                    have tx_20 := ti_add ex_20
                    have hpB : (x_20 : Int32).toInt = p1.toInt + 1 + x_10.toInt := by omega
                    have h_86 : vp_in x_20 260 := by rw [vp_in_iff]; omega
                    refine va_iald hx hb hK hP 1 0 rfl rfl h_86 dX12_tenths_86 ?_
                    refine lv_topi (fun x_21 ex_21 => ?_)
                    have hxB := ex_21
                    refine lv_bipush (v := 48) hx hb dX12_tenths_87 (by decide) ?_
                    refine lv_icmp_ne (tgt := 98) hx hb dX12_tenths_89 (by decide) (fun c_22 => ?_) (fun c_22 => ?_)
                    · have ic_22 : ¬ ((x_21 : Int32).toInt = (48 : Int32).toInt) := fun h9 => c_22 ((fa_eq x_21 48).mpr h9)
                      refine lv_iload hx hb dX12_tenths_98 (lv_at hl 0 rfl) ?_
                      exact W.iret (v := x_10) hx hb hr (fun t ht hW => ⟨⟨x_10, (), rfl, (by (try dsimp only); first | omega | assumption | exact TT_no1 (by omega) | exact TT_no2 hk2 (by omega) | exact TT_no3 hkp (by omega) (by omega) hkq (by omega) (by omega) | exact TT_no4 hwy (by omega) hwz (by omega) | exact Or.inl ⟨hTG, TN_3 g50_0 (by omega)⟩ | exact Or.inl ⟨hTG, TN_b g50_0 (by omega)⟩ | exact Or.inl ⟨hTG, TN_k g50_0 (by omega) hpA hxA (by omega)⟩ | exact Or.inl ⟨hTG, TN_w g50_0 (by omega) hpB hxB (by omega)⟩), trivial⟩, hS.F ht⟩) hS.2.2 dX12_tenths_100
                    · have ic_22 : (x_21 : Int32).toInt = (48 : Int32).toInt := (fa_eq x_21 48).mp c_22
                      obtain ⟨x_23, ex_23⟩ : ∃ y : Int32, y = x_10 + 1 := ⟨_, rfl⟩
                      have b_x_10 := ti_b x_10
                      have tx_23 := ti_add ex_23
                      refine lv_iinc (v := x_23) (lv' := [(5, .int x_23), (0, .ref ar_kinds), (1, .ref ar_whats), (2, .int p1), (4, .int p3)]) hx hb dX12_tenths_92 hl (k := 0) rfl (by rw [ex_23]; rfl) (by decide) rfl (fun ls hl => ?_)
                      refine lv_goto (tgt := 50) hx hb dX12_tenths_95 (by decide) ?_
                      exact hZ1 (ih_50 x_23 _ _ _ (TL_step g50_0 (by omega) (by omega) hpA hpB (by omega) hxA (by omega) hxB (by omega) ex_23) (by omega) hP hS hl)
          exact hZ1 (L_50 (((4 - (0 : Int32).toInt).toNat) + 1) 0 _ _ _ TL_0 (by omega) hP hS hl)
        · have ic_9 : ¬ ((x_8 : Int32).toInt = (115 : Int32).toInt) := fun h9 => c_9 ((fa_eq x_8 115).mpr h9)
          refine lv_iconst (v := 0) hx hb dX12_tenths_45 (by decide) ?_
          exact W.iret (v := 0) hx hb hr (fun t ht hW => ⟨⟨0, (), rfl, (by (try dsimp only); first | omega | assumption | exact TT_no1 (by omega) | exact TT_no2 hk2 (by omega) | exact TT_no3 hkp (by omega) (by omega) hkq (by omega) (by omega) | exact TT_no4 hwy (by omega) hwz (by omega) | exact Or.inl ⟨hTG, TN_3 g50_0 (by omega)⟩ | exact Or.inl ⟨hTG, TN_b g50_0 (by omega)⟩ | exact Or.inl ⟨hTG, TN_k g50_0 (by omega) hpA hxA (by omega)⟩ | exact Or.inl ⟨hTG, TN_w g50_0 (by omega) hpB hxB (by omega)⟩), trivial⟩, hS.F ht⟩) hS.2.2 dX12_tenths_46
      refine lv_icmp_eq (tgt := 32) hx hb dX12_tenths_19 (by decide) (fun c_24 => ?_) (fun c_24 => ?_)
      · have ic_24 : (x_5 : Int32).toInt = (10 : Int32).toInt := (fa_eq x_5 10).mp c_24
        exact hZ1 (K_32  _ _ _ (Or.inl (by rw [tg_a hkp (by omega)]; omega)) hP hS (lv_sub hl [0, 1, 2, 4] rfl))
      · have ic_24 : ¬ ((x_5 : Int32).toInt = (10 : Int32).toInt) := fun h9 => c_24 ((fa_eq x_5 10).mpr h9)
        refine lv_aload_n hx hb dX12_tenths_22 rfl (lv_at hl 0 rfl) ?_
        refine lv_iload_n hx hb dX12_tenths_23 rfl (lv_at hl 2 rfl) ?_
        refine lv_iconst (v := 1) hx hb dX12_tenths_24 (by decide) ?_
        refine lv_isub hx hb dX12_tenths_25 ?_
        refine lv_topi (fun x_25 ex_25 => ?_)
        have b_p1 := ti_b p1
        have tx_25 := ti_sub ex_25
        have h_26 : vp_in x_25 260 := by rw [vp_in_iff]; omega
        refine va_iald hx hb hK hP 0 0 rfl rfl h_26 dX12_tenths_26 ?_
        refine lv_topi (fun x_26 ex_26 => ?_)
        have hkq := ex_26
        refine lv_bipush (v := 12) hx hb dX12_tenths_27 (by decide) ?_
        refine lv_icmp_ne (tgt := 45) hx hb dX12_tenths_29 (by decide) (fun c_27 => ?_) (fun c_27 => ?_)
        · have ic_27 : ¬ ((x_26 : Int32).toInt = (12 : Int32).toInt) := fun h9 => c_27 ((fa_eq x_26 12).mpr h9)
          refine lv_iconst (v := 0) hx hb dX12_tenths_45 (by decide) ?_
          exact W.iret (v := 0) hx hb hr (fun t ht hW => ⟨⟨0, (), rfl, (by (try dsimp only); first | omega | assumption | exact TT_no1 (by omega) | exact TT_no2 hk2 (by omega) | exact TT_no3 hkp (by omega) (by omega) hkq (by omega) (by omega) | exact TT_no4 hwy (by omega) hwz (by omega) | exact Or.inl ⟨hTG, TN_3 g50_0 (by omega)⟩ | exact Or.inl ⟨hTG, TN_b g50_0 (by omega)⟩ | exact Or.inl ⟨hTG, TN_k g50_0 (by omega) hpA hxA (by omega)⟩ | exact Or.inl ⟨hTG, TN_w g50_0 (by omega) hpB hxB (by omega)⟩), trivial⟩, hS.F ht⟩) hS.2.2 dX12_tenths_46
        · have ic_27 : (x_26 : Int32).toInt = (12 : Int32).toInt := (fa_eq x_26 12).mp c_27
          exact hZ1 (K_32  _ _ _ (Or.inr (by rw [tg_a hkq (by omega)]; omega)) hP hS (lv_sub hl [0, 1, 2, 4] rfl))

def ow_X12_isTenth : List Cond := [Cond.methodLink RX12 241 yX12_tenths, Cond.static yX12_tenths, Cond.initialized RX12]
def pw_X12_isTenth : List Cond := Cond.code yX12_isTenth cX12_isTenth 7 (some .boolean) :: (ow_X12_isTenth ++ (pw_X12_tenths))
set_option maxRecDepth 20000 in
theorem mo_X12_isTenth : ∀ w ∈ ow_X12_isTenth, w ∈ lw_tbl := by decide +kernel
set_option maxRecDepth 20000 in
theorem mc_X12_isTenth : Cond.code yX12_isTenth cX12_isTenth 7 (some .boolean) ∈ lw_tbl := by decide +kernel
theorem m_X12_isTenth : ∀ w ∈ pw_X12_isTenth, w ∈ lw_tbl := List.forall_mem_cons.mpr ⟨mc_X12_isTenth, (List.forall_mem_append.mpr ⟨mo_X12_isTenth, m_X12_tenths⟩)⟩
theorem ko_X12_isTenth : ∀ w ∈ ow_X12_isTenth, goodWord w = true := by decide +kernel
theorem k_X12_isTenth : pw_X12_isTenth.all goodWord = true := List.all_eq_true.mpr (List.forall_mem_cons.mpr ⟨by decide +kernel, (List.forall_mem_append.mpr ⟨ko_X12_isTenth, (List.all_eq_true.mp k_X12_tenths)⟩)⟩)
set_option maxHeartbeats 400000 in
set_option maxRecDepth 100000 in
theorem c_X12_isTenth (l : Launch) (D : va_G) (cI cD cJ : ClassId) (sz : Nat) (ar_kinds : Nat) (ar_kindsF : Nat → Int32) (ar_whats : Nat) (ar_whatsF : Nat → Int32) (p1 : Int32) (p2 : Int32) (p3 : Int32) (hh0 : 0 ≤ p1.toInt) (hh1 : p1.toInt ≤ 257) (hh2 : 0 ≤ p2.toInt) (hh3 : p3.toInt ≤ 257) : Met l yX12_isTenth pw_X12_isTenth ({ frames := 1, cells := 0, slots := 0, locals := 25 }) (va_Pc [.ref ar_kinds, .ref ar_whats, .int p1, .int p2, .int p3] (fun U => va_P D vwCl [(ar_kinds, .inl (cI, 260, .inl ar_kindsF)), (ar_whats, .inl (cI, 260, .inl ar_whatsF))] U.heap ∧ va_K D vwCl (ty3 cI cD cJ) U)) (va_Qi (fun (r : Int32) (u : Unit) => (r.toInt = 0 ∨ r.toInt = 1)) (fun _ _ => True) (fun _ => False)) 0 0 (fun _ => False) := by
  refine Met.ofW (cc := cX12_isTenth) (maxL := 7) (ret := (some .boolean)) (by decide +kernel) rfl ?_
  intro p e s m args below meth c s₁ B hml hv
  obtain ⟨rfl, hP, hK⟩ := hv
  have hx := B.exec
  have hb := B.bytes
  have hr := B.returns
  have hts := atoms_spec (ws := pw_X12_isTenth) B.pre
  have hown : s.vm.findClass RX12 = some m.cls := findClass_of_methodNamed B.named
  have hlocks := B.notSynchronized
  have hS : va_S (fun _ => False) s.heap s.heap [] := va_S.rf
  have hw : ∀ (k : Nat) (w : Cond), ow_X12_isTenth[k]? = some w → w.before _ s = true := fun k w h => hts w (List.mem_cons_of_mem _ (have h9 := List.mem_of_getElem? h; List.mem_append_left _ h9))
  have i_X12_tenths : ∀ w ∈ pw_X12_tenths, w ∈ pw_X12_isTenth := fun w h9 => List.mem_cons_of_mem _ (List.mem_append_right _ (h9))
  have n_m1 : (((-1) : Int32)).toInt = (-1) := by decide
  have n_0 : ((0 : Int32)).toInt = 0 := by decide
  have n_1 : ((1 : Int32)).toInt = 1 := by decide
  have n_3 : ((3 : Int32)).toInt = 3 := by decide
  have hl := lv_entry ([.ref ar_kinds, .ref ar_whats, .int p1, .int p2, .int p3]) (n := 7) (Nat.le_of_ble_eq_true rfl)
  rw [lg_entry_eq]
  generalize (lg_sl ([.ref ar_kinds, .ref ar_whats, .int p1, .int p2, .int p3]) ++ List.replicate (7 - (lg_sl ([.ref ar_kinds, .ref ar_whats, .int p1, .int p2, .int p3])).length) Slot.unset).toArray = ls at hl ⊢
  have hl : lv_has ls 7 [(0, .ref ar_kinds), (1, .ref ar_whats), (2, .int p1), (3, .int p2), (4, .int p3)] := hl
  have b_p1 := ti_b p1
  have b_p2 := ti_b p2
  have b_p3 := ti_b p3
  refine zz_cap (fun Z hZ1 hZ2 => ?_)
  refine lv_iconst (v := 0) hx hb dX12_isTenth_0 (by decide) ?_
  refine lv_istore (lv' := [(5, .int 0), (0, .ref ar_kinds), (1, .ref ar_whats), (2, .int p1), (3, .int p2), (4, .int p3)]) hx hb dX12_isTenth_1 hl (by decide) rfl (fun ls hl => ?_)
  refine lv_iload_n hx hb dX12_isTenth_3 rfl (lv_at hl 3 rfl) ?_
  refine lv_iconst (v := 1) hx hb dX12_isTenth_4 (by decide) ?_
  refine lv_isub hx hb dX12_isTenth_5 ?_
  refine lv_topi (fun x_1 ex_1 => ?_)
  have b_p1 := ti_b p1
  have tx_1 := ti_sub ex_1
  refine lv_istore (lv' := [(6, .int x_1), (5, .int 0), (0, .ref ar_kinds), (1, .ref ar_whats), (2, .int p1), (3, .int p2), (4, .int p3)]) hx hb dX12_isTenth_6 hl (by decide) rfl (fun ls hl => ?_)
  have L_8 : ∀ (N : Nat) (x_2 : Int32) (x_3 : Int32) (H : Heap) (locs : List Loc) (ls : Array Slot), ((x_2 : Int32).toInt ≤ 256) → ((x_3 : Int32).toInt = 0 ∨ (x_3 : Int32).toInt = 1) → (((x_2 : Int32).toInt + 2147483648).toNat < N) → va_P D vwCl [(ar_kinds, .inl (cI, 260, .inl ar_kindsF)), (ar_whats, .inl (cI, 260, .inl ar_whatsF))] H → va_S (fun _ => False) s.heap H locs → lv_has ls 7 [(6, .int x_2), (5, .int x_3), (0, .ref ar_kinds), (1, .ref ar_whats), (2, .int p1), (3, .int p2), (4, .int p3)] → Z 0 0 H locs (F0 m 8 ls []) := by
    intro N
    induction N with
    | zero => intro _ _ _ _ _ _ _ hmu; exact absurd hmu (Nat.not_lt_zero _)
    | succ N ih_8 =>
      intro x_2 x_3 H locs ls g8_0 g8_1 hmu hP hS hl
      refine hZ2 ?_
      refine lv_iload hx hb dX12_isTenth_8 (lv_at hl 0 rfl) ?_
      refine lv_iload_n hx hb dX12_isTenth_10 rfl (lv_at hl 5 rfl) ?_
      refine lv_icmp_lt (tgt := 57) hx hb dX12_isTenth_11 (by decide) (fun c_4 => ?_) (fun c_4 => ?_)
      · have ic_4 : (x_2 : Int32).toInt < (p2 : Int32).toInt := (fa_lt x_2 p2).mp c_4
        refine lv_iload hx hb dX12_isTenth_57 (lv_at hl 1 rfl) ?_
        exact W.zret (v := x_3) hx hb hr (nz01 (by omega)) (fun t ht hW => ⟨⟨x_3, (), rfl, (by (try dsimp only); first | omega | assumption), trivial⟩, hS.F ht⟩) hS.2.2 dX12_isTenth_59
      · have ic_4 : ¬ ((x_2 : Int32).toInt < (p2 : Int32).toInt) := fun h9 => c_4 ((fa_lt x_2 p2).mpr h9)
        refine lv_iload hx hb dX12_isTenth_14 (lv_at hl 0 rfl) ?_
        refine lv_iload_n hx hb dX12_isTenth_16 rfl (lv_at hl 4 rfl) ?_
        refine lv_iconst (v := 3) hx hb dX12_isTenth_17 (by decide) ?_
        refine lv_isub hx hb dX12_isTenth_18 ?_
        refine lv_topi (fun x_5 ex_5 => ?_)
        have b_p1 := ti_b p1
        have tx_5 := ti_sub ex_5
        refine lv_icmp_lt (tgt := 57) hx hb dX12_isTenth_19 (by decide) (fun c_6 => ?_) (fun c_6 => ?_)
        · have ic_6 : (x_2 : Int32).toInt < (x_5 : Int32).toInt := (fa_lt x_2 x_5).mp c_6
          refine lv_iload hx hb dX12_isTenth_57 (lv_at hl 1 rfl) ?_
          exact W.zret (v := x_3) hx hb hr (nz01 (by omega)) (fun t ht hW => ⟨⟨x_3, (), rfl, (by (try dsimp only); first | omega | assumption), trivial⟩, hS.F ht⟩) hS.2.2 dX12_isTenth_59
        · have ic_6 : ¬ ((x_2 : Int32).toInt < (x_5 : Int32).toInt) := fun h9 => c_6 ((fa_lt x_2 x_5).mpr h9)
          refine lv_iload hx hb dX12_isTenth_22 (lv_at hl 1 rfl) ?_
          have K_49 : ∀ (z_7 : Int32) (H : Heap) (locs : List Loc) (ls : Array Slot), ((z_7 : Int32).toInt = 0 ∨ (z_7 : Int32).toInt = 1) → va_P D vwCl [(ar_kinds, .inl (cI, 260, .inl ar_kindsF)), (ar_whats, .inl (cI, 260, .inl ar_whatsF))] H → va_S (fun _ => False) s.heap H locs → lv_has ls 7 [(6, .int x_2), (0, .ref ar_kinds), (1, .ref ar_whats), (2, .int p1), (3, .int p2), (4, .int p3)] → Z 0 0 H locs (F0 m 49 ls [.int z_7]) := by
            intro z_7 H locs ls g49_0 hP hS hl
            refine hZ2 ?_
            refine lv_istore (lv' := [(5, .int z_7), (6, .int x_2), (0, .ref ar_kinds), (1, .ref ar_whats), (2, .int p1), (3, .int p2), (4, .int p3)]) hx hb dX12_isTenth_49 hl (by decide) rfl (fun ls hl => ?_)
            obtain ⟨x_8, ex_8⟩ : ∃ y : Int32, y = x_2 + (-1) := ⟨_, rfl⟩
            have b_x_2 := ti_b x_2
            have tx_8 := ti_add ex_8
            refine lv_iinc (v := x_8) (lv' := [(6, .int x_8), (5, .int z_7), (0, .ref ar_kinds), (1, .ref ar_whats), (2, .int p1), (3, .int p2), (4, .int p3)]) hx hb dX12_isTenth_51 hl (k := 1) rfl (by rw [ex_8]; rfl) (by decide) rfl (fun ls hl => ?_)
            refine lv_goto (tgt := 8) hx hb dX12_isTenth_54 (by decide) ?_
            exact hZ1 (ih_8 x_8 z_7 _ _ _ (by omega) (by omega) (by omega) hP hS hl)
          have K_44 : ∀ (H : Heap) (locs : List Loc) (ls : Array Slot), va_P D vwCl [(ar_kinds, .inl (cI, 260, .inl ar_kindsF)), (ar_whats, .inl (cI, 260, .inl ar_whatsF))] H → va_S (fun _ => False) s.heap H locs → lv_has ls 7 [(6, .int x_2), (0, .ref ar_kinds), (1, .ref ar_whats), (2, .int p1), (3, .int p2), (4, .int p3)] → Z 0 0 H locs (F0 m 44 ls []) := by
            intro  H locs ls  hP hS hl
            refine hZ2 ?_
            refine lv_iconst (v := 1) hx hb dX12_isTenth_44 (by decide) ?_
            refine lv_goto (tgt := 49) hx hb dX12_isTenth_45 (by decide) ?_
            exact hZ1 (K_49 1 _ _ _ (by omega) hP hS hl)
          refine lv_if_ne (tgt := 44) hx hb dX12_isTenth_24 (by decide) (fun c_9 => ?_) (fun c_9 => ?_)
          · have ic_9 : ¬ ((x_3 : Int32).toInt = (0 : Int32).toInt) := fun h9 => c_9 ((fa_eq x_3 0).mpr h9)
            exact hZ1 (K_44  _ _ _ hP hS (lv_sub hl [0, 2, 3, 4, 5, 6] rfl))
          · have ic_9 : (x_3 : Int32).toInt = (0 : Int32).toInt := (fa_eq x_3 0).mp c_9
            refine lv_aload_n hx hb dX12_isTenth_27 rfl (lv_at hl 2 rfl) ?_
            refine lv_aload_n hx hb dX12_isTenth_28 rfl (lv_at hl 3 rfl) ?_
            refine lv_iload hx hb dX12_isTenth_29 (lv_at hl 0 rfl) ?_
            refine lv_iload_n hx hb dX12_isTenth_31 rfl (lv_at hl 5 rfl) ?_
            refine lv_iload hx hb dX12_isTenth_32 (lv_at hl 6 rfl) ?_
            have hPc := hP.sub (ws' := [(ar_kinds, .inl (cI, 260, .inl ar_kindsF)), (ar_whats, .inl (cI, 260, .inl ar_whatsF))]) [0, 1] rfl
            refine va_calli (va_runS (As := [.ref ar_kinds, .ref ar_whats, .int x_2, .int p2, .int p3]) (rest := []) ⟨hx, hb, hml, hown, hts⟩ (c_X12_tenths l D cI cD cJ H.size ar_kinds ar_kindsF ar_whats ar_whatsF x_2 p2 p3 (by omega) (by omega) (by omega) (by omega)) (va_cwS 5 hts (goodIn_app (goodIn_r _ [1, 2, 3] rfl (by decide +kernel)) (goodIn_sub i_X12_tenths k_X12_tenths)) rfl rfl rfl (by decide +kernel) ⟨Nat.le_of_ble_eq_true rfl, Nat.le_of_ble_eq_true rfl⟩) ⟨fun a U g mk q => by obtain ⟨q0, qP, qK⟩ := q; exact ⟨q0, qP, va_K.moved (u := U) (U := U.calling g mk a) (Vm.Alike.refl U.vm) qK⟩, fun U hU hW => ⟨rfl, by rw [hU]; exact hPc, va_K.moved hW.alike hK⟩⟩ rfl rfl hl.1 rfl (lv_room (Nat.le_of_ble_eq_true rfl)) dX12_isTenth_34 ⟨Nat.le_of_ble_eq_true rfl, Nat.le_of_ble_eq_true rfl⟩) hS (fun q _ h => h.elim) (fun q h => h.elim) (fun x_10 u t H1 locs ht hvm w_11 hB hz1 hk1 hS => ?_)
            have hP : va_P D vwCl [(ar_kinds, .inl (cI, 260, .inl ar_kindsF)), (ar_whats, .inl (cI, 260, .inl ar_whatsF))] H1 := hP.kept (fun k9 q9 h9 => hk1 q9.1 (vx_lt hP h9) (fun h => h))
            generalize H1 = H at hP hS ⊢
            try dsimp only at w_11
            have b_x_10 := ti_b x_10
            refine lv_iload_n hx hb dX12_isTenth_37 rfl (lv_at hl 4 rfl) ?_
            refine lv_iload hx hb dX12_isTenth_38 (lv_at hl 0 rfl) ?_
            refine lv_isub hx hb dX12_isTenth_40 ?_
            refine lv_topi (fun x_12 ex_12 => ?_)
            have b_p1 := ti_b p1
            have b_x_2 := ti_b x_2
            have tx_12 := ti_sub ex_12
            refine lv_icmp_lt (tgt := 48) hx hb dX12_isTenth_41 (by decide) (fun c_13 => ?_) (fun c_13 => ?_)
            · have ic_13 : (x_10 : Int32).toInt < (x_12 : Int32).toInt := (fa_lt x_10 x_12).mp c_13
              refine lv_iconst (v := 0) hx hb dX12_isTenth_48 (by decide) ?_
              exact hZ1 (K_49 0 _ _ _ (by omega) hP hS (lv_sub hl [0, 2, 3, 4, 5, 6] rfl))
            · have ic_13 : ¬ ((x_10 : Int32).toInt < (x_12 : Int32).toInt) := fun h9 => c_13 ((fa_lt x_10 x_12).mpr h9)
              exact hZ1 (K_44  _ _ _ hP hS (lv_sub hl [0, 2, 3, 4, 5, 6] rfl))
  exact hZ1 (L_8 ((((x_1 : Int32).toInt + 2147483648).toNat) + 1) x_1 0 _ _ _ (by omega) (by omega) (by omega) hP hS hl)

def ow_X12_illAt : List Cond := [Cond.fieldLink RX12 78 "NumberFormatsModel" "code" "I", Cond.fieldLink RX12 19 "NumberFormatsModel" "illAt" "I"]
def pw_X12_illAt : List Cond := Cond.code yX12_illAt cX12_illAt 1 (some .int) :: (ow_X12_illAt ++ (wsX120))
set_option maxRecDepth 20000 in
theorem mo_X12_illAt : ∀ w ∈ ow_X12_illAt, w ∈ lw_tbl := by decide +kernel
set_option maxRecDepth 20000 in
theorem mc_X12_illAt : Cond.code yX12_illAt cX12_illAt 1 (some .int) ∈ lw_tbl := by decide +kernel
theorem m_X12_illAt : ∀ w ∈ pw_X12_illAt, w ∈ lw_tbl := List.forall_mem_cons.mpr ⟨mc_X12_illAt, (List.forall_mem_append.mpr ⟨mo_X12_illAt, inX12⟩)⟩
theorem ko_X12_illAt : ∀ w ∈ ow_X12_illAt, goodWord w = true := by decide +kernel
theorem k_X12_illAt : pw_X12_illAt.all goodWord = true := List.all_eq_true.mpr (List.forall_mem_cons.mpr ⟨by decide +kernel, (List.forall_mem_append.mpr ⟨ko_X12_illAt, kX_X12⟩)⟩)
set_option maxHeartbeats 400000 in
set_option maxRecDepth 100000 in
theorem c_X12_illAt (l : Launch) (D : va_G) (cI cD cJ : ClassId) (sz : Nat) (h : Nat) (h_code : Int32) (h_taped : Int32) (h_tape : Nat) (h_size : Int32) (h_text : Nat) (h_value : UInt64) (h_out : Int32) (h_output : Nat) (h_illAt : Int32) (h_format : Nat) (h_sections : Int32) (h_items : Int32) (h_kind : Nat) (h_what : Nat) (h_of : Nat) (h_relation : Nat) (h_bound : Nat) (h_reads : Int32) (h_readSections : Int32) (h_readKind : Nat) (h_readWhat : Nat) (h_readOf : Nat) (h_place : Nat) (h_readRelation : Nat) (h_readBound : Nat) (h_stop : Int32) (h_meant : Nat) (h_row : Nat) (h_exact : Nat) (h_error : Nat) (h_bestError : Nat) (h_m : Int64) (h_e : Int32) (h_digits : Nat) (h_whole : Int32) (iv_h_taped : 0 ≤ (h_taped : Int32).toInt ∧ (h_taped : Int32).toInt ≤ 260) (iv_h_size : 0 ≤ (h_size : Int32).toInt ∧ (h_size : Int32).toInt ≤ 255) (iv_h_value : inR h_value) (iv_h_out : 0 ≤ (h_out : Int32).toInt ∧ (h_out : Int32).toInt ≤ 1024) (iv_h_sections : 0 ≤ (h_sections : Int32).toInt ∧ (h_sections : Int32).toInt ≤ 4) (iv_h_items : 0 ≤ (h_items : Int32).toInt ∧ (h_items : Int32).toInt ≤ 255) (iv_h_reads : 0 ≤ (h_reads : Int32).toInt ∧ (h_reads : Int32).toInt ≤ 255) (iv_h_readSections : 0 ≤ (h_readSections : Int32).toInt ∧ (h_readSections : Int32).toInt ≤ 4) (iv_h_whole : 0 ≤ (h_whole : Int32).toInt ∧ (h_whole : Int32).toInt ≤ 1001) : Met l yX12_illAt pw_X12_illAt ({ frames := 0, cells := 0, slots := 0, locals := 0 }) (va_Pc [.ref h] (fun U => U.heap.size = sz ∧ va_P D vwCl [(h, .inr (9, [.int h_code, .int h_taped, .ref h_tape, .int h_size, .ref h_text, .double h_value, .int h_out, .ref h_output, .int h_illAt, .ref h_format, .int h_sections, .int h_items, .ref h_kind, .ref h_what, .ref h_of, .ref h_relation, .ref h_bound, .int h_reads, .int h_readSections, .ref h_readKind, .ref h_readWhat, .ref h_readOf, .ref h_place, .ref h_readRelation, .ref h_readBound, .int h_stop, .ref h_meant, .ref h_row, .ref h_exact, .ref h_error, .ref h_bestError, .long h_m, .int h_e, .ref h_digits, .int h_whole]))] U.heap ∧ va_K D vwCl (ty3 cI cD cJ) U ∧ va_D (fun _ => True) [(h, .inr (9, [.int h_code, .int h_taped, .ref h_tape, .int h_size, .ref h_text, .double h_value, .int h_out, .ref h_output, .int h_illAt, .ref h_format, .int h_sections, .int h_items, .ref h_kind, .ref h_what, .ref h_of, .ref h_relation, .ref h_bound, .int h_reads, .int h_readSections, .ref h_readKind, .ref h_readWhat, .ref h_readOf, .ref h_place, .ref h_readRelation, .ref h_readBound, .int h_stop, .ref h_meant, .ref h_row, .ref h_exact, .ref h_error, .ref h_bestError, .long h_m, .int h_e, .ref h_digits, .int h_whole]))])) (va_Qi (fun (r : Int32) (h_code2 : Int32) => True) (fun (h_code2 : Int32) (t : State) => va_P D vwCl [(h, .inr (9, [.int h_code2, .int h_taped, .ref h_tape, .int h_size, .ref h_text, .double h_value, .int h_out, .ref h_output, .int h_illAt, .ref h_format, .int h_sections, .int h_items, .ref h_kind, .ref h_what, .ref h_of, .ref h_relation, .ref h_bound, .int h_reads, .int h_readSections, .ref h_readKind, .ref h_readWhat, .ref h_readOf, .ref h_place, .ref h_readRelation, .ref h_readBound, .int h_stop, .ref h_meant, .ref h_row, .ref h_exact, .ref h_error, .ref h_bestError, .long h_m, .int h_e, .ref h_digits, .int h_whole]))] t.heap ∧ va_K D vwCl (ty3 cI cD cJ) t ∧ va_D (va_A [(h, .inr (9, [.int h_code, .int h_taped, .ref h_tape, .int h_size, .ref h_text, .double h_value, .int h_out, .ref h_output, .int h_illAt, .ref h_format, .int h_sections, .int h_items, .ref h_kind, .ref h_what, .ref h_of, .ref h_relation, .ref h_bound, .int h_reads, .int h_readSections, .ref h_readKind, .ref h_readWhat, .ref h_readOf, .ref h_place, .ref h_readRelation, .ref h_readBound, .int h_stop, .ref h_meant, .ref h_row, .ref h_exact, .ref h_error, .ref h_bestError, .long h_m, .int h_e, .ref h_digits, .int h_whole]))] sz) [(h, .inr (9, [.int h_code2, .int h_taped, .ref h_tape, .int h_size, .ref h_text, .double h_value, .int h_out, .ref h_output, .int h_illAt, .ref h_format, .int h_sections, .int h_items, .ref h_kind, .ref h_what, .ref h_of, .ref h_relation, .ref h_bound, .int h_reads, .int h_readSections, .ref h_readKind, .ref h_readWhat, .ref h_readOf, .ref h_place, .ref h_readRelation, .ref h_readBound, .int h_stop, .ref h_meant, .ref h_row, .ref h_exact, .ref h_error, .ref h_bestError, .long h_m, .int h_e, .ref h_digits, .int h_whole]))]) (va_A [(h, .inr (9, [.int h_code, .int h_taped, .ref h_tape, .int h_size, .ref h_text, .double h_value, .int h_out, .ref h_output, .int h_illAt, .ref h_format, .int h_sections, .int h_items, .ref h_kind, .ref h_what, .ref h_of, .ref h_relation, .ref h_bound, .int h_reads, .int h_readSections, .ref h_readKind, .ref h_readWhat, .ref h_readOf, .ref h_place, .ref h_readRelation, .ref h_readBound, .int h_stop, .ref h_meant, .ref h_row, .ref h_exact, .ref h_error, .ref h_bestError, .long h_m, .int h_e, .ref h_digits, .int h_whole]))] sz)) 0 0 (va_A [(h, .inr (9, [.int h_code, .int h_taped, .ref h_tape, .int h_size, .ref h_text, .double h_value, .int h_out, .ref h_output, .int h_illAt, .ref h_format, .int h_sections, .int h_items, .ref h_kind, .ref h_what, .ref h_of, .ref h_relation, .ref h_bound, .int h_reads, .int h_readSections, .ref h_readKind, .ref h_readWhat, .ref h_readOf, .ref h_place, .ref h_readRelation, .ref h_readBound, .int h_stop, .ref h_meant, .ref h_row, .ref h_exact, .ref h_error, .ref h_bestError, .long h_m, .int h_e, .ref h_digits, .int h_whole]))] sz) := by
  refine Met.ofW (cc := cX12_illAt) (maxL := 1) (ret := (some .int)) (by decide +kernel) rfl ?_
  intro p e s m args below meth c s₁ B hml hv
  obtain ⟨rfl, hsz, hP, hK, hD0⟩ := hv
  have hx := B.exec
  have hb := B.bytes
  have hr := B.returns
  have hts := atoms_spec (ws := pw_X12_illAt) B.pre
  have hown : s.vm.findClass RX12 = some m.cls := findClass_of_methodNamed B.named
  have hlocks := B.notSynchronized
  subst hsz
  have hD := hD0.self (sz := s.heap.size)
  generalize hAe : va_A [(h, .inr (9, [.int h_code, .int h_taped, .ref h_tape, .int h_size, .ref h_text, .double h_value, .int h_out, .ref h_output, .int h_illAt, .ref h_format, .int h_sections, .int h_items, .ref h_kind, .ref h_what, .ref h_of, .ref h_relation, .ref h_bound, .int h_reads, .int h_readSections, .ref h_readKind, .ref h_readWhat, .ref h_readOf, .ref h_place, .ref h_readRelation, .ref h_readBound, .int h_stop, .ref h_meant, .ref h_row, .ref h_exact, .ref h_error, .ref h_bestError, .long h_m, .int h_e, .ref h_digits, .int h_whole]))] s.heap.size = A at hD ⊢
  have hA : ∀ q : Nat, s.heap.size ≤ q → A q := fun q h => by rw [← hAe]; exact Or.inr h
  have hS : va_S A s.heap s.heap [] := va_S.rf
  have hw : ∀ (k : Nat) (w : Cond), ow_X12_illAt[k]? = some w → w.before _ s = true := fun k w h => hts w (List.mem_cons_of_mem _ (have h9 := List.mem_of_getElem? h; List.mem_append_left _ h9))
  have iX12 : ∀ w ∈ u_ws RX12 TX12 35, w ∈ pw_X12_illAt := fun w h9 => List.mem_cons_of_mem _ (List.mem_append_right _ (h9))
  have n_0 : ((0 : Int32)).toInt = 0 := by decide
  have hl := lv_entry ([.ref h]) (n := 1) (Nat.le_of_ble_eq_true rfl)
  rw [lg_entry_eq]
  generalize (lg_sl ([.ref h]) ++ List.replicate (1 - (lg_sl ([.ref h])).length) Slot.unset).toArray = ls at hl ⊢
  have hl : lv_has ls 1 [(0, .ref h)] := hl
  refine lv_aload_n hx hb dX12_illAt_0 rfl (lv_at hl 0 rfl) ?_
  refine lv_iconst (v := 0) hx hb dX12_illAt_1 (by decide) ?_
  refine va_put (D := D) (ci := 9) (v := .int 0) (ty := .int) (C := RX12) (T := TX12) (N := 35) hx hb hts iX12 tyX12 tyX12_ok nmX12 hown hK hP hD hS 0 rfl rfl 0 (by decide) (hw 0 (.fieldLink RX12 78 "NumberFormatsModel" "code" "I") rfl) (fun _ h9 => h9) rfl (by decide +kernel) rfl rfl (Nat.le_of_ble_eq_true rfl) dX12_illAt_2 (fun H locs hP hD hS => ?_)
  have hP : va_P D vwCl [(h, .inr (9, [.int 0, .int h_taped, .ref h_tape, .int h_size, .ref h_text, .double h_value, .int h_out, .ref h_output, .int h_illAt, .ref h_format, .int h_sections, .int h_items, .ref h_kind, .ref h_what, .ref h_of, .ref h_relation, .ref h_bound, .int h_reads, .int h_readSections, .ref h_readKind, .ref h_readWhat, .ref h_readOf, .ref h_place, .ref h_readRelation, .ref h_readBound, .int h_stop, .ref h_meant, .ref h_row, .ref h_exact, .ref h_error, .ref h_bestError, .long h_m, .int h_e, .ref h_digits, .int h_whole]))] H := hP
  have hD : va_D A [(h, .inr (9, [.int 0, .int h_taped, .ref h_tape, .int h_size, .ref h_text, .double h_value, .int h_out, .ref h_output, .int h_illAt, .ref h_format, .int h_sections, .int h_items, .ref h_kind, .ref h_what, .ref h_of, .ref h_relation, .ref h_bound, .int h_reads, .int h_readSections, .ref h_readKind, .ref h_readWhat, .ref h_readOf, .ref h_place, .ref h_readRelation, .ref h_readBound, .int h_stop, .ref h_meant, .ref h_row, .ref h_exact, .ref h_error, .ref h_bestError, .long h_m, .int h_e, .ref h_digits, .int h_whole]))] := hD
  refine lv_aload_n hx hb dX12_illAt_5 rfl (lv_at hl 0 rfl) ?_
  refine va_get (D := D) (ci := 9) (v := .int h_illAt) (C := RX12) (T := TX12) (N := 35) hx hb hts iX12 hown hK hP 0 rfl rfl 8 (by decide) (hw 1 (.fieldLink RX12 19 "NumberFormatsModel" "illAt" "I") rfl) (fun _ h9 => h9) rfl dX12_illAt_6 ?_
  have hP9 := hP.sub (ws' := [(h, .inr (9, [.int 0, .int h_taped, .ref h_tape, .int h_size, .ref h_text, .double h_value, .int h_out, .ref h_output, .int h_illAt, .ref h_format, .int h_sections, .int h_items, .ref h_kind, .ref h_what, .ref h_of, .ref h_relation, .ref h_bound, .int h_reads, .int h_readSections, .ref h_readKind, .ref h_readWhat, .ref h_readOf, .ref h_place, .ref h_readRelation, .ref h_readBound, .int h_stop, .ref h_meant, .ref h_row, .ref h_exact, .ref h_error, .ref h_bestError, .long h_m, .int h_e, .ref h_digits, .int h_whole]))]) [0] rfl
  have hD9 := hD.sub (ws' := [(h, .inr (9, [.int 0, .int h_taped, .ref h_tape, .int h_size, .ref h_text, .double h_value, .int h_out, .ref h_output, .int h_illAt, .ref h_format, .int h_sections, .int h_items, .ref h_kind, .ref h_what, .ref h_of, .ref h_relation, .ref h_bound, .int h_reads, .int h_readSections, .ref h_readKind, .ref h_readWhat, .ref h_readOf, .ref h_place, .ref h_readRelation, .ref h_readBound, .int h_stop, .ref h_meant, .ref h_row, .ref h_exact, .ref h_error, .ref h_bestError, .long h_m, .int h_e, .ref h_digits, .int h_whole]))]) [0] (by decide) rfl
  exact W.iret (v := h_illAt) hx hb hr (fun t ht hW => ⟨⟨h_illAt, (0), rfl, trivial, by rw [ht]; exact hP9, va_K.moved hW.alike hK, hD9⟩, hS.F ht⟩) hS.2.2 dX12_illAt_9

def ow_X12_write : List Cond := [Cond.fieldLink RX12 273 "NumberFormatsModel" "out" "I", Cond.fieldLink RX12 16 "NumberFormatsModel" "output" "[I"]
def pw_X12_write : List Cond := Cond.code yX12_write cX12_write 2 none :: (ow_X12_write ++ (wsX120))
set_option maxRecDepth 20000 in
theorem mo_X12_write : ∀ w ∈ ow_X12_write, w ∈ lw_tbl := by decide +kernel
set_option maxRecDepth 20000 in
theorem mc_X12_write : Cond.code yX12_write cX12_write 2 none ∈ lw_tbl := by decide +kernel
theorem m_X12_write : ∀ w ∈ pw_X12_write, w ∈ lw_tbl := List.forall_mem_cons.mpr ⟨mc_X12_write, (List.forall_mem_append.mpr ⟨mo_X12_write, inX12⟩)⟩
theorem ko_X12_write : ∀ w ∈ ow_X12_write, goodWord w = true := by decide +kernel
theorem k_X12_write : pw_X12_write.all goodWord = true := List.all_eq_true.mpr (List.forall_mem_cons.mpr ⟨by decide +kernel, (List.forall_mem_append.mpr ⟨ko_X12_write, kX_X12⟩)⟩)
set_option maxHeartbeats 400000 in
set_option maxRecDepth 100000 in
theorem c_X12_write (l : Launch) (D : va_G) (cI cD cJ : ClassId) (sz : Nat) (h : Nat) (h_code : Int32) (h_taped : Int32) (h_tape : Nat) (h_size : Int32) (h_text : Nat) (h_value : UInt64) (h_out : Int32) (h_output : Nat) (h_illAt : Int32) (h_format : Nat) (h_sections : Int32) (h_items : Int32) (h_kind : Nat) (h_what : Nat) (h_of : Nat) (h_relation : Nat) (h_bound : Nat) (h_reads : Int32) (h_readSections : Int32) (h_readKind : Nat) (h_readWhat : Nat) (h_readOf : Nat) (h_place : Nat) (h_readRelation : Nat) (h_readBound : Nat) (h_stop : Int32) (h_meant : Nat) (h_row : Nat) (h_exact : Nat) (h_error : Nat) (h_bestError : Nat) (h_m : Int64) (h_e : Int32) (h_digits : Nat) (h_whole : Int32) (h_outputF : Nat → Int32) (p1 : Int32) (iv_h_taped : 0 ≤ (h_taped : Int32).toInt ∧ (h_taped : Int32).toInt ≤ 260) (iv_h_size : 0 ≤ (h_size : Int32).toInt ∧ (h_size : Int32).toInt ≤ 255) (iv_h_value : inR h_value) (iv_h_out : 0 ≤ (h_out : Int32).toInt ∧ (h_out : Int32).toInt ≤ 1024) (iv_h_sections : 0 ≤ (h_sections : Int32).toInt ∧ (h_sections : Int32).toInt ≤ 4) (iv_h_items : 0 ≤ (h_items : Int32).toInt ∧ (h_items : Int32).toInt ≤ 255) (iv_h_reads : 0 ≤ (h_reads : Int32).toInt ∧ (h_reads : Int32).toInt ≤ 255) (iv_h_readSections : 0 ≤ (h_readSections : Int32).toInt ∧ (h_readSections : Int32).toInt ≤ 4) (iv_h_whole : 0 ≤ (h_whole : Int32).toInt ∧ (h_whole : Int32).toInt ≤ 1001) : Met l yX12_write pw_X12_write ({ frames := 0, cells := 0, slots := 0, locals := 0 }) (va_Pc [.ref h, .int p1] (fun U => U.heap.size = sz ∧ va_P D vwCl [(h, .inr (9, [.int h_code, .int h_taped, .ref h_tape, .int h_size, .ref h_text, .double h_value, .int h_out, .ref h_output, .int h_illAt, .ref h_format, .int h_sections, .int h_items, .ref h_kind, .ref h_what, .ref h_of, .ref h_relation, .ref h_bound, .int h_reads, .int h_readSections, .ref h_readKind, .ref h_readWhat, .ref h_readOf, .ref h_place, .ref h_readRelation, .ref h_readBound, .int h_stop, .ref h_meant, .ref h_row, .ref h_exact, .ref h_error, .ref h_bestError, .long h_m, .int h_e, .ref h_digits, .int h_whole])), (h_output, .inl (cI, 1024, .inl h_outputF))] U.heap ∧ va_K D vwCl (ty3 cI cD cJ) U ∧ va_D (fun _ => True) [(h, .inr (9, [.int h_code, .int h_taped, .ref h_tape, .int h_size, .ref h_text, .double h_value, .int h_out, .ref h_output, .int h_illAt, .ref h_format, .int h_sections, .int h_items, .ref h_kind, .ref h_what, .ref h_of, .ref h_relation, .ref h_bound, .int h_reads, .int h_readSections, .ref h_readKind, .ref h_readWhat, .ref h_readOf, .ref h_place, .ref h_readRelation, .ref h_readBound, .int h_stop, .ref h_meant, .ref h_row, .ref h_exact, .ref h_error, .ref h_bestError, .long h_m, .int h_e, .ref h_digits, .int h_whole])), (h_output, .inl (cI, 1024, .inl h_outputF))])) (va_Qv (fun (u : Int32 × (Nat → Int32)) => match u with | (h_out2, h_outputF2) => (0 ≤ (h_out2 : Int32).toInt ∧ (h_out2 : Int32).toInt ≤ 1024)) (fun (u : Int32 × (Nat → Int32)) (t : State) => match u with | (h_out2, h_outputF2) => va_P D vwCl [(h, .inr (9, [.int h_code, .int h_taped, .ref h_tape, .int h_size, .ref h_text, .double h_value, .int h_out2, .ref h_output, .int h_illAt, .ref h_format, .int h_sections, .int h_items, .ref h_kind, .ref h_what, .ref h_of, .ref h_relation, .ref h_bound, .int h_reads, .int h_readSections, .ref h_readKind, .ref h_readWhat, .ref h_readOf, .ref h_place, .ref h_readRelation, .ref h_readBound, .int h_stop, .ref h_meant, .ref h_row, .ref h_exact, .ref h_error, .ref h_bestError, .long h_m, .int h_e, .ref h_digits, .int h_whole])), (h_output, .inl (cI, 1024, .inl h_outputF2))] t.heap ∧ va_K D vwCl (ty3 cI cD cJ) t ∧ va_D (va_A [(h, .inr (9, [.int h_code, .int h_taped, .ref h_tape, .int h_size, .ref h_text, .double h_value, .int h_out, .ref h_output, .int h_illAt, .ref h_format, .int h_sections, .int h_items, .ref h_kind, .ref h_what, .ref h_of, .ref h_relation, .ref h_bound, .int h_reads, .int h_readSections, .ref h_readKind, .ref h_readWhat, .ref h_readOf, .ref h_place, .ref h_readRelation, .ref h_readBound, .int h_stop, .ref h_meant, .ref h_row, .ref h_exact, .ref h_error, .ref h_bestError, .long h_m, .int h_e, .ref h_digits, .int h_whole])), (h_output, .inl (cI, 1024, .inl h_outputF))] sz) [(h, .inr (9, [.int h_code, .int h_taped, .ref h_tape, .int h_size, .ref h_text, .double h_value, .int h_out2, .ref h_output, .int h_illAt, .ref h_format, .int h_sections, .int h_items, .ref h_kind, .ref h_what, .ref h_of, .ref h_relation, .ref h_bound, .int h_reads, .int h_readSections, .ref h_readKind, .ref h_readWhat, .ref h_readOf, .ref h_place, .ref h_readRelation, .ref h_readBound, .int h_stop, .ref h_meant, .ref h_row, .ref h_exact, .ref h_error, .ref h_bestError, .long h_m, .int h_e, .ref h_digits, .int h_whole])), (h_output, .inl (cI, 1024, .inl h_outputF2))]) (va_A [(h, .inr (9, [.int h_code, .int h_taped, .ref h_tape, .int h_size, .ref h_text, .double h_value, .int h_out, .ref h_output, .int h_illAt, .ref h_format, .int h_sections, .int h_items, .ref h_kind, .ref h_what, .ref h_of, .ref h_relation, .ref h_bound, .int h_reads, .int h_readSections, .ref h_readKind, .ref h_readWhat, .ref h_readOf, .ref h_place, .ref h_readRelation, .ref h_readBound, .int h_stop, .ref h_meant, .ref h_row, .ref h_exact, .ref h_error, .ref h_bestError, .long h_m, .int h_e, .ref h_digits, .int h_whole])), (h_output, .inl (cI, 1024, .inl h_outputF))] sz)) 0 0 (va_A [(h, .inr (9, [.int h_code, .int h_taped, .ref h_tape, .int h_size, .ref h_text, .double h_value, .int h_out, .ref h_output, .int h_illAt, .ref h_format, .int h_sections, .int h_items, .ref h_kind, .ref h_what, .ref h_of, .ref h_relation, .ref h_bound, .int h_reads, .int h_readSections, .ref h_readKind, .ref h_readWhat, .ref h_readOf, .ref h_place, .ref h_readRelation, .ref h_readBound, .int h_stop, .ref h_meant, .ref h_row, .ref h_exact, .ref h_error, .ref h_bestError, .long h_m, .int h_e, .ref h_digits, .int h_whole])), (h_output, .inl (cI, 1024, .inl h_outputF))] sz) := by
  refine Met.ofW (cc := cX12_write) (maxL := 2) (ret := none) (by decide +kernel) rfl ?_
  intro p e s m args below meth c s₁ B hml hv
  obtain ⟨rfl, hsz, hP, hK, hD0⟩ := hv
  have hx := B.exec
  have hb := B.bytes
  have hr := B.returns
  have hts := atoms_spec (ws := pw_X12_write) B.pre
  have hown : s.vm.findClass RX12 = some m.cls := findClass_of_methodNamed B.named
  have hlocks := B.notSynchronized
  subst hsz
  have hD := hD0.self (sz := s.heap.size)
  generalize hAe : va_A [(h, .inr (9, [.int h_code, .int h_taped, .ref h_tape, .int h_size, .ref h_text, .double h_value, .int h_out, .ref h_output, .int h_illAt, .ref h_format, .int h_sections, .int h_items, .ref h_kind, .ref h_what, .ref h_of, .ref h_relation, .ref h_bound, .int h_reads, .int h_readSections, .ref h_readKind, .ref h_readWhat, .ref h_readOf, .ref h_place, .ref h_readRelation, .ref h_readBound, .int h_stop, .ref h_meant, .ref h_row, .ref h_exact, .ref h_error, .ref h_bestError, .long h_m, .int h_e, .ref h_digits, .int h_whole])), (h_output, .inl (cI, 1024, .inl h_outputF))] s.heap.size = A at hD ⊢
  have hA : ∀ q : Nat, s.heap.size ≤ q → A q := fun q h => by rw [← hAe]; exact Or.inr h
  have hS : va_S A s.heap s.heap [] := va_S.rf
  have hw : ∀ (k : Nat) (w : Cond), ow_X12_write[k]? = some w → w.before _ s = true := fun k w h => hts w (List.mem_cons_of_mem _ (have h9 := List.mem_of_getElem? h; List.mem_append_left _ h9))
  have iX12 : ∀ w ∈ u_ws RX12 TX12 35, w ∈ pw_X12_write := fun w h9 => List.mem_cons_of_mem _ (List.mem_append_right _ (h9))
  have n_1 : ((1 : Int32)).toInt = 1 := by decide
  have n_1024 : ((1024 : Int32)).toInt = 1024 := by decide
  have hl := lv_entry ([.ref h, .int p1]) (n := 2) (Nat.le_of_ble_eq_true rfl)
  rw [lg_entry_eq]
  generalize (lg_sl ([.ref h, .int p1]) ++ List.replicate (2 - (lg_sl ([.ref h, .int p1])).length) Slot.unset).toArray = ls at hl ⊢
  have hl : lv_has ls 2 [(0, .ref h), (1, .int p1)] := hl
  have b_p1 := ti_b p1
  refine lv_aload_n hx hb dX12_write_0 rfl (lv_at hl 0 rfl) ?_
  refine va_get (D := D) (ci := 9) (v := .int h_out) (C := RX12) (T := TX12) (N := 35) hx hb hts iX12 hown hK hP 0 rfl rfl 6 (by decide) (hw 0 (.fieldLink RX12 273 "NumberFormatsModel" "out" "I") rfl) (fun _ h9 => h9) rfl dX12_write_1 ?_
  refine lv_sipush (v := 1024) hx hb dX12_write_4 (by decide) ?_
  refine lv_icmp_ne (tgt := 11) hx hb dX12_write_7 (by decide) (fun c_1 => ?_) (fun c_1 => ?_)
  · have ic_1 : ¬ ((h_out : Int32).toInt = (1024 : Int32).toInt) := fun h9 => c_1 ((fa_eq h_out 1024).mpr h9)
    refine lv_aload_n hx hb dX12_write_11 rfl (lv_at hl 0 rfl) ?_
    refine va_get (D := D) (ci := 9) (v := .ref h_output) (C := RX12) (T := TX12) (N := 35) hx hb hts iX12 hown hK hP 0 rfl rfl 7 (by decide) (hw 1 (.fieldLink RX12 16 "NumberFormatsModel" "output" "[I") rfl) (fun _ h9 => h9) rfl dX12_write_12 ?_
    refine lv_aload_n hx hb dX12_write_15 rfl (lv_at hl 0 rfl) ?_
    refine va_get (D := D) (ci := 9) (v := .int h_out) (C := RX12) (T := TX12) (N := 35) hx hb hts iX12 hown hK hP 0 rfl rfl 6 (by decide) (hw 0 (.fieldLink RX12 273 "NumberFormatsModel" "out" "I") rfl) (fun _ h9 => h9) rfl dX12_write_16 ?_
    refine lv_iload_n hx hb dX12_write_19 rfl (lv_at hl 1 rfl) ?_
    have h_20 : vp_in h_out 1024 := by rw [vp_in_iff]; omega
    refine va_iast hx hb hK hP hD hS 1 0 rfl rfl h_20 dX12_write_20 (fun H locs hP hD hS => ?_)
    obtain ⟨f_2, ef_2⟩ : ∃ y : Nat → Int32, y = upd h_outputF (h_out : Int32).toNatClampNeg p1 := ⟨_, rfl⟩
    rw [← ef_2] at hP hD
    have hP : va_P D vwCl [(h, .inr (9, [.int h_code, .int h_taped, .ref h_tape, .int h_size, .ref h_text, .double h_value, .int h_out, .ref h_output, .int h_illAt, .ref h_format, .int h_sections, .int h_items, .ref h_kind, .ref h_what, .ref h_of, .ref h_relation, .ref h_bound, .int h_reads, .int h_readSections, .ref h_readKind, .ref h_readWhat, .ref h_readOf, .ref h_place, .ref h_readRelation, .ref h_readBound, .int h_stop, .ref h_meant, .ref h_row, .ref h_exact, .ref h_error, .ref h_bestError, .long h_m, .int h_e, .ref h_digits, .int h_whole])), (h_output, .inl (cI, 1024, .inl f_2))] H := hP
    have hD : va_D A [(h, .inr (9, [.int h_code, .int h_taped, .ref h_tape, .int h_size, .ref h_text, .double h_value, .int h_out, .ref h_output, .int h_illAt, .ref h_format, .int h_sections, .int h_items, .ref h_kind, .ref h_what, .ref h_of, .ref h_relation, .ref h_bound, .int h_reads, .int h_readSections, .ref h_readKind, .ref h_readWhat, .ref h_readOf, .ref h_place, .ref h_readRelation, .ref h_readBound, .int h_stop, .ref h_meant, .ref h_row, .ref h_exact, .ref h_error, .ref h_bestError, .long h_m, .int h_e, .ref h_digits, .int h_whole])), (h_output, .inl (cI, 1024, .inl f_2))] := hD
    refine lv_aload_n hx hb dX12_write_21 rfl (lv_at hl 0 rfl) ?_
    refine lv_dup hx hb dX12_write_22 rfl ?_
    refine va_get (D := D) (ci := 9) (v := .int h_out) (C := RX12) (T := TX12) (N := 35) hx hb hts iX12 hown hK hP 0 rfl rfl 6 (by decide) (hw 0 (.fieldLink RX12 273 "NumberFormatsModel" "out" "I") rfl) (fun _ h9 => h9) rfl dX12_write_23 ?_
    refine lv_iconst (v := 1) hx hb dX12_write_26 (by decide) ?_
    refine lv_iadd hx hb dX12_write_27 ?_
    refine lv_topi (fun x_3 ex_3 => ?_)
    have b_h_out := ti_b h_out
    have tx_3 := ti_add ex_3
    refine va_put (D := D) (ci := 9) (v := .int x_3) (ty := .int) (C := RX12) (T := TX12) (N := 35) hx hb hts iX12 tyX12 tyX12_ok nmX12 hown hK hP hD hS 0 rfl rfl 6 (by decide) (hw 0 (.fieldLink RX12 273 "NumberFormatsModel" "out" "I") rfl) (fun _ h9 => h9) rfl (by decide +kernel) rfl rfl (Nat.le_of_ble_eq_true rfl) dX12_write_28 (fun H locs hP hD hS => ?_)
    have hP : va_P D vwCl [(h, .inr (9, [.int h_code, .int h_taped, .ref h_tape, .int h_size, .ref h_text, .double h_value, .int x_3, .ref h_output, .int h_illAt, .ref h_format, .int h_sections, .int h_items, .ref h_kind, .ref h_what, .ref h_of, .ref h_relation, .ref h_bound, .int h_reads, .int h_readSections, .ref h_readKind, .ref h_readWhat, .ref h_readOf, .ref h_place, .ref h_readRelation, .ref h_readBound, .int h_stop, .ref h_meant, .ref h_row, .ref h_exact, .ref h_error, .ref h_bestError, .long h_m, .int h_e, .ref h_digits, .int h_whole])), (h_output, .inl (cI, 1024, .inl f_2))] H := hP
    have hD : va_D A [(h, .inr (9, [.int h_code, .int h_taped, .ref h_tape, .int h_size, .ref h_text, .double h_value, .int x_3, .ref h_output, .int h_illAt, .ref h_format, .int h_sections, .int h_items, .ref h_kind, .ref h_what, .ref h_of, .ref h_relation, .ref h_bound, .int h_reads, .int h_readSections, .ref h_readKind, .ref h_readWhat, .ref h_readOf, .ref h_place, .ref h_readRelation, .ref h_readBound, .int h_stop, .ref h_meant, .ref h_row, .ref h_exact, .ref h_error, .ref h_bestError, .long h_m, .int h_e, .ref h_digits, .int h_whole])), (h_output, .inl (cI, 1024, .inl f_2))] := hD
    have hP9 := hP.sub (ws' := [(h, .inr (9, [.int h_code, .int h_taped, .ref h_tape, .int h_size, .ref h_text, .double h_value, .int x_3, .ref h_output, .int h_illAt, .ref h_format, .int h_sections, .int h_items, .ref h_kind, .ref h_what, .ref h_of, .ref h_relation, .ref h_bound, .int h_reads, .int h_readSections, .ref h_readKind, .ref h_readWhat, .ref h_readOf, .ref h_place, .ref h_readRelation, .ref h_readBound, .int h_stop, .ref h_meant, .ref h_row, .ref h_exact, .ref h_error, .ref h_bestError, .long h_m, .int h_e, .ref h_digits, .int h_whole])), (h_output, .inl (cI, 1024, .inl f_2))]) [0, 1] rfl
    have hD9 := hD.sub (ws' := [(h, .inr (9, [.int h_code, .int h_taped, .ref h_tape, .int h_size, .ref h_text, .double h_value, .int x_3, .ref h_output, .int h_illAt, .ref h_format, .int h_sections, .int h_items, .ref h_kind, .ref h_what, .ref h_of, .ref h_relation, .ref h_bound, .int h_reads, .int h_readSections, .ref h_readKind, .ref h_readWhat, .ref h_readOf, .ref h_place, .ref h_readRelation, .ref h_readBound, .int h_stop, .ref h_meant, .ref h_row, .ref h_exact, .ref h_error, .ref h_bestError, .long h_m, .int h_e, .ref h_digits, .int h_whole])), (h_output, .inl (cI, 1024, .inl f_2))]) [0, 1] (by decide) rfl
    exact W.vret hx hb hr (fun t ht hW => ⟨⟨(x_3, f_2), rfl, (by (try dsimp only); first | omega | assumption), by rw [ht]; exact hP9, va_K.moved hW.alike hK, hD9⟩, hS.F ht⟩) hS.2.2 dX12_write_31
  · have ic_1 : (h_out : Int32).toInt = (1024 : Int32).toInt := (fa_eq h_out 1024).mp c_1
    have hP9 := hP.sub (ws' := [(h, .inr (9, [.int h_code, .int h_taped, .ref h_tape, .int h_size, .ref h_text, .double h_value, .int h_out, .ref h_output, .int h_illAt, .ref h_format, .int h_sections, .int h_items, .ref h_kind, .ref h_what, .ref h_of, .ref h_relation, .ref h_bound, .int h_reads, .int h_readSections, .ref h_readKind, .ref h_readWhat, .ref h_readOf, .ref h_place, .ref h_readRelation, .ref h_readBound, .int h_stop, .ref h_meant, .ref h_row, .ref h_exact, .ref h_error, .ref h_bestError, .long h_m, .int h_e, .ref h_digits, .int h_whole])), (h_output, .inl (cI, 1024, .inl h_outputF))]) [0, 1] rfl
    have hD9 := hD.sub (ws' := [(h, .inr (9, [.int h_code, .int h_taped, .ref h_tape, .int h_size, .ref h_text, .double h_value, .int h_out, .ref h_output, .int h_illAt, .ref h_format, .int h_sections, .int h_items, .ref h_kind, .ref h_what, .ref h_of, .ref h_relation, .ref h_bound, .int h_reads, .int h_readSections, .ref h_readKind, .ref h_readWhat, .ref h_readOf, .ref h_place, .ref h_readRelation, .ref h_readBound, .int h_stop, .ref h_meant, .ref h_row, .ref h_exact, .ref h_error, .ref h_bestError, .long h_m, .int h_e, .ref h_digits, .int h_whole])), (h_output, .inl (cI, 1024, .inl h_outputF))]) [0, 1] (by decide) rfl
    exact W.vret hx hb hr (fun t ht hW => ⟨⟨(h_out, h_outputF), rfl, (by (try dsimp only); first | omega | assumption), by rw [ht]; exact hP9, va_K.moved hW.alike hK, hD9⟩, hS.F ht⟩) hS.2.2 dX12_write_10

def ow_X12_writeNumber : List Cond := [Cond.constantLong RX12 276 (9), Cond.constantLong RX12 219 (48), Cond.constantLong RX12 114 (10), Cond.methodLink RX12 278 yX12_write, Cond.instanceMethod yX12_write, Cond.selects RX12 yX12_write yX12_write, Cond.initialized RX12]
def pw_X12_writeNumber : List Cond := Cond.code yX12_writeNumber cX12_writeNumber 9 none :: (ow_X12_writeNumber ++ (pw_X12_write))
set_option maxRecDepth 20000 in
theorem mo_X12_writeNumber : ∀ w ∈ ow_X12_writeNumber, w ∈ lw_tbl := by decide +kernel
set_option maxRecDepth 20000 in
theorem mc_X12_writeNumber : Cond.code yX12_writeNumber cX12_writeNumber 9 none ∈ lw_tbl := by decide +kernel
theorem m_X12_writeNumber : ∀ w ∈ pw_X12_writeNumber, w ∈ lw_tbl := List.forall_mem_cons.mpr ⟨mc_X12_writeNumber, (List.forall_mem_append.mpr ⟨mo_X12_writeNumber, m_X12_write⟩)⟩
theorem ko_X12_writeNumber : ∀ w ∈ ow_X12_writeNumber, goodWord w = true := by decide +kernel
theorem k_X12_writeNumber : pw_X12_writeNumber.all goodWord = true := List.all_eq_true.mpr (List.forall_mem_cons.mpr ⟨by decide +kernel, (List.forall_mem_append.mpr ⟨ko_X12_writeNumber, (List.all_eq_true.mp k_X12_write)⟩)⟩)
set_option maxHeartbeats 400000 in
set_option maxRecDepth 100000 in
theorem c_X12_writeNumber (l : Launch) (D : va_G) (cI cD cJ : ClassId) (sz : Nat) (h : Nat) (h_code : Int32) (h_taped : Int32) (h_tape : Nat) (h_size : Int32) (h_text : Nat) (h_value : UInt64) (h_out : Int32) (h_output : Nat) (h_illAt : Int32) (h_format : Nat) (h_sections : Int32) (h_items : Int32) (h_kind : Nat) (h_what : Nat) (h_of : Nat) (h_relation : Nat) (h_bound : Nat) (h_reads : Int32) (h_readSections : Int32) (h_readKind : Nat) (h_readWhat : Nat) (h_readOf : Nat) (h_place : Nat) (h_readRelation : Nat) (h_readBound : Nat) (h_stop : Int32) (h_meant : Nat) (h_row : Nat) (h_exact : Nat) (h_error : Nat) (h_bestError : Nat) (h_m : Int64) (h_e : Int32) (h_digits : Nat) (h_whole : Int32) (h_outputF : Nat → Int32) (p1 : Int64) (p2 : Int32) (iv_h_taped : 0 ≤ (h_taped : Int32).toInt ∧ (h_taped : Int32).toInt ≤ 260) (iv_h_size : 0 ≤ (h_size : Int32).toInt ∧ (h_size : Int32).toInt ≤ 255) (iv_h_value : inR h_value) (iv_h_out : 0 ≤ (h_out : Int32).toInt ∧ (h_out : Int32).toInt ≤ 1024) (iv_h_sections : 0 ≤ (h_sections : Int32).toInt ∧ (h_sections : Int32).toInt ≤ 4) (iv_h_items : 0 ≤ (h_items : Int32).toInt ∧ (h_items : Int32).toInt ≤ 255) (iv_h_reads : 0 ≤ (h_reads : Int32).toInt ∧ (h_reads : Int32).toInt ≤ 255) (iv_h_readSections : 0 ≤ (h_readSections : Int32).toInt ∧ (h_readSections : Int32).toInt ≤ 4) (iv_h_whole : 0 ≤ (h_whole : Int32).toInt ∧ (h_whole : Int32).toInt ≤ 1001) : Met l yX12_writeNumber pw_X12_writeNumber ({ frames := 1, cells := 0, slots := 0, locals := 21 }) (va_Pc [.ref h, .long p1, .int p2] (fun U => U.heap.size = sz ∧ va_P D vwCl [(h, .inr (9, [.int h_code, .int h_taped, .ref h_tape, .int h_size, .ref h_text, .double h_value, .int h_out, .ref h_output, .int h_illAt, .ref h_format, .int h_sections, .int h_items, .ref h_kind, .ref h_what, .ref h_of, .ref h_relation, .ref h_bound, .int h_reads, .int h_readSections, .ref h_readKind, .ref h_readWhat, .ref h_readOf, .ref h_place, .ref h_readRelation, .ref h_readBound, .int h_stop, .ref h_meant, .ref h_row, .ref h_exact, .ref h_error, .ref h_bestError, .long h_m, .int h_e, .ref h_digits, .int h_whole])), (h_output, .inl (cI, 1024, .inl h_outputF))] U.heap ∧ va_K D vwCl (ty3 cI cD cJ) U ∧ va_D (fun _ => True) [(h, .inr (9, [.int h_code, .int h_taped, .ref h_tape, .int h_size, .ref h_text, .double h_value, .int h_out, .ref h_output, .int h_illAt, .ref h_format, .int h_sections, .int h_items, .ref h_kind, .ref h_what, .ref h_of, .ref h_relation, .ref h_bound, .int h_reads, .int h_readSections, .ref h_readKind, .ref h_readWhat, .ref h_readOf, .ref h_place, .ref h_readRelation, .ref h_readBound, .int h_stop, .ref h_meant, .ref h_row, .ref h_exact, .ref h_error, .ref h_bestError, .long h_m, .int h_e, .ref h_digits, .int h_whole])), (h_output, .inl (cI, 1024, .inl h_outputF))])) (va_Qv (fun (u : Int32 × (Nat → Int32)) => match u with | (h_out2, h_outputF2) => (0 ≤ (h_out2 : Int32).toInt ∧ (h_out2 : Int32).toInt ≤ 1024)) (fun (u : Int32 × (Nat → Int32)) (t : State) => match u with | (h_out2, h_outputF2) => va_P D vwCl [(h, .inr (9, [.int h_code, .int h_taped, .ref h_tape, .int h_size, .ref h_text, .double h_value, .int h_out2, .ref h_output, .int h_illAt, .ref h_format, .int h_sections, .int h_items, .ref h_kind, .ref h_what, .ref h_of, .ref h_relation, .ref h_bound, .int h_reads, .int h_readSections, .ref h_readKind, .ref h_readWhat, .ref h_readOf, .ref h_place, .ref h_readRelation, .ref h_readBound, .int h_stop, .ref h_meant, .ref h_row, .ref h_exact, .ref h_error, .ref h_bestError, .long h_m, .int h_e, .ref h_digits, .int h_whole])), (h_output, .inl (cI, 1024, .inl h_outputF2))] t.heap ∧ va_K D vwCl (ty3 cI cD cJ) t ∧ va_D (va_A [(h, .inr (9, [.int h_code, .int h_taped, .ref h_tape, .int h_size, .ref h_text, .double h_value, .int h_out, .ref h_output, .int h_illAt, .ref h_format, .int h_sections, .int h_items, .ref h_kind, .ref h_what, .ref h_of, .ref h_relation, .ref h_bound, .int h_reads, .int h_readSections, .ref h_readKind, .ref h_readWhat, .ref h_readOf, .ref h_place, .ref h_readRelation, .ref h_readBound, .int h_stop, .ref h_meant, .ref h_row, .ref h_exact, .ref h_error, .ref h_bestError, .long h_m, .int h_e, .ref h_digits, .int h_whole])), (h_output, .inl (cI, 1024, .inl h_outputF))] sz) [(h, .inr (9, [.int h_code, .int h_taped, .ref h_tape, .int h_size, .ref h_text, .double h_value, .int h_out2, .ref h_output, .int h_illAt, .ref h_format, .int h_sections, .int h_items, .ref h_kind, .ref h_what, .ref h_of, .ref h_relation, .ref h_bound, .int h_reads, .int h_readSections, .ref h_readKind, .ref h_readWhat, .ref h_readOf, .ref h_place, .ref h_readRelation, .ref h_readBound, .int h_stop, .ref h_meant, .ref h_row, .ref h_exact, .ref h_error, .ref h_bestError, .long h_m, .int h_e, .ref h_digits, .int h_whole])), (h_output, .inl (cI, 1024, .inl h_outputF2))]) (va_A [(h, .inr (9, [.int h_code, .int h_taped, .ref h_tape, .int h_size, .ref h_text, .double h_value, .int h_out, .ref h_output, .int h_illAt, .ref h_format, .int h_sections, .int h_items, .ref h_kind, .ref h_what, .ref h_of, .ref h_relation, .ref h_bound, .int h_reads, .int h_readSections, .ref h_readKind, .ref h_readWhat, .ref h_readOf, .ref h_place, .ref h_readRelation, .ref h_readBound, .int h_stop, .ref h_meant, .ref h_row, .ref h_exact, .ref h_error, .ref h_bestError, .long h_m, .int h_e, .ref h_digits, .int h_whole])), (h_output, .inl (cI, 1024, .inl h_outputF))] sz)) 0 0 (va_A [(h, .inr (9, [.int h_code, .int h_taped, .ref h_tape, .int h_size, .ref h_text, .double h_value, .int h_out, .ref h_output, .int h_illAt, .ref h_format, .int h_sections, .int h_items, .ref h_kind, .ref h_what, .ref h_of, .ref h_relation, .ref h_bound, .int h_reads, .int h_readSections, .ref h_readKind, .ref h_readWhat, .ref h_readOf, .ref h_place, .ref h_readRelation, .ref h_readBound, .int h_stop, .ref h_meant, .ref h_row, .ref h_exact, .ref h_error, .ref h_bestError, .long h_m, .int h_e, .ref h_digits, .int h_whole])), (h_output, .inl (cI, 1024, .inl h_outputF))] sz) := by
  refine Met.ofW (cc := cX12_writeNumber) (maxL := 9) (ret := none) (by decide +kernel) rfl ?_
  intro p e s m args below meth c s₁ B hml hv
  obtain ⟨rfl, hsz, hP, hK, hD0⟩ := hv
  have hx := B.exec
  have hb := B.bytes
  have hr := B.returns
  have hts := atoms_spec (ws := pw_X12_writeNumber) B.pre
  have hown : s.vm.findClass RX12 = some m.cls := findClass_of_methodNamed B.named
  have hlocks := B.notSynchronized
  subst hsz
  have hD := hD0.self (sz := s.heap.size)
  generalize hAe : va_A [(h, .inr (9, [.int h_code, .int h_taped, .ref h_tape, .int h_size, .ref h_text, .double h_value, .int h_out, .ref h_output, .int h_illAt, .ref h_format, .int h_sections, .int h_items, .ref h_kind, .ref h_what, .ref h_of, .ref h_relation, .ref h_bound, .int h_reads, .int h_readSections, .ref h_readKind, .ref h_readWhat, .ref h_readOf, .ref h_place, .ref h_readRelation, .ref h_readBound, .int h_stop, .ref h_meant, .ref h_row, .ref h_exact, .ref h_error, .ref h_bestError, .long h_m, .int h_e, .ref h_digits, .int h_whole])), (h_output, .inl (cI, 1024, .inl h_outputF))] s.heap.size = A at hD ⊢
  have hA : ∀ q : Nat, s.heap.size ≤ q → A q := fun q h => by rw [← hAe]; exact Or.inr h
  have hS : va_S A s.heap s.heap [] := va_S.rf
  have hw : ∀ (k : Nat) (w : Cond), ow_X12_writeNumber[k]? = some w → w.before _ s = true := fun k w h => hts w (List.mem_cons_of_mem _ (have h9 := List.mem_of_getElem? h; List.mem_append_left _ h9))
  have i_X12_write : ∀ w ∈ pw_X12_write, w ∈ pw_X12_writeNumber := fun w h9 => List.mem_cons_of_mem _ (List.mem_append_right _ (h9))
  have n_0 : ((0 : Int32)).toInt = 0 := by decide
  have n_1 : ((1 : Int32)).toInt = 1 := by decide
  have n_48 : ((48 : Int32)).toInt = 48 := by decide
  have nl_0 : ((0 : Int64)).toInt = 0 := by decide
  have nl_1 : ((1 : Int64)).toInt = 1 := by decide
  have nl_10 : ((10 : Int64)).toInt = 10 := by decide
  have nl_48 : ((48 : Int64)).toInt = 48 := by decide
  have nl_9 : ((9 : Int64)).toInt = 9 := by decide
  have hl := lv_entry ([.ref h, .long p1, .int p2]) (n := 9) (Nat.le_of_ble_eq_true rfl)
  rw [lg_entry_eq]
  generalize (lg_sl ([.ref h, .long p1, .int p2]) ++ List.replicate (9 - (lg_sl ([.ref h, .long p1, .int p2])).length) Slot.unset).toArray = ls at hl ⊢
  have hl : lv_has ls 9 [(0, .ref h), (1, .long p1), (3, .int p2)] := hl
  have b_p2 := ti_b p2
  refine zz_cap (fun Z hZ1 hZ2 => ?_)
  refine lv_lconst (v := 1) hx hb dX12_writeNumber_0 (by decide) ?_
  refine lv_lstore (lv' := [(4, .long 1), (0, .ref h), (1, .long p1), (3, .int p2)]) hx hb dX12_writeNumber_1 hl (by decide) rfl (fun ls hl => ?_)
  refine lv_iconst (v := 1) hx hb dX12_writeNumber_3 (by decide) ?_
  refine lv_istore (lv' := [(6, .int 1), (4, .long 1), (0, .ref h), (1, .long p1), (3, .int p2)]) hx hb dX12_writeNumber_4 hl (by decide) rfl (fun ls hl => ?_)
  have L_6 : ∀ (N : Nat) (x_1 : Int32) (y_2 : Int64) (H : Heap) (locs : List Loc) (ls : Array Slot), (1 ≤ (y_2 : Int64).toInt) → ((9223372036854775807 - (y_2 : Int64).toInt).toNat < N) → va_P D vwCl [(h, .inr (9, [.int h_code, .int h_taped, .ref h_tape, .int h_size, .ref h_text, .double h_value, .int h_out, .ref h_output, .int h_illAt, .ref h_format, .int h_sections, .int h_items, .ref h_kind, .ref h_what, .ref h_of, .ref h_relation, .ref h_bound, .int h_reads, .int h_readSections, .ref h_readKind, .ref h_readWhat, .ref h_readOf, .ref h_place, .ref h_readRelation, .ref h_readBound, .int h_stop, .ref h_meant, .ref h_row, .ref h_exact, .ref h_error, .ref h_bestError, .long h_m, .int h_e, .ref h_digits, .int h_whole])), (h_output, .inl (cI, 1024, .inl h_outputF))] H → va_D A [(h, .inr (9, [.int h_code, .int h_taped, .ref h_tape, .int h_size, .ref h_text, .double h_value, .int h_out, .ref h_output, .int h_illAt, .ref h_format, .int h_sections, .int h_items, .ref h_kind, .ref h_what, .ref h_of, .ref h_relation, .ref h_bound, .int h_reads, .int h_readSections, .ref h_readKind, .ref h_readWhat, .ref h_readOf, .ref h_place, .ref h_readRelation, .ref h_readBound, .int h_stop, .ref h_meant, .ref h_row, .ref h_exact, .ref h_error, .ref h_bestError, .long h_m, .int h_e, .ref h_digits, .int h_whole])), (h_output, .inl (cI, 1024, .inl h_outputF))] → va_S A s.heap H locs → lv_has ls 9 [(6, .int x_1), (4, .long y_2), (0, .ref h), (1, .long p1), (3, .int p2)] → Z 0 0 H locs (F0 m 6 ls []) := by
    intro N
    induction N with
    | zero => intro _ _ _ _ _ _ hmu; exact absurd hmu (Nat.not_lt_zero _)
    | succ N ih_6 =>
      intro x_1 y_2 H locs ls g6_0 hmu hP hD hS hl
      refine hZ2 ?_
      refine lv_lload_n hx hb dX12_writeNumber_6 rfl (lv_at hl 3 rfl) ?_
      refine lv_lload hx hb dX12_writeNumber_7 (lv_at hl 1 rfl) ?_
      refine lv_ldiv hx hb dX12_writeNumber_9 (fun h9 => by have h8 := congrArg Int64.toInt h9; omega) ?_
      refine lv_topl (fun y_3 ey_3 => ?_)
      refine lv_ldc2 (v := 9) hx hb hown (hw 0 (.constantLong RX12 276 (9)) rfl) dX12_writeNumber_10 ?_
      refine W.lcmp hx hb dX12_writeNumber_13 ?_
      refine lv_topi (fun x_4 ex_4 => ?_)
      have tx_4 := ti_lcmp ex_4
      refine lv_if_le (tgt := 31) hx hb dX12_writeNumber_14 (by decide) (fun c_5 => ?_) (fun c_5 => ?_)
      · have ic_5 : (x_4 : Int32).toInt ≤ (0 : Int32).toInt := (fa_le x_4 0).mp c_5
        refine lv_iload hx hb dX12_writeNumber_31 (lv_at hl 0 rfl) ?_
        refine lv_istore (lv' := [(7, .int x_1), (6, .int x_1), (4, .long y_2), (0, .ref h), (1, .long p1), (3, .int p2)]) hx hb dX12_writeNumber_33 hl (by decide) rfl (fun ls hl => ?_)
        have L_35 : ∀ (N : Nat) (x_6 : Int32) (x_7 : Int32) (f_8 : Nat → Int32) (H : Heap) (locs : List Loc) (ls : Array Slot), (0 ≤ (x_7 : Int32).toInt ∧ (x_7 : Int32).toInt ≤ 1024) → ((2147483647 - (x_6 : Int32).toInt).toNat < N) → va_P D vwCl [(h, .inr (9, [.int h_code, .int h_taped, .ref h_tape, .int h_size, .ref h_text, .double h_value, .int x_7, .ref h_output, .int h_illAt, .ref h_format, .int h_sections, .int h_items, .ref h_kind, .ref h_what, .ref h_of, .ref h_relation, .ref h_bound, .int h_reads, .int h_readSections, .ref h_readKind, .ref h_readWhat, .ref h_readOf, .ref h_place, .ref h_readRelation, .ref h_readBound, .int h_stop, .ref h_meant, .ref h_row, .ref h_exact, .ref h_error, .ref h_bestError, .long h_m, .int h_e, .ref h_digits, .int h_whole])), (h_output, .inl (cI, 1024, .inl f_8))] H → va_D A [(h, .inr (9, [.int h_code, .int h_taped, .ref h_tape, .int h_size, .ref h_text, .double h_value, .int x_7, .ref h_output, .int h_illAt, .ref h_format, .int h_sections, .int h_items, .ref h_kind, .ref h_what, .ref h_of, .ref h_relation, .ref h_bound, .int h_reads, .int h_readSections, .ref h_readKind, .ref h_readWhat, .ref h_readOf, .ref h_place, .ref h_readRelation, .ref h_readBound, .int h_stop, .ref h_meant, .ref h_row, .ref h_exact, .ref h_error, .ref h_bestError, .long h_m, .int h_e, .ref h_digits, .int h_whole])), (h_output, .inl (cI, 1024, .inl f_8))] → va_S A s.heap H locs → lv_has ls 9 [(7, .int x_6), (4, .long y_2), (0, .ref h), (1, .long p1), (3, .int p2)] → Z 0 0 H locs (F0 m 35 ls []) := by
          intro N
          induction N with
          | zero => intro _ _ _ _ _ _ _ hmu; exact absurd hmu (Nat.not_lt_zero _)
          | succ N ih_35 =>
            intro x_6 x_7 f_8 H locs ls g35_0 hmu hP hD hS hl
            refine hZ2 ?_
            refine lv_iload hx hb dX12_writeNumber_35 (lv_at hl 0 rfl) ?_
            refine lv_iload_n hx hb dX12_writeNumber_37 rfl (lv_at hl 4 rfl) ?_
            refine lv_icmp_ge (tgt := 53) hx hb dX12_writeNumber_38 (by decide) (fun c_9 => ?_) (fun c_9 => ?_)
            · have ic_9 : (p2 : Int32).toInt ≤ (x_6 : Int32).toInt := (fa_le p2 x_6).mp c_9
              refine lv_lload hx hb dX12_writeNumber_53 (lv_at hl 1 rfl) ?_
              refine lv_lstore (lv' := [(7, .long y_2), (4, .long y_2), (0, .ref h), (1, .long p1), (3, .int p2)]) hx hb dX12_writeNumber_55 hl (by decide) rfl (fun ls hl => ?_)
              have L_57 : ∀ (N : Nat) (y_10 : Int64) (x_11 : Int32) (f_12 : Nat → Int32) (H : Heap) (locs : List Loc) (ls : Array Slot), (0 ≤ (x_11 : Int32).toInt ∧ (x_11 : Int32).toInt ≤ 1024) → ((y_10 : Int64).toInt.toNat < N) → va_P D vwCl [(h, .inr (9, [.int h_code, .int h_taped, .ref h_tape, .int h_size, .ref h_text, .double h_value, .int x_11, .ref h_output, .int h_illAt, .ref h_format, .int h_sections, .int h_items, .ref h_kind, .ref h_what, .ref h_of, .ref h_relation, .ref h_bound, .int h_reads, .int h_readSections, .ref h_readKind, .ref h_readWhat, .ref h_readOf, .ref h_place, .ref h_readRelation, .ref h_readBound, .int h_stop, .ref h_meant, .ref h_row, .ref h_exact, .ref h_error, .ref h_bestError, .long h_m, .int h_e, .ref h_digits, .int h_whole])), (h_output, .inl (cI, 1024, .inl f_12))] H → va_D A [(h, .inr (9, [.int h_code, .int h_taped, .ref h_tape, .int h_size, .ref h_text, .double h_value, .int x_11, .ref h_output, .int h_illAt, .ref h_format, .int h_sections, .int h_items, .ref h_kind, .ref h_what, .ref h_of, .ref h_relation, .ref h_bound, .int h_reads, .int h_readSections, .ref h_readKind, .ref h_readWhat, .ref h_readOf, .ref h_place, .ref h_readRelation, .ref h_readBound, .int h_stop, .ref h_meant, .ref h_row, .ref h_exact, .ref h_error, .ref h_bestError, .long h_m, .int h_e, .ref h_digits, .int h_whole])), (h_output, .inl (cI, 1024, .inl f_12))] → va_S A s.heap H locs → lv_has ls 9 [(7, .long y_10), (0, .ref h), (1, .long p1)] → Z 0 0 H locs (F0 m 57 ls []) := by
                intro N
                induction N with
                | zero => intro _ _ _ _ _ _ _ hmu; exact absurd hmu (Nat.not_lt_zero _)
                | succ N ih_57 =>
                  intro y_10 x_11 f_12 H locs ls g57_0 hmu hP hD hS hl
                  refine hZ2 ?_
                  refine lv_lload hx hb dX12_writeNumber_57 (lv_at hl 0 rfl) ?_
                  refine lv_lconst (v := 0) hx hb dX12_writeNumber_59 (by decide) ?_
                  refine W.lcmp hx hb dX12_writeNumber_60 ?_
                  refine lv_topi (fun x_13 ex_13 => ?_)
                  have tx_13 := ti_lcmp ex_13
                  refine lv_if_le (tgt := 92) hx hb dX12_writeNumber_61 (by decide) (fun c_14 => ?_) (fun c_14 => ?_)
                  · have ic_14 : (x_13 : Int32).toInt ≤ (0 : Int32).toInt := (fa_le x_13 0).mp c_14
                    have hP9 := hP.sub (ws' := [(h, .inr (9, [.int h_code, .int h_taped, .ref h_tape, .int h_size, .ref h_text, .double h_value, .int x_11, .ref h_output, .int h_illAt, .ref h_format, .int h_sections, .int h_items, .ref h_kind, .ref h_what, .ref h_of, .ref h_relation, .ref h_bound, .int h_reads, .int h_readSections, .ref h_readKind, .ref h_readWhat, .ref h_readOf, .ref h_place, .ref h_readRelation, .ref h_readBound, .int h_stop, .ref h_meant, .ref h_row, .ref h_exact, .ref h_error, .ref h_bestError, .long h_m, .int h_e, .ref h_digits, .int h_whole])), (h_output, .inl (cI, 1024, .inl f_12))]) [0, 1] rfl
                    have hD9 := hD.sub (ws' := [(h, .inr (9, [.int h_code, .int h_taped, .ref h_tape, .int h_size, .ref h_text, .double h_value, .int x_11, .ref h_output, .int h_illAt, .ref h_format, .int h_sections, .int h_items, .ref h_kind, .ref h_what, .ref h_of, .ref h_relation, .ref h_bound, .int h_reads, .int h_readSections, .ref h_readKind, .ref h_readWhat, .ref h_readOf, .ref h_place, .ref h_readRelation, .ref h_readBound, .int h_stop, .ref h_meant, .ref h_row, .ref h_exact, .ref h_error, .ref h_bestError, .long h_m, .int h_e, .ref h_digits, .int h_whole])), (h_output, .inl (cI, 1024, .inl f_12))]) [0, 1] (by decide) rfl
                    exact W.vret hx hb hr (fun t ht hW => ⟨⟨(x_11, f_12), rfl, (by (try dsimp only); first | omega | assumption), by rw [ht]; exact hP9, va_K.moved hW.alike hK, hD9⟩, hS.F ht⟩) hS.2.2 dX12_writeNumber_92
                  · have ic_14 : ¬ ((x_13 : Int32).toInt ≤ (0 : Int32).toInt) := fun h9 => c_14 ((fa_le x_13 0).mpr h9)
                    refine lv_aload_n hx hb dX12_writeNumber_64 rfl (lv_at hl 1 rfl) ?_
                    refine lv_ldc2 (v := 48) hx hb hown (hw 1 (.constantLong RX12 219 (48)) rfl) dX12_writeNumber_65 ?_
                    refine lv_lload_n hx hb dX12_writeNumber_68 rfl (lv_at hl 2 rfl) ?_
                    refine lv_lload hx hb dX12_writeNumber_69 (lv_at hl 0 rfl) ?_
                    refine lv_ldiv hx hb dX12_writeNumber_71 (fun h9 => by have h8 := congrArg Int64.toInt h9; omega) ?_
                    refine lv_topl (fun y_15 ey_15 => ?_)
                    refine lv_ldc2 (v := 10) hx hb hown (hw 2 (.constantLong RX12 114 (10)) rfl) dX12_writeNumber_72 ?_
                    refine lv_lrem hx hb dX12_writeNumber_75 (by decide) ?_
                    refine lv_topl (fun y_16 ey_16 => ?_)
                    have ty_16 := tl_rem ey_16 (by decide)
                    rw [nl_10] at ty_16
                    try (have uy_16 := tl_remE ey_16 (by decide) (by omega); rw [nl_10] at uy_16)
                    refine lv_ladd hx hb dX12_writeNumber_76 ?_
                    refine lv_topl (fun y_17 ey_17 => ?_)
                    have b_y_16 := tl_b y_16
                    have ty_17 := tl_add ey_17
                    refine lv_l2i hx hb dX12_writeNumber_77 rfl ?_
                    refine lv_topi (fun x_18 ex_18 => ?_)
                    have tx_18 := ti_l2i ex_18
                    have hPc := hP.sub (ws' := [(h, .inr (9, [.int h_code, .int h_taped, .ref h_tape, .int h_size, .ref h_text, .double h_value, .int x_11, .ref h_output, .int h_illAt, .ref h_format, .int h_sections, .int h_items, .ref h_kind, .ref h_what, .ref h_of, .ref h_relation, .ref h_bound, .int h_reads, .int h_readSections, .ref h_readKind, .ref h_readWhat, .ref h_readOf, .ref h_place, .ref h_readRelation, .ref h_readBound, .int h_stop, .ref h_meant, .ref h_row, .ref h_exact, .ref h_error, .ref h_bestError, .long h_m, .int h_e, .ref h_digits, .int h_whole])), (h_output, .inl (cI, 1024, .inl f_12))]) [0, 1] rfl
                    have hDc := hD.sub (ws' := [(h, .inr (9, [.int h_code, .int h_taped, .ref h_tape, .int h_size, .ref h_text, .double h_value, .int x_11, .ref h_output, .int h_illAt, .ref h_format, .int h_sections, .int h_items, .ref h_kind, .ref h_what, .ref h_of, .ref h_relation, .ref h_bound, .int h_reads, .int h_readSections, .ref h_readKind, .ref h_readWhat, .ref h_readOf, .ref h_place, .ref h_readRelation, .ref h_readBound, .int h_stop, .ref h_meant, .ref h_row, .ref h_exact, .ref h_error, .ref h_bestError, .long h_m, .int h_e, .ref h_digits, .int h_whole])), (h_output, .inl (cI, 1024, .inl f_12))]) [0, 1] (by decide) rfl
                    have hFc := va_free (wc := [(h, .inr (9, [.int h_code, .int h_taped, .ref h_tape, .int h_size, .ref h_text, .double h_value, .int x_11, .ref h_output, .int h_illAt, .ref h_format, .int h_sections, .int h_items, .ref h_kind, .ref h_what, .ref h_of, .ref h_relation, .ref h_bound, .int h_reads, .int h_readSections, .ref h_readKind, .ref h_readWhat, .ref h_readOf, .ref h_place, .ref h_readRelation, .ref h_readBound, .int h_stop, .ref h_meant, .ref h_row, .ref h_exact, .ref h_error, .ref h_bestError, .long h_m, .int h_e, .ref h_digits, .int h_whole])), (h_output, .inl (cI, 1024, .inl f_12))]) hD hS hA [0, 1] rfl
                    refine va_callv (va_runV (As := [.int x_18]) (rest := []) ⟨hx, hb, hml, hown, hts⟩ (c_X12_write l D cI cD cJ H.size h h_code h_taped h_tape h_size h_text h_value x_11 h_output h_illAt h_format h_sections h_items h_kind h_what h_of h_relation h_bound h_reads h_readSections h_readKind h_readWhat h_readOf h_place h_readRelation h_readBound h_stop h_meant h_row h_exact h_error h_bestError h_m h_e h_digits h_whole f_12 x_18 (by omega) (by omega) (by assumption) (by omega) (by omega) (by omega) (by omega) (by omega) (by omega)) (cwV 1 hts (goodIn_app (goodIn_r _ [4, 5, 6, 7] rfl (by decide +kernel)) (goodIn_sub i_X12_write k_X12_write)) rfl rfl rfl (by decide +kernel) ⟨Nat.le_of_ble_eq_true rfl, Nat.le_of_ble_eq_true rfl⟩) ⟨fun a U g mk q => by obtain ⟨q0, q1, qP, qK, qD⟩ := q; exact ⟨q0, q1, qP, va_K.moved (u := U) (U := U.calling g mk a) (Vm.Alike.refl U.vm) qK, qD⟩, va_recv hK hPc (ci := 9) (q0 := 0) rfl rfl, fun U hU hW => ⟨rfl, by rw [hU], by rw [hU]; exact hPc, va_K.moved hW.alike hK, hDc.weaken (fun _ _ _ _ => trivial)⟩⟩ rfl rfl hl.1 rfl (lv_room (Nat.le_of_ble_eq_true rfl)) dX12_writeNumber_78 ⟨Nat.le_of_ble_eq_true rfl, Nat.le_of_ble_eq_true rfl⟩) hS (fun q _ h => hFc q h) hFc (fun u t H1 locs ht hvm w_19 hB hz1 hk1 hS => ?_)
                    obtain ⟨u_20, u_21⟩ := u
                    obtain ⟨hP1, hK1, hD1⟩ := hB
                    rw [ht] at hP1
                    try dsimp only at w_19
                    obtain ⟨hP, hD⟩ := va_join (wr := []) (w1 := [(h, .inr (9, [.int h_code, .int h_taped, .ref h_tape, .int h_size, .ref h_text, .double h_value, .int u_20, .ref h_output, .int h_illAt, .ref h_format, .int h_sections, .int h_items, .ref h_kind, .ref h_what, .ref h_of, .ref h_relation, .ref h_bound, .int h_reads, .int h_readSections, .ref h_readKind, .ref h_readWhat, .ref h_readOf, .ref h_place, .ref h_readRelation, .ref h_readBound, .int h_stop, .ref h_meant, .ref h_row, .ref h_exact, .ref h_error, .ref h_bestError, .long h_m, .int h_e, .ref h_digits, .int h_whole])), (h_output, .inl (cI, 1024, .inl u_21))]) hP hD [0, 1] [] rfl rfl (by decide) (by decide) hk1 hFc hP1 hD1
                    generalize H1 = H at hP hS ⊢
                    have hP : va_P D vwCl [(h, .inr (9, [.int h_code, .int h_taped, .ref h_tape, .int h_size, .ref h_text, .double h_value, .int u_20, .ref h_output, .int h_illAt, .ref h_format, .int h_sections, .int h_items, .ref h_kind, .ref h_what, .ref h_of, .ref h_relation, .ref h_bound, .int h_reads, .int h_readSections, .ref h_readKind, .ref h_readWhat, .ref h_readOf, .ref h_place, .ref h_readRelation, .ref h_readBound, .int h_stop, .ref h_meant, .ref h_row, .ref h_exact, .ref h_error, .ref h_bestError, .long h_m, .int h_e, .ref h_digits, .int h_whole])), (h_output, .inl (cI, 1024, .inl u_21))] H := hP
                    have hD : va_D A [(h, .inr (9, [.int h_code, .int h_taped, .ref h_tape, .int h_size, .ref h_text, .double h_value, .int u_20, .ref h_output, .int h_illAt, .ref h_format, .int h_sections, .int h_items, .ref h_kind, .ref h_what, .ref h_of, .ref h_relation, .ref h_bound, .int h_reads, .int h_readSections, .ref h_readKind, .ref h_readWhat, .ref h_readOf, .ref h_place, .ref h_readRelation, .ref h_readBound, .int h_stop, .ref h_meant, .ref h_row, .ref h_exact, .ref h_error, .ref h_bestError, .long h_m, .int h_e, .ref h_digits, .int h_whole])), (h_output, .inl (cI, 1024, .inl u_21))] := hD
                    refine lv_lload hx hb dX12_writeNumber_81 (lv_at hl 0 rfl) ?_
                    refine lv_ldc2 (v := 10) hx hb hown (hw 2 (.constantLong RX12 114 (10)) rfl) dX12_writeNumber_83 ?_
                    refine lv_ldiv hx hb dX12_writeNumber_86 (by decide) ?_
                    refine lv_topl (fun y_22 ey_22 => ?_)
                    have ty_22 := tl_div ey_22 (by decide)
                    rw [nl_10] at ty_22
                    try (have uy_22 := tl_divE ey_22 (by decide) (by omega); rw [nl_10] at uy_22)
                    refine lv_lstore (lv' := [(7, .long y_22), (0, .ref h), (1, .long p1)]) hx hb dX12_writeNumber_87 hl (by decide) rfl (fun ls hl => ?_)
                    refine lv_goto (tgt := 57) hx hb dX12_writeNumber_89 (by decide) ?_
                    exact hZ1 (ih_57 y_22 u_20 u_21 _ _ _ (by omega) (by omega) hP hD hS hl)
              exact hZ1 (L_57 (((y_2 : Int64).toInt.toNat) + 1) y_2 x_7 f_8 _ _ _ (by omega) (by omega) hP hD hS (lv_sub hl [0, 2, 3] rfl))
            · have ic_9 : ¬ ((p2 : Int32).toInt ≤ (x_6 : Int32).toInt) := fun h9 => c_9 ((fa_le p2 x_6).mpr h9)
              refine lv_aload_n hx hb dX12_writeNumber_41 rfl (lv_at hl 2 rfl) ?_
              refine lv_bipush (v := 48) hx hb dX12_writeNumber_42 (by decide) ?_
              have hPc := hP.sub (ws' := [(h, .inr (9, [.int h_code, .int h_taped, .ref h_tape, .int h_size, .ref h_text, .double h_value, .int x_7, .ref h_output, .int h_illAt, .ref h_format, .int h_sections, .int h_items, .ref h_kind, .ref h_what, .ref h_of, .ref h_relation, .ref h_bound, .int h_reads, .int h_readSections, .ref h_readKind, .ref h_readWhat, .ref h_readOf, .ref h_place, .ref h_readRelation, .ref h_readBound, .int h_stop, .ref h_meant, .ref h_row, .ref h_exact, .ref h_error, .ref h_bestError, .long h_m, .int h_e, .ref h_digits, .int h_whole])), (h_output, .inl (cI, 1024, .inl f_8))]) [0, 1] rfl
              have hDc := hD.sub (ws' := [(h, .inr (9, [.int h_code, .int h_taped, .ref h_tape, .int h_size, .ref h_text, .double h_value, .int x_7, .ref h_output, .int h_illAt, .ref h_format, .int h_sections, .int h_items, .ref h_kind, .ref h_what, .ref h_of, .ref h_relation, .ref h_bound, .int h_reads, .int h_readSections, .ref h_readKind, .ref h_readWhat, .ref h_readOf, .ref h_place, .ref h_readRelation, .ref h_readBound, .int h_stop, .ref h_meant, .ref h_row, .ref h_exact, .ref h_error, .ref h_bestError, .long h_m, .int h_e, .ref h_digits, .int h_whole])), (h_output, .inl (cI, 1024, .inl f_8))]) [0, 1] (by decide) rfl
              have hFc := va_free (wc := [(h, .inr (9, [.int h_code, .int h_taped, .ref h_tape, .int h_size, .ref h_text, .double h_value, .int x_7, .ref h_output, .int h_illAt, .ref h_format, .int h_sections, .int h_items, .ref h_kind, .ref h_what, .ref h_of, .ref h_relation, .ref h_bound, .int h_reads, .int h_readSections, .ref h_readKind, .ref h_readWhat, .ref h_readOf, .ref h_place, .ref h_readRelation, .ref h_readBound, .int h_stop, .ref h_meant, .ref h_row, .ref h_exact, .ref h_error, .ref h_bestError, .long h_m, .int h_e, .ref h_digits, .int h_whole])), (h_output, .inl (cI, 1024, .inl f_8))]) hD hS hA [0, 1] rfl
              refine va_callv (va_runV (As := [.int 48]) (rest := []) ⟨hx, hb, hml, hown, hts⟩ (c_X12_write l D cI cD cJ H.size h h_code h_taped h_tape h_size h_text h_value x_7 h_output h_illAt h_format h_sections h_items h_kind h_what h_of h_relation h_bound h_reads h_readSections h_readKind h_readWhat h_readOf h_place h_readRelation h_readBound h_stop h_meant h_row h_exact h_error h_bestError h_m h_e h_digits h_whole f_8 48 (by omega) (by omega) (by assumption) (by omega) (by omega) (by omega) (by omega) (by omega) (by omega)) (cwV 1 hts (goodIn_app (goodIn_r _ [4, 5, 6, 7] rfl (by decide +kernel)) (goodIn_sub i_X12_write k_X12_write)) rfl rfl rfl (by decide +kernel) ⟨Nat.le_of_ble_eq_true rfl, Nat.le_of_ble_eq_true rfl⟩) ⟨fun a U g mk q => by obtain ⟨q0, q1, qP, qK, qD⟩ := q; exact ⟨q0, q1, qP, va_K.moved (u := U) (U := U.calling g mk a) (Vm.Alike.refl U.vm) qK, qD⟩, va_recv hK hPc (ci := 9) (q0 := 0) rfl rfl, fun U hU hW => ⟨rfl, by rw [hU], by rw [hU]; exact hPc, va_K.moved hW.alike hK, hDc.weaken (fun _ _ _ _ => trivial)⟩⟩ rfl rfl hl.1 rfl (lv_room (Nat.le_of_ble_eq_true rfl)) dX12_writeNumber_44 ⟨Nat.le_of_ble_eq_true rfl, Nat.le_of_ble_eq_true rfl⟩) hS (fun q _ h => hFc q h) hFc (fun u t H1 locs ht hvm w_23 hB hz1 hk1 hS => ?_)
              obtain ⟨u_24, u_25⟩ := u
              obtain ⟨hP1, hK1, hD1⟩ := hB
              rw [ht] at hP1
              try dsimp only at w_23
              obtain ⟨hP, hD⟩ := va_join (wr := []) (w1 := [(h, .inr (9, [.int h_code, .int h_taped, .ref h_tape, .int h_size, .ref h_text, .double h_value, .int u_24, .ref h_output, .int h_illAt, .ref h_format, .int h_sections, .int h_items, .ref h_kind, .ref h_what, .ref h_of, .ref h_relation, .ref h_bound, .int h_reads, .int h_readSections, .ref h_readKind, .ref h_readWhat, .ref h_readOf, .ref h_place, .ref h_readRelation, .ref h_readBound, .int h_stop, .ref h_meant, .ref h_row, .ref h_exact, .ref h_error, .ref h_bestError, .long h_m, .int h_e, .ref h_digits, .int h_whole])), (h_output, .inl (cI, 1024, .inl u_25))]) hP hD [0, 1] [] rfl rfl (by decide) (by decide) hk1 hFc hP1 hD1
              generalize H1 = H at hP hS ⊢
              have hP : va_P D vwCl [(h, .inr (9, [.int h_code, .int h_taped, .ref h_tape, .int h_size, .ref h_text, .double h_value, .int u_24, .ref h_output, .int h_illAt, .ref h_format, .int h_sections, .int h_items, .ref h_kind, .ref h_what, .ref h_of, .ref h_relation, .ref h_bound, .int h_reads, .int h_readSections, .ref h_readKind, .ref h_readWhat, .ref h_readOf, .ref h_place, .ref h_readRelation, .ref h_readBound, .int h_stop, .ref h_meant, .ref h_row, .ref h_exact, .ref h_error, .ref h_bestError, .long h_m, .int h_e, .ref h_digits, .int h_whole])), (h_output, .inl (cI, 1024, .inl u_25))] H := hP
              have hD : va_D A [(h, .inr (9, [.int h_code, .int h_taped, .ref h_tape, .int h_size, .ref h_text, .double h_value, .int u_24, .ref h_output, .int h_illAt, .ref h_format, .int h_sections, .int h_items, .ref h_kind, .ref h_what, .ref h_of, .ref h_relation, .ref h_bound, .int h_reads, .int h_readSections, .ref h_readKind, .ref h_readWhat, .ref h_readOf, .ref h_place, .ref h_readRelation, .ref h_readBound, .int h_stop, .ref h_meant, .ref h_row, .ref h_exact, .ref h_error, .ref h_bestError, .long h_m, .int h_e, .ref h_digits, .int h_whole])), (h_output, .inl (cI, 1024, .inl u_25))] := hD
              obtain ⟨x_26, ex_26⟩ : ∃ y : Int32, y = x_6 + 1 := ⟨_, rfl⟩
              have b_x_6 := ti_b x_6
              have tx_26 := ti_add ex_26
              refine lv_iinc (v := x_26) (lv' := [(7, .int x_26), (4, .long y_2), (0, .ref h), (1, .long p1), (3, .int p2)]) hx hb dX12_writeNumber_47 hl (k := 0) rfl (by rw [ex_26]; rfl) (by decide) rfl (fun ls hl => ?_)
              refine lv_goto (tgt := 35) hx hb dX12_writeNumber_50 (by decide) ?_
              exact hZ1 (ih_35 x_26 u_24 u_25 _ _ _ (by omega) (by omega) hP hD hS hl)
        exact hZ1 (L_35 (((2147483647 - (x_1 : Int32).toInt).toNat) + 1) x_1 h_out h_outputF _ _ _ (by omega) (by omega) hP hD hS (lv_sub hl [0, 2, 3, 4, 5] rfl))
      · have ic_5 : ¬ ((x_4 : Int32).toInt ≤ (0 : Int32).toInt) := fun h9 => c_5 ((fa_le x_4 0).mpr h9)
        have hq9 := wn_step ey_3 (by omega) (by omega)
        have b9 := tl_b p1
        refine lv_ldc2 (v := 10) hx hb hown (hw 2 (.constantLong RX12 114 (10)) rfl) dX12_writeNumber_17 ?_
        refine lv_lload hx hb dX12_writeNumber_20 (lv_at hl 1 rfl) ?_
        refine lv_lmul hx hb dX12_writeNumber_22 ?_
        refine lv_topl (fun y_27 ey_27 => ?_)
        have ty_27 := tl_mul ey_27
        rw [nl_10] at ty_27
        refine lv_lstore (lv' := [(4, .long y_27), (6, .int x_1), (0, .ref h), (1, .long p1), (3, .int p2)]) hx hb dX12_writeNumber_23 hl (by decide) rfl (fun ls hl => ?_)
        obtain ⟨x_28, ex_28⟩ : ∃ y : Int32, y = x_1 + 1 := ⟨_, rfl⟩
        have b_x_1 := ti_b x_1
        have tx_28 := ti_add ex_28
        refine lv_iinc (v := x_28) (lv' := [(6, .int x_28), (4, .long y_27), (0, .ref h), (1, .long p1), (3, .int p2)]) hx hb dX12_writeNumber_25 hl (k := 1) rfl (by rw [ex_28]; rfl) (by decide) rfl (fun ls hl => ?_)
        refine lv_goto (tgt := 6) hx hb dX12_writeNumber_28 (by decide) ?_
        exact hZ1 (ih_6 x_28 y_27 _ _ _ (by omega) (by omega) hP hD hS hl)
  exact hZ1 (L_6 (((9223372036854775807 - (1 : Int64).toInt).toNat) + 1) 1 1 _ _ _ (by omega) (by omega) hP hD hS hl)

