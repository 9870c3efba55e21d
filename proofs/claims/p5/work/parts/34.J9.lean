def ow_J9_max_7cf53 : List Cond := []
def pw_J9_max_7cf53 : List Cond := Cond.code yJ9_max_7cf53 cJ9_max_7cf53 2 (some .int) :: (ow_J9_max_7cf53)
set_option maxRecDepth 20000 in
theorem mo_J9_max_7cf53 : ∀ w ∈ ow_J9_max_7cf53, w ∈ lw_tbl := by decide +kernel
set_option maxRecDepth 20000 in
theorem mc_J9_max_7cf53 : Cond.code yJ9_max_7cf53 cJ9_max_7cf53 2 (some .int) ∈ lw_tbl := by decide +kernel
theorem m_J9_max_7cf53 : ∀ w ∈ pw_J9_max_7cf53, w ∈ lw_tbl := List.forall_mem_cons.mpr ⟨mc_J9_max_7cf53, mo_J9_max_7cf53⟩
theorem ko_J9_max_7cf53 : ∀ w ∈ ow_J9_max_7cf53, goodWord w = true := by decide +kernel
theorem k_J9_max_7cf53 : pw_J9_max_7cf53.all goodWord = true := List.all_eq_true.mpr (List.forall_mem_cons.mpr ⟨by decide +kernel, ko_J9_max_7cf53⟩)
set_option maxHeartbeats 400000 in
set_option maxRecDepth 100000 in
theorem c_J9_max_7cf53 (l : Launch) (D : va_G) (cI cD cJ : ClassId) (sz : Nat) (p1 : Int32) (p2 : Int32) : Met l yJ9_max_7cf53 pw_J9_max_7cf53 ({ frames := 0, cells := 0, slots := 0, locals := 0 }) (va_Pc [.int p1, .int p2] (fun U => va_P D vwCl [] U.heap ∧ va_K D vwCl (ty3 cI cD cJ) U)) (va_Qi (fun (r : Int32) (u : Unit) => (p1.toInt ≤ r.toInt ∧ p2.toInt ≤ r.toInt ∧ (r.toInt = p1.toInt ∨ r.toInt = p2.toInt))) (fun _ _ => True) (fun _ => False)) 0 0 (fun _ => False) := by
  refine MetF_ofW (cc := cJ9_max_7cf53) (maxL := 2) (ret := (some .int)) (by decide +kernel) rfl ?_
  intro p e s m args below meth c s₁ B hml hv
  obtain ⟨rfl, hP, hK⟩ := hv
  have hx := B.exec
  have hb := B.bytes
  have hr := B.returns
  have hts := atoms_spec (ws := pw_J9_max_7cf53) B.pre
  have hown : s.vm.findClass RJ9 = some m.cls := findClass_of_methodNamed B.named
  have hlocks := B.notSynchronized
  have hS : va_S (fun _ => False) s.heap s.heap [] := va_S.rf
  have hw : ∀ (k : Nat) (w : Cond), ow_J9_max_7cf53[k]? = some w → w.before _ s = true := fun k w h => hts w (List.mem_cons_of_mem _ (have h9 := List.mem_of_getElem? h; h9))
  have hl := lv_entry ([.int p1, .int p2]) (n := 2) (Nat.le_of_ble_eq_true rfl)
  rw [lg_entry_eq]
  generalize (lg_sl ([.int p1, .int p2]) ++ List.replicate (2 - (lg_sl ([.int p1, .int p2])).length) Slot.unset).toArray = ls at hl ⊢
  have hl : lv_has ls 2 [(0, .int p1), (1, .int p2)] := hl
  have b_p1 := ti_b p1
  have b_p2 := ti_b p2
  refine lv_iload_n hx hb dJ9_max_7cf53_0 rfl (lv_at hl 0 rfl) ?_
  refine lv_iload_n hx hb dJ9_max_7cf53_1 rfl (lv_at hl 1 rfl) ?_
  refine lv_icmp_lt (tgt := 9) hx hb dJ9_max_7cf53_2 (by decide) (fun c_1 => ?_) (fun c_1 => ?_)
  · have ic_1 : (p1 : Int32).toInt < (p2 : Int32).toInt := (fa_lt p1 p2).mp c_1
    refine lv_iload_n hx hb dJ9_max_7cf53_9 rfl (lv_at hl 1 rfl) ?_
    exact W.iret (v := p2) hx hb hr (fun t ht hW => ⟨⟨p2, (), rfl, (by (try dsimp only); first | omega | assumption), trivial⟩, hS.F ht⟩) hS.2.2 dJ9_max_7cf53_10
  · have ic_1 : ¬ ((p1 : Int32).toInt < (p2 : Int32).toInt) := fun h9 => c_1 ((fa_lt p1 p2).mpr h9)
    refine lv_iload_n hx hb dJ9_max_7cf53_5 rfl (lv_at hl 0 rfl) ?_
    refine lv_goto (tgt := 10) hx hb dJ9_max_7cf53_6 (by decide) ?_
    exact W.iret (v := p1) hx hb hr (fun t ht hW => ⟨⟨p1, (), rfl, (by (try dsimp only); first | omega | assumption), trivial⟩, hS.F ht⟩) hS.2.2 dJ9_max_7cf53_10

def ow_J9_min_7cf53 : List Cond := []
def pw_J9_min_7cf53 : List Cond := Cond.code yJ9_min_7cf53 cJ9_min_7cf53 2 (some .int) :: (ow_J9_min_7cf53)
set_option maxRecDepth 20000 in
theorem mo_J9_min_7cf53 : ∀ w ∈ ow_J9_min_7cf53, w ∈ lw_tbl := by decide +kernel
set_option maxRecDepth 20000 in
theorem mc_J9_min_7cf53 : Cond.code yJ9_min_7cf53 cJ9_min_7cf53 2 (some .int) ∈ lw_tbl := by decide +kernel
theorem m_J9_min_7cf53 : ∀ w ∈ pw_J9_min_7cf53, w ∈ lw_tbl := List.forall_mem_cons.mpr ⟨mc_J9_min_7cf53, mo_J9_min_7cf53⟩
theorem ko_J9_min_7cf53 : ∀ w ∈ ow_J9_min_7cf53, goodWord w = true := by decide +kernel
theorem k_J9_min_7cf53 : pw_J9_min_7cf53.all goodWord = true := List.all_eq_true.mpr (List.forall_mem_cons.mpr ⟨by decide +kernel, ko_J9_min_7cf53⟩)
set_option maxHeartbeats 400000 in
set_option maxRecDepth 100000 in
theorem c_J9_min_7cf53 (l : Launch) (D : va_G) (cI cD cJ : ClassId) (sz : Nat) (p1 : Int32) (p2 : Int32) : Met l yJ9_min_7cf53 pw_J9_min_7cf53 ({ frames := 0, cells := 0, slots := 0, locals := 0 }) (va_Pc [.int p1, .int p2] (fun U => va_P D vwCl [] U.heap ∧ va_K D vwCl (ty3 cI cD cJ) U)) (va_Qi (fun (r : Int32) (u : Unit) => (r.toInt ≤ p1.toInt ∧ r.toInt ≤ p2.toInt ∧ (r.toInt = p1.toInt ∨ r.toInt = p2.toInt))) (fun _ _ => True) (fun _ => False)) 0 0 (fun _ => False) := by
  refine MetF_ofW (cc := cJ9_min_7cf53) (maxL := 2) (ret := (some .int)) (by decide +kernel) rfl ?_
  intro p e s m args below meth c s₁ B hml hv
  obtain ⟨rfl, hP, hK⟩ := hv
  have hx := B.exec
  have hb := B.bytes
  have hr := B.returns
  have hts := atoms_spec (ws := pw_J9_min_7cf53) B.pre
  have hown : s.vm.findClass RJ9 = some m.cls := findClass_of_methodNamed B.named
  have hlocks := B.notSynchronized
  have hS : va_S (fun _ => False) s.heap s.heap [] := va_S.rf
  have hw : ∀ (k : Nat) (w : Cond), ow_J9_min_7cf53[k]? = some w → w.before _ s = true := fun k w h => hts w (List.mem_cons_of_mem _ (have h9 := List.mem_of_getElem? h; h9))
  have hl := lv_entry ([.int p1, .int p2]) (n := 2) (Nat.le_of_ble_eq_true rfl)
  rw [lg_entry_eq]
  generalize (lg_sl ([.int p1, .int p2]) ++ List.replicate (2 - (lg_sl ([.int p1, .int p2])).length) Slot.unset).toArray = ls at hl ⊢
  have hl : lv_has ls 2 [(0, .int p1), (1, .int p2)] := hl
  have b_p1 := ti_b p1
  have b_p2 := ti_b p2
  refine lv_iload_n hx hb dJ9_min_7cf53_0 rfl (lv_at hl 0 rfl) ?_
  refine lv_iload_n hx hb dJ9_min_7cf53_1 rfl (lv_at hl 1 rfl) ?_
  refine lv_icmp_gt (tgt := 9) hx hb dJ9_min_7cf53_2 (by decide) (fun c_1 => ?_) (fun c_1 => ?_)
  · have ic_1 : (p2 : Int32).toInt < (p1 : Int32).toInt := (fa_lt p2 p1).mp c_1
    refine lv_iload_n hx hb dJ9_min_7cf53_9 rfl (lv_at hl 1 rfl) ?_
    exact W.iret (v := p2) hx hb hr (fun t ht hW => ⟨⟨p2, (), rfl, (by (try dsimp only); first | omega | assumption), trivial⟩, hS.F ht⟩) hS.2.2 dJ9_min_7cf53_10
  · have ic_1 : ¬ ((p2 : Int32).toInt < (p1 : Int32).toInt) := fun h9 => c_1 ((fa_lt p2 p1).mpr h9)
    refine lv_iload_n hx hb dJ9_min_7cf53_5 rfl (lv_at hl 0 rfl) ?_
    refine lv_goto (tgt := 10) hx hb dJ9_min_7cf53_6 (by decide) ?_
    exact W.iret (v := p1) hx hb hr (fun t ht hW => ⟨⟨p1, (), rfl, (by (try dsimp only); first | omega | assumption), trivial⟩, hS.F ht⟩) hS.2.2 dJ9_min_7cf53_10

def ow_J9_abs_0f7a4 : List Cond := []
def pw_J9_abs_0f7a4 : List Cond := Cond.code yJ9_abs_0f7a4 cJ9_abs_0f7a4 1 (some .int) :: (ow_J9_abs_0f7a4)
set_option maxRecDepth 20000 in
theorem mo_J9_abs_0f7a4 : ∀ w ∈ ow_J9_abs_0f7a4, w ∈ lw_tbl := by decide +kernel
set_option maxRecDepth 20000 in
theorem mc_J9_abs_0f7a4 : Cond.code yJ9_abs_0f7a4 cJ9_abs_0f7a4 1 (some .int) ∈ lw_tbl := by decide +kernel
theorem m_J9_abs_0f7a4 : ∀ w ∈ pw_J9_abs_0f7a4, w ∈ lw_tbl := List.forall_mem_cons.mpr ⟨mc_J9_abs_0f7a4, mo_J9_abs_0f7a4⟩
theorem ko_J9_abs_0f7a4 : ∀ w ∈ ow_J9_abs_0f7a4, goodWord w = true := by decide +kernel
theorem k_J9_abs_0f7a4 : pw_J9_abs_0f7a4.all goodWord = true := List.all_eq_true.mpr (List.forall_mem_cons.mpr ⟨by decide +kernel, ko_J9_abs_0f7a4⟩)
set_option maxHeartbeats 400000 in
set_option maxRecDepth 100000 in
theorem c_J9_abs_0f7a4 (l : Launch) (D : va_G) (cI cD cJ : ClassId) (sz : Nat) (p1 : Int32) : Met l yJ9_abs_0f7a4 pw_J9_abs_0f7a4 ({ frames := 0, cells := 0, slots := 0, locals := 0 }) (va_Pc [.int p1] (fun U => va_P D vwCl [] U.heap ∧ va_K D vwCl (ty3 cI cD cJ) U)) (va_Qi (fun (r : Int32) (u : Unit) => True) (fun _ _ => True) (fun _ => False)) 0 0 (fun _ => False) := by
  refine MetF_ofW (cc := cJ9_abs_0f7a4) (maxL := 1) (ret := (some .int)) (by decide +kernel) rfl ?_
  intro p e s m args below meth c s₁ B hml hv
  obtain ⟨rfl, hP, hK⟩ := hv
  have hx := B.exec
  have hb := B.bytes
  have hr := B.returns
  have hts := atoms_spec (ws := pw_J9_abs_0f7a4) B.pre
  have hown : s.vm.findClass RJ9 = some m.cls := findClass_of_methodNamed B.named
  have hlocks := B.notSynchronized
  have hS : va_S (fun _ => False) s.heap s.heap [] := va_S.rf
  have hw : ∀ (k : Nat) (w : Cond), ow_J9_abs_0f7a4[k]? = some w → w.before _ s = true := fun k w h => hts w (List.mem_cons_of_mem _ (have h9 := List.mem_of_getElem? h; h9))
  have n_0 : ((0 : Int32)).toInt = 0 := by decide
  have hl := lv_entry ([.int p1]) (n := 1) (Nat.le_of_ble_eq_true rfl)
  rw [lg_entry_eq]
  generalize (lg_sl ([.int p1]) ++ List.replicate (1 - (lg_sl ([.int p1])).length) Slot.unset).toArray = ls at hl ⊢
  have hl : lv_has ls 1 [(0, .int p1)] := hl
  have b_p1 := ti_b p1
  refine lv_iload_n hx hb dJ9_abs_0f7a4_0 rfl (lv_at hl 0 rfl) ?_
  refine lv_if_ge (tgt := 9) hx hb dJ9_abs_0f7a4_1 (by decide) (fun c_1 => ?_) (fun c_1 => ?_)
  · have ic_1 : (0 : Int32).toInt ≤ (p1 : Int32).toInt := (fa_le 0 p1).mp c_1
    refine lv_iload_n hx hb dJ9_abs_0f7a4_9 rfl (lv_at hl 0 rfl) ?_
    exact W.iret (v := p1) hx hb hr (fun t ht hW => ⟨⟨p1, (), rfl, trivial, trivial⟩, hS.F ht⟩) hS.2.2 dJ9_abs_0f7a4_10
  · have ic_1 : ¬ ((0 : Int32).toInt ≤ (p1 : Int32).toInt) := fun h9 => c_1 ((fa_le 0 p1).mpr h9)
    refine lv_iload_n hx hb dJ9_abs_0f7a4_4 rfl (lv_at hl 0 rfl) ?_
    refine lv_ineg hx hb dJ9_abs_0f7a4_5 ?_
    refine lv_topi (fun x_2 ex_2 => ?_)
    refine lv_goto (tgt := 10) hx hb dJ9_abs_0f7a4_6 (by decide) ?_
    exact W.iret (v := x_2) hx hb hr (fun t ht hW => ⟨⟨x_2, (), rfl, trivial, trivial⟩, hS.F ht⟩) hS.2.2 dJ9_abs_0f7a4_10

def ow_J9_floorDiv_7cf53 : List Cond := []
def pw_J9_floorDiv_7cf53 : List Cond := Cond.code yJ9_floorDiv_7cf53 cJ9_floorDiv_7cf53 3 (some .int) :: (ow_J9_floorDiv_7cf53)
set_option maxRecDepth 20000 in
theorem mo_J9_floorDiv_7cf53 : ∀ w ∈ ow_J9_floorDiv_7cf53, w ∈ lw_tbl := by decide +kernel
set_option maxRecDepth 20000 in
theorem mc_J9_floorDiv_7cf53 : Cond.code yJ9_floorDiv_7cf53 cJ9_floorDiv_7cf53 3 (some .int) ∈ lw_tbl := by decide +kernel
theorem m_J9_floorDiv_7cf53 : ∀ w ∈ pw_J9_floorDiv_7cf53, w ∈ lw_tbl := List.forall_mem_cons.mpr ⟨mc_J9_floorDiv_7cf53, mo_J9_floorDiv_7cf53⟩
theorem ko_J9_floorDiv_7cf53 : ∀ w ∈ ow_J9_floorDiv_7cf53, goodWord w = true := by decide +kernel
theorem k_J9_floorDiv_7cf53 : pw_J9_floorDiv_7cf53.all goodWord = true := List.all_eq_true.mpr (List.forall_mem_cons.mpr ⟨by decide +kernel, ko_J9_floorDiv_7cf53⟩)
set_option maxHeartbeats 400000 in
set_option maxRecDepth 100000 in
theorem c_J9_floorDiv_7cf53 (l : Launch) (D : va_G) (cI cD cJ : ClassId) (sz : Nat) (p1 : Int32) (p2 : Int32) (h1 : 0 < p2.toInt) : Met l yJ9_floorDiv_7cf53 pw_J9_floorDiv_7cf53 ({ frames := 0, cells := 0, slots := 0, locals := 0 }) (va_Pc [.int p1, .int p2] (fun U => va_P D vwCl [] U.heap ∧ va_K D vwCl (ty3 cI cD cJ) U)) (va_Qi (fun (r : Int32) (u : Unit) => True) (fun _ _ => True) (fun _ => False)) 0 0 (fun _ => False) := by
  refine MetF_ofW (cc := cJ9_floorDiv_7cf53) (maxL := 3) (ret := (some .int)) (by decide +kernel) rfl ?_
  intro p e s m args below meth c s₁ B hml hv
  obtain ⟨rfl, hP, hK⟩ := hv
  have hx := B.exec
  have hb := B.bytes
  have hr := B.returns
  have hts := atoms_spec (ws := pw_J9_floorDiv_7cf53) B.pre
  have hown : s.vm.findClass RJ9 = some m.cls := findClass_of_methodNamed B.named
  have hlocks := B.notSynchronized
  have hS : va_S (fun _ => False) s.heap s.heap [] := va_S.rf
  have hw : ∀ (k : Nat) (w : Cond), ow_J9_floorDiv_7cf53[k]? = some w → w.before _ s = true := fun k w h => hts w (List.mem_cons_of_mem _ (have h9 := List.mem_of_getElem? h; h9))
  have n_0 : ((0 : Int32)).toInt = 0 := by decide
  have n_1 : ((1 : Int32)).toInt = 1 := by decide
  have hl := lv_entry ([.int p1, .int p2]) (n := 3) (Nat.le_of_ble_eq_true rfl)
  rw [lg_entry_eq]
  generalize (lg_sl ([.int p1, .int p2]) ++ List.replicate (3 - (lg_sl ([.int p1, .int p2])).length) Slot.unset).toArray = ls at hl ⊢
  have hl : lv_has ls 3 [(0, .int p1), (1, .int p2)] := hl
  have b_p1 := ti_b p1
  have b_p2 := ti_b p2
  refine lv_iload_n hx hb dJ9_floorDiv_7cf53_0 rfl (lv_at hl 0 rfl) ?_
  refine lv_iload_n hx hb dJ9_floorDiv_7cf53_1 rfl (lv_at hl 1 rfl) ?_
  refine lv_idiv hx hb dJ9_floorDiv_7cf53_2 (fun h9 => by have h8 := congrArg Int32.toInt h9; omega) ?_
  refine lv_topi (fun x_1 ex_1 => ?_)
  refine lv_istore_n (lv' := [(2, .int x_1), (0, .int p1), (1, .int p2)]) hx hb dJ9_floorDiv_7cf53_3 rfl hl (by decide) rfl (fun ls hl => ?_)
  refine lv_iload_n hx hb dJ9_floorDiv_7cf53_4 rfl (lv_at hl 1 rfl) ?_
  refine lv_iload_n hx hb dJ9_floorDiv_7cf53_5 rfl (lv_at hl 2 rfl) ?_
  refine lv_ixor hx hb dJ9_floorDiv_7cf53_6 ?_
  refine lv_topi (fun x_2 ex_2 => ?_)
  refine lv_if_ge (tgt := 21) hx hb dJ9_floorDiv_7cf53_7 (by decide) (fun c_3 => ?_) (fun c_3 => ?_)
  · have ic_3 : (0 : Int32).toInt ≤ (x_2 : Int32).toInt := (fa_le 0 x_2).mp c_3
    refine lv_iload_n hx hb dJ9_floorDiv_7cf53_21 rfl (lv_at hl 0 rfl) ?_
    exact W.iret (v := x_1) hx hb hr (fun t ht hW => ⟨⟨x_1, (), rfl, trivial, trivial⟩, hS.F ht⟩) hS.2.2 dJ9_floorDiv_7cf53_22
  · have ic_3 : ¬ ((0 : Int32).toInt ≤ (x_2 : Int32).toInt) := fun h9 => c_3 ((fa_le 0 x_2).mpr h9)
    refine lv_iload_n hx hb dJ9_floorDiv_7cf53_10 rfl (lv_at hl 0 rfl) ?_
    refine lv_iload_n hx hb dJ9_floorDiv_7cf53_11 rfl (lv_at hl 2 rfl) ?_
    refine lv_imul hx hb dJ9_floorDiv_7cf53_12 ?_
    refine lv_topi (fun x_4 ex_4 => ?_)
    refine lv_iload_n hx hb dJ9_floorDiv_7cf53_13 rfl (lv_at hl 1 rfl) ?_
    refine lv_icmp_eq (tgt := 21) hx hb dJ9_floorDiv_7cf53_14 (by decide) (fun c_5 => ?_) (fun c_5 => ?_)
    · have ic_5 : (x_4 : Int32).toInt = (p1 : Int32).toInt := (fa_eq x_4 p1).mp c_5
      refine lv_iload_n hx hb dJ9_floorDiv_7cf53_21 rfl (lv_at hl 0 rfl) ?_
      exact W.iret (v := x_1) hx hb hr (fun t ht hW => ⟨⟨x_1, (), rfl, trivial, trivial⟩, hS.F ht⟩) hS.2.2 dJ9_floorDiv_7cf53_22
    · have ic_5 : ¬ ((x_4 : Int32).toInt = (p1 : Int32).toInt) := fun h9 => c_5 ((fa_eq x_4 p1).mpr h9)
      refine lv_iload_n hx hb dJ9_floorDiv_7cf53_17 rfl (lv_at hl 0 rfl) ?_
      refine lv_iconst (v := 1) hx hb dJ9_floorDiv_7cf53_18 (by decide) ?_
      refine lv_isub hx hb dJ9_floorDiv_7cf53_19 ?_
      refine lv_topi (fun x_6 ex_6 => ?_)
      have tx_6 := ti_sub ex_6
      exact W.iret (v := x_6) hx hb hr (fun t ht hW => ⟨⟨x_6, (), rfl, trivial, trivial⟩, hS.F ht⟩) hS.2.2 dJ9_floorDiv_7cf53_20

