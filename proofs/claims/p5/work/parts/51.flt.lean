/-! doubles not below 0, as whole numbers of the least one; the reference's 'apart' and 'takeApart' -/
def zn (x : UInt64) : Nat := FP.Core.zmag FP.Core.b64 (FP.Core.val64 x)
def PF (x : UInt64) : Prop := ∃ c q, FP.Core.val64 x = .fin false c q
theorem qmin64 : FP.Core.b64.qmin = -1074 := by decide +kernel
theorem qmax64 : FP.Core.b64.qmax = 971 := by decide +kernel
theorem p64 : FP.Core.b64.p = 53 := by decide +kernel
theorem PF.ne {x : UInt64} (h : PF x) : FP.Core.val64 x ≠ .nan := by
  obtain ⟨c, q, h⟩ := h
  rw [h]; exact FP.Core.Datum.noConfusion
theorem PF.zval {x : UInt64} (h : PF x) : FP.Core.zval FP.Core.b64 (FP.Core.val64 x) = (zn x : Int) := by
  obtain ⟨c, q, h⟩ := h
  unfold zn FP.Core.zval
  rw [h]; rfl
theorem PF.form {x : UInt64} (h : PF x) : ∃ c t : Nat, FP.Core.val64 x = .fin false c ((t : Int) - 1074) ∧ c < 2 ^ 53 ∧ t ≤ 2045 ∧ (t = 0 ∨ 2 ^ 52 ≤ c) ∧ zn x = c * 2 ^ t := by
  obtain ⟨c, q, h⟩ := h
  have hf := FP.Core.val64_fits x
  rw [h] at hf
  obtain ⟨f1, f2, f3, f4⟩ := hf
  rw [qmin64] at f2 f4
  rw [qmax64] at f3
  rw [p64] at f1
  have f4 : q = -1074 ∨ 2 ^ 52 ≤ c := f4
  refine ⟨c, (q + 1074).toNat, ?_, f1, by omega, by omega, ?_⟩
  · rw [h, show (((q + 1074).toNat : Nat) : Int) - 1074 = q by omega]
  · unfold zn
    rw [h]
    show c * 2 ^ (q - FP.Core.b64.qmin).toNat = _
    rw [qmin64, show (q - -1074).toNat = (q + 1074).toNat by omega]
theorem cmp_zn {a b : UInt64} {o : CmpOp} {x : Int32} (ha : PF a) (hb : PF b) (ex : x = Op.cmpValue (FP.dcmp a b) o) : (x.toInt = 1 ∧ zn b < zn a) ∨ (x.toInt = 0 ∧ zn a = zn b) ∨ (x.toInt = -1 ∧ zn a < zn b) := by
  have h1 := ha.zval
  have h2 := hb.zval
  rcases Nat.lt_trichotomy (zn a) (zn b) with h | h | h
  · have h3 : FP.dcmp a b = some .lt := FP.Core.dcmp_lt.mpr ⟨ha.ne, hb.ne, by rw [h1, h2]; omega⟩
    rw [h3] at ex
    exact Or.inr (Or.inr ⟨by rw [ex]; cases o <;> decide, h⟩)
  · have h3 : FP.dcmp a b = some .eq := FP.Core.dcmp_eq.mpr ⟨ha.ne, hb.ne, by rw [h1, h2]; omega⟩
    rw [h3] at ex
    exact Or.inr (Or.inl ⟨by rw [ex]; cases o <;> decide, h⟩)
  · have h3 : FP.dcmp a b = some .gt := FP.Core.dcmp_gt.mpr ⟨ha.ne, hb.ne, by rw [h1, h2]; omega⟩
    rw [h3] at ex
    exact Or.inl ⟨by rw [ex]; cases o <;> decide, h⟩
theorem notNaN {y : UInt64} (h : FP.Core.val64 y ≠ .nan) : isNaN64 y = false := by
  cases hn : isNaN64 y with
  | false => rfl
  | true =>
    exfalso
    refine h ((FP.Core.dIsNaN_iff y).mp ((FP.Core.isNaN_bits y).mpr ?_))
    rw [isNaN64_iff] at hn
    have e : y.toNat &&& 0x7fffffffffffffff = y.toNat % 2 ^ 63 := Nat.and_two_pow_sub_one_eq_mod _ 63
    rw [e] at hn
    omega
theorem alike_eq {r y : UInt64} (h : alike64 r y = true) (hy : FP.Core.val64 y ≠ .nan) : r = y := by
  simp only [alike64, Bool.or_eq_true, decide_eq_true_eq, Bool.and_eq_true] at h
  rcases h with h | ⟨-, h⟩
  · exact h
  · rw [notNaN hy] at h
    exact absurd h (by decide)
theorem v_half : FP.Core.val64 4602678819172646912 = .fin false (2 ^ 52) (-53) := by decide +kernel
theorem v_two : FP.Core.val64 4611686018427387904 = .fin false (2 ^ 52) (-51) := by decide +kernel
theorem z53 : PF 4845873199050653696 ∧ zn 4845873199050653696 = 2 ^ 1127 := ⟨⟨2 ^ 52, 1, by decide +kernel⟩, by decide +kernel⟩
theorem z52 : PF 4841369599423283200 ∧ zn 4841369599423283200 = 2 ^ 1126 := ⟨⟨2 ^ 52, 0, by decide +kernel⟩, by decide +kernel⟩
/-- a product by a power of two, where it is exact -/
theorem scale_zn {x k : UInt64} {c t : Nat} {j : Int} (i : Int) (hx : FP.Core.val64 x = .fin false c ((t : Int) - 1074)) (hc : c < 2 ^ 53) (hk : FP.Core.val64 k = .fin false (2 ^ 52) j) (hj : j = i - 52) (h1 : 0 ≤ (t : Int) + i) (h2 : (t : Int) + i ≤ 2045) : PF (FP.dmul x k) ∧ zn (FP.dmul x k) = c * 2 ^ ((t : Int) + i).toNat := by
  subst hj
  have hv : FP.Core.val64 (FP.dmul x k) = FP.Core.round FP.Core.b64 (.fin false c ((t : Int) + i - 1074)) := by
    have h := FP.Core.val64_dmul x k
    rw [hx, hk] at h
    refine Eq.trans h ?_
    show FP.Core.roundRatio FP.Core.b64 false (c * 2 ^ 52) 1 ((t : Int) - 1074 + (i - 52)) = FP.Core.roundRatio FP.Core.b64 false c 1 ((t : Int) + i - 1074)
    refine FP.Core.roundRatio_congr (by decide) (by decide) ?_
    rw [show ((t : Int) - 1074 + (i - 52) - ((t : Int) + i - 1074)).toNat = 0 by omega, show ((t : Int) + i - 1074 - ((t : Int) - 1074 + (i - 52))).toNat = 52 by omega]
    omega
  obtain ⟨c', q', h3, h4⟩ := FP.Core.round_exact FP.Core.good_b64 false (c := c) (q := (t : Int) + i - 1074) (by rw [p64]; exact hc) (by rw [qmin64]; omega) (by rw [qmax64]; omega)
  rw [h3] at hv
  refine ⟨⟨c', q', hv⟩, ?_⟩
  unfold zn
  rw [hv]
  show FP.Core.inUnits c' q' FP.Core.b64.qmin = _
  rw [h4]
  unfold FP.Core.inUnits
  rw [qmin64, show ((t : Int) + i - 1074 - -1074).toNat = ((t : Int) + i).toNat by omega]
theorem half_zn {x r : UInt64} (h : PF x) (hz : 2 ^ 1127 ≤ zn x) (ha : alike64 r (FP.dmul x 4602678819172646912) = true) : PF r ∧ 2 * zn r = zn x := by
  obtain ⟨c, t, h1, h2, h3, h4, h5⟩ := h.form
  have ht : 1 ≤ t := by
    rcases Nat.eq_zero_or_pos t with h6 | h6
    · exfalso
      rw [h5, h6, Nat.pow_zero, Nat.mul_one] at hz
      have : (2 : Nat) ^ 53 ≤ 2 ^ 1127 := Nat.pow_le_pow_right (by decide) (by decide)
      generalize (2 : Nat) ^ 1127 = P at hz this
      omega
    · exact h6
  obtain ⟨g1, g2⟩ := scale_zn (k := 4602678819172646912) (-1) h1 h2 v_half (by omega) (by omega) (by omega)
  have e := alike_eq ha g1.ne
  rw [e]
  refine ⟨g1, ?_⟩
  rw [g2, h5, show ((t : Int) + -1).toNat = t - 1 by omega]
  obtain ⟨u, rfl⟩ : ∃ u, t = u + 1 := ⟨t - 1, by omega⟩
  rw [Nat.pow_succ, Nat.add_sub_cancel, Nat.mul_comm (2 ^ u) 2, Nat.mul_left_comm]
theorem two_zn {x r : UInt64} (h : PF x) (hz : zn x < 2 ^ 1126) (ha : alike64 r (FP.dmul x 4611686018427387904) = true) : PF r ∧ zn r = 2 * zn x := by
  obtain ⟨c, t, h1, h2, h3, h4, h5⟩ := h.form
  have ht : t ≤ 1126 := by
    rcases Nat.lt_or_ge 1126 t with h6 | h6
    · exfalso
      have h7 : 2 ^ 52 ≤ c := by omega
      have h8 : (2 : Nat) ^ 1126 ≤ 2 ^ t := Nat.pow_le_pow_right (by decide) (by omega)
      have h9 : 1 * 2 ^ t ≤ c * 2 ^ t := Nat.mul_le_mul_right _ (by omega)
      rw [h5] at hz
      generalize (2 : Nat) ^ 1126 = P at hz h8
      omega
    · exact h6
  obtain ⟨g1, g2⟩ := scale_zn (k := 4611686018427387904) 1 h1 h2 v_two (by omega) (by omega) (by omega)
  have e := alike_eq ha g1.ne
  rw [e]
  refine ⟨g1, ?_⟩
  rw [g2, h5, show ((t : Int) + 1).toNat = t + 1 by omega, Nat.pow_succ, Nat.mul_comm (2 ^ t) 2, Nat.mul_left_comm]
theorem zn_lt {x : UInt64} (h : PF x) : zn x < 2 ^ 2098 := by
  obtain ⟨c, t, h1, h2, h3, h4, h5⟩ := h.form
  rw [h5, show 2098 = 53 + 2045 by rfl, Nat.pow_add]
  have h6 : (2 : Nat) ^ t ≤ 2 ^ 2045 := Nat.pow_le_pow_right (by decide) h3
  have h7 : c * 2 ^ t ≤ c * 2 ^ 2045 := Nat.mul_le_mul_left _ h6
  have h8 : c * 2 ^ 2045 < 2 ^ 53 * 2 ^ 2045 := Nat.mul_lt_mul_of_pos_right h2 (Nat.two_pow_pos _)
  generalize (2 : Nat) ^ 53 * 2 ^ 2045 = P at h8 ⊢
  generalize c * 2 ^ 2045 = Q at h7 h8
  omega
def AP1 (v x : UInt64) (e : Int32) : Prop := PF v → PF x ∧ 0 ≤ e.toInt ∧ e.toInt ≤ 971 ∧ zn x * 2 ^ e.toInt.toNat = zn v ∧ (e.toInt = 0 ∨ 2 ^ 1126 ≤ zn x)
theorem AP1_0 {v : UInt64} : AP1 v v 0 := fun h => by
  have n0 : (0 : Int32).toInt = 0 := by decide
  refine ⟨h, by omega, by omega, ?_, Or.inl n0⟩
  rw [n0]; simp
theorem AP1_lin {v x : UInt64} {e : Int32} (h : AP1 v x e) (hv : PF v) : 0 ≤ e.toInt ∧ e.toInt ≤ 971 := ⟨(h hv).2.1, (h hv).2.2.1⟩
theorem AP1_step {v x r : UInt64} {e e' y : Int32} (h : AP1 v x e) (ey : y = Op.cmpValue (FP.dcmp x 4845873199050653696) CmpOp.l) (hy : ¬ y.toInt < 0) (ha : alike64 r (FP.dmul x 4602678819172646912) = true) (ee : e' = e + 1) : AP1 v r e' := by
  intro hv
  obtain ⟨g1, g2, g3, g4, g5⟩ := h hv
  have n1 : (1 : Int32).toInt = 1 := by decide
  have t := ti_add ee
  have hc := cmp_zn g1 z53.1 ey
  rw [z53.2] at hc
  have hz : 2 ^ 1127 ≤ zn x := by
    generalize (2 : Nat) ^ 1127 = P at hc ⊢
    omega
  obtain ⟨k1, k2⟩ := half_zn g1 hz ha
  have hlt := zn_lt hv
  have he : e.toInt < 971 := by
    rcases Int.lt_or_le e.toInt 971 with h9 | h9
    · exact h9
    · exfalso
      have e1 : e.toInt.toNat = 971 := by omega
      rw [e1] at g4
      have h8 := Nat.mul_le_mul_right (2 ^ 971) hz
      rw [g4, ← Nat.pow_add] at h8
      generalize (2 : Nat) ^ (1127 + 971) = P at h8
      rw [show (2 : Nat) ^ 2098 = 2 ^ (1127 + 971) by rfl] at hlt
      omega
  have e1 : e'.toInt = e.toInt + 1 := by omega
  refine ⟨k1, by omega, by omega, ?_, Or.inr ?_⟩
  · rw [e1, show (e.toInt + 1).toNat = e.toInt.toNat + 1 by omega, Nat.pow_succ, ← g4, ← k2]
    generalize 2 ^ e.toInt.toNat = P
    rw [Nat.mul_comm P 2, ← Nat.mul_assoc, Nat.mul_comm (zn r) 2]
  · have e2 : (2 : Nat) ^ 1127 = 2 * 2 ^ 1126 := by rw [Nat.pow_succ, Nat.mul_comm]
    rw [← k2, e2] at hz
    generalize (2 : Nat) ^ 1126 = P at hz ⊢
    omega
def AP2 (v x : UInt64) (e : Int32) : Prop := PF v → PF x ∧ zn x < 2 ^ 1127 ∧ ((0 ≤ e.toInt ∧ e.toInt ≤ 971 ∧ zn x * 2 ^ e.toInt.toNat = zn v ∧ (e.toInt = 0 ∨ 2 ^ 1126 ≤ zn x)) ∨ (e.toInt < 0 ∧ -1074 ≤ e.toInt ∧ zn x = zn v * 2 ^ (-e.toInt).toNat))
theorem AP2_of {v x : UInt64} {e y : Int32} (h : AP1 v x e) (ey : y = Op.cmpValue (FP.dcmp x 4845873199050653696) CmpOp.l) (hy : y.toInt < 0) : AP2 v x e := by
  intro hv
  obtain ⟨g1, g2, g3, g4, g5⟩ := h hv
  have hc := cmp_zn g1 z53.1 ey
  rw [z53.2] at hc
  refine ⟨g1, ?_, Or.inl ⟨g2, g3, g4, g5⟩⟩
  generalize (2 : Nat) ^ 1127 = P at hc ⊢
  omega
theorem AP2_lin {v x : UInt64} {e : Int32} (h : AP2 v x e) (hv : PF v) : -1074 ≤ e.toInt ∧ e.toInt ≤ 971 := by
  obtain ⟨-, -, h1⟩ := h hv
  rcases h1 with h1 | h1 <;> omega
theorem AP2_step {v x r : UInt64} {e e' y : Int32} (h : AP2 v x e) (ey : y = Op.cmpValue (FP.dcmp x 4841369599423283200) CmpOp.g) (hy : ¬ 0 ≤ y.toInt) (he : -1074 < e.toInt) (ha : alike64 r (FP.dmul x 4611686018427387904) = true) (ee : e' = e - 1) : AP2 v r e' := by
  intro hv
  obtain ⟨g1, g2, g3⟩ := h hv
  have n1 : (1 : Int32).toInt = 1 := by decide
  have t := ti_sub ee
  have hc := cmp_zn g1 z52.1 ey
  rw [z52.2] at hc
  have hz : zn x < 2 ^ 1126 := by
    generalize (2 : Nat) ^ 1126 = P at hc ⊢
    omega
  obtain ⟨k1, k2⟩ := two_zn g1 hz ha
  have e2 : (2 : Nat) ^ 1127 = 2 * 2 ^ 1126 := by rw [Nat.pow_succ, Nat.mul_comm]
  refine ⟨k1, ?_, Or.inr ?_⟩
  · rw [k2, e2]
    generalize (2 : Nat) ^ 1126 = P at hz ⊢
    omega
  · rcases g3 with ⟨h1, h2, h3, h4⟩ | ⟨h1, h2, h3⟩
    · have h5 : e.toInt = 0 := by
        rcases h4 with h4 | h4
        · exact h4
        · exfalso
          generalize (2 : Nat) ^ 1126 = P at hz h4
          omega
      rw [h5] at h3
      have h3 : zn x = zn v := by simpa using h3
      refine ⟨by omega, by omega, ?_⟩
      rw [k2, h3, show (-e'.toInt).toNat = 1 by omega]
      omega
    · refine ⟨by omega, by omega, ?_⟩
      rw [k2, h3, show (-e'.toInt).toNat = (-e.toInt).toNat + 1 by omega, Nat.pow_succ, Nat.mul_comm (2 ^ (-e.toInt).toNat) 2, Nat.mul_left_comm]
/-- what 'apart' finds -/
def Apt (v : UInt64) (m : Int64) (e : Int32) : Prop := PF v → 0 ≤ m.toInt ∧ m.toInt < 9007199254740992 ∧ -1074 ≤ e.toInt ∧ e.toInt ≤ 971 ∧ (4503599627370496 ≤ m.toInt ∨ e.toInt = -1074) ∧ zn v * 2 ^ (-e.toInt).toNat = m.toInt.toNat * 2 ^ 1074 * 2 ^ e.toInt.toNat
theorem d2l_zn {x : UInt64} (h : PF x) (hz : zn x < 2 ^ 1127) : (FP.d2l x).toInt = ((zn x / 2 ^ 1074 : Nat) : Int) := by
  have h1 := FP.Core.d2l_val h.ne
  obtain ⟨c, q, h2⟩ := h
  rw [h2] at h1
  have h3 : FP.Core.zmag FP.Core.b64 (.fin false c q) = zn x := by unfold zn; rw [h2]
  rw [h3] at h1
  have h4 : zn x / 2 ^ 1074 < 2 ^ 53 := by
    rw [Nat.div_lt_iff_lt_mul (Nat.two_pow_pos _), ← Nat.pow_add]
    exact hz
  have h5 : FP.Core.one64 = 2 ^ 1074 := rfl
  rw [h5] at h1
  have h6 : FP.Core.signed (FP.Core.sgn (.fin false c q)) (zn x / 2 ^ 1074) = ((zn x / 2 ^ 1074 : Nat) : Int) := rfl
  rw [h6] at h1
  generalize zn x / 2 ^ 1074 = D at h1 h4 ⊢
  have h1 : (FP.d2l x).toInt = max (-2 ^ 63) (min (2 ^ 63 - 1) (D : Int)) := h1
  omega
theorem Apt_of {v x : UInt64} {m : Int64} {e : Int32} (h : AP2 v x e) (hx : PF v → 2 ^ 1126 ≤ zn x ∨ e.toInt ≤ -1074) (em : m = FP.d2l x) : Apt v m e := by
  intro hv
  obtain ⟨g1, g2, g3⟩ := h hv
  have hm := d2l_zn g1 g2
  rw [← em] at hm
  obtain ⟨c, t, f1, f2, f3, f4, f5⟩ := g1.form
  have hlt : zn x / 2 ^ 1074 < 2 ^ 53 := by
    rw [Nat.div_lt_iff_lt_mul (Nat.two_pow_pos _), ← Nat.pow_add]
    exact g2
  have hP : 0 < 2 ^ 1074 := Nat.two_pow_pos _
  have key : zn x = zn x / 2 ^ 1074 * 2 ^ 1074 ∧ (2 ^ 52 ≤ zn x / 2 ^ 1074 ∨ e.toInt = -1074) := by
    rcases hx hv with h1 | h1
    · have ht : 1074 ≤ t := by
        rcases Nat.lt_or_ge t 1074 with h2 | h2
        · exfalso
          have h3 : (2 : Nat) ^ t ≤ 2 ^ 1073 := Nat.pow_le_pow_right (by decide) (by omega)
          have h4 : c * 2 ^ t ≤ c * 2 ^ 1073 := Nat.mul_le_mul_left _ h3
          have h5 : c * 2 ^ 1073 < 2 ^ 53 * 2 ^ 1073 := Nat.mul_lt_mul_of_pos_right f2 (Nat.two_pow_pos _)
          rw [f5] at h1
          rw [← Nat.pow_add, show 53 + 1073 = 1126 by rfl] at h5
          generalize (2 : Nat) ^ 1126 = P at h1 h5
          generalize c * 2 ^ 1073 = Q at h4 h5
          omega
        · exact h2
      obtain ⟨u, rfl⟩ : ∃ u, t = u + 1074 := ⟨t - 1074, by omega⟩
      have h6 : zn x = c * 2 ^ u * 2 ^ 1074 := by rw [f5, Nat.pow_add, Nat.mul_assoc]
      have h7 : zn x / 2 ^ 1074 = c * 2 ^ u := by rw [h6]; exact Nat.mul_div_cancel _ hP
      refine ⟨by rw [h7, ← h6], Or.inl ?_⟩
      rw [Nat.le_div_iff_mul_le hP, ← Nat.pow_add]
      exact h1
    · rcases g3 with ⟨h2, -⟩ | ⟨h2, h3, h4⟩
      · omega
      · have h5 : (-e.toInt).toNat = 1074 := by omega
        rw [h5] at h4
        refine ⟨?_, Or.inr (by omega)⟩
        rw [h4, Nat.mul_div_cancel _ hP]
  obtain ⟨k1, k2⟩ := key
  have hmn : m.toInt.toNat = zn x / 2 ^ 1074 := by omega
  refine ⟨by omega, ?_, ?_, ?_, ?_, ?_⟩
  · rw [hm]
    have : (2 : Nat) ^ 53 = 9007199254740992 := by decide
    omega
  · rcases g3 with h1 | h1 <;> omega
  · rcases g3 with h1 | h1 <;> omega
  · rcases k2 with h1 | h1
    · refine Or.inl ?_
      have : (2 : Nat) ^ 52 = 4503599627370496 := by decide
      omega
    · exact Or.inr h1
  · rw [hmn, ← k1]
    rcases g3 with ⟨h1, h2, h3, h4⟩ | ⟨h1, h2, h3⟩
    · rw [show (-e.toInt).toNat = 0 by omega, Nat.pow_zero, Nat.mul_one, h3]
    · rw [show e.toInt.toNat = 0 by omega, Nat.pow_zero, Nat.mul_one, h3]
/-- not 0 -/
def NZ (v : UInt64) : Prop := (Op.cmpValue (FP.dcmp v FP.dconst0) CmpOp.l).toInt ≠ 0
def SZ (v r : UInt64) : Prop := inR v → NZ v → PF r ∧ 1 ≤ zn r ∧ zn r < 2 ^ 2072
theorem v_1e300 : FP.Core.zval FP.Core.b64 (FP.Core.val64 9094988921128908188) < (2 ^ 2072 : Nat) ∧ -((2 ^ 2072 : Nat) : Int) < FP.Core.zval FP.Core.b64 (FP.Core.val64 18318360957983683996) := by decide +kernel
theorem inR_val {v : UInt64} (h : inR v) : ∃ s c q, FP.Core.val64 v = .fin s c q ∧ zn v < 2 ^ 2072 := by
  obtain ⟨h1, h2⟩ := h
  have g1 : FP.Core.dcmp v 18318360957983683996 = some .gt := by
    cases ho : FP.Core.dcmp v 18318360957983683996 with
    | none => rw [show FP.dcmp v 18318360957983683996 = none from ho] at h1; revert h1; decide
    | some o => cases o with
      | gt => rfl
      | lt => rw [show FP.dcmp v 18318360957983683996 = some .lt from ho] at h1; revert h1; decide
      | eq => rw [show FP.dcmp v 18318360957983683996 = some .eq from ho] at h1; revert h1; decide
  have g2 : FP.Core.dcmp v 9094988921128908188 = some .lt := by
    cases ho : FP.Core.dcmp v 9094988921128908188 with
    | none => rw [show FP.dcmp v 9094988921128908188 = none from ho] at h2; revert h2; decide
    | some o => cases o with
      | lt => rfl
      | gt => rw [show FP.dcmp v 9094988921128908188 = some .gt from ho] at h2; revert h2; decide
      | eq => rw [show FP.dcmp v 9094988921128908188 = some .eq from ho] at h2; revert h2; decide
  obtain ⟨n1, -, l1⟩ := FP.Core.dcmp_gt.mp g1
  obtain ⟨-, -, l2⟩ := FP.Core.dcmp_lt.mp g2
  have b1 := v_1e300.1
  have b2 := v_1e300.2
  have hlt : zn v < 2 ^ 2072 := by
    have e : FP.Core.zval FP.Core.b64 (FP.Core.val64 v) = FP.Core.signed (FP.Core.sgn (FP.Core.val64 v)) (zn v) := rfl
    rw [e] at l1 l2
    generalize (2 : Nat) ^ 2072 = P at b1 b2 ⊢
    generalize zn v = Z at l1 l2 ⊢
    generalize FP.Core.sgn (FP.Core.val64 v) = s at l1 l2
    cases s
    · have e1 : FP.Core.signed false Z = (Z : Int) := rfl
      rw [e1] at l2
      omega
    · have e1 : FP.Core.signed true Z = -(Z : Int) := rfl
      rw [e1] at l1
      omega
  cases hv : FP.Core.val64 v with
  | nan => exact absurd hv n1
  | inf s =>
    exfalso
    have e : zn v = FP.Core.b64.tails * 2 ^ (FP.Core.b64.exps - 2) := by unfold zn; rw [hv]; rfl
    rw [e] at hlt
    exact absurd hlt (by decide +kernel)
  | fin s c q => exact ⟨s, c, q, rfl, hlt⟩
theorem zero_or {v : UInt64} (h : inR v) : (∃ o, FP.dcmp v FP.dconst0 = some o ∧ (o = .lt → FP.Core.zval FP.Core.b64 (FP.Core.val64 v) < 0) ∧ (o = .gt → 0 < FP.Core.zval FP.Core.b64 (FP.Core.val64 v))) := by
  obtain ⟨s, c, q, h1, -⟩ := inR_val h
  have hz : FP.Core.zval FP.Core.b64 (FP.Core.val64 FP.dconst0) = 0 := by decide +kernel
  cases ho : FP.Core.dcmp v FP.dconst0 with
  | none =>
    exfalso
    rcases (FP.Core.dcmp_none _ _).mp ho with h2 | h2
    · rw [h1] at h2; cases h2
    · revert h2; decide +kernel
  | some o =>
    refine ⟨o, ho, fun h2 => ?_, fun h2 => ?_⟩
    · subst h2
      have := (FP.Core.dcmp_lt.mp ho).2.2
      rw [hz] at this; exact this
    · subst h2
      have := (FP.Core.dcmp_gt.mp ho).2.2
      rw [hz] at this; exact this
theorem dneg_nat {v : UInt64} (h : 2 ^ 63 ≤ v.toNat) : (FP.dneg v).toNat = v.toNat % 2 ^ 63 := by
  have hv := v.toNat_lt
  have e : (FP.dneg v).toNat = v.toNat ^^^ 2 ^ 63 := by
    unfold FP.dneg
    rw [UInt64.toNat_xor]; rfl
  rw [e]
  refine Nat.eq_of_testBit_eq fun i => ?_
  rw [Nat.testBit_xor, Nat.testBit_two_pow, Nat.testBit_mod_two_pow]
  rcases Nat.lt_trichotomy i 63 with hi | hi | hi
  · rw [decide_eq_true hi, decide_eq_false (by omega)]; simp
  · subst hi
    have h1 : v.toNat.testBit 63 = true := by
      have h2 : v.toNat = 2 ^ 63 + v.toNat % 2 ^ 63 := by omega
      rw [h2, Nat.testBit_two_pow_add_eq, Nat.testBit_mod_two_pow]
      simp
    rw [h1]; simp
  · have h1 : v.toNat.testBit i = false := Nat.testBit_lt_two_pow (Nat.lt_of_lt_of_le hv (Nat.pow_le_pow_right (by decide) (by omega)))
    rw [h1, decide_eq_false (by omega), decide_eq_false (by omega)]; rfl
theorem dneg_val {v : UInt64} {c : Nat} {q : Int} (h : FP.Core.val64 v = .fin true c q) : FP.Core.val64 (FP.dneg v) = .fin false c q := by
  have hn : FP.Core.val64 v ≠ .nan := by rw [h]; exact FP.Core.Datum.noConfusion
  have hm : FP.Core.mag FP.Core.b64 v.toNat ≤ FP.Core.infBits FP.Core.b64 := Nat.le_of_not_lt fun h1 => hn ((FP.Core.decode_nan _).mpr h1)
  have hs := FP.Core.sgn_decode hm (FP.Core.lt_full64 v)
  have hs : FP.Core.sgn (FP.Core.val64 v) = decide (FP.Core.half FP.Core.b64 ≤ v.toNat) := hs
  rw [h, FP.Core.half_b64] at hs
  have h63 : 2 ^ 63 ≤ v.toNat := of_decide_eq_true hs.symm
  have hlt := v.toNat_lt
  have e := dneg_nat h63
  have e2 : v.toNat = (FP.dneg v).toNat + FP.Core.half FP.Core.b64 := by rw [FP.Core.half_b64, e]; omega
  have hd := FP.Core.decode_half (f := FP.Core.b64) (n := (FP.dneg v).toNat) (by rw [FP.Core.half_b64, e]; omega)
  rw [← e2] at hd
  have hd : FP.Core.val64 v = FP.Core.negate (FP.Core.val64 (FP.dneg v)) := hd
  rw [h] at hd
  cases hx : FP.Core.val64 (FP.dneg v) with
  | nan => rw [hx] at hd; cases hd
  | inf s => rw [hx] at hd; cases hd
  | fin s c' q' =>
    rw [hx] at hd
    have hd : FP.Core.Datum.fin true c q = .fin (!s) c' q' := hd
    cases s
    · cases hd; rfl
    · cases hd
theorem size_neg {v : UInt64} {x : Int32} (ex : x = Op.cmpValue (FP.dcmp v FP.dconst0) CmpOp.g) (hx : x.toInt < 0) : SZ v (FP.dneg v) := by
  intro hr hz
  obtain ⟨s, c, q, h1, h2⟩ := inR_val hr
  obtain ⟨o, g1, g2, g3⟩ := zero_or hr
  have ho : o = .lt := by
    rw [g1] at ex
    cases o with
    | lt => rfl
    | eq => rw [ex] at hx; revert hx; decide
    | gt => rw [ex] at hx; revert hx; decide
  have g4 := g2 ho
  have e : FP.Core.zval FP.Core.b64 (FP.Core.val64 v) = FP.Core.signed s (zn v) := by unfold zn FP.Core.zval; rw [h1]; rfl
  rw [e] at g4
  have hs : s = true := by
    cases s
    · exfalso
      have e1 : FP.Core.signed false (zn v) = (zn v : Int) := rfl
      omega
    · rfl
  subst hs
  have e1 : FP.Core.signed true (zn v) = -(zn v : Int) := rfl
  have hn : FP.Core.val64 (FP.dneg v) = .fin false c q := dneg_val h1
  have hz2 : zn (FP.dneg v) = zn v := by unfold zn; rw [hn, h1]; rfl
  exact ⟨⟨c, q, hn⟩, by rw [hz2]; omega, by rw [hz2]; exact h2⟩
theorem size_pos {v : UInt64} {x : Int32} (ex : x = Op.cmpValue (FP.dcmp v FP.dconst0) CmpOp.g) (hx : ¬ x.toInt < 0) : SZ v v := by
  intro hr hz
  obtain ⟨s, c, q, h1, h2⟩ := inR_val hr
  obtain ⟨o, g1, g2, g3⟩ := zero_or hr
  have ho : o = .gt := by
    unfold NZ at hz
    rw [g1] at ex hz
    cases o with
    | gt => rfl
    | eq => exact absurd (by decide) hz
    | lt => rw [ex] at hx; exact absurd (by decide) hx
  have g4 := g3 ho
  have e : FP.Core.zval FP.Core.b64 (FP.Core.val64 v) = FP.Core.signed s (zn v) := by unfold zn FP.Core.zval; rw [h1]; rfl
  rw [e] at g4
  have hs : s = false := by
    cases s
    · rfl
    · exfalso
      have e1 : FP.Core.signed true (zn v) = -(zn v : Int) := rfl
      omega
  subst hs
  have e1 : FP.Core.signed false (zn v) = (zn v : Int) := rfl
  exact ⟨⟨c, q, h1⟩, by omega, h2⟩
def TA (v : UInt64) (r : Nat → Int32) : Prop := NZ v → okx r
theorem TA_zero {v : UInt64} {r : Nat → Int32} {x : Int32} (ex : x = Op.cmpValue (FP.dcmp v FP.dconst0) CmpOp.l) (hx : x.toInt = 0) : TA v r := fun h => absurd (by rw [← ex]; exact hx) h
theorem big1 : 2 ^ 998 * 10 ^ 1100 < (10 : Nat) ^ 1419 := by decide +kernel
theorem big2 : 10 ^ 7 * 2 ^ 1074 ≤ (10 : Nat) ^ 1100 := by decide +kernel
theorem TA_of {v s : UInt64} {m : Int64} {e : Int32} {row r : Nat → Int32} (hr : inR v) (hs : SZ v s) (ha : Apt s m e) (hx : Exp m e row) (hc : Cpy row r) : TA v r := by
  intro hz
  obtain ⟨g1, g2, g3⟩ := hs hr hz
  obtain ⟨k1, k2, k3, k4, k5, k6⟩ := ha g1
  have hM : m.toInt.toNat * 2 ^ e.toInt.toNat < 2 ^ 998 := by
    rcases Int.lt_or_le 0 e.toInt with h | h
    · rw [show (-e.toInt).toNat = 0 by omega, Nat.pow_zero, Nat.mul_one, Nat.mul_right_comm] at k6
      rw [k6, show 2072 = 998 + 1074 by rfl, Nat.pow_add] at g3
      exact Nat.lt_of_mul_lt_mul_right g3
    · rw [show e.toInt.toNat = 0 by omega, Nat.pow_zero, Nat.mul_one]
      have : (2 : Nat) ^ 53 ≤ 2 ^ 998 := Nat.pow_le_pow_right (by decide) (by decide)
      have h53 : (2 : Nat) ^ 53 = 9007199254740992 := by decide
      generalize (2 : Nat) ^ 998 = P at this ⊢
      omega
  have hlt : m.toInt.toNat * 10 ^ 1100 * 2 ^ e.toInt.toNat < 10 ^ 1420 := by
    rw [Nat.mul_right_comm]
    have h1 : m.toInt.toNat * 2 ^ e.toInt.toNat * 10 ^ 1100 < 2 ^ 998 * 10 ^ 1100 := Nat.mul_lt_mul_of_pos_right hM (Nat.pow_pos (by decide))
    have h2 : (10 : Nat) ^ 1419 ≤ 10 ^ 1420 := Nat.pow_le_pow_right (by decide) (by decide)
    exact Nat.lt_of_lt_of_le (Nat.lt_trans h1 big1) h2
  obtain ⟨d1, d2⟩ := hx k1 hlt (by omega)
  have hv : vl row * 2 ^ 1074 = zn s * 10 ^ 1100 := by
    have h1 : vl row * 2 ^ 1074 * 2 ^ (-e.toInt).toNat = zn s * 10 ^ 1100 * 2 ^ (-e.toInt).toNat := by
      rw [Nat.mul_right_comm, d2, Nat.mul_right_comm (zn s), k6]
      generalize (2 : Nat) ^ 1074 = A
      generalize (10 : Nat) ^ 1100 = B
      generalize 2 ^ e.toInt.toNat = C
      generalize m.toInt.toNat = M
      rw [Nat.mul_right_comm (M * B) C A, Nat.mul_right_comm M B A, Nat.mul_right_comm (M * A) B C]
    exact Nat.eq_of_mul_eq_mul_right (Nat.two_pow_pos _) h1
  refine okx_cpy hc (okx_of d1 ?_ ?_)
  · have h1 : 1 * 10 ^ 1100 ≤ zn s * 10 ^ 1100 := Nat.mul_le_mul_right _ g2
    rw [← hv, Nat.one_mul] at h1
    have h2 := Nat.le_trans big2 h1
    exact Nat.le_of_mul_le_mul_right h2 (Nat.two_pow_pos _)
  · have h1 : zn s * 10 ^ 1100 < 2 ^ 2072 * 10 ^ 1100 := Nat.mul_lt_mul_of_pos_right g3 (Nat.pow_pos (by decide))
    rw [← hv, show 2072 = 998 + 1074 by rfl, Nat.pow_add, Nat.mul_right_comm] at h1
    exact Nat.lt_trans (Nat.lt_of_mul_lt_mul_right h1) big1
