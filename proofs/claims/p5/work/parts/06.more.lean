/-! what the walks want beside 05 -/
/-- as Met.ofW, for a method of a class of which the machine runs some others by entries of its own (java.lang.Math): this one has none -/
theorem MetF_ofW {l : Launch} {y : MethodName} {ws ws' : List Cond} {rm : Room} {Pc : Array Value → State → Prop} {Qc : Array Value → State → Outcome → State → Prop} {mc ms : Nat} {free : Addr → Prop} {cc : ByteArray} {maxL : Nat} {ret : Option FieldType}
    (hy : plainFor y = true) (hw : ws = Cond.code y cc maxL ret :: ws')
    (body : ∀ p e s m args below meth c s₁, BodyLoose p l y (headSpec ws rm) cc maxL ret e s m args below meth c s₁ → c.maxLocals = maxL → Pc args s →
      W p l e (headSpec ws rm).room s m args below meth c s.heap [] 0 0 (MQ below Qc args s mc ms free) (entryFrame m args maxL)) : Met l y ws rm Pc Qc mc ms free := by
  refine Jvm.Free.MetFree.of_bodySF (code := cc) (maxLocals := maxL) (ret := ret) hy ?_ ?_
  · intro args s m h hn
    obtain ⟨meth, c, h1, h2, h3, h4, h5, h6, -, -⟩ := Cond.code_spec hn (atoms_spec (ws := ws) h _ (by rw [hw]; exact List.mem_cons_self))
    exact ⟨meth, c, h1, h2, h3, h4, h5, h6⟩
  · intro p e s m args below meth c s₁ B hml hP _
    have hh0 : s₁.heap = s.heap := by rw [B.state]; rfl
    obtain ⟨t, a1, o, b1, b2, b3⟩ := body p e s m args below meth c s₁ B hml hP s₁ hh0 (Stand.of_body B)
    exact ⟨t, o, a1, b1, b2, ⟨b3.1, b3.2⟩⟩
theorem ti_and {z x m : Int32} (h : z = x &&& m) (k : Nat) (hm : m.toBitVec.toNat = 2 ^ k - 1) (hk : k ≤ 30) : 0 ≤ z.toInt ∧ z.toInt ≤ m.toInt := by
  obtain ⟨j, h1, h2⟩ := pk_andE x k hm
  have hb : (2 : Nat) ^ k ≤ 2 ^ 30 := Nat.pow_le_pow_right (by decide) hk
  have h3 : z.toInt = (j : Int) := by rw [h, h2]; exact nI_toInt (by omega)
  have h4 : m.toInt = ((2 ^ k - 1 : Nat) : Int) := by
    rw [← hm]
    show m.toBitVec.toInt = _
    rw [BitVec.toInt_eq_toNat_cond, if_pos (by rw [hm]; omega)]
  omega
theorem ti_mul {z x y : Int32} (h : z = x * y) : (-2147483648 ≤ z.toInt ∧ z.toInt < 2147483648) ∧ (-2147483648 ≤ x.toInt * y.toInt → x.toInt * y.toInt < 2147483648 → z.toInt = x.toInt * y.toInt) := by
  subst h
  refine ⟨ti_b _, fun h1 h2 => ?_⟩
  rw [Int32.toInt_mul]
  simp only [Int.bmod]
  generalize x.toInt * y.toInt = q at h1 h2 ⊢
  split <;> omega
theorem tl_mul {z x y : Int64} (h : z = x * y) : (-9223372036854775808 ≤ z.toInt ∧ z.toInt < 9223372036854775808) ∧ (-9223372036854775808 ≤ x.toInt * y.toInt → x.toInt * y.toInt < 9223372036854775808 → z.toInt = x.toInt * y.toInt) := by
  subst h
  refine ⟨tl_b _, fun h1 h2 => ?_⟩
  rw [Int64.toInt_mul]
  simp only [Int.bmod]
  generalize x.toInt * y.toInt = q at h1 h2 ⊢
  split <;> omega
theorem tl_divE {z x y : Int64} (h : z = x / y) (hy : 0 < y.toInt ∧ y ≠ -1) (hx : 0 ≤ x.toInt) : z.toInt = x.toInt / y.toInt := by
  rw [h, Int64.toInt_div_of_ne_right x y hy.2]; exact Int.tdiv_eq_ediv_of_nonneg hx
theorem tl_remE {z x y : Int64} (h : z = x - x / y * y) (hy : 0 < y.toInt ∧ y ≠ -1) (hx : 0 ≤ x.toInt) : z.toInt = x.toInt % y.toInt := by
  have h1 := tl_divE (z := x / y) rfl hy hx
  have h2 := tl_mul (z := x / y * y) rfl
  have h3 := tl_sub h
  have b1 := tl_b x
  have g := td_pos hx hy.1
  have e : x.toInt.tdiv y.toInt = x.toInt / y.toInt := Int.tdiv_eq_ediv_of_nonneg hx
  rw [e] at g
  rw [h1] at h2
  have h4 := Int.emod_add_mul_ediv x.toInt y.toInt
  have h5 : y.toInt * (x.toInt / y.toInt) = x.toInt / y.toInt * y.toInt := Int.mul_comm _ _
  rw [h2.2 (by omega) (by omega)] at h3
  omega
theorem ti_divE {z x y : Int32} (h : z = x / y) (hy : 0 < y.toInt ∧ y ≠ -1) (hx : 0 ≤ x.toInt) : z.toInt = x.toInt / y.toInt := by
  rw [h, Int32.toInt_div_of_ne_right x y hy.2]; exact Int.tdiv_eq_ediv_of_nonneg hx
theorem ti_remE {z x y : Int32} (h : z = x - x / y * y) (hy : 0 < y.toInt ∧ y ≠ -1) (hx : 0 ≤ x.toInt) : z.toInt = x.toInt % y.toInt := by
  have h1 := ti_divE (z := x / y) rfl hy hx
  have h2 := ti_mul (z := x / y * y) rfl
  have h3 := ti_sub h
  have b1 := ti_b x
  have g := td_pos hx hy.1
  have e : x.toInt.tdiv y.toInt = x.toInt / y.toInt := Int.tdiv_eq_ediv_of_nonneg hx
  rw [e] at g
  rw [h1] at h2
  have h4 := Int.emod_add_mul_ediv x.toInt y.toInt
  have h5 : y.toInt * (x.toInt / y.toInt) = x.toInt / y.toInt * y.toInt := Int.mul_comm _ _
  rw [h2.2 (by omega) (by omega)] at h3
  omega
theorem ti_l2iE {y : Int32} {x : Int64} (h : y = x.toInt32) (h1 : -2147483648 ≤ x.toInt) (h2 : x.toInt < 2147483648) : y.toInt = x.toInt := by
  rw [h, Int64.toInt_toInt32]
  simp only [Int.bmod]
  split <;> omega
