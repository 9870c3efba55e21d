theorem lawv_mag (k : Int32) : (FP.dmul (FP.i2d k) 4593671619917905920).toNat % 2 ^ 63 < 1055 * 2 ^ 52 := by
  have h := FP.Core.dmul_mag (a := FP.i2d k) (b := 4593671619917905920) (Ka := 1056) (Kb := 1021) (FP.Core.i2d_mag k) (by decide) (by omega) (by omega)
  exact h
theorem lawv_fin (k : Int32) : FP.Core.DFin (FP.dmul (FP.i2d k) 4593671619917905920) := by
  rw [FP.Core.fin_bits]
  have h := lawv_mag k
  omega
theorem lawv_eq {k : Int32} {r : UInt64} (h : alike64 r (FP.dmul (FP.i2d k) 4593671619917905920) = true) : r = FP.dmul (FP.i2d k) 4593671619917905920 := by
  simp only [alike64, Bool.or_eq_true, decide_eq_true_eq, Bool.and_eq_true] at h
  rcases h with h | ⟨-, h⟩
  · exact h
  · rw [isNaN64_iff] at h
    have e : (FP.dmul (FP.i2d k) 4593671619917905920).toNat &&& 0x7fffffffffffffff = (FP.dmul (FP.i2d k) 4593671619917905920).toNat % 2 ^ 63 := Nat.and_two_pow_sub_one_eq_mod _ 63
    rw [e] at h
    have h2 := lawv_mag k
    omega
theorem lawv_0 (k : Int32) : (Op.cmpValue (FP.dcmp (FP.dmul (FP.i2d k) 4593671619917905920) (FP.dmul (FP.i2d k) 4593671619917905920)) CmpOp.l).toInt = 0 := by
  have h : FP.dcmp (FP.dmul (FP.i2d k) 4593671619917905920) (FP.dmul (FP.i2d k) 4593671619917905920) = some .eq := FP.Core.dcmp_self (lawv_fin k).ne_nan
  rw [h]; decide
theorem lawv_1 (k : Int32) : (Op.cmpValue (FP.dcmp (FP.dmul (FP.i2d k) 4593671619917905920) 9218868437227405311) CmpOp.l).toInt ≤ 0 := by
  have hk : FP.Core.dkey 9218868437227405311 = 9218868437227405311 := by decide +kernel
  have hm := lawv_mag k
  have hlt := (FP.dmul (FP.i2d k) 4593671619917905920).toNat_lt
  have hc : FP.Core.dkey (FP.dmul (FP.i2d k) 4593671619917905920) < 9218868437227405311 := by
    unfold FP.Core.dkey; split <;> omega
  have h : FP.dcmp (FP.dmul (FP.i2d k) 4593671619917905920) 9218868437227405311 = some .lt := (FP.Core.dcmp_lt_key (lawv_fin k).ne_nan (by decide +kernel)).mpr (by rw [hk]; exact hc)
  rw [h]; decide
theorem lawv_2 (k : Int32) : 0 ≤ (Op.cmpValue (FP.dcmp (FP.dmul (FP.i2d k) 4593671619917905920) 18442240474082181119) CmpOp.g).toInt := by
  have hk : FP.Core.dkey 18442240474082181119 = -9218868437227405311 := by decide +kernel
  have hm := lawv_mag k
  have hlt := (FP.dmul (FP.i2d k) 4593671619917905920).toNat_lt
  have hc : -9218868437227405311 < FP.Core.dkey (FP.dmul (FP.i2d k) 4593671619917905920) := by
    unfold FP.Core.dkey; split <;> omega
  have h : FP.dcmp (FP.dmul (FP.i2d k) 4593671619917905920) 18442240474082181119 = some .gt := (FP.Core.dcmp_gt_key (lawv_fin k).ne_nan (by decide +kernel)).mpr (by rw [hk]; exact hc)
  rw [h]; decide
theorem inR_nan {q : UInt64} (h : isNaN64 q = true) : ¬ inR q := by
  intro h1
  have hn : FP.Core.val64 q = .nan := by
    refine (FP.Core.dIsNaN_iff q).mp ((FP.Core.isNaN_bits q).mpr ?_)
    rw [isNaN64_iff] at h
    have e : q.toNat &&& 0x7fffffffffffffff = q.toNat % 2 ^ 63 := Nat.and_two_pow_sub_one_eq_mod _ 63
    rw [e] at h
    omega
  have h2 := h1.1
  rw [show FP.dcmp q 18318360957983683996 = none from (FP.Core.dcmp_none _ _).mpr (Or.inl hn)] at h2
  revert h2; decide
/-- two answers of one draw are alike in range -/
theorem inR_alike {a b x : UInt64} (ha : alike64 a x = true) (hb : alike64 b x = true) (h : inR a) : inR b := by
  simp only [alike64, Bool.or_eq_true, decide_eq_true_eq, Bool.and_eq_true] at ha hb
  rcases ha with ha | ha
  · rcases hb with hb | hb
    · rw [hb, ← ha]; exact h
    · exact absurd h (inR_nan (by rw [ha]; exact hb.2))
  · exact absurd h (inR_nan ha.1)
theorem eq_set {r1 r2 : Int32} {v x1 x2 y1 y2 : UInt64} (h1 : (r1 = 1 ∧ inR v ∧ x1 = nzd v) ∨ (r1 = 0 ∧ ¬ inR v ∧ x1 = y1)) (h2 : (r2 = 1 ∧ inR v ∧ x2 = nzd v) ∨ (r2 = 0 ∧ ¬ inR v ∧ x2 = y2)) : r1 = r2 := by
  rcases h1 with h1 | h1 <;> rcases h2 with h2 | h2
  · rw [h1.1, h2.1]
  · exact absurd h1.2.1 h2.2.1
  · exact absurd h2.2.1 h1.2.1
  · rw [h1.1, h2.1]
theorem eq_reckon {r1 r2 wh : Int32} {v a x1 x2 y1 y2 : UInt64} (h1 : (rbad wh v ∧ r1 = 0 ∧ x1 = y1) ∨ (¬ rbad wh v ∧ ∃ q, alike64 q (rk wh a v) = true ∧ ((r1 = 1 ∧ inR q ∧ x1 = nzd q) ∨ (r1 = 0 ∧ ¬ inR q ∧ x1 = y1)))) (h2 : (rbad wh v ∧ r2 = 0 ∧ x2 = y2) ∨ (¬ rbad wh v ∧ ∃ q, alike64 q (rk wh a v) = true ∧ ((r2 = 1 ∧ inR q ∧ x2 = nzd q) ∨ (r2 = 0 ∧ ¬ inR q ∧ x2 = y2)))) : r1 = r2 := by
  rcases h1 with h1 | ⟨g1, q1, a1, h1⟩ <;> rcases h2 with h2 | ⟨g2, q2, a2, h2⟩
  · rw [h1.2.1, h2.2.1]
  · exact absurd h1.1 g2
  · exact absurd h2.1 g1
  · rcases h1 with h1 | h1 <;> rcases h2 with h2 | h2
    · rw [h1.1, h2.1]
    · exact absurd (inR_alike a1 a2 h1.2.1) h2.2.1
    · exact absurd (inR_alike a2 a1 h2.2.1) h1.2.1
    · rw [h1.1, h2.1]
theorem xw_m : ∀ w ∈ xwL, w ∈ lw_tbl := by decide +kernel
theorem lg_cmp_self (x : Int64) : lg_cmp x x = 0 := by simp [lg_cmp]

