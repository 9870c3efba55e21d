theorem lawv_mag (k : Int32) : (FP.dmul (FP.i2d k) 4593671619917905920).toNat % 2 ^ 63 < 1055 * 2 ^ 52 := by
  have h := FP.Core.dmul_mag (a := FP.i2d k) (b := 4593671619917905920) (Ka := 1056) (Kb := 1021) (FP.Core.i2d_mag k) (by decide) (by omega) (by omega)
  exact h
theorem lawv_fin (k : Int32) : FP.Core.DFin (FP.dmul (FP.i2d k) 4593671619917905920) := by
  rw [FP.Core.fin_bits]
  have h := lawv_mag k
  omega
theorem lawv_eq {k : Int32} {r : UInt64} (h : alike64 r (FP.dmul (FP.i2d k) 4593671619917905920) = true) : r = FP.dmul (FP.i2d k) 4593671619917905920 := by
  simp only [alike64, Bool.or_eq_true, decide_eq_true_eq, Bool.and_eq_true] at h
  rcases h with h | ⟨-, h⟩
  · exact h
  · rw [isNaN64_iff] at h
    have e : (FP.dmul (FP.i2d k) 4593671619917905920).toNat &&& 0x7fffffffffffffff = (FP.dmul (FP.i2d k) 4593671619917905920).toNat % 2 ^ 63 := Nat.and_two_pow_sub_one_eq_mod _ 63
    rw [e] at h
    have h2 := lawv_mag k
    omega
theorem lawv_0 (k : Int32) : (Op.cmpValue (FP.dcmp (FP.dmul (FP.i2d k) 4593671619917905920) (FP.dmul (FP.i2d k) 4593671619917905920)) CmpOp.l).toInt = 0 := by
  have h : FP.dcmp (FP.dmul (FP.i2d k) 4593671619917905920) (FP.dmul (FP.i2d k) 4593671619917905920) = some .eq := FP.Core.dcmp_self (lawv_fin k).ne_nan
  rw [h]; decide
theorem lawv_1 (k : Int32) : (Op.cmpValue (FP.dcmp (FP.dmul (FP.i2d k) 4593671619917905920) 9218868437227405311) CmpOp.l).toInt ≤ 0 := by
  have hk : FP.Core.dkey 9218868437227405311 = 9218868437227405311 := by decide +kernel
  have hm := lawv_mag k
  have hlt := (FP.dmul (FP.i2d k) 4593671619917905920).toNat_lt
  have hc : FP.Core.dkey (FP.dmul (FP.i2d k) 4593671619917905920) < 9218868437227405311 := by
    unfold FP.Core.dkey; split <;> omega
  have h : FP.dcmp (FP.dmul (FP.i2d k) 4593671619917905920) 9218868437227405311 = some .lt := (FP.Core.dcmp_lt_key (lawv_fin k).ne_nan (by decide +kernel)).mpr (by rw [hk]; exact hc)
  rw [h]; decide
theorem lawv_2 (k : Int32) : 0 ≤ (Op.cmpValue (FP.dcmp (FP.dmul (FP.i2d k) 4593671619917905920) 18442240474082181119) CmpOp.g).toInt := by
  have hk : FP.Core.dkey 18442240474082181119 = -9218868437227405311 := by decide +kernel
  have hm := lawv_mag k
  have hlt := (FP.dmul (FP.i2d k) 4593671619917905920).toNat_lt
  have hc : -9218868437227405311 < FP.Core.dkey (FP.dmul (FP.i2d k) 4593671619917905920) := by
    unfold FP.Core.dkey; split <;> omega
  have h : FP.dcmp (FP.dmul (FP.i2d k) 4593671619917905920) 18442240474082181119 = some .gt := (FP.Core.dcmp_gt_key (lawv_fin k).ne_nan (by decide +kernel)).mpr (by rw [hk]; exact hc)
  rw [h]; decide
theorem inR_nan {q : UInt64} (h : isNaN64 q = true) : ¬ inR q := by
  intro h1
  have hn : FP.Core.val64 q = .nan := by
    refine (FP.Core.dIsNaN_iff q).mp ((FP.Core.isNaN_bits q).mpr ?_)
    rw [isNaN64_iff] at h
    have e : q.toNat &&& 0x7fffffffffffffff = q.toNat % 2 ^ 63 := Nat.and_two_pow_sub_one_eq_mod _ 63
    rw [e] at h
    omega
  have h2 := h1.1
  rw [show FP.dcmp q 18318360957983683996 = none from (FP.Core.dcmp_none _ _).mpr (Or.inl hn)] at h2
  revert h2; decide
/-- two answers of one draw are alike in range -/
theorem inR_alike {a b x : UInt64} (ha : alike64 a x = true) (hb : alike64 b x = true) (h : inR a) : inR b := by
  simp only [alike64, Bool.or_eq_true, decide_eq_true_eq, Bool.and_eq_true] at ha hb
  rcases ha with ha | ha
  · rcases hb with hb | hb
    · rw [hb, ← ha]; exact h
    · exact absurd h (inR_nan (by rw [ha]; exact hb.2))
  · exact absurd h (inR_nan ha.1)
theorem eq_set {r1 r2 : Int32} {v x1 x2 y1 y2 : UInt64} (h1 : (r1 = 1 ∧ inR v ∧ x1 = nzd v) ∨ (r1 = 0 ∧ ¬ inR v ∧ x1 = y1)) (h2 : (r2 = 1 ∧ inR v ∧ x2 = nzd v) ∨ (r2 = 0 ∧ ¬ inR v ∧ x2 = y2)) : r1 = r2 := by
  rcases h1 with h1 | h1 <;> rcases h2 with h2 | h2
  · rw [h1.1, h2.1]
  · exact absurd h1.2.1 h2.2.1
  · exact absurd h2.2.1 h1.2.1
  · rw [h1.1, h2.1]
theorem eq_reckon {r1 r2 wh : Int32} {v a x1 x2 y1 y2 : UInt64} (h1 : (rbad wh v ∧ r1 = 0 ∧ x1 = y1) ∨ (¬ rbad wh v ∧ ∃ q, alike64 q (rk wh a v) = true ∧ ((r1 = 1 ∧ inR q ∧ x1 = nzd q) ∨ (r1 = 0 ∧ ¬ inR q ∧ x1 = y1)))) (h2 : (rbad wh v ∧ r2 = 0 ∧ x2 = y2) ∨ (¬ rbad wh v ∧ ∃ q, alike64 q (rk wh a v) = true ∧ ((r2 = 1 ∧ inR q ∧ x2 = nzd q) ∨ (r2 = 0 ∧ ¬ inR q ∧ x2 = y2)))) : r1 = r2 := by
  rcases h1 with h1 | ⟨g1, q1, a1, h1⟩ <;> rcases h2 with h2 | ⟨g2, q2, a2, h2⟩
  · rw [h1.2.1, h2.2.1]
  · exact absurd h1.1 g2
  · exact absurd h2.1 g1
  · rcases h1 with h1 | h1 <;> rcases h2 with h2 | h2
    · rw [h1.1, h2.1]
    · exact absurd (inR_alike a1 a2 h1.2.1) h2.2.1
    · exact absurd (inR_alike a2 a1 h2.2.1) h1.2.1
    · rw [h1.1, h2.1]
theorem rm_c {n : Nat} (h : n ≤ 184) : n ≤ room_1.cells := h
theorem rm_s {n : Nat} (h : n ≤ 18424) : n ≤ room_1.slots := h
theorem sy_feed {r1 r2 f1 f2 t1 t2 : Int32} (hA : (r1 = 1 ∧ f1.toInt ≤ 240 ∧ f2.toInt = f1.toInt + 20) ∨ (r1 = 0 ∧ f1.toInt = 260 ∧ f2 = f1)) (hB : (r2 = 1 ∧ t1.toInt ≤ 240 ∧ t2.toInt = t1.toInt + 20) ∨ (r2 = 0 ∧ t1.toInt = 260 ∧ t2 = t1)) (h : f1.toInt = t1.toInt) (hm : f1.toInt % 20 = 0) : f2.toInt = t2.toInt ∧ f2.toInt % 20 = 0 ∧ r1 = r2 := by
  rcases hA with ⟨a1, a2, a3⟩ | ⟨a1, a2, a3⟩ <;> rcases hB with ⟨b1, b2, b3⟩ | ⟨b1, b2, b3⟩
  · exact ⟨by omega, by omega, by rw [a1, b1]⟩
  · exfalso; omega
  · exfalso; omega
  · exact ⟨by rw [a3, b3]; exact h, by rw [a3]; exact hm, by rw [a1, b1]⟩
theorem sy_end {r1 r2 p f1 f2 t1 t2 z1 z2 : Int32} (hA : (r1 = 1 ∧ 0 ≤ p.toInt ∧ p.toInt ≤ f1.toInt ∧ p.toInt ≤ 255 ∧ f2 = 0) ∨ (r1 = 0 ∧ (p.toInt < 0 ∨ f1.toInt < p.toInt ∨ 255 < p.toInt) ∧ f2 = f1)) (hB : (r2 = 1 ∧ 0 ≤ p.toInt ∧ p.toInt ≤ t1.toInt ∧ p.toInt ≤ 255 ∧ t2 = 0 ∧ z2 = p) ∨ (r2 = 0 ∧ (p.toInt < 0 ∨ t1.toInt < p.toInt ∨ 255 < p.toInt) ∧ t2 = t1 ∧ z2 = z1)) (h : f1.toInt = t1.toInt) (hm : f1.toInt % 20 = 0) : f2.toInt = t2.toInt ∧ f2.toInt % 20 = 0 ∧ r1 = r2 := by
  rcases hA with ⟨a1, a2, a3, a4, a5⟩ | ⟨a1, a2, a3⟩ <;> rcases hB with ⟨b1, b2, b3, b4, b5, b6⟩ | ⟨b1, b2, b3, b4⟩
  · exact ⟨by rw [a5, b5], by rw [a5]; decide, by rw [a1, b1]⟩
  · exfalso; omega
  · exfalso; omega
  · exact ⟨by rw [a3, b3]; exact h, by rw [a3]; exact hm, by rw [a1, b1]⟩
theorem sy_set {r1 r2 : Int32} {v x1 x2 y1 y2 : UInt64} (hA : (r1 = 1 ∧ inR v ∧ x1 = nzd v) ∨ (r1 = 0 ∧ ¬ inR v ∧ x1 = y1)) (hB : (r2 = 1 ∧ inR v ∧ x2 = nzd v) ∨ (r2 = 0 ∧ ¬ inR v ∧ x2 = y2)) (h : y1 = y2) : x1 = x2 ∧ r1 = r2 := by
  rcases hA with ⟨a1, a2, a3⟩ | ⟨a1, a2, a3⟩ <;> rcases hB with ⟨b1, b2, b3⟩ | ⟨b1, b2, b3⟩
  · exact ⟨by rw [a3, b3], by rw [a1, b1]⟩
  · exact absurd a2 b2
  · exact absurd b2 a2
  · exact ⟨by rw [a3, b3, h], by rw [a1, b1]⟩
theorem sy_aeq {a b x : UInt64} (ha : alike64 a x = true) (hb : alike64 b x = true) (h : inR a) : a = b := by
  simp only [alike64, Bool.or_eq_true, decide_eq_true_eq, Bool.and_eq_true] at ha hb
  rcases ha with ha | ha
  · rcases hb with hb | hb
    · rw [ha, hb]
    · exact absurd h (inR_nan (by rw [ha]; exact hb.2))
  · exact absurd h (inR_nan ha.1)
theorem sy_reckon {r1 r2 wh : Int32} {v y1 y2 x1 x2 : UInt64} (h1 : (rbad wh v ∧ r1 = 0 ∧ x1 = y1) ∨ (¬ rbad wh v ∧ ∃ q, alike64 q (rk wh y1 v) = true ∧ ((r1 = 1 ∧ inR q ∧ x1 = nzd q) ∨ (r1 = 0 ∧ ¬ inR q ∧ x1 = y1)))) (h2 : (rbad wh v ∧ r2 = 0 ∧ x2 = y2) ∨ (¬ rbad wh v ∧ ∃ q, alike64 q (rk wh y2 v) = true ∧ ((r2 = 1 ∧ inR q ∧ x2 = nzd q) ∨ (r2 = 0 ∧ ¬ inR q ∧ x2 = y2)))) (h : y1 = y2) : x1 = x2 ∧ r1 = r2 := by
  subst h
  rcases h1 with ⟨g1, a1, b1⟩ | ⟨g1, q1, a1, h1⟩ <;> rcases h2 with ⟨g2, a2, b2⟩ | ⟨g2, q2, a2, h2⟩
  · exact ⟨by rw [b1, b2], by rw [a1, a2]⟩
  · exact absurd g1 g2
  · exact absurd g2 g1
  · rcases h1 with ⟨c1, d1, e1⟩ | ⟨c1, d1, e1⟩ <;> rcases h2 with ⟨c2, d2, e2⟩ | ⟨c2, d2, e2⟩
    · exact ⟨by rw [e1, e2, sy_aeq a1 a2 d1], by rw [c1, c2]⟩
    · exact absurd (inR_alike a1 a2 d1) d2
    · exact absurd (inR_alike a2 a1 d2) d1
    · exact ⟨by rw [e1, e2], by rw [c1, c2]⟩
theorem QK_0 : QK (fun _ => 0) (fun _ => 0) := fun i h => absurd (show (0 : Int32).toInt = 14 from h) (by decide)
