/-! the reference's 'nearest': the double that it begins at is near enough, and its steps end -/
theorem exp64 : FP.Core.b64.tails = 2 ^ 52 := by decide +kernel
theorem repV {n : Nat} (h : n < 2 ^ 53) : ∃ V : FP.Core.Datum, FP.Core.fits FP.Core.b64 V ∧ V ≠ .nan ∧ FP.Core.zmag FP.Core.b64 V = n * 2 ^ 1074 := by
  obtain ⟨c', q', h3, h4⟩ := FP.Core.round_exact FP.Core.good_b64 false (c := n) (q := 0) (by rw [p64]; exact h) (by rw [qmin64]; decide) (by rw [qmax64]; decide)
  refine ⟨FP.Core.round FP.Core.b64 (.fin false n 0), FP.Core.round_fits FP.Core.good_b64 _, by rw [h3]; exact FP.Core.Datum.noConfusion, ?_⟩
  rw [h3]
  show FP.Core.inUnits c' q' FP.Core.b64.qmin = _
  rw [h4]
  unfold FP.Core.inUnits
  rw [qmin64]; rfl
theorem powV {a : Nat} (h1 : 52 ≤ a) (h2 : a ≤ 2097) : ∃ V : FP.Core.Datum, FP.Core.fits FP.Core.b64 V ∧ V ≠ .nan ∧ FP.Core.zmag FP.Core.b64 V = 2 ^ a := by
  refine ⟨.fin false (2 ^ 52) ((a : Int) - 52 - 1074), ⟨by rw [p64]; decide, by rw [qmin64]; omega, by rw [qmax64]; omega, Or.inr (by rw [exp64]; exact Nat.le_refl _)⟩, FP.Core.Datum.noConfusion, ?_⟩
  show 2 ^ 52 * 2 ^ ((a : Int) - 52 - 1074 - FP.Core.b64.qmin).toNat = 2 ^ a
  rw [qmin64, show ((a : Int) - 52 - 1074 - -1074).toNat = a - 52 by omega, ← Nat.pow_add]
  congr 1
  omega
theorem l2d_zn {a : Int64} (h0 : 0 ≤ a.toInt) (h1 : a.toInt < 9007199254740992) : PF (FP.l2d a) ∧ zn (FP.l2d a) = a.toInt.toNat * 2 ^ 1074 := by
  have hv : FP.Core.val64 (FP.l2d a) = FP.Core.round FP.Core.b64 (FP.Core.ofInt a.toInt) := FP.Core.val64_l2d a
  have ho : FP.Core.ofInt a.toInt = .fin false a.toInt.toNat 0 := by
    unfold FP.Core.ofInt
    rw [decide_eq_false (by omega), show a.toInt.natAbs = a.toInt.toNat by omega]
  rw [ho] at hv
  have h53 : (2 : Nat) ^ 53 = 9007199254740992 := by decide
  obtain ⟨c', q', h3, h4⟩ := FP.Core.round_exact FP.Core.good_b64 false (c := a.toInt.toNat) (q := 0) (by rw [p64, h53]; omega) (by rw [qmin64]; decide) (by rw [qmax64]; decide)
  rw [h3] at hv
  refine ⟨⟨c', q', hv⟩, ?_⟩
  unfold zn
  rw [hv]
  show FP.Core.inUnits c' q' FP.Core.b64.qmin = _
  rw [h4]
  unfold FP.Core.inUnits
  rw [qmin64]; rfl
theorem top64 : FP.Core.b64.tails * 2 ^ (FP.Core.b64.exps - 2) = 2 ^ 2098 := by decide +kernel
theorem PF_of {y : UInt64} {A B : Nat} {e : Int} {Z : Nat} (hv : FP.Core.val64 y = FP.Core.roundRatio FP.Core.b64 false A B e) (hz : zn y ≤ Z) (hZ : Z < 2 ^ 2098) : PF y := by
  rcases FP.Core.roundRatio_cases FP.Core.b64 false A B e with ⟨c, q, h⟩ | h
  · exact ⟨c, q, by rw [hv, h]⟩
  · exfalso
    have : zn y = 2 ^ 2098 := by
      unfold zn
      rw [hv, h]
      exact top64
    rw [this] at hz
    exact absurd (Nat.lt_of_le_of_lt hz hZ) (Nat.lt_irrefl _)
/-- a quotient's form and its bounds -/
theorem div_form {x y : UInt64} (hx : PF x) (hy : PF y) (h0 : 0 < zn y) : ∃ A B : Nat, ∃ e : Int, FP.Core.val64 (FP.ddiv x y) = FP.Core.roundRatio FP.Core.b64 false A B e ∧ (∀ V : FP.Core.Datum, FP.Core.fits FP.Core.b64 V → V ≠ .nan → zn x * 2 ^ 1074 ≤ FP.Core.zmag FP.Core.b64 V * zn y → zn (FP.ddiv x y) ≤ FP.Core.zmag FP.Core.b64 V) ∧ (∀ V : FP.Core.Datum, FP.Core.fits FP.Core.b64 V → V ≠ .nan → FP.Core.zmag FP.Core.b64 V * zn y ≤ zn x * 2 ^ 1074 → FP.Core.zmag FP.Core.b64 V ≤ zn (FP.ddiv x y)) := by
  obtain ⟨c, t, f1, f2, f3, f4, f5⟩ := hx.form
  obtain ⟨d, u, g1, g2, g3, g4, g5⟩ := hy.form
  have hd : d ≠ 0 := by
    intro h9
    rw [g5, h9, Nat.zero_mul] at h0
    exact absurd h0 (Nat.lt_irrefl _)
  have hv : FP.Core.val64 (FP.ddiv x y) = FP.Core.roundRatio FP.Core.b64 false c d ((t : Int) - 1074 - ((u : Int) - 1074)) := by
    have h := FP.Core.val64_ddiv x y
    rw [f1, g1] at h
    refine Eq.trans h ?_
    show (if d = 0 then _ else _) = _
    rw [if_neg hd]; rfl
  have key : ∀ Z : Nat, (c * 2 ^ t * 2 ^ 1074 ≤ Z * (d * 2 ^ u) ↔ FP.Core.inUnits c ((t : Int) - 1074 - ((u : Int) - 1074)) (-4000) ≤ Z * 2 ^ (FP.Core.b64.qmin - -4000).toNat * d) ∧ (Z * (d * 2 ^ u) ≤ c * 2 ^ t * 2 ^ 1074 ↔ Z * 2 ^ (FP.Core.b64.qmin - -4000).toNat * d ≤ FP.Core.inUnits c ((t : Int) - 1074 - ((u : Int) - 1074)) (-4000)) := by
    intro Z
    unfold FP.Core.inUnits
    rw [qmin64, show ((t : Int) - 1074 - ((u : Int) - 1074) - -4000).toNat = t + 4000 - u by omega, show ((-1074 : Int) - -4000).toNat = 2926 by decide]
    have e1 : c * 2 ^ (t + 4000 - u) * 2 ^ u = c * 2 ^ t * 2 ^ 1074 * 2 ^ 2926 := by
      rw [Nat.mul_assoc, ← Nat.pow_add, Nat.mul_assoc (c * 2 ^ t), ← Nat.pow_add, Nat.mul_assoc c, ← Nat.pow_add]
      congr 2
      omega
    have e2 : Z * 2 ^ 2926 * d * 2 ^ u = Z * (d * 2 ^ u) * 2 ^ 2926 := by
      generalize (2 : Nat) ^ 2926 = P
      generalize (2 : Nat) ^ u = Q
      rw [Nat.mul_assoc (Z * P) d Q, Nat.mul_right_comm Z P (d * Q)]
    have p1 := Nat.two_pow_pos u
    have p2 := Nat.two_pow_pos 2926
    refine ⟨⟨fun h => ?_, fun h => ?_⟩, ⟨fun h => ?_, fun h => ?_⟩⟩
    · refine Nat.le_of_mul_le_mul_right ?_ p1
      rw [e1, e2]; exact Nat.mul_le_mul_right _ h
    · refine Nat.le_of_mul_le_mul_right ?_ p2
      rw [← e1, ← e2]; exact Nat.mul_le_mul_right _ h
    · refine Nat.le_of_mul_le_mul_right ?_ p1
      rw [e1, e2]; exact Nat.mul_le_mul_right _ h
    · refine Nat.le_of_mul_le_mul_right ?_ p2
      rw [← e1, ← e2]; exact Nat.mul_le_mul_right _ h
  refine ⟨c, d, _, hv, fun V hV hn h => ?_, fun V hV hn h => ?_⟩
  · rw [f5, g5] at h
    unfold zn
    rw [hv]
    exact FP.Core.zmag_roundRatio_le FP.Core.good_b64 (e0 := -4000) (by omega) hV hn (by rw [qmin64]; decide) (by omega) ((key _).1.mp h)
  · rw [f5, g5] at h
    unfold zn
    rw [hv]
    exact FP.Core.zmag_roundRatio_ge FP.Core.good_b64 (e0 := -4000) (by omega) hV (by rw [qmin64]; decide) (by omega) ((key _).2.mp h)
theorem add_form {x y : UInt64} (hx : PF x) (hy : PF y) : ∃ A B : Nat, ∃ e : Int, FP.Core.val64 (FP.dadd x y) = FP.Core.roundRatio FP.Core.b64 false A B e ∧ (∀ V : FP.Core.Datum, FP.Core.fits FP.Core.b64 V → V ≠ .nan → zn x + zn y ≤ FP.Core.zmag FP.Core.b64 V → zn (FP.dadd x y) ≤ FP.Core.zmag FP.Core.b64 V) ∧ (∀ V : FP.Core.Datum, FP.Core.fits FP.Core.b64 V → V ≠ .nan → FP.Core.zmag FP.Core.b64 V ≤ zn x + zn y → FP.Core.zmag FP.Core.b64 V ≤ zn (FP.dadd x y)) := by
  obtain ⟨c, t, f1, f2, f3, f4, f5⟩ := hx.form
  obtain ⟨d, u, g1, g2, g3, g4, g5⟩ := hy.form
  obtain ⟨m, hm⟩ : ∃ m : Nat, m = min t u := ⟨_, rfl⟩
  have hv : FP.Core.val64 (FP.dadd x y) = FP.Core.roundRatio FP.Core.b64 false (c * 2 ^ (t - m) + d * 2 ^ (u - m)) 1 ((m : Int) - 1074) := by
    have h := FP.Core.val64_dadd x y
    rw [f1, g1] at h
    refine Eq.trans h ?_
    have hmin : min ((t : Int) - 1074) ((u : Int) - 1074) = (m : Int) - 1074 := by omega
    show FP.Core.round FP.Core.b64 (.fin (FP.Core.sumSign false false (FP.Core.sumUnits false c ((t : Int) - 1074) false d ((u : Int) - 1074) (min ((t : Int) - 1074) ((u : Int) - 1074)))) (FP.Core.sumUnits false c ((t : Int) - 1074) false d ((u : Int) - 1074) (min ((t : Int) - 1074) ((u : Int) - 1074))).natAbs (min ((t : Int) - 1074) ((u : Int) - 1074))) = _
    rw [hmin]
    have hs : FP.Core.sumUnits false c ((t : Int) - 1074) false d ((u : Int) - 1074) ((m : Int) - 1074) = ((c * 2 ^ (t - m) + d * 2 ^ (u - m) : Nat) : Int) := by
      show ((FP.Core.inUnits c ((t : Int) - 1074) ((m : Int) - 1074) : Nat) : Int) + ((FP.Core.inUnits d ((u : Int) - 1074) ((m : Int) - 1074) : Nat) : Int) = _
      unfold FP.Core.inUnits
      rw [show ((t : Int) - 1074 - ((m : Int) - 1074)).toNat = t - m by omega, show ((u : Int) - 1074 - ((m : Int) - 1074)).toNat = u - m by omega, Int.natCast_add]
    rw [hs]
    generalize c * 2 ^ (t - m) + d * 2 ^ (u - m) = S
    have h1 : FP.Core.sumSign false false (S : Int) = false := by
      unfold FP.Core.sumSign
      split
      · rfl
      · exact decide_eq_false (by omega)
    rw [h1, Int.natAbs_natCast]
    rfl
  have hu : FP.Core.inUnits (c * 2 ^ (t - m) + d * 2 ^ (u - m)) ((m : Int) - 1074) (-1074) = zn x + zn y := by
    unfold FP.Core.inUnits
    rw [f5, g5, show ((m : Int) - 1074 - -1074).toNat = m by omega, Nat.add_mul, Nat.mul_assoc, ← Nat.pow_add, Nat.mul_assoc, ← Nat.pow_add, show t - m + m = t by omega, show u - m + m = u by omega]
  refine ⟨_, 1, _, hv, fun V hV hn h => ?_, fun V hV hn h => ?_⟩
  · unfold zn
    rw [hv]
    refine FP.Core.zmag_roundRatio_le FP.Core.good_b64 (e0 := -1074) (by decide) hV hn (by rw [qmin64]; decide) (by omega) ?_
    rw [hu, qmin64, show ((-1074 : Int) - -1074).toNat = 0 by decide, Nat.pow_zero, Nat.mul_one, Nat.mul_one]
    exact h
  · unfold zn
    rw [hv]
    refine FP.Core.zmag_roundRatio_ge FP.Core.good_b64 (e0 := -1074) (by decide) hV (by rw [qmin64]; decide) (by omega) ?_
    rw [hu, qmin64, show ((-1074 : Int) - -1074).toNat = 0 by decide, Nat.pow_zero, Nat.mul_one, Nat.mul_one]
    exact h
theorem ratio_i (b t : Nat) (hb : 1 ≤ b) (hbt : b ≤ t) : ∀ n : Nat, t ≤ b * 2 ^ n → ∃ i, i ≤ n ∧ t ≤ b * 2 ^ i ∧ b * 2 ^ i < 2 * t
  | 0, h => ⟨0, Nat.le_refl _, h, by rw [Nat.pow_zero, Nat.mul_one] at h ⊢; omega⟩
  | n + 1, h => by
    by_cases h1 : t ≤ b * 2 ^ n
    · obtain ⟨i, g1, g2, g3⟩ := ratio_i b t hb hbt n h1
      exact ⟨i, by omega, g2, g3⟩
    · refine ⟨n + 1, Nat.le_refl _, h, ?_⟩
      rw [Nat.pow_succ, ← Nat.mul_assoc]
      omega
/-- where 'nearest' begins: within twice and half of what is asked for -/
def NX (b h t : Int64) (x : UInt64) : Prop := PF x ∧ x = FP.dadd (FP.l2d b) (FP.ddiv (FP.l2d h) (FP.l2d t)) ∧ zn x * t.toInt.toNat ≤ 2 * ((b.toInt.toNat * t.toInt.toNat + h.toInt.toNat) * 2 ^ 1074) ∧ (b.toInt.toNat * t.toInt.toNat + h.toInt.toNat) * 2 ^ 1074 ≤ 2 * (zn x * t.toInt.toNat) ∧ 2 ^ 1044 ≤ zn x ∧ zn x < 2 ^ 1104
theorem pow_split {a i : Nat} (h : i ≤ a) : (2 : Nat) ^ (a - i) * 2 ^ i = 2 ^ a := by
  rw [← Nat.pow_add]; congr 1; omega
theorem NX_of {b h t : Int64} {f x : UInt64} (hb : 0 ≤ b.toInt) (hb9 : b.toInt ≤ 999999999) (ht : 1 ≤ t.toInt) (ht9 : t.toInt ≤ 1000000000) (hh : 0 ≤ h.toInt) (hht : h.toInt < t.toInt) (hn : 1 ≤ b.toInt.toNat * t.toInt.toNat + h.toInt.toNat) (hf : alike64 f (FP.ddiv (FP.l2d h) (FP.l2d t)) = true) (hx : alike64 x (FP.dadd (FP.l2d b) f) = true) : NX b h t x := by
  obtain ⟨b1, b2⟩ := l2d_zn (a := b) hb (by omega)
  obtain ⟨h1, h2⟩ := l2d_zn (a := h) hh (by omega)
  obtain ⟨t1, t2⟩ := l2d_zn (a := t) (by omega) (by omega)
  obtain ⟨T, hT⟩ : ∃ T, T = t.toInt.toNat := ⟨_, rfl⟩
  obtain ⟨H, hH⟩ : ∃ H, H = h.toInt.toNat := ⟨_, rfl⟩
  obtain ⟨B, hB⟩ : ∃ B, B = b.toInt.toNat := ⟨_, rfl⟩
  rw [← hB] at b2 hn
  rw [← hH] at h2 hn
  rw [← hT] at t2 hn
  have p1074 := Nat.two_pow_pos 1074
  have tp : 0 < zn (FP.l2d t) := by rw [t2]; exact Nat.mul_pos (by omega) p1074
  obtain ⟨A, C, e, d1, d2, d3⟩ := div_form h1 t1 tp
  have fle : zn (FP.ddiv (FP.l2d h) (FP.l2d t)) ≤ 2 ^ 1074 := by
    obtain ⟨V, v1, v2, v3⟩ := powV (a := 1074) (by decide) (by decide)
    rw [← v3]
    refine d2 V v1 v2 ?_
    rw [v3, h2, t2, ← Nat.mul_assoc, Nat.mul_comm (2 ^ 1074) T]
    exact Nat.mul_le_mul_right _ (Nat.mul_le_mul_right _ (by omega))
  have pf : PF (FP.ddiv (FP.l2d h) (FP.l2d t)) := PF_of d1 fle (Nat.pow_lt_pow_right (by decide) (by decide))
  have ef := alike_eq hf pf.ne
  subst ef
  obtain ⟨A', C', e', a1, a2, a3⟩ := add_form b1 pf
  have hup : zn (FP.dadd (FP.l2d b) (FP.ddiv (FP.l2d h) (FP.l2d t))) ≤ (B + 1) * 2 ^ 1074 := by
    obtain ⟨V, v1, v2, v3⟩ := repV (n := B + 1) (by have h53 : (2 : Nat) ^ 53 = 9007199254740992 := (by decide); omega)
    rw [← v3]
    refine a2 V v1 v2 ?_
    rw [v3, b2, Nat.add_mul, Nat.one_mul]
    exact Nat.add_le_add_left fle _
  have hlt : (B + 1) * 2 ^ 1074 < 2 ^ 1104 := by
    rw [show 1104 = 30 + 1074 by rfl, Nat.pow_add]
    refine Nat.mul_lt_mul_of_pos_right ?_ p1074
    have : (2 : Nat) ^ 30 = 1073741824 := by decide
    omega
  have px : PF (FP.dadd (FP.l2d b) (FP.ddiv (FP.l2d h) (FP.l2d t))) := PF_of a1 hup (Nat.lt_trans hlt (Nat.pow_lt_pow_right (by decide) (by decide)))
  have exx := alike_eq hx px.ne
  subst exx
  have bounds : zn (FP.dadd (FP.l2d b) (FP.ddiv (FP.l2d h) (FP.l2d t))) * T ≤ 2 * ((B * T + H) * 2 ^ 1074) ∧ (B * T + H) * 2 ^ 1074 ≤ 2 * (zn (FP.dadd (FP.l2d b) (FP.ddiv (FP.l2d h) (FP.l2d t))) * T) ∧ 2 ^ 1044 ≤ zn (FP.dadd (FP.l2d b) (FP.ddiv (FP.l2d h) (FP.l2d t))) := by
    rcases Nat.eq_zero_or_pos B with hB0 | hB0
    · -- nothing before the point: the sum is the quotient
      have hH1 : 1 ≤ H := by rw [hB0] at hn; omega
      have z0 : zn (FP.l2d b) = 0 := by rw [b2, hB0, Nat.zero_mul]
      have hs : zn (FP.dadd (FP.l2d b) (FP.ddiv (FP.l2d h) (FP.l2d t))) = zn (FP.ddiv (FP.l2d h) (FP.l2d t)) := by
        refine Nat.le_antisymm ?_ ?_
        · exact a2 _ (FP.Core.val64_fits _) pf.ne (by rw [z0, Nat.zero_add]; exact Nat.le_refl _)
        · exact a3 _ (FP.Core.val64_fits _) pf.ne (by rw [z0, Nat.zero_add]; exact Nat.le_refl _)
      rw [hs]
      have h30 : (2 : Nat) ^ 30 = 1073741824 := by decide
      obtain ⟨i, i1, i2, i3⟩ := ratio_i H T hH1 (by omega) 30 (by rw [h30]; omega)
      have up : zn (FP.ddiv (FP.l2d h) (FP.l2d t)) ≤ 2 ^ (1075 - i) := by
        obtain ⟨V, v1, v2, v3⟩ := powV (a := 1075 - i) (by omega) (by omega)
        rw [← v3]
        refine d2 V v1 v2 ?_
        rw [v3, h2, t2, ← Nat.mul_assoc]
        refine Nat.mul_le_mul_right _ ?_
        refine Nat.le_of_mul_le_mul_right ?_ (Nat.two_pow_pos i)
        have e75 : (2 : Nat) ^ 1075 = 2 * 2 ^ 1074 := by rw [Nat.pow_succ, Nat.mul_comm]
        rw [Nat.mul_right_comm (2 ^ (1075 - i)), pow_split (by omega), e75, Nat.mul_right_comm 2, Nat.mul_right_comm H]
        exact Nat.mul_le_mul_right _ (Nat.le_of_lt i3)
      have dn : 2 ^ (1074 - i) ≤ zn (FP.ddiv (FP.l2d h) (FP.l2d t)) := by
        obtain ⟨V, v1, v2, v3⟩ := powV (a := 1074 - i) (by omega) (by omega)
        rw [← v3]
        refine d3 V v1 v2 ?_
        rw [v3, h2, t2, ← Nat.mul_assoc]
        refine Nat.mul_le_mul_right _ ?_
        refine Nat.le_of_mul_le_mul_right ?_ (Nat.two_pow_pos i)
        rw [Nat.mul_right_comm, pow_split (by omega), Nat.mul_right_comm H, Nat.mul_comm (2 ^ 1074) T]
        exact Nat.mul_le_mul_right _ i2
      rw [hB0, Nat.zero_mul, Nat.zero_add]
      refine ⟨?_, ?_, ?_⟩
      · refine Nat.le_trans (Nat.mul_le_mul_right T up) ?_
        refine Nat.le_of_mul_le_mul_right ?_ (Nat.two_pow_pos i)
        have e75 : (2 : Nat) ^ 1075 = 2 * 2 ^ 1074 := by rw [Nat.pow_succ, Nat.mul_comm]
        rw [Nat.mul_right_comm, pow_split (by omega), e75, Nat.mul_assoc 2 (H * 2 ^ 1074), Nat.mul_right_comm H, Nat.mul_assoc 2 (2 ^ 1074) T, Nat.mul_comm (2 ^ 1074) T]
        exact Nat.mul_le_mul_left 2 (Nat.mul_le_mul_right _ i2)
      · refine Nat.le_trans ?_ (Nat.mul_le_mul_left 2 (Nat.mul_le_mul_right T dn))
        refine Nat.le_of_mul_le_mul_right ?_ (Nat.two_pow_pos i)
        rw [Nat.mul_assoc 2, Nat.mul_right_comm (2 ^ (1074 - i)), pow_split (by omega), Nat.mul_right_comm H, Nat.mul_comm (2 ^ 1074) T, ← Nat.mul_assoc]
        exact Nat.mul_le_mul_right _ (Nat.le_of_lt i3)
      · exact Nat.le_trans (Nat.pow_le_pow_right (by decide) (by omega)) dn
    · have dn : B * 2 ^ 1074 ≤ zn (FP.dadd (FP.l2d b) (FP.ddiv (FP.l2d h) (FP.l2d t))) := by
        obtain ⟨V, v1, v2, v3⟩ := repV (n := B) (by have h53 : (2 : Nat) ^ 53 = 9007199254740992 := (by decide); omega)
        rw [← v3]
        refine a3 V v1 v2 ?_
        rw [v3, b2]
        exact Nat.le_add_right _ _
      generalize zn (FP.dadd (FP.l2d b) (FP.ddiv (FP.l2d h) (FP.l2d t))) = Z at hup dn
      have hHT : H < T := by omega
      have hBT : T ≤ B * T := Nat.le_mul_of_pos_left _ hB0
      refine ⟨?_, ?_, ?_⟩
      · refine Nat.le_trans (Nat.mul_le_mul_right T hup) ?_
        rw [Nat.mul_right_comm, ← Nat.mul_assoc]
        refine Nat.mul_le_mul_right _ ?_
        rw [Nat.add_mul]
        omega
      · refine Nat.le_trans ?_ (Nat.mul_le_mul_left 2 (Nat.mul_le_mul_right T dn))
        rw [Nat.mul_right_comm B, ← Nat.mul_assoc]
        refine Nat.mul_le_mul_right _ ?_
        omega
      · refine Nat.le_trans ?_ dn
        have h3 : 1 * 2 ^ 1074 ≤ B * 2 ^ 1074 := Nat.mul_le_mul_right _ hB0
        rw [Nat.one_mul] at h3
        exact Nat.le_trans (Nat.pow_le_pow_right (by decide) (by decide)) h3
  refine ⟨px, rfl, ?_, ?_, bounds.2.2, Nat.lt_of_le_of_lt hup hlt⟩
  · rw [← hT, ← hB, ← hH]; exact bounds.1
  · rw [← hT, ← hB, ← hH]; exact bounds.2.1
/-- what is asked for, in digits: before and behind the point -/
def ED1 (N : Int64) (r : Nat → Int32) : Prop := dg r ∧ (∀ j, j < 1420 → 319 < j → (r j).toInt = 0) ∧ wv r 0 320 = N.toInt.toNat
theorem ED1_of {N n : Int64} {r : Nat → Int32} {k : Int32} (h : EDg N n r k) (hn : n.toInt ≤ 0) (hN : 0 ≤ N.toInt) : ED1 N r := by
  obtain ⟨K, g1, g2, g3, g4, g5, g6, g7, g8⟩ := h.2 hN
  have z : n.toInt.toNat = 0 := by omega
  rw [z, Nat.zero_mul, Nat.add_zero] at g8
  have s2 := wv_split r 0 (K + 1) (319 - K)
  rw [show K + 1 + (319 - K) = 320 by omega, Nat.zero_add, g8] at s2
  have z1 : wv r 0 (K + 1) = 0 := wv_zero (fun j _ h4 => g5 j (by omega) (by omega))
  rw [z1, Nat.zero_mul, Nat.zero_add] at s2
  exact ⟨g4, fun j h1 h2 => g5 j h1 (Or.inr h2), s2⟩
def EB (b h n : Int64) (q : Int32) (r : Nat → Int32) (k : Int32) : Prop := 0 ≤ q.toInt ∧ q.toInt ≤ 9 ∧ ∃ K : Nat, k.toInt = (K : Int) ∧ 319 ≤ K ∧ K ≤ 319 + q.toInt.toNat ∧ dg r ∧ wv r 0 320 = b.toInt.toNat ∧ (∀ j, j < 1420 → 319 < j → (j ≤ K ∨ 319 + q.toInt.toNat < j) → (r j).toInt = 0) ∧ 0 ≤ n.toInt ∧ n.toInt.toNat < 10 ^ (K - 319) ∧ wv r (K + 1) (319 + q.toInt.toNat - K) + n.toInt.toNat * 10 ^ (319 + q.toInt.toNat - K) = h.toInt.toNat
theorem EB_0 {b h : Int64} {q k : Int32} {r : Nat → Int32} (h1 : ED1 b r) (h2 : DN q h) (h3 : q.toInt ≤ 9) (ek : k.toInt = 319 + q.toInt) : EB b h h q r k := by
  obtain ⟨d1, d2, d3, d4⟩ := h2
  refine ⟨d1, h3, 319 + q.toInt.toNat, by omega, by omega, by omega, h1.1, h1.2.2, fun j h4 h5 _ => h1.2.1 j h4 h5, d3, ?_, ?_⟩
  · rw [Nat.add_sub_cancel_left]; exact d4
  · rw [Nat.sub_self]
    show 0 + h.toInt.toNat * 1 = _
    omega
theorem EB_lin {b h n : Int64} {q k : Int32} {r : Nat → Int32} (he : EB b h n q r k) : 319 ≤ k.toInt ∧ k.toInt ≤ 328 ∧ 0 ≤ n.toInt := by
  obtain ⟨d1, d2, K, g1, g2, g3, g4, g5, g6, g7, g8, g9⟩ := he
  omega
theorem EB_step {b h n n' y : Int64} {q k k' d : Int32} {r r' : Nat → Int32} (he : EB b h n q r k) (hk : ¬ k.toInt ≤ 319) (ey : y = n - n / 10 * 10) (ed : d = y.toInt32) (er : r' = upd r k.toNatClampNeg d) (en : n' = n / 10) (ek : k' = k + (-1)) : EB b h n' q r' k' := by
  obtain ⟨d1, d2, K, g1, g2, g3, g4, g5, g6, g7, g8, g9⟩ := he
  have n1 : (-1 : Int32).toInt = -1 := by decide
  have n10 : (10 : Int64).toInt = 10 := by decide
  have tk := ti_add ek
  have tn := tl_divE en (by decide) (by omega)
  have ty := tl_remE ey (by decide) (by omega)
  rw [n10] at tn ty
  have td := ti_l2iE ed (by omega) (by omega)
  obtain ⟨M, rfl⟩ : ∃ M, K = M + 1 := ⟨K - 1, by omega⟩
  rw [cl_of g1] at er
  refine ⟨d1, d2, M, by omega, by omega, by omega, ?_, ?_, ?_, by omega, ?_, ?_⟩
  · intro j hj
    rw [er]; unfold upd
    split
    · omega
    · exact g4 j hj
  · rw [← g5]
    exact wv_congr (fun j h3 h4 => by rw [er]; unfold upd; rw [if_neg (by omega)])
  · intro j hj h2 h3
    rw [er]; unfold upd
    rw [if_neg (by omega)]
    exact g6 j hj h2 (by omega)
  · rw [show M + 1 - 319 = (M - 319) + 1 by omega, Nat.pow_succ] at g8
    generalize 10 ^ (M - 319) = P at g8 ⊢
    omega
  · have e1 : wv r' (M + 1 + 1) (319 + q.toInt.toNat - (M + 1)) = wv r (M + 1 + 1) (319 + q.toInt.toNat - (M + 1)) := wv_congr (fun j h3 h4 => by rw [er]; unfold upd; rw [if_neg (by omega)])
    have e2 : r' (M + 1) = d := by rw [er]; unfold upd; rw [if_pos rfl]
    rw [show 319 + q.toInt.toNat - M = (319 + q.toInt.toNat - (M + 1)) + 1 by omega, wv_front, e1, e2, Nat.pow_succ]
    generalize 10 ^ (319 + q.toInt.toNat - (M + 1)) = P at g9 ⊢
    generalize wv r (M + 1 + 1) (319 + q.toInt.toNat - (M + 1)) = V at g9 ⊢
    have e3 : d.toInt.toNat + n'.toInt.toNat * 10 = n.toInt.toNat := by omega
    rw [← g9, ← e3, Nat.add_mul]
    have e4 : n'.toInt.toNat * (P * 10) = n'.toInt.toNat * 10 * P := by rw [Nat.mul_comm P 10, Nat.mul_assoc]
    rw [e4]
    omega
def MV (b h : Int64) (q : Int32) (r : Nat → Int32) : Prop := dg r ∧ 0 ≤ q.toInt ∧ q.toInt ≤ 9 ∧ vl r * 10 ^ q.toInt.toNat = (b.toInt.toNat * 10 ^ q.toInt.toNat + h.toInt.toNat) * 10 ^ 1100
theorem MV_of {b h n : Int64} {q k : Int32} {r : Nat → Int32} (he : EB b h n q r k) (hk : k.toInt ≤ 319) : MV b h q r := by
  obtain ⟨d1, d2, K, g1, g2, g3, g4, g5, g6, g7, g8, g9⟩ := he
  obtain rfl : K = 319 := by omega
  have z : n.toInt.toNat = 0 := by rw [Nat.sub_self] at g8; omega
  rw [z, Nat.zero_mul, Nat.add_zero, show 319 + q.toInt.toNat - 319 = q.toInt.toNat by omega] at g9
  obtain ⟨Q, hQ⟩ : ∃ Q, Q = q.toInt.toNat := ⟨_, rfl⟩
  rw [← hQ] at g6 g9
  refine ⟨g4, d1, d2, ?_⟩
  rw [← hQ]
  have s1 := wv_split r 0 (320 + Q) (1100 - Q)
  have s2 := wv_split r 0 320 Q
  rw [Nat.zero_add, g5, g9] at s2
  have z2 : wv r (0 + (320 + Q)) (1100 - Q) = 0 := wv_zero (fun j h3 h4 => g6 j (by omega) (by omega) (by omega))
  rw [z2, s2] at s1
  have e : (1420 : Nat) = 320 + Q + (1100 - Q) := by omega
  unfold vl
  rw [e, s1, Nat.add_zero, Nat.mul_assoc, ← Nat.pow_add]
  congr 2
  omega
theorem MV_pos {b h : Int64} {q x : Int32} {r : Nat → Int32} (hm : MV b h q r) (hf : Fst r x) (hx : ¬ x.toInt = 1420) : 1 ≤ b.toInt.toNat * 10 ^ q.toInt.toNat + h.toInt.toNat := by
  obtain ⟨m1, m2, m3, m4⟩ := hm
  have h1 := wv_pos (f := r) (a := 0) (m := 1420) (j := x.toInt.toNat) (fun j _ h5 => (m1 j (by omega)).1) (Nat.zero_le _) (by have := hf.2.1; have := hf.1; omega) (hf.2.2.2 (by have := hf.2.1; omega))
  have h2 : 1 ≤ vl r := Nat.le_trans (Nat.pow_pos (by decide)) h1
  rcases Nat.eq_zero_or_pos (b.toInt.toNat * 10 ^ q.toInt.toNat + h.toInt.toNat) with h3 | h3
  · exfalso
    rw [h3, Nat.zero_mul] at m4
    have := Nat.mul_pos h2 (Nat.pow_pos (n := q.toInt.toNat) (show 0 < 10 by decide))
    omega
  · exact h3
def TE (t : Int64) (k : Int32) : Prop := 0 ≤ k.toInt ∧ k.toInt ≤ 9 ∧ t.toInt = ((10 ^ k.toInt.toNat : Nat) : Int)
theorem TE_0 : TE 1 0 := ⟨by decide, by decide, by decide⟩
theorem TE_lin {t : Int64} {k : Int32} (h : TE t k) : 0 ≤ k.toInt ∧ k.toInt ≤ 9 ∧ 1 ≤ t.toInt ∧ t.toInt ≤ 1000000000 := by
  obtain ⟨h1, h2, h3⟩ := h
  have h4 : (10 : Nat) ^ k.toInt.toNat ≤ 10 ^ 9 := Nat.pow_le_pow_right (by decide) (by omega)
  have h5 : 0 < (10 : Nat) ^ k.toInt.toNat := Nat.pow_pos (by decide)
  have e9 : (10 : Nat) ^ 9 = 1000000000 := by decide
  rw [e9] at h4
  generalize (10 : Nat) ^ k.toInt.toNat = P at h3 h4 h5
  omega
theorem TE_step {t t' : Int64} {k k' : Int32} (h : TE t k) (hk : k.toInt < 9) (et : t' = 10 * t) (ek : k' = k + 1) : TE t' k' := by
  have hl := TE_lin h
  obtain ⟨h1, h2, h3⟩ := h
  have n1 : (1 : Int32).toInt = 1 := by decide
  have n10 : (10 : Int64).toInt = 10 := by decide
  have tk := ti_add ek
  have tt := tl_mul et
  rw [n10] at tt
  refine ⟨by omega, by omega, ?_⟩
  rw [show k'.toInt.toNat = k.toInt.toNat + 1 by omega, Nat.pow_succ]
  generalize (10 : Nat) ^ k.toInt.toNat = P at h3 ⊢
  omega
/-- a quarter of the last place, in the row's units -/
def NU (e : Int32) : Nat := 10 ^ 1100 / 2 ^ (2 - e.toInt).toNat
theorem NU_spec {e : Int32} (h1 : -1000 ≤ e.toInt) : NU e * 2 ^ (2 - e.toInt).toNat = 10 ^ 1100 := by
  refine Nat.div_mul_cancel ?_
  rw [show (10 : Nat) = 2 * 5 by rfl, Nat.mul_pow]
  exact Nat.dvd_trans (Nat.pow_dvd_pow 2 (by omega)) (Nat.dvd_mul_right _ _)
theorem NU_pos {e : Int32} (h1 : -1000 ≤ e.toInt) : 1 ≤ NU e := by
  have h := NU_spec h1
  rcases Nat.eq_zero_or_pos (NU e) with h2 | h2
  · rw [h2, Nat.zero_mul] at h
    exact absurd h.symm (Nat.pos_iff_ne_zero.mp (Nat.pow_pos (by decide)))
  · exact h2
def NRI (f : Nat → Int32) (m : Int64) (e : Int32) : Prop := dg f ∧ -90 ≤ e.toInt ∧ e.toInt ≤ -20 ∧ 1 ≤ m.toInt ∧ m.toInt ≤ 36028797018963968 ∧ 9007199254740992 * NU e ≤ vl f ∧ vl f ≤ 72057594037927936 * NU e ∧ ¬ (18014398509481982 * NU e ≤ vl f ∧ vl f < 18014398509481983 * NU e)
theorem NRI_lin {f : Nat → Int32} {m : Int64} {e : Int32} (h : NRI f m e) : -90 ≤ e.toInt ∧ e.toInt ≤ -20 ∧ 1 ≤ m.toInt ∧ m.toInt ≤ 36028797018963968 := ⟨h.2.1, h.2.2.1, h.2.2.2.1, h.2.2.2.2.1⟩
def NDw (f : Nat → Int32) (m : Int64) (e : Int32) : Prop := vl f < (2 * m.toInt.toNat - 1) * (2 * NU e) ∨ (vl f = (2 * m.toInt.toNat - 1) * (2 * NU e) ∧ m.toInt.toNat % 2 = 1)
def NRm (f : Nat → Int32) (m : Int64) (e : Int32) : Nat := if vl f < (2 * m.toInt.toNat - 1) * (2 * NU e) ∨ (vl f = (2 * m.toInt.toNat - 1) * (2 * NU e) ∧ m.toInt.toNat % 2 = 1) then 144115188075855872 + m.toInt.toNat else 72057594037927936 - m.toInt.toNat
def NUp (f : Nat → Int32) (m : Int64) (e : Int32) : Prop := (2 * m.toInt.toNat + 1) * (2 * NU e) < vl f ∨ (vl f = (2 * m.toInt.toNat + 1) * (2 * NU e) ∧ m.toInt.toNat % 2 = 1)
theorem NRm_up {f : Nat → Int32} {m : Int64} {e : Int32} (h : ¬ NDw f m e) : NRm f m e = 72057594037927936 - m.toInt.toNat := if_neg h
theorem NRm_dn {f : Nat → Int32} {m : Int64} {e : Int32} (h : NDw f m e) : NRm f m e = 144115188075855872 + m.toInt.toNat := if_pos h
theorem NRm_le {f : Nat → Int32} {m : Int64} {e : Int32} : NRm f m e ≤ 144115188075855872 + m.toInt.toNat := by
  unfold NRm
  split <;> omega
theorem NR_up {f : Nat → Int32} {m m' : Int64} {e : Int32} (h : NRI f m e) (hu : NUp f m e) (em : m'.toInt = m.toInt + 1) : NRI f m' e ∧ NRm f m' e < NRm f m e := by
  obtain ⟨h1, h2, h3, h4, h5, h6, h7, h8⟩ := h
  have hU := NU_pos (e := e) (by omega)
  obtain ⟨M, hM⟩ : ∃ M : Nat, m.toInt = (M : Int) := ⟨m.toInt.toNat, by omega⟩
  have e1 : m.toInt.toNat = M := by omega
  have e2 : m'.toInt.toNat = M + 1 := by omega
  have hle : (2 * M + 1) * (2 * NU e) ≤ vl f := by
    unfold NUp at hu
    rw [e1] at hu
    rcases hu with hu | hu <;> omega
  have hb : M + 1 ≤ 36028797018963968 := by
    have h9 : (2 * M + 1) * (2 * NU e) ≤ 36028797018963968 * (2 * NU e) := by
      refine Nat.le_trans hle (Nat.le_trans h7 ?_)
      rw [← Nat.mul_assoc]
      exact Nat.le_refl _
    have h10 := Nat.le_of_mul_le_mul_right h9 (by omega)
    omega
  have hn1 : ¬ NDw f m e := by
    unfold NDw
    rw [e1]
    have h9 : (2 * M - 1) * (2 * NU e) < (2 * M + 1) * (2 * NU e) := Nat.mul_lt_mul_of_pos_right (by omega) (by omega)
    omega
  have hn2 : ¬ NDw f m' e := by
    unfold NDw
    rw [e2, show 2 * (M + 1) - 1 = 2 * M + 1 by omega]
    unfold NUp at hu
    rw [e1] at hu
    omega
  refine ⟨⟨h1, h2, h3, by omega, by omega, h6, h7, h8⟩, ?_⟩
  rw [NRm_up hn1, NRm_up hn2]
  omega
/-- below: the middle to the number before; a quarter below a power of two -/
def NLo (m : Int64) (e : Int32) : Nat := if m.toInt = 4503599627370496 then (4 * m.toInt.toNat - 1) * NU e else (2 * m.toInt.toNat - 1) * (2 * NU e)
theorem NR_dn {f : Nat → Int32} {m m' : Int64} {e : Int32} (h : NRI f m e) (hd : vl f < NLo m e ∨ (vl f = NLo m e ∧ m.toInt.toNat % 2 = 1)) (em : m'.toInt = m.toInt - 1) : NRI f m' e ∧ NRm f m' e < NRm f m e := by
  obtain ⟨h1, h2, h3, h4, h5, h6, h7, h8⟩ := h
  have hU := NU_pos (e := e) (by omega)
  have hdn : NDw f m e := by
    unfold NDw
    unfold NLo at hd
    split at hd
    · rename_i h9
      have e1 : m.toInt.toNat = 4503599627370496 := by omega
      rw [e1] at hd ⊢
      have e3 : (4 * 4503599627370496 - 1) * NU e = 18014398509481983 * NU e := rfl
      have e4 : (2 * 4503599627370496 - 1) * (2 * NU e) = 18014398509481982 * NU e := by rw [← Nat.mul_assoc]
      rw [e3] at hd
      rw [e4]
      omega
    · exact hd
  have hm2 : 2 ≤ m.toInt := by
    rcases Int.lt_or_le m.toInt 2 with h9 | h9
    · exfalso
      unfold NDw at hdn
      have e1 : m.toInt.toNat = 1 := by omega
      rw [e1] at hdn
      omega
    · exact h9
  refine ⟨⟨h1, h2, h3, by omega, by omega, h6, h7, h8⟩, ?_⟩
  rw [NRm_dn hdn]
  have := NRm_le (f := f) (m := m') (e := e)
  omega
theorem row_of {N : Int64} {e two : Int32} {row : Nat → Int32} {j : Nat} (hx : Exp N two row) (he : -90 ≤ e.toInt ∧ e.toInt ≤ -20) (hN : 0 ≤ N.toInt) (hN2 : N.toInt < 1000000000000000000) (et : two.toInt = e.toInt - 2 + j) (hj : j ≤ 1) : dg row ∧ vl row = N.toInt.toNat * (2 ^ j * NU e) := by
  have h0 : two.toInt.toNat = 0 := by omega
  have hlt : N.toInt.toNat * 10 ^ 1100 * 2 ^ two.toInt.toNat < 10 ^ 1420 := by
    rw [h0, Nat.pow_zero, Nat.mul_one, show 1420 = 320 + 1100 by rfl, Nat.pow_add]
    refine Nat.mul_lt_mul_of_pos_right ?_ (Nat.pow_pos (by decide))
    have h9 : (10 : Nat) ^ 18 ≤ 10 ^ 320 := Nat.pow_le_pow_right (by decide) (by decide)
    have e18 : (10 : Nat) ^ 18 = 1000000000000000000 := by decide
    rw [e18] at h9
    generalize (10 : Nat) ^ 320 = P at h9 ⊢
    omega
  obtain ⟨d1, d2⟩ := hx hN hlt (by omega)
  refine ⟨d1, ?_⟩
  have hs := NU_spec (e := e) (by omega)
  rw [h0, Nat.pow_zero, Nat.mul_one, ← hs, show (2 - e.toInt).toNat = j + (-two.toInt).toNat by omega, Nat.pow_add, ← Nat.mul_assoc, ← Nat.mul_assoc] at d2
  have h3 := Nat.eq_of_mul_eq_mul_right (Nat.two_pow_pos _) d2
  rw [h3, Nat.mul_assoc, Nat.mul_comm (NU e)]
theorem NUp_of {f row : Nat → Int32} {m N : Int64} {e two r : Int32} (h : NRI f m e) (hx : Exp N two row) (eN : N.toInt = 2 * m.toInt + 1) (et : two.toInt = e.toInt - 1) (hc : Cmp f row r) : (0 < r.toInt → NUp f m e) ∧ (r.toInt = 0 → m.toInt % 2 = 1 → NUp f m e) := by
  obtain ⟨h1, h2, h3, h4, h5, -⟩ := h
  obtain ⟨d1, d2⟩ := row_of (j := 1) hx ⟨h2, h3⟩ (by omega) (by omega) (by omega) (by decide)
  have eN2 : N.toInt.toNat = 2 * m.toInt.toNat + 1 := by omega
  rw [eN2, Nat.pow_one] at d2
  have h9 := hc.2 h1 d1
  rw [d2] at h9
  unfold NUp
  generalize (2 * m.toInt.toNat + 1) * (2 * NU e) = P at h9 ⊢
  refine ⟨fun g => ?_, fun g g2 => ?_⟩ <;> omega
theorem NLo_1 {f row : Nat → Int32} {m N : Int64} {e two : Int32} (h : NRI f m e) (hx : Exp N two row) (hm : m.toInt = 4503599627370496) (eN : N.toInt = 4 * m.toInt - 1) (et : two.toInt = e.toInt - 2) : dg row ∧ vl row = NLo m e := by
  obtain ⟨h1, h2, h3, h4, h5, -⟩ := h
  obtain ⟨d1, d2⟩ := row_of (j := 0) hx ⟨h2, h3⟩ (by omega) (by omega) (by omega) (by decide)
  refine ⟨d1, ?_⟩
  unfold NLo
  rw [if_pos hm, d2, show N.toInt.toNat = 4 * m.toInt.toNat - 1 by omega, Nat.pow_zero, Nat.one_mul]
theorem NLo_2 {f row : Nat → Int32} {m N : Int64} {e two : Int32} (h : NRI f m e) (hx : Exp N two row) (hm : ¬ m.toInt = 4503599627370496) (eN : N.toInt = 2 * m.toInt - 1) (et : two.toInt = e.toInt - 1) : dg row ∧ vl row = NLo m e := by
  obtain ⟨h1, h2, h3, h4, h5, -⟩ := h
  obtain ⟨d1, d2⟩ := row_of (j := 1) hx ⟨h2, h3⟩ (by omega) (by omega) (by omega) (by decide)
  refine ⟨d1, ?_⟩
  unfold NLo
  rw [if_neg hm, d2, show N.toInt.toNat = 2 * m.toInt.toNat - 1 by omega, Nat.pow_one]
theorem NDn_of {f row : Nat → Int32} {m : Int64} {e r : Int32} (h : NRI f m e) (hr : dg row ∧ vl row = NLo m e) (hc : Cmp f row r) : (r.toInt < 0 → vl f < NLo m e ∨ (vl f = NLo m e ∧ m.toInt.toNat % 2 = 1)) ∧ (r.toInt = 0 → m.toInt % 2 = 1 → vl f < NLo m e ∨ (vl f = NLo m e ∧ m.toInt.toNat % 2 = 1)) := by
  have h9 := hc.2 h.1 hr.1
  have h4 := h.2.2.2.1
  rw [hr.2] at h9
  generalize NLo m e = P at h9 ⊢
  refine ⟨fun g => ?_, fun g g2 => ?_⟩ <;> omega
/-- by computing: the sums that lie that near below a power of two are rounded below it -/
theorem chk : ∀ k, k < 30 → ∀ q, q < 10 → ∀ j, j < 64 → (1 ≤ k ∧ 10 ^ q < j * 2 ^ (54 - k) ∧ j * 2 ^ (54 - k) ≤ 2 * 10 ^ q) → zn (FP.dadd (FP.l2d (Int64.ofNat (2 ^ k - 1))) (FP.ddiv (FP.l2d (Int64.ofNat (10 ^ q - j))) (FP.l2d (Int64.ofNat (10 ^ q))))) < 2 ^ (1074 + k) := by decide +kernel
theorem mul4 (Z T U P : Nat) : Z * T * (U * P) = U * T * (Z * P) := by
  rw [Nat.mul_comm Z T, Nat.mul_assoc T Z, Nat.mul_left_comm Z U, ← Nat.mul_assoc T U, Nat.mul_comm T U]
theorem i64_of {a : Int64} {n : Nat} (h : a.toInt = (n : Int)) (hn : n < 9223372036854775808) : a = Int64.ofNat n := by
  refine Int64.toInt_inj.mp ?_
  rw [h, Int64.toInt_ofNat_of_lt (by omega)]
theorem NR_0 {f : Nat → Int32} {b h t m : Int64} {q e : Int32} {x : UInt64} (mv : MV b h q f) (te : TE t q) (hh : 0 ≤ h.toInt) (hht : h.toInt < t.toInt) (hb : 0 ≤ b.toInt) (hb9 : b.toInt ≤ 999999999) (nx : NX b h t x) (ap : Apt x m e) : NRI f m e := by
  obtain ⟨k1, k2, k3, k4, k5, k6⟩ := ap nx.1
  obtain ⟨-, ex, c1, c2, z1, z2⟩ := nx
  obtain ⟨mv1, mv2, mv3, mv4⟩ := mv
  have tl := TE_lin te
  obtain ⟨t1, t2, t3⟩ := te
  obtain ⟨T, hT⟩ : ∃ T, T = t.toInt.toNat := ⟨_, rfl⟩
  obtain ⟨H, hH⟩ : ∃ H, H = h.toInt.toNat := ⟨_, rfl⟩
  obtain ⟨B, hB⟩ : ∃ B, B = b.toInt.toNat := ⟨_, rfl⟩
  obtain ⟨N, hN⟩ : ∃ N, N = B * T + H := ⟨_, rfl⟩
  obtain ⟨M, hM⟩ : ∃ M, M = m.toInt.toNat := ⟨_, rfl⟩
  have hTq : (10 : Nat) ^ q.toInt.toNat = T := by omega
  rw [hTq, ← hB, ← hH, ← hN] at mv4
  rw [← hT, ← hB, ← hH, ← hN] at c1 c2
  rw [← hM] at k6
  have D0 := Nat.two_pow_pos 1074
  -- the exponent
  have he0 : e.toInt < 0 := by
    rcases Int.lt_or_le e.toInt 0 with h9 | h9
    · exact h9
    · exfalso
      rw [show (-e.toInt).toNat = 0 by omega, Nat.pow_zero, Nat.mul_one] at k6
      have h8 : 2 ^ 52 ≤ M := by
        have : (2 : Nat) ^ 52 = 4503599627370496 := by decide
        omega
      have h7 : 2 ^ 52 * 2 ^ 1074 ≤ M * 2 ^ 1074 := Nat.mul_le_mul_right _ h8
      have h6 : M * 2 ^ 1074 * 1 ≤ M * 2 ^ 1074 * 2 ^ e.toInt.toNat := Nat.mul_le_mul_left _ (Nat.two_pow_pos _)
      rw [← k6, Nat.mul_one] at h6
      rw [← Nat.pow_add] at h7
      have h5 : (2 : Nat) ^ 1104 ≤ 2 ^ (52 + 1074) := Nat.pow_le_pow_right (by decide) (by decide)
      exact absurd (Nat.lt_of_le_of_lt (Nat.le_trans h5 (Nat.le_trans h7 h6)) z2) (Nat.lt_irrefl _)
  rw [show e.toInt.toNat = 0 by omega, Nat.pow_zero, Nat.mul_one] at k6
  obtain ⟨E, hE⟩ : ∃ E : Nat, E = (-e.toInt).toNat := ⟨_, rfl⟩
  rw [← hE] at k6
  have hM53 : M < 2 ^ 53 := by
    have : (2 : Nat) ^ 53 = 9007199254740992 := by decide
    omega
  have hE82 : E ≤ 82 := by
    rcases Nat.lt_or_ge 82 E with h9 | h9
    · exfalso
      have h8 : 2 ^ 1044 * 2 ^ 83 ≤ zn x * 2 ^ E := Nat.mul_le_mul z1 (Nat.pow_le_pow_right (by decide) h9)
      rw [k6, ← Nat.pow_add, show 1044 + 83 = 53 + 1074 by rfl, Nat.pow_add] at h8
      exact absurd (Nat.lt_of_le_of_lt h8 (Nat.mul_lt_mul_of_pos_right hM53 D0)) (Nat.lt_irrefl _)
    · exact h9
  have hM52 : 2 ^ 52 ≤ M := by
    have : (2 : Nat) ^ 52 = 4503599627370496 := by decide
    omega
  have hE23 : 23 ≤ E := by
    rcases Nat.lt_or_ge E 23 with h9 | h9
    · exfalso
      have h8 : zn x * 2 ^ E ≤ zn x * 2 ^ 22 := Nat.mul_le_mul_left _ (Nat.pow_le_pow_right (by decide) (by omega))
      have h7 : zn x * 2 ^ 22 < 2 ^ 1104 * 2 ^ 22 := Nat.mul_lt_mul_of_pos_right z2 (Nat.two_pow_pos _)
      have h6 : 2 ^ 52 * 2 ^ 1074 ≤ M * 2 ^ 1074 := Nat.mul_le_mul_right _ hM52
      rw [← k6, show (2 : Nat) ^ 52 * 2 ^ 1074 = 2 ^ 1104 * 2 ^ 22 by rw [← Nat.pow_add, ← Nat.pow_add]] at h6
      exact absurd (Nat.lt_of_le_of_lt (Nat.le_trans h6 h8) h7) (Nat.lt_irrefl _)
    · exact h9
  have hU := NU_pos (e := e) (by omega)
  have hs := NU_spec (e := e) (by omega)
  rw [show (2 - e.toInt).toNat = 2 + E by omega] at hs
  rw [← hs] at mv4
  unfold NRI
  generalize NU e = U at hs hU mv4 ⊢
  generalize vl f = V at mv4 ⊢
  have hT1 : 1 ≤ T := by omega
  have hT9 : T ≤ 1000000000 := by omega
  -- V, against M quarters
  have up : V ≤ 72057594037927936 * U := by
    have h1 : V * T * 2 ^ 1074 ≤ 8 * M * U * T * 2 ^ 1074 := by
      rw [mv4]
      have h2 : N * 2 ^ 1074 * (U * 2 ^ (2 + E)) ≤ 2 * (zn x * T) * (U * 2 ^ (2 + E)) := Nat.mul_le_mul_right _ c2
      have e1 : N * (U * 2 ^ (2 + E)) * 2 ^ 1074 = N * 2 ^ 1074 * (U * 2 ^ (2 + E)) := Nat.mul_right_comm _ _ _
      have e2 : 2 * (zn x * T) * (U * 2 ^ (2 + E)) = 8 * U * T * (zn x * 2 ^ E) := by
        rw [Nat.pow_add]
        generalize (2 : Nat) ^ E = P
        generalize zn x = Z
        show 2 * (Z * T) * (U * (4 * P)) = 8 * U * T * (Z * P)
        rw [show 2 * (Z * T) * (U * (4 * P)) = 2 * 4 * (Z * T * (U * P)) by
          rw [Nat.mul_left_comm U 4 P, Nat.mul_assoc 2, Nat.mul_left_comm (Z * T) 4, ← Nat.mul_assoc 2 4]]
        rw [Nat.mul_assoc 8 U T, Nat.mul_assoc 8, mul4 Z T U P]
      rw [e1]
      refine Nat.le_trans h2 ?_
      rw [e2, k6]
      refine Nat.le_of_eq ?_
      generalize (2 : Nat) ^ 1074 = P
      rw [← Nat.mul_assoc, Nat.mul_assoc 8 M U, Nat.mul_comm M U, ← Nat.mul_assoc 8 U M, Nat.mul_right_comm (8 * U) M T]
    have h3 := Nat.le_of_mul_le_mul_right (Nat.le_of_mul_le_mul_right h1 D0) hT1
    have h4 : 8 * M * U ≤ 72057594037927936 * U := Nat.mul_le_mul_right _ (by
      have : (2 : Nat) ^ 53 = 9007199254740992 := by decide
      omega)
    exact Nat.le_trans h3 h4
  have lo : 9007199254740992 * U ≤ V := by
    have h1 : 4 * M * U * T * 2 ^ 1074 ≤ 2 * V * T * 2 ^ 1074 := by
      have h2 : zn x * T * (U * 2 ^ (2 + E)) ≤ 2 * (N * 2 ^ 1074) * (U * 2 ^ (2 + E)) := Nat.mul_le_mul_right _ c1
      have e1 : 2 * V * T * 2 ^ 1074 = 2 * (N * 2 ^ 1074) * (U * 2 ^ (2 + E)) := by
        rw [Nat.mul_assoc 2 V T, mv4]
        generalize U * 2 ^ (2 + E) = Q
        generalize (2 : Nat) ^ 1074 = P
        rw [Nat.mul_assoc 2 (N * Q) P, Nat.mul_right_comm N Q P, ← Nat.mul_assoc 2 (N * P) Q]
      have e2 : zn x * T * (U * 2 ^ (2 + E)) = 4 * U * T * (zn x * 2 ^ E) := by
        rw [Nat.pow_add]
        generalize (2 : Nat) ^ E = P
        generalize zn x = Z
        show Z * T * (U * (4 * P)) = 4 * U * T * (Z * P)
        rw [Nat.mul_left_comm U 4 P, Nat.mul_left_comm (Z * T) 4, Nat.mul_assoc 4 U T, Nat.mul_assoc 4, mul4 Z T U P]
      rw [e1]
      refine Nat.le_trans (Nat.le_of_eq ?_) h2
      rw [e2, k6]
      generalize (2 : Nat) ^ 1074 = P
      rw [← Nat.mul_assoc (4 * U * T), Nat.mul_assoc 4 M U, Nat.mul_comm M U, ← Nat.mul_assoc 4 U M, Nat.mul_right_comm (4 * U) M T]
    have h3 := Nat.le_of_mul_le_mul_right (Nat.le_of_mul_le_mul_right h1 D0) hT1
    have h4 : 18014398509481984 * U ≤ 4 * M * U := Nat.mul_le_mul_right _ (by
      have : (2 : Nat) ^ 52 = 4503599627370496 := by decide
      omega)
    generalize 4 * M * U = P at h3 h4
    omega
  refine ⟨mv1, by omega, by omega, by omega, by omega, lo, up, ?_⟩
  rintro ⟨g1, g2⟩
  -- the place where it would step down and up for ever
  have g3 : 18014398509481982 * T ≤ N * 2 ^ (2 + E) := by
    have h1 := Nat.mul_le_mul_right T g1
    rw [mv4, Nat.mul_right_comm, Nat.mul_left_comm, Nat.mul_comm (18014398509481982 * T)] at h1
    exact Nat.le_of_mul_le_mul_left h1 hU
  have g4 : N * 2 ^ (2 + E) < 18014398509481983 * T := by
    have h1 := Nat.mul_lt_mul_of_pos_right g2 hT1
    rw [mv4, Nat.mul_right_comm, Nat.mul_left_comm, Nat.mul_comm (18014398509481983 * T)] at h1
    exact Nat.lt_of_mul_lt_mul_left h1
  have e54 : (2 : Nat) ^ 54 = 18014398509481984 := by decide
  rcases Nat.lt_or_ge (2 + E) 54 with hw | hw
  · obtain ⟨k, hk⟩ : ∃ k, k = 54 - (2 + E) := ⟨_, rfl⟩
    have hk1 : 1 ≤ k ∧ k ≤ 29 := by omega
    have hw2 : 54 - k = 2 + E := by omega
    have e1 : (2 : Nat) ^ k * 2 ^ (2 + E) = 18014398509481984 := by rw [← Nat.pow_add, ← e54]; congr 1; omega
    obtain ⟨W, hW⟩ : ∃ W, W = (2 : Nat) ^ (2 + E) := ⟨_, rfl⟩
    obtain ⟨K, hK⟩ : ∃ K, K = (2 : Nat) ^ k := ⟨_, rfl⟩
    rw [← hW] at g3 g4
    rw [← hW, ← hK] at e1
    have hW25 : 33554432 ≤ W := by
      rw [hW, show 33554432 = 2 ^ 25 by rfl]
      exact Nat.pow_le_pow_right (by decide) (by omega)
    have eKT : K * T * W = 18014398509481984 * T := by rw [Nat.mul_right_comm, e1]
    have hNlt : N < K * T := by
      refine Nat.lt_of_mul_lt_mul_right (a := W) ?_
      rw [eKT]
      omega
    obtain ⟨j, hj⟩ : ∃ j, N + j = K * T := ⟨K * T - N, by omega⟩
    have hjW : j * W + N * W = 18014398509481984 * T := by rw [← eKT, ← hj, Nat.add_mul, Nat.add_comm]
    have hj1 : T < j * W := by omega
    have hj2 : j * W ≤ 2 * T := by omega
    have hj3 : j * 33554432 ≤ j * W := Nat.mul_le_mul_left _ hW25
    have hHT : H < T := by omega
    have hBH : B * T + (H + j) = K * T := by rw [← hj, hN]; omega
    have hj0 : 0 < j := by
      rcases Nat.eq_zero_or_pos j with h9 | h9
      · rw [h9, Nat.zero_mul] at hj1; omega
      · exact h9
    have hBK : B < K := by
      refine Nat.lt_of_mul_lt_mul_right (a := T) ?_
      omega
    have hBK2 : K ≤ B + 1 := by
      rcases Nat.lt_or_ge (B + 1) K with h9 | h9
      · exfalso
        have h8 : (B + 2) * T ≤ K * T := Nat.mul_le_mul_right _ h9
        rw [Nat.add_mul] at h8
        omega
      · exact h9
    have hKB : K = B + 1 := by omega
    have hHj : H = T - j := by
      rw [hKB, Nat.add_mul, Nat.one_mul] at hBH
      omega
    have hc := chk k (by omega) q.toInt.toNat (by omega) j (by omega) ⟨hk1.1, by rw [hTq, hw2, ← hW]; exact hj1, by rw [hTq, hw2, ← hW]; exact hj2⟩
    rw [hTq, ← hK, show K - 1 = B by omega, ← hHj] at hc
    have hKb : K ≤ 1000000000 := by omega
    rw [← i64_of (a := b) (n := B) (by omega) (by omega), ← i64_of (a := h) (n := H) (by omega) (by omega), ← i64_of (a := t) (n := T) (by omega) (by omega), ← ex] at hc
    have h6 : 2 ^ 52 * 2 ^ 1074 ≤ M * 2 ^ 1074 := Nat.mul_le_mul_right _ hM52
    rw [← k6] at h6
    have h7 : zn x * 2 ^ E < 2 ^ (1074 + k) * 2 ^ E := Nat.mul_lt_mul_of_pos_right hc (Nat.two_pow_pos _)
    rw [← Nat.pow_add, show 1074 + k + E = 52 + 1074 by omega, Nat.pow_add] at h7
    exact absurd (Nat.lt_of_le_of_lt h6 h7) (Nat.lt_irrefl _)
  · obtain ⟨w, hw2⟩ : ∃ w, 2 + E = 54 + w := ⟨2 + E - 54, by omega⟩
    rw [hw2, Nat.pow_add, e54, Nat.mul_left_comm] at g3 g4
    generalize N * 2 ^ w = Q at g3 g4
    have h9 : Q < T := by
      refine Nat.lt_of_mul_lt_mul_left (a := 18014398509481984) ?_
      omega
    omega
theorem TE_nat {t : Int64} {k : Int32} (h : TE t k) : t.toInt.toNat = 10 ^ k.toInt.toNat := by
  have h3 := h.2.2
  generalize (10 : Nat) ^ k.toInt.toNat = P at h3 ⊢
  omega
theorem DN_TE {q : Int32} {v t : Int64} (h : DN q v) (ht : TE t q) : v.toInt < t.toInt := by
  obtain ⟨h1, h2, h3, h4⟩ := h
  rw [ht.2.2]
  generalize (10 : Nat) ^ q.toInt.toNat = P at h4 ⊢
  omega
