/-! the reference's rows: emptied, copied, a whole number times a power of two laid into them -/
def Zer (r : Nat → Int32) : Prop := ∀ j, j < 1420 → (r j).toInt = 0
def ZIn (r : Nat → Int32) (k : Int32) : Prop := 0 ≤ k.toInt ∧ ∀ j : Nat, (j : Int) < k.toInt → (r j).toInt = 0
theorem ZIn_0 {r : Nat → Int32} : ZIn r 0 := ⟨by decide, fun j h => by have e : (0 : Int32).toInt = 0 := (by decide); omega⟩
theorem ZIn_step {r r' : Nat → Int32} {k k' : Int32} (h : ZIn r k) (hk : k.toInt < 1420) (er : r' = upd r k.toNatClampNeg 0) (ek : k' = k + 1) : ZIn r' k' := by
  obtain ⟨h0, h1⟩ := h
  have t := ti_add ek
  have n1 : (1 : Int32).toInt = 1 := by decide
  refine ⟨by omega, fun j hj => ?_⟩
  rw [er]; unfold upd
  split
  · decide
  · rename_i h3
    refine h1 j ?_
    have h4 : k.toNatClampNeg = k.toInt.toNat := rfl
    omega
theorem Zer_of {r : Nat → Int32} {k : Int32} (h : ZIn r k) (hk : ¬ k.toInt < 1420) : Zer r := fun j hj => h.2 j (by omega)
def Cpy (a b : Nat → Int32) : Prop := ∀ j, j < 1420 → b j = a j
def YIn (a b : Nat → Int32) (k : Int32) : Prop := 0 ≤ k.toInt ∧ ∀ j : Nat, (j : Int) < k.toInt → b j = a j
theorem YIn_0 {a b : Nat → Int32} : YIn a b 0 := ⟨by decide, fun j h => by have e : (0 : Int32).toInt = 0 := (by decide); omega⟩
theorem YIn_step {a b b' : Nat → Int32} {k k' x : Int32} (h : YIn a b k) (hk : k.toInt < 1420) (ex : x = a k.toNatClampNeg) (er : b' = upd b k.toNatClampNeg x) (ek : k' = k + 1) : YIn a b' k' := by
  obtain ⟨h0, h1⟩ := h
  have t := ti_add ek
  have n1 : (1 : Int32).toInt = 1 := by decide
  refine ⟨by omega, fun j hj => ?_⟩
  rw [er]; unfold upd
  split
  · rename_i h3; rw [ex, h3]
  · rename_i h3
    refine h1 j ?_
    have h4 : k.toNatClampNeg = k.toInt.toNat := rfl
    omega
theorem Cpy_of {a b : Nat → Int32} {k : Int32} (h : YIn a b k) (hk : ¬ k.toInt < 1420) : Cpy a b := fun j hj => h.2 j (by omega)
theorem Cpy_dg {a b : Nat → Int32} (h : Cpy a b) (hd : dg a) : dg b := fun j hj => by rw [h j hj]; exact hd j hj
theorem Cpy_vl {a b : Nat → Int32} (h : Cpy a b) : vl b = vl a := vl_congr (fun j hj => by rw [h j hj])
theorem Zer_dg {r : Nat → Int32} (h : Zer r) : dg r := fun j hj => by rw [h j hj]; decide
/-- the digits of a whole number, from the right; k the next cell -/
def EDg (N n : Int64) (r : Nat → Int32) (k : Int32) : Prop := (N.toInt < 0 → n.toInt ≤ 0 ∧ k.toInt ≤ 319) ∧ (0 ≤ N.toInt → ∃ K : Nat, k.toInt = (K : Int) ∧ 300 ≤ K ∧ K ≤ 319 ∧ dg r ∧ (∀ j, j < 1420 → j ≤ K ∨ 319 < j → (r j).toInt = 0) ∧ 0 ≤ n.toInt ∧ n.toInt.toNat < 10 ^ (K - 300) ∧ wv r (K + 1) (319 - K) + n.toInt.toNat * 10 ^ (319 - K) = N.toInt.toNat)
theorem EDg_0 {N : Int64} {r : Nat → Int32} (h : Zer r) : EDg N N r 319 := by
  have e : (319 : Int32).toInt = 319 := by decide
  have b := tl_b N
  refine ⟨fun _ => by omega, fun hN => ⟨319, by omega, by omega, by omega, Zer_dg h, fun j hj _ => h j hj, hN, ?_, ?_⟩⟩
  · show N.toInt.toNat < 10 ^ 19
    omega
  · show 0 + N.toInt.toNat * 1 = _
    omega
theorem EDg_lin {N n : Int64} {r : Nat → Int32} {k : Int32} (h : EDg N n r k) : (n.toInt ≤ 0 ∨ 300 ≤ k.toInt) ∧ k.toInt ≤ 319 := by
  rcases Int.lt_or_le N.toInt 0 with h1 | h1
  · have := h.1 h1
    omega
  · obtain ⟨K, h2, h3, h4, -⟩ := h.2 h1
    omega
theorem EDg_step {N n n' y : Int64} {r r' : Nat → Int32} {k k' d : Int32} (h : EDg N n r k) (hn : 0 < n.toInt) (ey : y = n - n / 10 * 10) (ed : d = y.toInt32) (er : r' = upd r k.toNatClampNeg d) (en : n' = n / 10) (ek : k' = k + (-1)) : EDg N n' r' k' := by
  have n1 : (-1 : Int32).toInt = -1 := by decide
  have n10 : (10 : Int64).toInt = 10 := by decide
  have tk := ti_add ek
  have tn := tl_divE en (by decide) (by omega)
  have ty := tl_remE ey (by decide) (by omega)
  rw [n10] at tn ty
  have td := ti_l2iE ed (by omega) (by omega)
  refine ⟨fun h1 => ?_, fun h1 => ?_⟩
  · have := h.1 h1
    omega
  · obtain ⟨K, g1, g2, g3, g4, g5, g6, g7, g8⟩ := h.2 h1
    have g2' : 301 ≤ K := by
      rcases Nat.lt_or_ge 300 K with h9 | h9
      · omega
      · exfalso
        have : K - 300 = 0 := by omega
        rw [this] at g7
        omega
    obtain ⟨M, rfl⟩ : ∃ M, K = M + 1 := ⟨K - 1, by omega⟩
    rw [cl_of g1] at er
    refine ⟨M, by omega, by omega, by omega, ?_, ?_, by omega, ?_, ?_⟩
    · intro j hj
      rw [er]; unfold upd
      split
      · omega
      · exact g4 j hj
    · intro j hj h2
      rw [er]; unfold upd
      rw [if_neg (by omega)]
      exact g5 j hj (by omega)
    · rw [show M + 1 - 300 = (M - 300) + 1 by omega, Nat.pow_succ] at g7
      generalize 10 ^ (M - 300) = P at g7 ⊢
      omega
    · have e1 : wv r' (M + 1 + 1) (319 - (M + 1)) = wv r (M + 1 + 1) (319 - (M + 1)) := wv_congr (fun j h3 h4 => by rw [er]; unfold upd; rw [if_neg (by omega)])
      have e2 : r' (M + 1) = d := by rw [er]; unfold upd; rw [if_pos rfl]
      rw [show 319 - M = (319 - (M + 1)) + 1 by omega, wv_front, e1, e2, Nat.pow_succ]
      generalize 10 ^ (319 - (M + 1)) = P at g8 ⊢
      generalize wv r (M + 1 + 1) (319 - (M + 1)) = V at g8 ⊢
      have e3 : d.toInt.toNat + n'.toInt.toNat * 10 = n.toInt.toNat := by omega
      rw [← g8, ← e3, Nat.add_mul]
      have e4 : n'.toInt.toNat * (P * 10) = n'.toInt.toNat * 10 * P := by rw [Nat.mul_comm P 10, Nat.mul_assoc]
      rw [e4]
      omega
def EX0 (N : Int64) (r : Nat → Int32) : Prop := 0 ≤ N.toInt → dg r ∧ vl r = N.toInt.toNat * 10 ^ 1100
theorem EX0_of {N n : Int64} {r : Nat → Int32} {k : Int32} (h : EDg N n r k) (hn : n.toInt ≤ 0) : EX0 N r := by
  intro hN
  obtain ⟨K, g1, g2, g3, g4, g5, g6, g7, g8⟩ := h.2 hN
  refine ⟨g4, ?_⟩
  have z : n.toInt.toNat = 0 := by omega
  rw [z, Nat.zero_mul, Nat.add_zero] at g8
  have s1 := wv_split r 0 320 1100
  have s2 := wv_split r 0 (K + 1) (319 - K)
  rw [show K + 1 + (319 - K) = 320 by omega, Nat.zero_add, g8] at s2
  have z1 : wv r 0 (K + 1) = 0 := wv_zero (fun j _ h4 => g5 j (by omega) (by omega))
  have z2 : wv r (0 + 320) 1100 = 0 := wv_zero (fun j h3 h4 => g5 j (by omega) (by omega))
  rw [z1, Nat.zero_mul, Nat.zero_add] at s2
  rw [z2, s2] at s1
  have e : (1420 : Nat) = 320 + 1100 := by decide
  unfold vl
  rw [e, s1, Nat.add_zero]
/-- the rest of the powers of two, p, is still to come -/
def EXm (N : Int64) (two : Int32) (r : Nat → Int32) (p : Int32) : Prop := 0 ≤ N.toInt → N.toInt.toNat * 10 ^ 1100 * 2 ^ two.toInt.toNat < 10 ^ 1420 → -1100 ≤ two.toInt → dg r ∧ (0 ≤ two.toInt → 0 ≤ p.toInt ∧ vl r * 2 ^ p.toInt.toNat = N.toInt.toNat * 10 ^ 1100 * 2 ^ two.toInt.toNat) ∧ (two.toInt < 0 → two.toInt ≤ p.toInt ∧ p.toInt ≤ 0 ∧ vl r * 2 ^ (p.toInt - two.toInt).toNat = N.toInt.toNat * 10 ^ 1100)
theorem EXm_0 {N : Int64} {two : Int32} {r : Nat → Int32} (h : EX0 N r) : EXm N two r two := by
  intro h1 h2 h3
  obtain ⟨g1, g2⟩ := h h1
  refine ⟨g1, fun h4 => ⟨h4, by rw [g2]⟩, fun h4 => ⟨by omega, by omega, ?_⟩⟩
  rw [show (two.toInt - two.toInt).toNat = 0 by omega, g2, Nat.pow_zero, Nat.mul_one]
theorem EXm_times {N : Int64} {two p p' q : Int32} {r r' : Nat → Int32} (j : Nat) (h : EXm N two r p) (ht : Tms r r' q) (hj : j ≤ 13) (hq : q.toInt = (2 ^ j : Nat)) (hp : (j : Int) ≤ p.toInt) (hp0 : 0 < p.toInt) (ep : p'.toInt = p.toInt - j) : EXm N two r' p' := by
  intro h1 h2 h3
  obtain ⟨g1, g2, g3⟩ := h h1 h2 h3
  have hb : 2 ^ j ≤ 2 ^ 13 := Nat.pow_le_pow_right (by decide) hj
  have hb2 := Nat.two_pow_pos j
  obtain ⟨k1, k2⟩ := ht g1 (by omega) (by omega)
  refine ⟨k1, fun h4 => ⟨by omega, ?_⟩, fun h4 => ?_⟩
  · obtain ⟨g4, g5⟩ := g2 h4
    have hq2 : q.toInt.toNat = 2 ^ j := by omega
    rw [hq2] at k2
    have e1 : p.toInt.toNat = p'.toInt.toNat + j := by omega
    rw [e1, Nat.pow_add] at g5
    have e2 : vl r * (2 ^ p'.toInt.toNat * 2 ^ j) = 2 ^ j * vl r * 2 ^ p'.toInt.toNat := by
      rw [Nat.mul_comm (2 ^ p'.toInt.toNat), ← Nat.mul_assoc, Nat.mul_comm (vl r)]
    rw [e2] at g5
    have e3 : 2 ^ j * vl r < 10 ^ 1420 := by
      refine Nat.lt_of_le_of_lt ?_ h2
      rw [← g5]
      exact Nat.le_mul_of_pos_right _ (Nat.two_pow_pos _)
    rw [k2 e3, g5]
  · have := g3 h4
    omega
theorem dvd_of_pow {a n k j : Nat} (h : a * 2 ^ k = n * 10 ^ 1100) (hk : k + j ≤ 1100) : 2 ^ j ∣ a := by
  have e1 : (10 : Nat) ^ 1100 = 2 ^ j * (2 ^ (1100 - k - j) * 5 ^ 1100) * 2 ^ k := by
    rw [show (10 : Nat) = 2 * 5 by rfl, Nat.mul_pow, show (2 : Nat) ^ 1100 = 2 ^ j * 2 ^ (1100 - k - j) * 2 ^ k by
      rw [← Nat.pow_add, ← Nat.pow_add]; congr 1; omega]
    generalize (5 : Nat) ^ 1100 = F
    generalize (2 : Nat) ^ j = A
    generalize (2 : Nat) ^ (1100 - k - j) = B
    generalize (2 : Nat) ^ k = C
    rw [← Nat.mul_assoc A B F, Nat.mul_right_comm (A * B) C F]
  generalize 2 ^ (1100 - k - j) * 5 ^ 1100 = X at e1
  rw [e1, ← Nat.mul_assoc] at h
  have h2 := Nat.eq_of_mul_eq_mul_right (Nat.two_pow_pos k) h
  exact ⟨n * X, by rw [h2, Nat.mul_left_comm]⟩
theorem EXm_part {N : Int64} {two p p' q : Int32} {r r' : Nat → Int32} (j : Nat) (h : EXm N two r p) (ht : Prt r r' q) (hj : j ≤ 13) (hj1 : 1 ≤ j) (hq : q.toInt = (2 ^ j : Nat)) (hp : p.toInt ≤ -(j : Int)) (ep : p'.toInt = p.toInt + j) : EXm N two r' p' := by
  intro h1 h2 h3
  obtain ⟨g1, g2, g3⟩ := h h1 h2 h3
  have hb : 2 ^ j ≤ 2 ^ 13 := Nat.pow_le_pow_right (by decide) hj
  have hb2 : 2 ^ 1 ≤ 2 ^ j := Nat.pow_le_pow_right (by decide) hj1
  obtain ⟨k1, k2⟩ := ht g1 (by omega) (by omega)
  refine ⟨k1, fun h4 => ?_, fun h4 => ?_⟩
  · have := g2 h4
    omega
  · obtain ⟨g4, g5, g6⟩ := g3 h4
    have hq2 : q.toInt.toNat = 2 ^ j := by omega
    rw [hq2] at k2
    have hd := dvd_of_pow (j := j) g6 (by omega)
    refine ⟨by omega, by omega, ?_⟩
    rw [← g6, k2 hd, show (p'.toInt - two.toInt).toNat = j + (p.toInt - two.toInt).toNat by omega, Nat.pow_add, Nat.mul_left_comm, Nat.mul_assoc]
def Exp (N : Int64) (two : Int32) (r : Nat → Int32) : Prop := 0 ≤ N.toInt → N.toInt.toNat * 10 ^ 1100 * 2 ^ two.toInt.toNat < 10 ^ 1420 → -1100 ≤ two.toInt → dg r ∧ vl r * 2 ^ (-two.toInt).toNat = N.toInt.toNat * 10 ^ 1100 * 2 ^ two.toInt.toNat
theorem Exp_of {N : Int64} {two p : Int32} {r : Nat → Int32} (h : EXm N two r p) (h0 : p.toInt ≤ 0) (h1 : 0 ≤ p.toInt) : Exp N two r := by
  intro g1 g2 g3
  obtain ⟨k1, k2, k3⟩ := h g1 g2 g3
  refine ⟨k1, ?_⟩
  rcases Int.lt_or_le two.toInt 0 with h2 | h2
  · obtain ⟨-, -, k4⟩ := k3 h2
    rw [show (-two.toInt).toNat = (p.toInt - two.toInt).toNat by omega, k4, show two.toInt.toNat = 0 by omega, Nat.pow_zero, Nat.mul_one]
  · obtain ⟨-, k4⟩ := k2 h2
    rw [show p.toInt.toNat = 0 by omega, Nat.pow_zero, Nat.mul_one] at k4
    rw [show (-two.toInt).toNat = 0 by omega, Nat.pow_zero, Nat.mul_one, k4]
/-- a row with a digit that isn't 0, neither too far left nor too far right -/
def okx (r : Nat → Int32) : Prop := dg r ∧ ∃ f : Nat, 1 ≤ f ∧ f ≤ 1413 ∧ (∀ j, j < f → (r j).toInt = 0) ∧ (r f).toInt ≠ 0
theorem okx_of {r : Nat → Int32} (hd : dg r) (h1 : 10 ^ 7 ≤ vl r) (h2 : vl r < 10 ^ 1419) : okx r := by
  have hex : ∃ j, j < 1420 ∧ (r j).toInt ≠ 0 := by
    refine Decidable.byContradiction fun hn => ?_
    have hz : vl r = 0 := wv_zero (fun j _ h4 => Decidable.byContradiction fun h5 => hn ⟨j, by omega, h5⟩)
    rw [hz] at h1
    exact absurd h1 (by decide)
  have hmin : ∀ n : Nat, (∃ j, j < n ∧ (r j).toInt ≠ 0) → ∃ f, f < n ∧ (r f).toInt ≠ 0 ∧ ∀ j, j < f → (r j).toInt = 0 := by
    intro n
    induction n with
    | zero => rintro ⟨j, h, -⟩; omega
    | succ n ih =>
      rintro ⟨j, h3, h4⟩
      by_cases h5 : ∃ j, j < n ∧ (r j).toInt ≠ 0
      · obtain ⟨f, g1, g2, g3⟩ := ih h5
        exact ⟨f, by omega, g2, g3⟩
      · have h6 : j = n := Decidable.byContradiction fun h7 => h5 ⟨j, by omega, h4⟩
        subst h6
        exact ⟨j, by omega, h4, fun i hi => Decidable.byContradiction fun h7 => h5 ⟨i, hi, h7⟩⟩
  obtain ⟨f, g1, g2, g3⟩ := hmin 1420 hex
  refine ⟨hd, f, ?_, ?_, g3, g2⟩
  · rcases Nat.eq_zero_or_pos f with h3 | h3
    · exfalso
      subst h3
      have h4 := wv_pos (f := r) (a := 0) (m := 1420) (fun j _ h5 => (hd j (by omega)).1) (Nat.zero_le 0) (by omega) g2
      rw [show 0 + 1420 - 1 - 0 = 1419 by omega] at h4
      unfold vl at h2
      generalize (10 : Nat) ^ 1419 = P at h2 h4
      omega
    · exact h3
  · rcases Nat.lt_or_ge 1413 f with h3 | h3
    · exfalso
      have s := wv_split r 0 f (1420 - f)
      have z : wv r 0 f = 0 := wv_zero (fun j _ h4 => g3 j (by omega))
      have l := wv_lt (f := r) (a := 0 + f) (m := 1420 - f) (fun j h4 h5 => hd j (by omega))
      rw [z, Nat.zero_mul, Nat.zero_add, show f + (1420 - f) = 1420 by omega] at s
      have l2 : (10 : Nat) ^ (1420 - f) ≤ 10 ^ 6 := Nat.pow_le_pow_right (by decide) (by omega)
      unfold vl at h1
      rw [s] at h1
      omega
    · exact h3
theorem okx_cpy {a b : Nat → Int32} (h : Cpy a b) (ho : okx a) : okx b := by
  obtain ⟨h0, f, h1, h2, h3, h4⟩ := ho
  exact ⟨Cpy_dg h h0, f, h1, h2, fun j hj => by rw [h j (by omega)]; exact h3 j hj, by rw [h f (by omega)]; exact h4⟩
