/-! numbers written in rows of decimal digits: what the reference's own arithmetic keeps -/
def dg (f : Nat → Int32) : Prop := ∀ k, k < 1420 → 0 ≤ (f k).toInt ∧ (f k).toInt ≤ 9
def wv (f : Nat → Int32) (a : Nat) : Nat → Nat
  | 0 => 0
  | m + 1 => 10 * wv f a m + (f (a + m)).toInt.toNat
theorem cl_of {k : Int32} {n : Nat} (h : k.toInt = (n : Int)) : k.toNatClampNeg = n := by
  show k.toInt.toNat = n
  omega
theorem wv_congr {f g : Nat → Int32} {a : Nat} : ∀ {m : Nat}, (∀ j, a ≤ j → j < a + m → (f j).toInt = (g j).toInt) → wv f a m = wv g a m
  | 0, _ => rfl
  | m + 1, h => by
    have h1 := wv_congr (m := m) (fun j h1 h2 => h j h1 (by omega))
    have h2 := h (a + m) (by omega) (by omega)
    show 10 * wv f a m + (f (a + m)).toInt.toNat = 10 * wv g a m + (g (a + m)).toInt.toNat
    rw [h1, h2]
theorem wv_zero {f : Nat → Int32} {a : Nat} : ∀ {m : Nat}, (∀ j, a ≤ j → j < a + m → (f j).toInt = 0) → wv f a m = 0
  | 0, _ => rfl
  | m + 1, h => by
    have h1 := wv_zero (m := m) (fun j h1 h2 => h j h1 (by omega))
    have h2 := h (a + m) (by omega) (by omega)
    show 10 * wv f a m + (f (a + m)).toInt.toNat = 0
    rw [h1, h2]; rfl
theorem wv_lt {f : Nat → Int32} {a : Nat} : ∀ {m : Nat}, (∀ j, a ≤ j → j < a + m → 0 ≤ (f j).toInt ∧ (f j).toInt ≤ 9) → wv f a m < 10 ^ m
  | 0, _ => by show 0 < 1; decide
  | m + 1, h => by
    have h1 := wv_lt (m := m) (fun j h1 h2 => h j h1 (by omega))
    have h2 := h (a + m) (by omega) (by omega)
    show 10 * wv f a m + (f (a + m)).toInt.toNat < 10 ^ (m + 1)
    rw [Nat.pow_succ]
    generalize 10 ^ m = P at h1
    omega
theorem wv_front (f : Nat → Int32) (a : Nat) : ∀ m : Nat, wv f a (m + 1) = (f a).toInt.toNat * 10 ^ m + wv f (a + 1) m
  | 0 => by show 10 * 0 + (f (a + 0)).toInt.toNat = (f a).toInt.toNat * 1 + 0; rw [Nat.add_zero a]; omega
  | m + 1 => by
    have h := wv_front f a m
    show 10 * wv f a (m + 1) + (f (a + (m + 1))).toInt.toNat = (f a).toInt.toNat * 10 ^ (m + 1) + (10 * wv f (a + 1) m + (f (a + 1 + m)).toInt.toNat)
    rw [h, show a + 1 + m = a + (m + 1) by omega, Nat.pow_succ, ← Nat.mul_assoc]
    generalize (f a).toInt.toNat * 10 ^ m = P
    omega
theorem wv_split (f : Nat → Int32) (a m : Nat) : ∀ n : Nat, wv f a (m + n) = wv f a m * 10 ^ n + wv f (a + m) n
  | 0 => by show wv f a m = wv f a m * 1 + 0; omega
  | n + 1 => by
    have h := wv_split f a m n
    show 10 * wv f a (m + n) + (f (a + (m + n))).toInt.toNat = wv f a m * 10 ^ (n + 1) + (10 * wv f (a + m) n + (f (a + m + n)).toInt.toNat)
    rw [h, show a + m + n = a + (m + n) by omega, Nat.pow_succ, ← Nat.mul_assoc]
    generalize wv f a m * 10 ^ n = P
    omega
theorem wv_pos {f : Nat → Int32} {a m j : Nat} (hd : ∀ j, a ≤ j → j < a + m → 0 ≤ (f j).toInt) (h1 : a ≤ j) (h2 : j < a + m) (h3 : (f j).toInt ≠ 0) : 10 ^ (a + m - 1 - j) ≤ wv f a m := by
  obtain ⟨u, rfl⟩ : ∃ u, j = a + u := ⟨j - a, by omega⟩
  obtain ⟨n, rfl⟩ : ∃ n, m = u + 1 + n := ⟨m - u - 1, by omega⟩
  rw [wv_split f a (u + 1) n, show a + (u + 1 + n) - 1 - (a + u) = n by omega]
  have h4 := hd (a + u) (by omega) (by omega)
  have h5 : 1 ≤ wv f a (u + 1) := by
    show 1 ≤ 10 * wv f a u + (f (a + u)).toInt.toNat
    omega
  have h6 := Nat.mul_le_mul_right (10 ^ n) h5
  omega
/-- the value of a whole row -/
def vl (f : Nat → Int32) : Nat := wv f 0 1420
theorem vl_congr {f g : Nat → Int32} (h : ∀ j, j < 1420 → (f j).toInt = (g j).toInt) : vl f = vl g := wv_congr (fun j _ h2 => h j (by omega))
theorem dg_congr {f g : Nat → Int32} (h : ∀ j, j < 1420 → (f j).toInt = (g j).toInt) (hf : dg f) : dg g := fun k hk => by rw [← h k hk]; exact hf k hk
theorem vl_lt {f : Nat → Int32} (h : dg f) : vl f < 10 ^ 1420 := wv_lt (fun j _ h2 => h j (by omega))
/-- what 'first' and 'last' find -/
def Fst (f : Nat → Int32) (r : Int32) : Prop := 0 ≤ r.toInt ∧ r.toInt ≤ 1420 ∧ (∀ j : Nat, (j : Int) < r.toInt → (f j).toInt = 0) ∧ (r.toInt < 1420 → (f r.toNatClampNeg).toInt ≠ 0)
def Lst (f : Nat → Int32) (r : Int32) : Prop := -1 ≤ r.toInt ∧ r.toInt < 1420 ∧ (∀ j : Nat, r.toInt < (j : Int) → j < 1420 → (f j).toInt = 0) ∧ (0 ≤ r.toInt → (f r.toNatClampNeg).toInt ≠ 0)
def FIn (f : Nat → Int32) (k : Int32) : Prop := 0 ≤ k.toInt ∧ k.toInt ≤ 1420 ∧ ∀ j : Nat, (j : Int) < k.toInt → (f j).toInt = 0
theorem FIn_0 {f : Nat → Int32} : FIn f 0 := ⟨by decide, by decide, fun j h => by have e : (0 : Int32).toInt = 0 := (by decide); omega⟩
theorem FIn_step {f : Nat → Int32} {k k' x : Int32} (h : FIn f k) (hk : ¬ 1420 ≤ k.toInt) (ex : x = f k.toNatClampNeg) (hx : x.toInt = 0) (ek : k' = k + 1) : FIn f k' := by
  obtain ⟨h0, h1, h2⟩ := h
  have t := ti_add ek
  have n1 : (1 : Int32).toInt = 1 := by decide
  refine ⟨by omega, by omega, fun j hj => ?_⟩
  by_cases h3 : (j : Int) < k.toInt
  · exact h2 j h3
  · have h4 : k.toNatClampNeg = j := cl_of (by omega)
    rw [← h4, ← ex]; exact hx
theorem Fst_of {f : Nat → Int32} {k : Int32} (h : FIn f k) (hk : 1420 ≤ k.toInt) : Fst f k := ⟨h.1, h.2.1, h.2.2, fun h9 => by omega⟩
theorem Fst_at {f : Nat → Int32} {k x : Int32} (h : FIn f k) (ex : x = f k.toNatClampNeg) (hx : ¬ x.toInt = 0) : Fst f k := ⟨h.1, h.2.1, h.2.2, fun _ => by rw [← ex]; exact hx⟩
def LIn (f : Nat → Int32) (k : Int32) : Prop := -1 ≤ k.toInt ∧ k.toInt < 1420 ∧ ∀ j : Nat, k.toInt < (j : Int) → j < 1420 → (f j).toInt = 0
theorem LIn_0 {f : Nat → Int32} : LIn f 1419 := ⟨by decide, by decide, fun j h h1 => by have e : (1419 : Int32).toInt = 1419 := (by decide); omega⟩
theorem LIn_step {f : Nat → Int32} {k k' x : Int32} (h : LIn f k) (hk : ¬ k.toInt < 0) (ex : x = f k.toNatClampNeg) (hx : x.toInt = 0) (ek : k' = k + (-1)) : LIn f k' := by
  obtain ⟨h0, h1, h2⟩ := h
  have t := ti_add ek
  have n1 : (-1 : Int32).toInt = -1 := by decide
  refine ⟨by omega, by omega, fun j hj hj2 => ?_⟩
  by_cases h3 : k.toInt < (j : Int)
  · exact h2 j h3 hj2
  · have h4 : k.toNatClampNeg = j := cl_of (by omega)
    rw [← h4, ← ex]; exact hx
theorem Lst_of {f : Nat → Int32} {k : Int32} (h : LIn f k) (hk : k.toInt < 0) : Lst f k := ⟨h.1, h.2.1, h.2.2, fun h9 => by omega⟩
theorem Lst_at {f : Nat → Int32} {k x : Int32} (h : LIn f k) (ex : x = f k.toNatClampNeg) (hx : ¬ x.toInt = 0) : Lst f k := ⟨h.1, h.2.1, h.2.2, fun _ => by rw [← ex]; exact hx⟩
/-- multiplying a row, from the right: k is the next cell, c the carry -/
def TIm (r0 r : Nat → Int32) (q k c : Int32) : Prop := dg r0 → 1 ≤ q.toInt → q.toInt ≤ 100000 → ∃ K : Nat, k.toInt = (K : Int) - 1 ∧ K ≤ 1420 ∧ dg r ∧ 0 ≤ c.toInt ∧ c.toInt < q.toInt ∧ (∀ j, j < K → r j = r0 j) ∧ wv r K (1420 - K) + c.toInt.toNat * 10 ^ (1420 - K) = q.toInt.toNat * wv r0 K (1420 - K)
theorem TIm_0 {r : Nat → Int32} {q k : Int32} (h : Lst r k) : TIm r r q k 0 := by
  intro hd h1 h2
  obtain ⟨g1, g2, g3, -⟩ := h
  have n0 : (0 : Int32).toInt = 0 := by decide
  refine ⟨(k.toInt + 1).toNat, by omega, by omega, hd, by omega, by omega, fun j _ => rfl, ?_⟩
  have hz : wv r (k.toInt + 1).toNat (1420 - (k.toInt + 1).toNat) = 0 := wv_zero (fun j h3 h4 => g3 j (by omega) (by omega))
  rw [hz, n0]; simp
theorem TIm_step {r0 r r' : Nat → Int32} {q k k' c c' x y z d : Int32} (h : TIm r0 r q k c) (hk : ¬ k.toInt < 0) (ex : x = r k.toNatClampNeg) (ey : y = x * q) (ez : z = y + c) (ed : d = z - z / 10 * 10) (er : r' = upd r k.toNatClampNeg d) (ec : c' = z / 10) (ek : k' = k + (-1)) : TIm r0 r' q k' c' := by
  intro hd h1 h2
  obtain ⟨K, g1, g2, g3, g4, g5, g6, g7⟩ := h hd h1 h2
  have n1 : (-1 : Int32).toInt = -1 := by decide
  have n10 : (10 : Int32).toInt = 10 := by decide
  obtain ⟨M, rfl⟩ : ∃ M, K = M + 1 := ⟨K - 1, by omega⟩
  have hc : k.toNatClampNeg = M := cl_of (by omega)
  rw [hc] at ex er
  have hx := g3 M (by omega)
  rw [← ex] at hx
  have ty := ti_mul ey
  have hb : 0 ≤ x.toInt * q.toInt ∧ x.toInt * q.toInt ≤ 900000 := by
    refine ⟨Int.mul_nonneg hx.1 (by omega), ?_⟩
    have e1 : x.toInt * q.toInt ≤ 9 * q.toInt := Int.mul_le_mul_of_nonneg_right hx.2 (by omega)
    omega
  have hb2 : x.toInt * q.toInt ≤ 9 * q.toInt := Int.mul_le_mul_of_nonneg_right hx.2 (by omega)
  have ty := ty.2 (by omega) (by omega)
  have tz := ti_add ez
  have td := ti_remE ed (by decide) (by omega)
  have tc := ti_divE ec (by decide) (by omega)
  rw [n10] at td tc
  have tk := ti_add ek
  have hv : z.toInt = x.toInt * q.toInt + c.toInt := by omega
  refine ⟨M, by omega, by omega, ?_, by omega, by omega, ?_, ?_⟩
  · intro j hj
    rw [er]; unfold upd
    split
    · omega
    · exact g3 j hj
  · intro j hj
    rw [er]; unfold upd
    rw [if_neg (by omega)]
    exact g6 j (by omega)
  · have hm : 1420 - M = (1420 - (M + 1)) + 1 := by omega
    rw [hm, wv_front r' M, wv_front r0 M, Nat.pow_succ]
    have e1 : wv r' (M + 1) (1420 - (M + 1)) = wv r (M + 1) (1420 - (M + 1)) := wv_congr (fun j h3 h4 => by rw [er]; unfold upd; rw [if_neg (by omega)])
    have e2 : r' M = d := by rw [er]; unfold upd; rw [if_pos rfl]
    have e3 : r0 M = x := by rw [ex]; exact (g6 M (by omega)).symm
    rw [e1, e2, e3, Nat.mul_add]
    have e4 : x.toInt.toNat * q.toInt.toNat = (x.toInt * q.toInt).toNat := by
      rw [← Int.toNat_mul hx.1 (by omega)]
    rw [← Nat.mul_assoc q.toInt.toNat, Nat.mul_comm q.toInt.toNat x.toInt.toNat, e4, ← g7]
    generalize 10 ^ (1420 - (M + 1)) = P
    generalize wv r (M + 1) (1420 - (M + 1)) = V
    have e5 : d.toInt.toNat + c'.toInt.toNat * 10 = (x.toInt * q.toInt).toNat + c.toInt.toNat := by omega
    have e6 : c'.toInt.toNat * (P * 10) = c'.toInt.toNat * 10 * P := by rw [Nat.mul_comm P 10, Nat.mul_assoc]
    have e7 : (d.toInt.toNat + c'.toInt.toNat * 10) * P = ((x.toInt * q.toInt).toNat + c.toInt.toNat) * P := by rw [e5]
    rw [Nat.add_mul, Nat.add_mul] at e7
    rw [e6]
    omega
/-- what 'times' makes of a row -/
def Tms (r0 r : Nat → Int32) (q : Int32) : Prop := dg r0 → 1 ≤ q.toInt → q.toInt ≤ 100000 → dg r ∧ (q.toInt.toNat * vl r0 < 10 ^ 1420 → vl r = q.toInt.toNat * vl r0)
theorem Tms_end {r0 r : Nat → Int32} {q k c : Int32} (h : TIm r0 r q k c) (hk : k.toInt < 0) : Tms r0 r q := by
  intro hd h1 h2
  obtain ⟨K, g1, g2, g3, g4, g5, g6, g7⟩ := h hd h1 h2
  obtain rfl : K = 0 := by omega
  refine ⟨g3, fun hlt => ?_⟩
  have e : 1420 - 0 = 1420 := rfl
  rw [e] at g7
  unfold vl at hlt ⊢
  generalize hP : 10 ^ 1420 = P at hlt g7
  have hz : c.toInt.toNat = 0 := by
    rcases Nat.eq_zero_or_pos c.toInt.toNat with h | h
    · exact h
    · have := Nat.mul_le_mul_right P h
      omega
  rw [hz] at g7
  omega
theorem Tms_stop {r0 r : Nat → Int32} {q k c fr : Int32} (h : TIm r0 r q k c) (hf : Fst r0 fr) (hk : ¬ fr.toInt ≤ k.toInt) (hc : c.toInt ≤ 0) : Tms r0 r q := by
  intro hd h1 h2
  obtain ⟨K, g1, g2, g3, g4, g5, g6, g7⟩ := h hd h1 h2
  refine ⟨g3, fun _ => ?_⟩
  have hz : c.toInt.toNat = 0 := by omega
  rw [hz] at g7
  have s1 := wv_split r 0 K (1420 - K)
  have s2 := wv_split r0 0 K (1420 - K)
  have z2 : wv r0 0 K = 0 := wv_zero (fun j _ h4 => hf.2.2.1 j (by omega))
  have z1 : wv r 0 K = 0 := wv_zero (fun j _ h4 => by rw [g6 j (by omega)]; exact hf.2.2.1 j (by omega))
  rw [z1, Nat.zero_mul, Nat.zero_add, Nat.zero_add, show K + (1420 - K) = 1420 by omega] at s1
  rw [z2, Nat.zero_mul, Nat.zero_add, Nat.zero_add, show K + (1420 - K) = 1420 by omega] at s2
  unfold vl
  rw [s1, s2]
  omega
/-- dividing a row, from the left -/
def PIm (r0 r : Nat → Int32) (q k c : Int32) : Prop := dg r0 → 2 ≤ q.toInt → q.toInt ≤ 8192 → ∃ K : Nat, k.toInt = (K : Int) ∧ K ≤ 1420 ∧ dg r ∧ 0 ≤ c.toInt ∧ c.toInt < q.toInt ∧ (∀ j, K ≤ j → r j = r0 j) ∧ wv r0 0 K = q.toInt.toNat * wv r 0 K + c.toInt.toNat
theorem PIm_0 {r : Nat → Int32} {q k : Int32} (h : Fst r k) : PIm r r q k 0 := by
  intro hd h1 h2
  obtain ⟨g1, g2, g3, -⟩ := h
  have n0 : (0 : Int32).toInt = 0 := by decide
  refine ⟨k.toInt.toNat, by omega, by omega, hd, by omega, by omega, fun j _ => rfl, ?_⟩
  have hz : wv r 0 k.toInt.toNat = 0 := wv_zero (fun j h3 h4 => g3 j (by omega))
  rw [hz, n0]; rfl
theorem PIm_step {r0 r r' : Nat → Int32} {q k k' c c' x y z d : Int32} (h : PIm r0 r q k c) (hk : ¬ 1420 ≤ k.toInt) (ey : y = 10 * c) (ex : x = r k.toNatClampNeg) (ez : z = y + x) (ed : d = z / q) (er : r' = upd r k.toNatClampNeg d) (ec : c' = z - z / q * q) (ek : k' = k + 1) : PIm r0 r' q k' c' := by
  intro hd h1 h2
  obtain ⟨K, g1, g2, g3, g4, g5, g6, g7⟩ := h hd h1 h2
  have n1 : (1 : Int32).toInt = 1 := by decide
  have n10 : (10 : Int32).toInt = 10 := by decide
  have hc : k.toNatClampNeg = K := cl_of (by omega)
  rw [hc] at ex er
  have hx := g3 K (by omega)
  rw [← ex] at hx
  have ty := ti_mul ey
  rw [n10] at ty
  have ty := ty.2 (by omega) (by omega)
  have tz := ti_add ez
  have hq : 0 < q.toInt ∧ q ≠ -1 := ⟨by omega, fun h9 => by rw [h9] at h1; revert h1; decide⟩
  have hz0 : z.toInt = 10 * c.toInt + x.toInt := by omega
  have td := ti_divE ed hq (by omega)
  have tc := ti_remE ec hq (by omega)
  have tk := ti_add ek
  have dm := Int.emod_add_mul_ediv z.toInt q.toInt
  have m1 := Int.emod_nonneg z.toInt (show q.toInt ≠ 0 by omega)
  have m2 := Int.emod_lt_of_pos z.toInt hq.1
  rw [← td, ← tc] at dm
  rw [← tc] at m1 m2
  have d0 : 0 ≤ d.toInt := by rw [td]; exact Int.ediv_nonneg (by omega) (by omega)
  have d9 : d.toInt ≤ 9 := by
    rw [td]
    have : z.toInt / q.toInt < 10 := Int.ediv_lt_of_lt_mul (by omega) (by omega)
    omega
  refine ⟨K + 1, by omega, by omega, ?_, by omega, by omega, ?_, ?_⟩
  · intro j hj
    rw [er]; unfold upd
    split
    · omega
    · exact g3 j hj
  · intro j hj
    rw [er]; unfold upd
    rw [if_neg (by omega)]
    exact g6 j (by omega)
  · show 10 * wv r0 0 K + (r0 (0 + K)).toInt.toNat = q.toInt.toNat * (10 * wv r' 0 K + (r' (0 + K)).toInt.toNat) + c'.toInt.toNat
    have e1 : wv r' 0 K = wv r 0 K := wv_congr (fun j h3 h4 => by rw [er]; unfold upd; rw [if_neg (by omega)])
    have e2 : r' (0 + K) = d := by rw [er, Nat.zero_add]; unfold upd; rw [if_pos rfl]
    have e3 : r0 (0 + K) = x := by rw [Nat.zero_add, ex]; exact (g6 K (by omega)).symm
    rw [e1, e2, e3, g7, Nat.mul_add, Nat.mul_add, ← Nat.mul_assoc, ← Nat.mul_assoc, Nat.mul_comm 10 q.toInt.toNat]
    have e4 : q.toInt.toNat * d.toInt.toNat = (q.toInt * d.toInt).toNat := by rw [← Int.toNat_mul (by omega) d0]
    rw [e4]
    generalize q.toInt.toNat * 10 * wv r 0 K = V
    have e5 : 0 ≤ q.toInt * d.toInt := Int.mul_nonneg (by omega) d0
    omega
def Prt (r0 r : Nat → Int32) (q : Int32) : Prop := dg r0 → 2 ≤ q.toInt → q.toInt ≤ 8192 → dg r ∧ (q.toInt.toNat ∣ vl r0 → vl r0 = q.toInt.toNat * vl r)
theorem Prt_end {r0 r : Nat → Int32} {q k c : Int32} (h : PIm r0 r q k c) (hk : 1420 ≤ k.toInt) : Prt r0 r q := by
  intro hd h1 h2
  obtain ⟨K, g1, g2, g3, g4, g5, g6, g7⟩ := h hd h1 h2
  obtain rfl : K = 1420 := by omega
  refine ⟨g3, fun hdv => ?_⟩
  unfold vl at hdv ⊢
  rw [g7] at hdv ⊢
  have h3 := (Nat.dvd_add_right (Nat.dvd_mul_right q.toInt.toNat (wv r 0 1420))).mp hdv
  have h4 : c.toInt.toNat = 0 := Nat.eq_zero_of_dvd_of_lt h3 (by omega)
  omega
theorem Prt_stop {r0 r : Nat → Int32} {q k c to : Int32} (h : PIm r0 r q k c) (hl : Lst r0 to) (hk : ¬ k.toInt ≤ to.toInt) (hc : c.toInt ≤ 0) : Prt r0 r q := by
  intro hd h1 h2
  obtain ⟨K, g1, g2, g3, g4, g5, g6, g7⟩ := h hd h1 h2
  refine ⟨g3, fun _ => ?_⟩
  have hz : c.toInt.toNat = 0 := by omega
  rw [hz] at g7
  have s1 := wv_split r 0 K (1420 - K)
  have s2 := wv_split r0 0 K (1420 - K)
  have z2 : wv r0 (0 + K) (1420 - K) = 0 := wv_zero (fun j h3 h4 => hl.2.2.1 j (by omega) (by omega))
  have z1 : wv r (0 + K) (1420 - K) = 0 := wv_zero (fun j h3 h4 => by rw [g6 j (by omega)]; exact hl.2.2.1 j (by omega) (by omega))
  rw [z1, Nat.add_zero, show K + (1420 - K) = 1420 by omega] at s1
  rw [z2, Nat.add_zero, show K + (1420 - K) = 1420 by omega] at s2
  unfold vl
  rw [s1, s2, g7, Nat.add_zero, Nat.mul_assoc]
/-- two rows, compared from the left -/
def CIn (a b : Nat → Int32) (k : Int32) : Prop := 0 ≤ k.toInt ∧ ∀ j : Nat, (j : Int) < k.toInt → a j = b j
theorem CIn_0 {a b : Nat → Int32} : CIn a b 0 := ⟨by decide, fun j h => by have e : (0 : Int32).toInt = 0 := (by decide); omega⟩
theorem CIn_step {a b : Nat → Int32} {k k' x y : Int32} (h : CIn a b k) (hk : ¬ 1420 ≤ k.toInt) (ex : x = a k.toNatClampNeg) (ey : y = b k.toNatClampNeg) (hxy : x.toInt = y.toInt) (ek : k' = k + 1) : CIn a b k' := by
  obtain ⟨h0, h2⟩ := h
  have t := ti_add ek
  have n1 : (1 : Int32).toInt = 1 := by decide
  refine ⟨by omega, fun j hj => ?_⟩
  by_cases h3 : (j : Int) < k.toInt
  · exact h2 j h3
  · have h4 : k.toNatClampNeg = j := cl_of (by omega)
    rw [← h4, ← ex, ← ey]; exact (fa_eq x y).mpr hxy
def Cmp (a b : Nat → Int32) (r : Int32) : Prop := (r.toInt = -1 ∨ r.toInt = 0 ∨ r.toInt = 1) ∧ (dg a → dg b → (r.toInt = -1 ∧ vl a < vl b) ∨ (r.toInt = 0 ∧ vl a = vl b) ∨ (r.toInt = 1 ∧ vl b < vl a))
theorem vl_lt_of {a b : Nat → Int32} {k : Int32} (ha : dg a) (h : CIn a b k) (hk : k.toInt < 1420) (hlt : (a k.toNatClampNeg).toInt < (b k.toNatClampNeg).toInt) : vl a < vl b := by
  obtain ⟨h0, h2⟩ := h
  obtain ⟨K, hK⟩ : ∃ K : Nat, k.toInt = (K : Int) := ⟨k.toInt.toNat, by omega⟩
  rw [cl_of hK] at hlt
  have s1 := wv_split a 0 K (1420 - K)
  have s2 := wv_split b 0 K (1420 - K)
  have f1 := wv_front a K (1420 - K - 1)
  have f2 := wv_front b K (1420 - K - 1)
  rw [show 1420 - K - 1 + 1 = 1420 - K by omega] at f1 f2
  rw [show K + (1420 - K) = 1420 by omega, Nat.zero_add, f1] at s1
  rw [show K + (1420 - K) = 1420 by omega, Nat.zero_add, f2] at s2
  have e1 : wv a 0 K = wv b 0 K := wv_congr (fun j h3 h4 => by rw [h2 j (by omega)])
  have e2 : wv a (K + 1) (1420 - K - 1) < 10 ^ (1420 - K - 1) := wv_lt (fun j h3 h4 => ha j (by omega))
  have e3 := ha K (by omega)
  unfold vl
  rw [s1, s2, e1]
  have e4 : (a K).toInt.toNat + 1 ≤ (b K).toInt.toNat := by omega
  have e5 := Nat.mul_le_mul_right (10 ^ (1420 - K - 1)) e4
  rw [Nat.add_mul] at e5
  omega
theorem Cmp_eq {a b : Nat → Int32} {k : Int32} (h : CIn a b k) (hk : 1420 ≤ k.toInt) : Cmp a b 0 := by
  have n0 : (0 : Int32).toInt = 0 := by decide
  exact ⟨Or.inr (Or.inl n0), fun _ _ => Or.inr (Or.inl ⟨n0, vl_congr (fun j hj => by rw [h.2 j (by omega)])⟩)⟩
theorem Cmp_lt {a b : Nat → Int32} {k x y : Int32} (h : CIn a b k) (hk : ¬ 1420 ≤ k.toInt) (ex : x = a k.toNatClampNeg) (ey : y = b k.toNatClampNeg) (hxy : x.toInt < y.toInt) : Cmp a b (-1) := by
  have n0 : (-1 : Int32).toInt = -1 := by decide
  exact ⟨Or.inl n0, fun ha _ => Or.inl ⟨n0, vl_lt_of ha h (by omega) (by rw [← ex, ← ey]; exact hxy)⟩⟩
theorem Cmp_gt {a b : Nat → Int32} {k x y : Int32} (h : CIn a b k) (hk : ¬ 1420 ≤ k.toInt) (ex : x = a k.toNatClampNeg) (ey : y = b k.toNatClampNeg) (hne : ¬ x.toInt = y.toInt) (hxy : ¬ x.toInt < y.toInt) : Cmp a b 1 := by
  have n0 : (1 : Int32).toInt = 1 := by decide
  exact ⟨Or.inr (Or.inr n0), fun _ hb => Or.inr (Or.inr ⟨n0, vl_lt_of hb ⟨h.1, fun j hj => (h.2 j hj).symm⟩ (by omega) (by rw [← ex, ← ey]; omega)⟩)⟩
