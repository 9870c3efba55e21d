/-! the reference: rounding a row, its items, tenths, quotes -/
def NZx (f : Nat → Int32) : Prop := ∃ j, j < 1420 ∧ (f j).toInt ≠ 0
theorem fst_lin {f : Nat → Int32} {r : Int32} (h : Fst f r) : 0 ≤ r.toInt ∧ r.toInt ≤ 1420 := ⟨h.1, h.2.1⟩
theorem lst_lin {f : Nat → Int32} {r : Int32} (h : Lst f r) : -1 ≤ r.toInt ∧ r.toInt < 1420 := ⟨h.1, h.2.1⟩
theorem fst_lt {f : Nat → Int32} {r : Int32} (h : Fst f r) (hz : NZx f) : r.toInt < 1420 := by
  obtain ⟨j, h1, h2⟩ := hz
  rcases Int.lt_or_le r.toInt 1420 with h3 | h3
  · exact h3
  · exact absurd (h.2.2.1 j (by omega)) h2
theorem okx_fst {f : Nat → Int32} {r : Int32} (ho : okx f) (h : Fst f r) : 1 ≤ r.toInt ∧ r.toInt ≤ 1413 := by
  obtain ⟨-, k, h1, h2, h3, h4⟩ := ho
  obtain ⟨g1, g2, g3, g4⟩ := h
  refine ⟨?_, ?_⟩
  · rcases Int.lt_or_le r.toInt 1 with h5 | h5
    · exfalso
      have h6 := g4 (by omega)
      rw [cl_of (k := r) (n := 0) (by omega)] at h6
      exact h6 (h3 0 (by omega))
    · exact h5
  · rcases Int.lt_or_le 1413 r.toInt with h5 | h5
    · exact absurd (g3 k (by omega)) h4
    · exact h5
/-- some digit up to a place isn't 9 -/
def RX (f : Nat → Int32) (a : Int32) : Prop := ∃ j : Nat, (j : Int) ≤ a.toInt ∧ (f j).toInt ≠ 9
theorem RX_of {f : Nat → Int32} {a : Int32} (ho : okx f) (h : 0 ≤ a.toInt) : RX f a := by
  obtain ⟨-, k, h1, -, h3, -⟩ := ho
  exact ⟨0, by omega, by rw [h3 0 (by omega)]; decide⟩
def RXa (o n : Nat → Int32) (a : Int32) : Prop := ∀ j : Nat, (j : Int) ≤ a.toInt → n j = o j
theorem RXa_0 {f : Nat → Int32} {a : Int32} : RXa f f a := fun _ _ => rfl
theorem RXa_set {o n n' : Nat → Int32} {a k x : Int32} (h : RXa o n a) (hk : a.toInt < k.toInt) (er : n' = upd n k.toNatClampNeg x) : RXa o n' a := by
  intro j hj
  rw [er]; unfold upd
  have h4 : k.toNatClampNeg = k.toInt.toNat := rfl
  rw [if_neg (by omega)]
  exact h j hj
def RXb (o n : Nat → Int32) (a i u : Int32) : Prop := 0 ≤ i.toInt ∧ i.toInt ≤ a.toInt ∧ (∀ j : Nat, (j : Int) ≤ i.toInt → n j = o j) ∧ (∀ j : Nat, i.toInt < (j : Int) → (j : Int) ≤ a.toInt → (o j).toInt = 9) ∧ (u.toInt = 0 → i.toInt = a.toInt)
theorem RXb_0 {o n : Nat → Int32} {a u : Int32} (h : RXa o n a) (ha : 0 ≤ a.toInt) : RXb o n a a u := ⟨ha, by omega, h, fun j _ _ => by omega, fun _ => rfl⟩
theorem RXb_lin {o n : Nat → Int32} {a i u : Int32} (h : RXb o n a i u) : 0 ≤ i.toInt ∧ i.toInt ≤ a.toInt := ⟨h.1, h.2.1⟩
theorem RXb_step {o n n' : Nat → Int32} {a i i' u x : Int32} (hr : RX o a) (h : RXb o n a i u) (hu : ¬ u.toInt = 0) (ex : x = n i.toNatClampNeg) (hx : x.toInt = 9) (er : n' = upd n i.toNatClampNeg 0) (ei : i' = i + (-1)) : RXb o n' a i' u := by
  obtain ⟨g1, g2, g3, g4, g5⟩ := h
  obtain ⟨j0, h1, h2⟩ := hr
  have n1 : (-1 : Int32).toInt = -1 := by decide
  have t := ti_add ei
  have bi := ti_b i
  obtain ⟨I, hI⟩ : ∃ I : Nat, i.toInt = (I : Int) := ⟨i.toInt.toNat, by omega⟩
  rw [cl_of hI] at ex er
  have h3 : (o I).toInt = 9 := by rw [← g3 I (by omega), ← ex]; exact hx
  have h4 : j0 < I := by
    rcases Nat.lt_or_ge j0 I with h5 | h5
    · exact h5
    · exfalso
      rcases Nat.lt_or_ge I j0 with h6 | h6
      · exact h2 (g4 j0 (by omega) h1)
      · have h7 : j0 = I := by omega
        rw [h7] at h2
        exact h2 h3
  refine ⟨by omega, by omega, fun j hj => ?_, fun j hj1 hj2 => ?_, fun h => absurd h hu⟩
  · rw [er]; unfold upd
    rw [if_neg (by omega)]
    exact g3 j (by omega)
  · rcases Nat.lt_or_ge I j with h6 | h6
    · exact g4 j (by omega) hj2
    · have h7 : j = I := by omega
      rw [h7]; exact h3
def RXe (n : Nat → Int32) (i u : Int32) : Prop := u.toInt = 0 ∨ (n i.toNatClampNeg).toInt ≠ 9
theorem RXe_ne {n : Nat → Int32} {i u x : Int32} (ex : x = n i.toNatClampNeg) (hx : ¬ x.toInt = 9) : RXe n i u := Or.inr (by rw [← ex]; exact hx)
def RXp (o n : Nat → Int32) (a : Int32) : Prop := dg o → (∃ j : Nat, (j : Int) ≤ a.toInt ∧ (o j).toInt ≠ 0) → NZx n
theorem RXp_of {o n n' : Nat → Int32} {a i u x z s : Int32} (hb : RXb o n a i u) (he : RXe n i u) (ha : a.toInt ≤ 1418) (ex : x = n i.toNatClampNeg) (ez : z = x + s) (hs : (u.toInt = 0 ∧ s.toInt = 0) ∨ (¬ u.toInt = 0 ∧ s.toInt = 1)) (er : n' = upd n i.toNatClampNeg z) : RXp o n' a := by
  intro hd ⟨j, h1, h2⟩
  obtain ⟨g1, g2, g3, g4, g5⟩ := hb
  obtain ⟨I, hI⟩ : ∃ I : Nat, i.toInt = (I : Int) := ⟨i.toInt.toNat, by omega⟩
  unfold RXe at he
  rw [cl_of hI] at ex er he
  have hx := hd I (by omega)
  rw [← g3 I (by omega), ← ex] at hx
  rw [← ex] at he
  have t := ti_add ez
  rcases hs with ⟨hu, hs⟩ | ⟨hu, hs⟩
  · have h5 := g5 hu
    refine ⟨j, by omega, ?_⟩
    rw [er]; unfold upd
    split
    · rename_i h6
      have h7 : (o I).toInt ≠ 0 := by rw [← h6]; exact h2
      rw [← g3 I (by omega), ← ex] at h7
      omega
    · rw [g3 j (by omega)]; exact h2
  · refine ⟨I, by omega, ?_⟩
    rw [er]; unfold upd
    rw [if_pos rfl]
    rcases he with he | he
    · exact absurd he hu
    · omega
theorem NZx_of {o n : Nat → Int32} {a r : Int32} (h : RXp o n a) (ho : okx o) (hr : Fst o r) (ha : r.toInt ≤ a.toInt) : NZx n := by
  refine h ho.1 ?_
  have h1 := okx_fst ho hr
  refine ⟨r.toInt.toNat, by omega, ?_⟩
  exact hr.2.2.2 (by omega)
/-- the digits that are rounded stand from 100 on -/
def RDz (f : Nat → Int32) : Prop := ∀ j : Nat, j ≤ 99 → (f j).toInt = 0
def RD (f : Nat → Int32) (t : Int32) : Prop := ∀ k : Nat, k < 1420 → 0 < (f k).toInt → 319 - (k : Int) + t.toInt ≤ 900
theorem RDz_set {f f' : Nat → Int32} {k x : Int32} (h : RDz f) (hk : 100 ≤ k.toInt) (er : f' = upd f k.toNatClampNeg x) : RDz f' := by
  intro j hj
  rw [er]; unfold upd
  have h4 : k.toNatClampNeg = k.toInt.toNat := rfl
  rw [if_neg (by omega)]
  exact h j hj
def RD0 (f : Nat → Int32) (k : Int32) : Prop := 0 ≤ k.toInt ∧ ∀ j : Nat, (j : Int) < k.toInt → (f j).toInt = 0
theorem RD0_0 {r : Nat → Int32} : RD0 r 0 := ⟨by decide, fun j h => by have e : (0 : Int32).toInt = 0 := (by decide); omega⟩
theorem RD0_step {r r' : Nat → Int32} {k k' : Int32} (h : RD0 r k) (hk : k.toInt < 1400) (er : r' = upd r k.toNatClampNeg 0) (ek : k' = k + 1) : RD0 r' k' := by
  obtain ⟨h0, h1⟩ := h
  have t := ti_add ek
  have n1 : (1 : Int32).toInt = 1 := by decide
  refine ⟨by omega, fun j hj => ?_⟩
  rw [er]; unfold upd
  split
  · decide
  · rename_i h3
    refine h1 j ?_
    have h4 : k.toNatClampNeg = k.toInt.toNat := rfl
    omega
theorem RDz_of {r : Nat → Int32} {k : Int32} (h : RD0 r k) (hk : ¬ k.toInt < 1400) : RDz r := fun j hj => h.2 j (by omega)
theorem RD_pos {f : Nat → Int32} {t k x : Int32} (h : RD f t) (hk : 0 ≤ k.toInt) (hk2 : k.toInt < 1420) (ex : x = f k.toNatClampNeg) (hx : 0 < x.toInt) : 319 - k.toInt + t.toInt ≤ 900 := by
  obtain ⟨K, hK⟩ : ∃ K : Nat, k.toInt = (K : Int) := ⟨k.toInt.toNat, by omega⟩
  rw [cl_of hK] at ex
  have := h K (by omega) (by rw [← ex]; exact hx)
  omega
theorem RDz_ne {f : Nat → Int32} {k x : Int32} (h : RDz f) (hk : 0 ≤ k.toInt) (ex : x = f k.toNatClampNeg) (hx : x.toInt = 9) : 100 ≤ k.toInt := by
  rcases Int.lt_or_le k.toInt 100 with h1 | h1
  · exfalso
    have h2 := h k.toInt.toNat (by omega)
    have h4 : k.toNatClampNeg = k.toInt.toNat := rfl
    rw [← h4, ← ex] at h2
    omega
  · exact h1
theorem RD_all {f : Nat → Int32} {t : Int32} (h : t.toInt ≤ 581) : RD f t := fun k hk _ => by omega
theorem RD_fst {f : Nat → Int32} {t r : Int32} (hr : Fst f r) (h : 319 - r.toInt + t.toInt ≤ 900) : RD f t := by
  intro k hk h1
  rcases Int.lt_or_le (k : Int) r.toInt with h2 | h2
  · have := hr.2.2.1 k h2
    omega
  · omega
/-- the digits of any long are few -/
def TDg (n : Int64) (k : Int32) : Prop := ∃ K : Nat, k.toInt = (K : Int) ∧ 981 ≤ K ∧ K ≤ 1000 ∧ (0 < n.toInt → n.toInt.toNat < 10 ^ (K - 981))
theorem TDg_0 {n : Int64} : TDg n 1000 := by
  have e : (1000 : Int32).toInt = 1000 := by decide
  have b := tl_b n
  refine ⟨1000, by omega, by omega, by omega, fun _ => ?_⟩
  show n.toInt.toNat < 10 ^ 19
  omega
theorem TDg_lin {n : Int64} {k : Int32} (h : TDg n k) : 981 ≤ k.toInt ∧ k.toInt ≤ 1000 := by
  obtain ⟨K, h1, h2, h3, -⟩ := h
  omega
theorem TDg_step {n n' : Int64} {k k' : Int32} (h : TDg n k) (hn : 0 < n.toInt) (en : n' = n / 10) (ek : k' = k + (-1)) : TDg n' k' := by
  obtain ⟨K, h1, h2, h3, h4⟩ := h
  have n1 : (-1 : Int32).toInt = -1 := by decide
  have n10 : (10 : Int64).toInt = 10 := by decide
  have tk := ti_add ek
  have tn := tl_divE en (by decide) (by omega)
  rw [n10] at tn
  have h5 := h4 hn
  have h6 : 982 ≤ K := by
    rcases Nat.lt_or_ge 981 K with h9 | h9
    · omega
    · exfalso
      have : K - 981 = 0 := by omega
      rw [this] at h5
      omega
  obtain ⟨M, rfl⟩ : ∃ M, K = M + 1 := ⟨K - 1, by omega⟩
  refine ⟨M, by omega, by omega, by omega, fun _ => ?_⟩
  rw [show M + 1 - 981 = (M - 981) + 1 by omega, Nat.pow_succ] at h5
  generalize 10 ^ (M - 981) = P at h5 ⊢
  omega
/-- quotes stand in the format -/
def qok (w : Int32) : Prop := 0 ≤ w.toInt ∧ w.toInt / 256 + w.toInt % 256 ≤ 256
def QK (K W : Nat → Int32) : Prop := ∀ i : Nat, (K i).toInt = 14 → qok (W i)
theorem QK_set {K W K' W' : Nat → Int32} {i k w : Int32} (eK : K' = upd K i.toNatClampNeg k) (eW : W' = upd W i.toNatClampNeg w) (h : QK K W) (hq : k.toInt = 14 → 0 ≤ w.toInt ∧ w.toInt / 256 + w.toInt % 256 ≤ 256) : QK K' W' := by
  intro j
  rw [eK, eW]; unfold upd
  split
  · exact hq
  · exact h j
theorem QK_at {K W : Nat → Int32} {i : Nat} {x y : Int32} (h : QK K W) (ex : x = K i) (ey : y = W i) (hx : x.toInt = 14) : 0 ≤ y.toInt ∧ y.toInt / 256 + y.toInt % 256 ≤ 256 := by
  rw [ey]; exact h i (by rw [← ex]; exact hx)
theorem QK_copy {K W K' W' K0 W0 : Nat → Int32} {i k w : Int32} (eK : K' = upd K i.toNatClampNeg k) (eW : W' = upd W i.toNatClampNeg w) (ek : k = K0 i.toNatClampNeg) (ew : w = W0 i.toNatClampNeg) (h : QK K W) (h0 : QK K0 W0) : QK K' W' :=
  QK_set eK eW h (fun h1 => by rw [ew]; exact h0 _ (by rw [← ek]; exact h1))
def hereF (f : Nat → Int32) (s k : Int32) : Int32 := if k < s then f k.toNatClampNeg else 0
theorem hereF_in {f : Nat → Int32} {s k x : Int32} (h : k.toInt < s.toInt) (ex : x = f k.toNatClampNeg) : x = hereF f s k := by
  unfold hereF; rw [if_pos ((fa_lt k s).mpr h)]; exact ex
theorem hereF_out {f : Nat → Int32} {s k : Int32} (h : ¬ k.toInt < s.toInt) : (0 : Int32) = hereF f s k := by
  unfold hereF; rw [if_neg (fun h9 => h ((fa_lt k s).mp h9))]
theorem hereF_eq {f : Nat → Int32} {s k1 k2 x y : Int32} (h1 : x = hereF f s k1) (h2 : y = hereF f s k2) (h : k1.toInt = k2.toInt) : x.toInt = y.toInt := by
  rw [h1, h2, show k1 = k2 from (fa_eq k1 k2).mpr h]
theorem hereF_end {f : Nat → Int32} {s k x : Int32} (h1 : x = hereF f s k) (h : s.toInt ≤ k.toInt) : x.toInt = 0 := by
  rw [h1]; unfold hereF; rw [if_neg (fun h9 => by have := (fa_lt k s).mp h9; omega)]; decide
/-- whole numbers of so many digits -/
def DN (n : Int32) (v : Int64) : Prop := 0 ≤ n.toInt ∧ n.toInt ≤ 10 ∧ 0 ≤ v.toInt ∧ v.toInt.toNat < 10 ^ n.toInt.toNat
theorem DN_0 : DN 0 0 := by
  have e : (0 : Int32).toInt = 0 := by decide
  have e2 : (0 : Int64).toInt = 0 := by decide
  refine ⟨by omega, by omega, by omega, ?_⟩
  rw [e, e2]; decide
theorem DN_lin {n : Int32} {v : Int64} (h : DN n v) : 0 ≤ n.toInt ∧ n.toInt ≤ 10 ∧ 0 ≤ v.toInt ∧ v.toInt < 10000000000 := by
  obtain ⟨h1, h2, h3, h4⟩ := h
  have h5 : (10 : Nat) ^ n.toInt.toNat ≤ 10 ^ 10 := Nat.pow_le_pow_right (by decide) (by omega)
  refine ⟨h1, h2, h3, ?_⟩
  generalize (10 : Nat) ^ n.toInt.toNat = P at h4 h5
  omega
theorem DN_step {n n' : Int32} {v v' : Int64} (h : DN n v) (hn : n.toInt < 10) (c : Int) (hc : 48 ≤ c ∧ c ≤ 57) (hv : v'.toInt = 10 * v.toInt + c - 48) (en : n' = n + 1) : DN n' v' := by
  obtain ⟨h1, h2, h3, h4⟩ := h
  have n1 : (1 : Int32).toInt = 1 := by decide
  have t := ti_add en
  refine ⟨by omega, by omega, by omega, ?_⟩
  rw [show n'.toInt.toNat = n.toInt.toNat + 1 by omega, Nat.pow_succ]
  generalize (10 : Nat) ^ n.toInt.toNat = P at h4
  omega
/-- what 'tenths' answers: as many as there are -/
def TS (K W : Nat → Int32) (i b : Int32) (n : Nat) : Prop := i.toInt + 1 + n < b.toInt ∧ (K (i.toInt + 1 + n).toNat).toInt = 1 ∧ (W (i.toInt + 1 + n).toNat).toInt = 48
def TN (K W : Nat → Int32) (i b : Int32) (r : Int32) : Prop := 0 ≤ r.toInt ∧ r.toInt ≤ 3 ∧ (∀ n : Nat, (n : Int) < r.toInt → TS K W i b n) ∧ (r.toInt < 3 → ¬ TS K W i b r.toInt.toNat)
/-- whether tenths are asked for there -/
def TG (K W : Nat → Int32) (i a : Int32) : Prop := a.toInt < i.toInt ∧ (K i.toInt.toNat).toInt = 2 ∧ ((K (i.toInt - 1).toNat).toInt = 10 ∨ (K (i.toInt - 1).toNat).toInt = 12) ∧ (W (i.toInt - 1).toNat / 8).toInt = 115
def TT (K W : Nat → Int32) (i a b r : Int32) : Prop := (TG K W i a ∧ TN K W i b r) ∨ (¬ TG K W i a ∧ r.toInt = 0)
theorem TN_one {K W : Nat → Int32} {i b r q : Int32} (h1 : TN K W i b r) (h2 : TN K W i b q) : r.toInt ≤ q.toInt := by
  rcases Int.lt_or_le q.toInt r.toInt with h | h
  · exfalso
    exact h2.2.2.2 (by have := h1.2.1; omega) (h1.2.2.1 q.toInt.toNat (by have := h2.1; omega))
  · exact h
theorem TT_one {K W : Nat → Int32} {i a b r q : Int32} (h1 : TT K W i a b r) (h2 : TT K W i a b q) : r.toInt ≤ q.toInt := by
  rcases h1 with ⟨g1, h1⟩ | ⟨g1, h1⟩ <;> rcases h2 with ⟨g2, h2⟩ | ⟨g2, h2⟩
  · exact TN_one h1 h2
  · exact absurd g1 g2
  · exact absurd g2 g1
  · omega
theorem TT_lin {K W : Nat → Int32} {i a b r : Int32} (h : TT K W i a b r) : 0 ≤ r.toInt ∧ r.toInt ≤ 3 := by
  rcases h with ⟨-, h⟩ | ⟨-, h⟩
  · exact ⟨h.1, h.2.1⟩
  · omega
/-- the loop of 'tenths' -/
def TL (K W : Nat → Int32) (i b n : Int32) : Prop := 0 ≤ n.toInt ∧ n.toInt ≤ 3 ∧ ∀ m : Nat, (m : Int) < n.toInt → TS K W i b m
theorem TL_0 {K W : Nat → Int32} {i b : Int32} : TL K W i b 0 := ⟨by decide, by decide, fun m h => by have e : (0 : Int32).toInt = 0 := (by decide); omega⟩
theorem TL_lin {K W : Nat → Int32} {i b n : Int32} (h : TL K W i b n) : 0 ≤ n.toInt ∧ n.toInt ≤ 3 := ⟨h.1, h.2.1⟩
theorem TL_step {K W : Nat → Int32} {i b n n' p q x y : Int32} (h : TL K W i b n) (hn : n.toInt < 3) (hi : 0 ≤ i.toInt) (hp : p.toInt = i.toInt + 1 + n.toInt) (hq : q.toInt = i.toInt + 1 + n.toInt) (hb : i.toInt + 1 + n.toInt < b.toInt) (ex : x = K p.toNatClampNeg) (hx : x.toInt = 1) (ey : y = W q.toNatClampNeg) (hy : y.toInt = 48) (en : n' = n + 1) : TL K W i b n' := by
  obtain ⟨h0, h1, h2⟩ := h
  have t := ti_add en
  have n1 : (1 : Int32).toInt = 1 := by decide
  refine ⟨by omega, by omega, fun m hm => ?_⟩
  by_cases h3 : (m : Int) < n.toInt
  · exact h2 m h3
  · have h4 : (m : Int) = n.toInt := by omega
    have h5 : p.toNatClampNeg = (i.toInt + 1 + m).toNat := by
      show p.toInt.toNat = _
      rw [hp, h4]
    have h6 : q.toNatClampNeg = (i.toInt + 1 + m).toNat := by
      show q.toInt.toNat = _
      rw [hq, h4]
    rw [h5] at ex
    rw [h6] at ey
    exact ⟨by omega, by rw [← ex]; exact hx, by rw [← ey]; exact hy⟩
theorem TN_3 {K W : Nat → Int32} {i b n : Int32} (h : TL K W i b n) (hn : 3 ≤ n.toInt) : TN K W i b n := ⟨h.1, h.2.1, h.2.2, fun h9 => by omega⟩
theorem TN_b {K W : Nat → Int32} {i b n : Int32} (h : TL K W i b n) (hb : b.toInt ≤ i.toInt + 1 + n.toInt) : TN K W i b n := by
  refine ⟨h.1, h.2.1, h.2.2, fun h9 h8 => ?_⟩
  have h7 := h8.1
  have h6 := h.1
  omega
theorem TN_k {K W : Nat → Int32} {i b n p x : Int32} (h : TL K W i b n) (hi : 0 ≤ i.toInt) (hp : p.toInt = i.toInt + 1 + n.toInt) (ex : x = K p.toNatClampNeg) (hx : ¬ x.toInt = 1) : TN K W i b n := by
  refine ⟨h.1, h.2.1, h.2.2, fun h9 h8 => hx ?_⟩
  have h5 : p.toNatClampNeg = (i.toInt + 1 + (n.toInt.toNat : Int)).toNat := by
    show p.toInt.toNat = _
    have := h.1
    omega
  rw [ex, h5]; exact h8.2.1
theorem TN_w {K W : Nat → Int32} {i b n p x : Int32} (h : TL K W i b n) (hi : 0 ≤ i.toInt) (hp : p.toInt = i.toInt + 1 + n.toInt) (ex : x = W p.toNatClampNeg) (hx : ¬ x.toInt = 48) : TN K W i b n := by
  refine ⟨h.1, h.2.1, h.2.2, fun h9 h8 => hx ?_⟩
  have h5 : p.toNatClampNeg = (i.toInt + 1 + (n.toInt.toNat : Int)).toNat := by
    show p.toInt.toNat = _
    have := h.1
    omega
  rw [ex, h5]; exact h8.2.2
/-- the most tenths so far -/
def MX (K W : Nat → Int32) (a b k r : Int32) : Prop := 0 ≤ r.toInt ∧ r.toInt ≤ 3 ∧ ∀ i q : Int32, a.toInt ≤ i.toInt → i.toInt < k.toInt → TT K W i a b q → q.toInt ≤ r.toInt
theorem MX_0 {K W : Nat → Int32} {a b : Int32} : MX K W a b a 0 := ⟨by decide, by decide, fun i q h1 h2 _ => by omega⟩
theorem MX_lin {K W : Nat → Int32} {a b k r : Int32} (h : MX K W a b k r) : 0 ≤ r.toInt ∧ r.toInt ≤ 3 := ⟨h.1, h.2.1⟩
theorem MX_step {K W : Nat → Int32} {a b k k' r r' t : Int32} (h : MX K W a b k r) (ht : TT K W k a b t) (h1 : r.toInt ≤ r'.toInt) (h2 : t.toInt ≤ r'.toInt) (h3 : r'.toInt ≤ 3) (ek : k'.toInt = k.toInt + 1) : MX K W a b k' r' := by
  obtain ⟨g1, g2, g3⟩ := h
  refine ⟨by omega, h3, fun i q h4 h5 h6 => ?_⟩
  by_cases h7 : i.toInt < k.toInt
  · have := g3 i q h4 h7 h6
    omega
  · have h8 : i = k := (fa_eq i k).mpr (by omega)
    subst h8
    have := TT_one h6 ht
    omega
/-- parts for that many tenths -/
def PT (p r : Int32) : Prop := (p.toInt = 1 ∧ r.toInt ≤ 0) ∨ (p.toInt = 10 ∧ r.toInt ≤ 1) ∨ (p.toInt = 100 ∧ r.toInt ≤ 2) ∨ (p.toInt = 1000 ∧ r.toInt ≤ 3)
theorem PT_lin {p r : Int32} (h : PT p r) : 1 ≤ p.toInt ∧ p.toInt ≤ 1000 := by
  rcases h with h | h | h | h <;> omega
/-- tenths of an item, and the parts there are -/
def PI (K W : Nat → Int32) (i a b p : Int32) : Prop := 1 ≤ p.toInt ∧ p.toInt ≤ 1000 ∧ ∀ q : Int32, TT K W i a b q → PT p q
theorem PI_of {K W : Nat → Int32} {a b k r i p : Int32} (h : MX K W a b k r) (hp : PT p r) (h1 : a.toInt ≤ i.toInt) (h2 : i.toInt < k.toInt) : PI K W i a b p := by
  have h3 := PT_lin hp
  refine ⟨h3.1, h3.2, fun q hq => ?_⟩
  have h4 := h.2.2 i q h1 h2 hq
  unfold PT at hp ⊢
  omega
theorem PI_lin {K W : Nat → Int32} {i a b p : Int32} (h : PI K W i a b p) : 1 ≤ p.toInt ∧ p.toInt ≤ 1000 := ⟨h.1, h.2.1⟩
def lbM (s k : Int32) : Nat := if s.toInt = 1 then (300 - k.toInt).toNat else (k.toInt + 5).toNat
theorem lbM_step {s k k' : Int32} (hs : s.toInt = 1 ∨ s.toInt = -1) (h1 : 0 ≤ k.toInt) (h2 : k.toInt < 300) (ek : k'.toInt = k.toInt + s.toInt) : lbM s k' < lbM s k := by
  unfold lbM
  rcases hs with hs | hs
  · rw [if_pos hs, if_pos hs]; omega
  · rw [if_neg (by omega), if_neg (by omega)]; omega
theorem wn_step {v q y : Int64} (ey : y = v / q) (hq : 1 ≤ q.toInt) (hy : 9 < y.toInt) : 10 * q.toInt ≤ v.toInt := by
  have hq2 : 0 < q.toInt ∧ q ≠ -1 := ⟨by omega, fun h9 => by rw [h9] at hq; revert hq; decide⟩
  have t := tl_div ey hq2
  rcases Int.le_total 0 v.toInt with h | h
  · obtain ⟨t1, t2, t3, t4⟩ := t.1 h
    have h1 : 10 * q.toInt ≤ y.toInt * q.toInt := Int.mul_le_mul_of_nonneg_right (by omega) (by omega)
    omega
  · have := t.2 h
    omega
theorem fl_pos {p q y r : Int32} (ey : y = p / q) (er : r = y * q) (hp : 0 ≤ p.toInt) (hp2 : p.toInt ≤ 1000000) (hq : 1 ≤ q.toInt) : r.toInt ≤ p.toInt ∧ p.toInt < r.toInt + q.toInt := by
  have hq2 : 0 < q.toInt ∧ q ≠ -1 := ⟨by omega, fun h9 => by rw [h9] at hq; revert hq; decide⟩
  have t := (ti_div ey hq2).1 hp
  have h1 : 0 ≤ y.toInt * q.toInt := Int.mul_nonneg t.1 (by omega)
  have h2 := (ti_mul er).2 (by omega) (by omega)
  omega
theorem fl_neg {p q w y z r : Int32} (hw : w.toInt = q.toInt - 1 - p.toInt) (ey : y = w / q) (ez : z = -y) (er : r = z * q) (hp : p.toInt < 0) (hp2 : -1000000 ≤ p.toInt) (hq : 1 ≤ q.toInt) (hq9 : q.toInt ≤ 1000) : r.toInt ≤ p.toInt ∧ p.toInt < r.toInt + q.toInt := by
  have hq2 : 0 < q.toInt ∧ q ≠ -1 := ⟨by omega, fun h9 => by rw [h9] at hq; revert hq; decide⟩
  have t := (ti_div ey hq2).1 (by omega)
  have hz : z.toInt = -y.toInt := by
    have h9 := ti_sub (x := z) (a := 0) (b := y) (by rw [ez]; simp)
    have n0 : (0 : Int32).toInt = 0 := by decide
    omega
  have h1 : 0 ≤ y.toInt * q.toInt := Int.mul_nonneg t.1 (by omega)
  have h2 := (ti_mul er).2
  rw [hz, Int.neg_mul] at h2
  have h3 := h2 (by omega) (by omega)
  omega
theorem inR_nzd {v : UInt64} (h : inR v) : inR (nzd v) := by
  unfold nzd
  split
  · exact ⟨by decide +kernel, by decide +kernel⟩
  · exact h
theorem inR_0 : inR FP.dconst0 := ⟨by decide +kernel, by decide +kernel⟩
theorem ap_ge {v x : UInt64} {e y : Int32} (h : AP2 v x e) (hv : PF v) (ey : y = Op.cmpValue (FP.dcmp x 4841369599423283200) CmpOp.g) (hy : 0 ≤ y.toInt) : 2 ^ 1126 ≤ zn x := by
  have hc := cmp_zn (h hv).1 z52.1 ey
  rw [z52.2] at hc
  generalize (2 : Nat) ^ 1126 = P at hc ⊢
  omega
theorem DN_9 {n : Int32} {v : Int64} (h : DN n v) (hn : n.toInt ≤ 9) : 0 ≤ v.toInt ∧ v.toInt ≤ 999999999 := by
  obtain ⟨h1, h2, h3, h4⟩ := h
  have h5 : (10 : Nat) ^ n.toInt.toNat ≤ 10 ^ 9 := Nat.pow_le_pow_right (by decide) (by omega)
  refine ⟨h3, ?_⟩
  generalize (10 : Nat) ^ n.toInt.toNat = P at h4 h5
  omega
theorem tg_a {K : Nat → Int32} {i x y : Int32} (ex : x = K y.toNatClampNeg) (hy : y.toInt = i.toInt - 1) : (K (i.toInt - 1).toNat).toInt = x.toInt := by
  have h5 : y.toNatClampNeg = (i.toInt - 1).toNat := by
    show y.toInt.toNat = _
    rw [hy]
  rw [ex, h5]
theorem TG_of {K W : Nat → Int32} {i a x y z q : Int32} (h1 : a.toInt < i.toInt) (ex : x = K i.toNatClampNeg) (hx : x.toInt = 2) (h3 : (K (i.toInt - 1).toNat).toInt = 10 ∨ (K (i.toInt - 1).toNat).toInt = 12) (ey : y = W q.toNatClampNeg) (hq : q.toInt = i.toInt - 1) (ez : z = y / 8) (hz : z.toInt = 115) : TG K W i a := by
  have h5 : q.toNatClampNeg = (i.toInt - 1).toNat := by
    show q.toInt.toNat = _
    rw [hq]
  refine ⟨h1, ?_, h3, ?_⟩
  · show (K i.toNatClampNeg).toInt = 2
    rw [← ex]; exact hx
  · rw [← h5, ← ey, ← ez]; exact hz
theorem TT_no1 {K W : Nat → Int32} {i a b : Int32} (h : i.toInt ≤ a.toInt) : TT K W i a b 0 := Or.inr ⟨fun h9 => by have := h9.1; omega, by decide⟩
theorem TT_no2 {K W : Nat → Int32} {i a b x : Int32} (ex : x = K i.toNatClampNeg) (hx : ¬ x.toInt = 2) : TT K W i a b 0 := Or.inr ⟨fun h9 => hx (by rw [ex]; exact h9.2.1), by decide⟩
theorem TT_no3 {K W : Nat → Int32} {i a b x y p q : Int32} (ex : x = K p.toNatClampNeg) (hp : p.toInt = i.toInt - 1) (hx : ¬ x.toInt = 10) (ey : y = K q.toNatClampNeg) (hq : q.toInt = i.toInt - 1) (hy : ¬ y.toInt = 12) : TT K W i a b 0 := by
  refine Or.inr ⟨fun h9 => ?_, by decide⟩
  rcases h9.2.2.1 with h | h
  · rw [tg_a ex hp] at h; exact hx h
  · rw [tg_a ey hq] at h; exact hy h
theorem TT_no4 {K W : Nat → Int32} {i a b y z q : Int32} (ey : y = W q.toNatClampNeg) (hq : q.toInt = i.toInt - 1) (ez : z = y / 8) (hz : ¬ z.toInt = 115) : TT K W i a b 0 := by
  refine Or.inr ⟨fun h9 => hz ?_, by decide⟩
  have h5 : q.toNatClampNeg = (i.toInt - 1).toNat := by
    show q.toInt.toNat = _
    rw [hq]
  rw [ez, ey, h5]; exact h9.2.2.2
def RD2 (f : Nat → Int32) (n p : Int32) : Prop := ∀ t : Int32, t.toInt = n.toInt - p.toInt → RD f t
theorem RD2_0 {f : Nat → Int32} {n : Int32} (h : n.toInt ≤ 512) : RD2 f n 0 := fun t ht => RD_all (by have e : (0 : Int32).toInt = 0 := (by decide); omega)
theorem RD2_fl {f : Nat → Int32} {n p r s : Int32} (hf : Fst f r) (h : 319 - r.toInt + n.toInt < p.toInt + s.toInt) (hs : s.toInt ≤ 256) : RD2 f n p := fun t ht => RD_fst hf (by omega)
def PA (K W : Nat → Int32) (a b p : Int32) : Prop := ∀ i q : Int32, a.toInt ≤ i.toInt → i.toInt < b.toInt → TT K W i a b q → PT p q
theorem PA_of {K W : Nat → Int32} {a b k r p : Int32} (h : MX K W a b k r) (hk : b.toInt ≤ k.toInt) (hp : PT p r) : PA K W a b p := by
  intro i q h1 h2 hq
  have h4 := h.2.2 i q h1 (by omega) hq
  unfold PT at hp ⊢
  omega
theorem PI_of2 {K W : Nat → Int32} {a b i p : Int32} (h : PA K W a b p) (h0 : 1 ≤ p.toInt ∧ p.toInt ≤ 1000) (h1 : a.toInt ≤ i.toInt) (h2 : i.toInt < b.toInt) : PI K W i a b p := ⟨h0.1, h0.2, fun q hq => h i q h1 h2 hq⟩
theorem Cmp_gt2 {a b : Nat → Int32} {k x y x' y' : Int32} (h : CIn a b k) (hk : ¬ 1420 ≤ k.toInt) (ex : x = a k.toNatClampNeg) (ey : y = b k.toNatClampNeg) (hne : ¬ x.toInt = y.toInt) (ex' : x' = a k.toNatClampNeg) (ey' : y' = b k.toNatClampNeg) (hxy : ¬ x'.toInt < y'.toInt) : Cmp a b 1 :=
  Cmp_gt h hk ex ey hne (by rw [ex, ey, ← ex', ← ey']; exact hxy)
theorem size_neg2 {v r : UInt64} {x : Int32} (ex : x = Op.cmpValue (FP.dcmp v FP.dconst0) CmpOp.g) (hx : x.toInt < 0) (er : r = FP.dneg v) : SZ v r := by
  rw [er]; exact size_neg ex hx
theorem ti_neg {z x : Int32} (h : z = -x) : (-2147483648 ≤ z.toInt ∧ z.toInt < 2147483648) ∧ (z.toInt = -x.toInt ∨ x.toInt = -2147483648) := by
  have h9 := ti_sub (x := z) (a := 0) (b := x) (by rw [h]; simp)
  have n0 : (0 : Int32).toInt = 0 := by decide
  have b := ti_b x
  omega
