theorem q_lit (n : Nat) : (OfNat.ofNat n : Int32) = nI n := by cases n <;> rfl
theorem q_add (a b : Nat) : nI a + nI b = nI (a + b) := nI_add a b
theorem q_mul (a b : Nat) : nI a * nI b = nI (a * b) := pk_mul a b
theorem q_sub {a b : Nat} (h : b ≤ a) : nI a - nI b = nI (a - b) := pk_sub h
theorem q_ix {n : Nat} (h : n < 2147483648) : ix (nI n) = n := nI_clamp h
theorem q_in {n N : Nat} (h : n < N) (hN : N < 2147483648) : vp_in (nI n) N = True := eq_true (vp_in_nI h hN)
theorem q_lt {a b : Nat} (ha : a < 2147483648) (hb : b < 2147483648) : (nI a < nI b) = (a < b) := propext (nI_ltI ha hb)
theorem q_le {a b : Nat} (ha : a < 2147483648) (hb : b < 2147483648) : (nI a ≤ nI b) = (a ≤ b) := propext (nI_leI ha hb)
theorem q_eq {a b : Nat} (ha : a < 2147483648) (hb : b < 2147483648) : (nI a = nI b) = (a = b) := propext (nI_eq ha hb)
theorem q_negT {c : Nat} (hc : c < 2147483648) : (-nI c).toInt = -(c : Int) := sb_negT hc
theorem q_nlt {a c : Nat} (h0 : 0 < c) (hc : c < 2147483648) (ha : a < 2147483648) : (nI a < -nI c) = False := eq_false (fun h => by
  have h1 := Int32.lt_iff_toInt_lt.mp h
  rw [nI_toInt ha, q_negT hc] at h1
  omega)
theorem q_nle {a c : Nat} (h0 : 0 < c) (hc : c < 2147483648) (ha : a < 2147483648) : (nI a ≤ -nI c) = False := eq_false (fun h => by
  have h1 := Int32.le_iff_toInt_le.mp h
  rw [nI_toInt ha, q_negT hc] at h1
  omega)
theorem q_ltn {a c : Nat} (h0 : 0 < c) (hc : c < 2147483648) (ha : a < 2147483648) : (-nI c < nI a) = True := eq_true (by
  apply Int32.lt_iff_toInt_lt.mpr
  rw [nI_toInt ha, q_negT hc]
  omega)
theorem q_len {a c : Nat} (h0 : 0 < c) (hc : c < 2147483648) (ha : a < 2147483648) : (-nI c ≤ nI a) = True := eq_true (by
  apply Int32.le_iff_toInt_le.mpr
  rw [nI_toInt ha, q_negT hc]
  omega)
theorem q_neq {a c : Nat} (h0 : 0 < c) (hc : c < 2147483648) (ha : a < 2147483648) : (nI a = -nI c) = False := eq_false (fun h => by
  have h1 := congrArg Int32.toInt h
  rw [nI_toInt ha, q_negT hc] at h1
  omega)
theorem q_eqn {a c : Nat} (h0 : 0 < c) (hc : c < 2147483648) (ha : a < 2147483648) : (-nI c = nI a) = False := eq_false (fun h => by
  have h1 := congrArg Int32.toInt h
  rw [nI_toInt ha, q_negT hc] at h1
  omega)
theorem zup_ne {M : zMem} {k j k' : Nat} {x : Int32} (h : k' ≠ k) : zup M k j x k' = M k' := by simp [zup, zset, h]
theorem zup_eq {M : zMem} {k j : Nat} {x : Int32} : zup M k j x k = upd (M k) j x := by simp [zup, zset]
theorem zset_ne {M : zMem} {k k' : Nat} {f : Nat → Int32} (h : k' ≠ k) : zset M k f k' = M k' := by simp [zset, h]
theorem zset_eq {M : zMem} {k : Nat} {f : Nat → Int32} : zset M k f k = f := by simp [zset]
theorem upd_eq {f : Nat → Int32} {k : Nat} {x : Int32} : upd f k x k = x := pk_us
theorem upd_ne {f : Nat → Int32} {k j : Nat} {x : Int32} (h : j ≠ k) : upd f k x j = f j := pk_un h
theorem upd_upd {f : Nat → Int32} {k : Nat} {x y : Int32} : upd (upd f k x) k y = upd f k y := by funext j; by_cases h : j = k <;> simp [upd, h]
theorem zup_zup {M : zMem} {k j : Nat} {x y : Int32} : zup (zup M k j x) k j y = zup M k j y := by
  funext a
  by_cases h : a = k
  · subst h
    rw [zup_eq, zup_eq, zup_eq, upd_upd]
  · rw [zup_ne h, zup_ne h, zup_ne h]
