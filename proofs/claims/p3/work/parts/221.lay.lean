theorem nar8 (x : Int32) : (x <<< ((24 : Int32) &&& 31)) >>> ((24 : Int32) &&& 31) = x.toInt8.toInt32 := by
  rw [show ((24 : Int32) &&& 31) = 24 from by decide]
  refine Int32.toBitVec_inj.1 (BitVec.eq_of_toInt_eq ?_)
  show (BitVec.sshiftRight' (x.toBitVec <<< ((24 : Int32).toBitVec.smod 32)) ((24 : Int32).toBitVec.smod 32)).toInt = ((x.toBitVec.signExtend 8).signExtend 32).toInt
  rw [show ((24 : Int32).toBitVec.smod 32) = 24#32 from by decide, BitVec.toInt_sshiftRight', BitVec.toInt_signExtend_of_le (by omega), BitVec.toInt_signExtend, BitVec.shiftLeft_eq', BitVec.toInt_shiftLeft, BitVec.toInt_eq_toNat_bmod, show (24#32 : BitVec 32).toNat = 24 from rfl, Int.shiftRight_eq_div_pow, Nat.shiftLeft_eq]
  generalize x.toBitVec.toNat = v
  unfold Int.bmod
  simp only [Nat.reducePow, Nat.reduceLeDiff, Nat.min_eq_left]
  omega
theorem nar16 (x : Int32) : (x <<< ((16 : Int32) &&& 31)) >>> ((16 : Int32) &&& 31) = x.toInt16.toInt32 := by
  rw [show ((16 : Int32) &&& 31) = 16 from by decide]
  refine Int32.toBitVec_inj.1 (BitVec.eq_of_toInt_eq ?_)
  show (BitVec.sshiftRight' (x.toBitVec <<< ((16 : Int32).toBitVec.smod 32)) ((16 : Int32).toBitVec.smod 32)).toInt = ((x.toBitVec.signExtend 16).signExtend 32).toInt
  rw [show ((16 : Int32).toBitVec.smod 32) = 16#32 from by decide, BitVec.toInt_sshiftRight', BitVec.toInt_signExtend_of_le (by omega), BitVec.toInt_signExtend, BitVec.shiftLeft_eq', BitVec.toInt_shiftLeft, BitVec.toInt_eq_toNat_bmod, show (16#32 : BitVec 32).toNat = 16 from rfl, Int.shiftRight_eq_div_pow, Nat.shiftLeft_eq]
  generalize x.toBitVec.toNat = v
  unfold Int.bmod
  simp only [Nat.reducePow, Nat.reduceLeDiff, Nat.min_eq_left]
  omega
/-- a sheet is the same for both -/
def sht (M W : zMem) (i : Nat) : Prop := (M (81 + 2 * i) 0 = -1 ∧ M (81 + 2 * i) 1 = 0 ∧ W 16 i = -4) ∨ ∃ l z, l < 3 ∧ z ≤ 40 ∧ M (81 + 2 * i) 0 = nI l ∧ W 16 i = nI l ∧ M (81 + 2 * i) 1 = nI z ∧ W 17 i = nI z ∧ ∀ j, j < z → W 18 (40 * i + j) = M (81 + 2 * i + 1) j
def shs (M W : zMem) : Prop := ∀ i, i < 4 → sht M W i
theorem lt_pred {j z : Nat} (hj : j < 2147483648) (hz : z ≤ 40) : nI j ≤ nI z - 1 ↔ j < z := by
  rcases Nat.eq_zero_or_pos z with h | h
  · subst h
    refine ⟨fun w => ?_, fun w => absurd w (by omega)⟩
    have : (0 : Int32) ≤ -1 := Int32.le_trans (nI_pos' hj) w
    exact absurd this (by decide)
  · have e : nI z - 1 = nI (z - 1) := q_sub (a := z) (b := 1) h
    rw [e, nI_leI hj (by omega)]
    omega
theorem p_lay {M W : zMem} {a1 a2 a3 : Int32} {P : zMem → zMem → Prop} (hs : shs M W) (hP0 : P M W) (hP : ∀ i j v, i < 4 → j < 40 → P (zup M (81 + 2 * i + 1) j v) (zup W 18 (40 * i + j) v)) : wp_Main_lay a1 a2 a3 M (fun x M' => wp_Model_lay a1 a2 a3 W (fun y W' => x = y ∧ P M' W')) := by
  refine xt_isSheet (fun i hi ei => ⟨fun _ => ?_, fun q => absurd q (by decide)⟩) (fun nh => ⟨fun q => absurd rfl q, fun _ => in_no (hi := 3) rfl nh ⟨fun q => absurd rfl q, fun _ => ⟨rfl, hP0⟩⟩⟩)
  subst ei
  have v4 : vp_in (nI i) 4 := vp_in_nI (by omega) (by omega)
  refine ⟨v4, ?_⟩
  rw [q_ix (by omega)]
  rcases hs i hi with ⟨s0, -, w16⟩ | ⟨l, z, hl, hz, s0, w16, s1, w17, hc⟩
  · refine ⟨fun q => absurd s0 q, fun _ => in_yes (hi := 3) rfl (by omega) (by omega) ⟨fun _ => ⟨v4, ?_⟩, fun q => absurd q (by decide)⟩⟩
    rw [q_ix (by omega)]
    exact ⟨fun q => absurd w16 q, fun _ => ⟨rfl, hP0⟩⟩
  · have nm1 : ¬ nI l = -1 := fun w => absurd w (by rcases (show l = 0 ∨ l = 1 ∨ l = 2 by omega) with rfl | rfl | rfl <;> decide)
    have nm4 : ¬ nI l = -4 := fun w => absurd w (by rcases (show l = 0 ∨ l = 1 ∨ l = 2 by omega) with rfl | rfl | rfl <;> decide)
    refine ⟨fun _ => ?_, fun q => absurd (s0.symm.trans q) nm1⟩
    rw [s1]
    have ref : ∀ (K : Int32 → zMem → Prop), (¬ (0 ≤ a2 ∧ a2 ≤ nI z - 1) → K (-12) W) → (0 ≤ a2 → a2 ≤ nI z - 1 → vp_in (nI i) 4 ∧ (¬ (W 16 (ix (nI i))) = 0 → vp_in (nI i) 4 ∧ (¬ (W 16 (ix (nI i))) = 1 → vp_in ((40 * nI i) + a2) 160 ∧ ∀ zm5 : zMem, zm5 = zup W 18 (ix ((40 * nI i) + a2)) a3 → K 1 zm5) ∧ ((W 16 (ix (nI i))) = 1 → vp_in ((40 * nI i) + a2) 160 ∧ ∀ zm6 : zMem, zm6 = zup W 18 (ix ((40 * nI i) + a2)) ((a3 <<< (16 &&& 31)) >>> (16 &&& 31)) → K 1 zm6)) ∧ ((W 16 (ix (nI i))) = 0 → vp_in ((40 * nI i) + a2) 160 ∧ ∀ zm7 : zMem, zm7 = zup W 18 (ix ((40 * nI i) + a2)) ((a3 <<< (24 &&& 31)) >>> (24 &&& 31)) → K 1 zm7)) → wp_Model_lay (nI i) a2 a3 W K := fun K h0 h1 => by
      refine in_yes (hi := 3) rfl (by omega) (by omega) ⟨fun _ => ⟨v4, ?_⟩, fun q => absurd q (by decide)⟩
      have e16 : W 16 (ix (nI i)) = nI l := by rw [q_ix (by omega)]; exact w16
      have e17 : W 17 (ix (nI i)) = nI z := by rw [q_ix (by omega)]; exact w17
      refine ⟨fun _ => ⟨v4, ?_⟩, fun q => absurd (e16.symm.trans q) nm4⟩
      rw [e17]
      exact mt_in (lo' := 0) (hi' := nI z - 1) rfl rfl (fun c1 c2 => ⟨fun _ => h1 c1 c2, fun q => absurd q (by decide)⟩) (fun c => ⟨fun q => absurd rfl q, fun _ => h0 c⟩)
    refine ⟨fun c => ref _ (fun _ => ⟨rfl, hP0⟩) (fun q _ => absurd c (Int32.not_lt.mpr q)), fun c => ?_⟩
    obtain ⟨j, hj, rfl⟩ := nI_of c
    refine ⟨fun c2 => ?_, fun c2 => ref _ (fun _ => ⟨rfl, hP0⟩) (fun _ q => absurd ((nI_ltI (by omega) (by omega)).mpr ((lt_pred (by omega) hz).mp q)) c2)⟩
    have jz : j < z := (nI_ltI (by omega) (by omega)).mp c2
    have e40 : (40 : Int32) * nI i + nI j = nI (40 * i + j) := by rw [show (40 : Int32) = nI 40 from rfl, q_mul, q_add]
    have vc : vp_in (nI (40 * i + j)) 160 := vp_in_nI (by omega) (by omega)
    have vj : vp_in (nI j) 40 := vp_in_nI (by omega) (by omega)
    have no : ¬ ((0 : Int32) ≤ nI j ∧ nI j ≤ nI z - 1) → False := fun q => q ⟨nI_pos' (by omega), (lt_pred (by omega) hz).mpr jz⟩
    have e16 : W 16 (ix (nI i)) = nI l := by rw [q_ix (by omega)]; exact w16
    unfold wp_Sheet_put
    rw [s0, q_ix (by omega)]
    have fin : ∀ (v : Int32) (M' : zMem), M' = zup M (81 + 2 * i + 1) j v → (¬ (nI l) = 0 → (¬ (nI l) = 1 → v = a3) ∧ (nI l = 1 → v = a3.toInt16.toInt32)) → (nI l = 0 → v = a3.toInt8.toInt32) → wp_Model_lay (nI i) (nI j) a3 W (fun y W' => 1 = y ∧ P M' W') := fun v M' eM f1 f0 => by
      refine ref _ (fun q => absurd (no q) (fun h => h)) (fun _ _ => ?_)
      rw [e16, e40, q_ix (by omega)]
      have pp : ∀ W', W' = zup W 18 (40 * i + j) v → P M' W' := fun W' eW => by rw [eM, eW]; exact hP i j v hi (by omega)
      refine ⟨v4, fun c0 => ⟨v4, fun c1 => ⟨vc, fun W' eW => ⟨rfl, pp W' ?_⟩⟩, fun c1 => ⟨vc, fun W' eW => ⟨rfl, pp W' ?_⟩⟩⟩, fun c0 => ⟨vc, fun W' eW => ⟨rfl, pp W' ?_⟩⟩⟩
      · rw [eW, (f1 c0).1 c1]
      · rw [eW, (f1 c0).2 c1, nar16]
      · rw [eW, f0 c0, nar8]
    refine ⟨fun c0 => ⟨fun c1 => ⟨vj, fun M' eM => fin a3 M' eM (fun _ => ⟨fun _ => rfl, fun w => absurd w c1⟩) (fun w => absurd w c0)⟩, fun c1 => ⟨vj, fun M' eM => fin _ M' eM (fun _ => ⟨fun w => absurd c1 w, fun _ => rfl⟩) (fun w => absurd w c0)⟩⟩, fun c0 => ⟨vj, fun M' eM => fin _ M' eM (fun w => absurd c0 w) (fun _ => rfl)⟩⟩
