def ge (k : Nat) (R : zMem → Bool → zMem → Prop) : Prop := ∀ M b M', R M b M' → lf k M M' ∧ (b = true → M' k 3 = M k 3) ∧ (b = false → ∃ c X, 1 ≤ c ∧ c ≤ 5 ∧ M' = rfs k (nI c) X)
theorem ge_bnd {k : Nat} {A B : zMem → Bool → zMem → Prop} (hA : ge k A) (hB : ge k B) : ge k (bnd A B) := by
  rintro M b M' ⟨b1, M1, h1, ⟨rfl, rfl, rfl⟩ | ⟨rfl, h⟩⟩
  · exact hA _ _ _ h1
  · obtain ⟨a1, a2, -⟩ := hA _ _ _ h1
    obtain ⟨c1, c2, c3⟩ := hB _ _ _ h
    exact ⟨a1.tr c1, fun e => (c2 e).trans (a2 rfl), c3⟩
theorem ge_pre {k : Nat} {B : zMem → Bool → zMem → Prop} {f : zMem → zMem} (hB : ge k B) (hf : ∀ M, lf k M (f M) ∧ f M k 3 = M k 3) : ge k (fun M => B (f M)) := by
  intro M b M' h
  obtain ⟨c1, c2, c3⟩ := hB _ _ _ h
  obtain ⟨f1, f2⟩ := hf M
  exact ⟨f1.tr c1, fun e => (c2 e).trans f2, c3⟩
theorem ge_tkn {k z : Nat} : ge k (tkn k z) := by
  rintro M b M' ⟨p, -, -, ⟨rfl, -, f, -⟩ | ⟨rfl, -, M1, f, -, rfl⟩⟩
  · exact ⟨f.lf, fun _ => f.2 3 (by omega) (by omega) (by omega) (by omega), fun w => by cases w⟩
  · exact ⟨f.lf.tr lf_rfs, fun w => (by cases w), fun _ => ⟨1, M1, by omega, by omega, rfl⟩⟩
theorem ge_rf {k c : Nat} {M M' : zMem} {b : Bool} (h1 : 1 ≤ c) (h5 : c ≤ 5) (hb : b = false) (e : M' = rfs k (nI c) M) : lf k M M' ∧ (b = true → M' k 3 = M k 3) ∧ (b = false → ∃ c X, 1 ≤ c ∧ c ≤ 5 ∧ M' = rfs k (nI c) X) := by
  subst hb e
  exact ⟨lf_rfs, fun w => (by cases w), fun _ => ⟨c, M, h1, h5, rfl⟩⟩
theorem ge_id {k : Nat} {M M' : zMem} {b : Bool} (hb : b = true) (e : M' = M) : lf k M M' ∧ (b = true → M' k 3 = M k 3) ∧ (b = false → ∃ c X, 1 ≤ c ∧ c ≤ 5 ∧ M' = rfs k (nI c) X) := by
  subst hb e
  exact ⟨fun _ _ => rfl, fun _ => rfl, fun w => by cases w⟩
theorem ge_rWi {k : Nat} {lo hi : Int32} : ge k (rWi k lo hi) := by
  rintro M b M' (⟨-, hb, e⟩ | ⟨-, -, hb, e⟩)
  · exact ge_rf (c := 3) (by omega) (by omega) hb e
  · exact ge_id hb e
theorem ge_rNu {k : Nat} {lo hi : Int32} : ge k (rNu k lo hi) := by
  rintro M b M' (⟨-, hb, e⟩ | ⟨-, h⟩)
  · exact ge_rf (c := 2) (by omega) (by omega) hb e
  · exact ge_rWi _ _ _ h
theorem ge_rSi {k : Nat} : ge k (rSi k) := by
  rintro M b M' (⟨-, hb, e⟩ | ⟨-, hb, e⟩)
  · exact ge_rf (c := 2) (by omega) (by omega) hb e
  · exact ge_id hb e
theorem ge_rN {k z : Nat} {lo hi : Int32} : ge k (rN k z lo hi) := ge_bnd ge_tkn ge_rNu
theorem ge_rS {k z : Nat} : ge k (rS k z) := ge_bnd ge_tkn ge_rSi
theorem up_3 {k c j : Nat} {x : Int32} {M : zMem} (h : k ≤ c) (h2 : c ≤ k + 5) (hj : c ≠ k ∨ j ≠ 3) : lf k M (zup M c j x) ∧ zup M c j x k 3 = M k 3 := by
  refine ⟨lf.up h h2, ?_⟩
  by_cases e : c = k
  · subst e
    rw [zup_eq, upd_ne (by omega)]
  · rw [zup_ne (Ne.symm e)]
theorem up_3t {k : Nat} {M M1 M2 : zMem} (a : lf k M M1 ∧ M1 k 3 = M k 3) (b : lf k M1 M2 ∧ M2 k 3 = M1 k 3) : lf k M M2 ∧ M2 k 3 = M k 3 := ⟨a.1.tr b.1, b.2.trans a.2⟩
theorem ge_rPi {k z : Nat} : ge k (rPi k z) := by
  rintro M b M' (⟨-, hb, e⟩ | ⟨-, -, h⟩)
  · exact ge_rf (c := 5) (by omega) (by omega) hb e
  · exact ge_bnd ge_rN (ge_pre ge_rS (fun M => up_3t (up_3 (by omega) (by omega) (by omega)) (up_3 (by omega) (by omega) (by omega)))) _ _ _ h
theorem ge_rWh {k z : Nat} : ge k (rWh k z) := by
  intro M b M' h
  refine ge_bnd (B := fun M1 b M' => ((((M1 (k + 1) 5) >>> ((M1 k 9) &&& 31)) &&& 1) = 1 ∧ b = false ∧ M' = rfs k 4 M1) ∨ (¬ (((M1 (k + 1) 5) >>> ((M1 k 9) &&& 31)) &&& 1) = 1 ∧ rS k z (zup M1 (k + 1) 5 ((M1 (k + 1) 5) ||| (1 <<< ((M1 k 9) &&& 31)))) b M')) ge_rN ?_ _ _ _ h
  rintro M b M' (⟨-, hb, e⟩ | ⟨-, h⟩)
  · exact ge_rf (c := 4) (by omega) (by omega) hb e
  · exact ge_pre (f := fun M1 => zup M1 (k + 1) 5 ((M1 (k + 1) 5) ||| (1 <<< ((M1 k 9) &&& 31)))) ge_rS (fun M => up_3 (by omega) (by omega) (by omega)) _ _ _ h
theorem ge_rNs {k z c : Nat} {lo hi : Int32} {C : zMem → Bool → zMem → Prop} (hc : k < c) (hc2 : c ≤ k + 5) (hC : ge k C) : ∀ m i, ge k (rNs k z c lo hi C m i) := by
  intro m
  induction m with
  | zero => intro i; exact hC
  | succ m ih => intro i; exact ge_bnd ge_rN (ge_pre (ih (i + 1)) (fun M => up_3 (by omega) (by omega) (by omega)))
theorem ge_rSo {k z n : Nat} : ge k (rSo k z n) := by
  intro M b M' h
  refine ge_pre (f := fun M => zup M k 12 1) (ge_bnd (B := fun M2 b M' => ((((M2 k 11) >>> ((M2 k 9) &&& 31)) &&& 1) = 1 ∧ b = false ∧ M' = rfs k 4 M2) ∨ (¬ (((M2 k 11) >>> ((M2 k 9) &&& 31)) &&& 1) = 1 ∧ rNs k z (k + 3) 0 6 (rS k z) n (ix (M2 k 9) * 8) (zup M2 k 11 ((M2 k 11) ||| (1 <<< ((M2 k 9) &&& 31)))) b M')) (ge_rN (z := z) (lo := 1) (hi := 2)) ?_) (fun M => up_3 (by omega) (by omega) (by omega)) _ _ _ h
  rintro M b M' (⟨-, hb, e⟩ | ⟨-, h⟩)
  · exact ge_rf (c := 4) (by omega) (by omega) hb e
  · obtain ⟨u1, u2⟩ := up_3 (k := k) (c := k) (j := 11) (x := (M k 11) ||| (1 <<< ((M k 9) &&& 31))) (M := M) (by omega) (by omega) (by omega)
    obtain ⟨c1, c2, c3⟩ := ge_rNs (by omega) (by omega) ge_rS _ _ _ _ _ h
    exact ⟨u1.tr c1, fun e => (c2 e).trans u2, c3⟩
theorem ge_rHa {k z n H : Nat} : ge k (rHa k z n H) := by
  rintro M b M' (⟨-, hb, e⟩ | ⟨-, -, h⟩)
  · exact ge_rf (c := 5) (by omega) (by omega) hb e
  · exact ge_pre (f := fun M => zup M k 12 1) (ge_rNs (c := k + 4) (by omega) (by omega) (ge_pre ge_rS (fun M => up_3 (by omega) (by omega) (by omega))) n (H * 8)) (fun M => up_3 (by omega) (by omega) (by omega)) _ _ _ h
theorem ge_rOn {k z j : Nat} {hi : Int32} : ge k (rOn k z j hi) := ge_bnd ge_rN (ge_pre ge_rS (fun M => up_3 (by omega) (by omega) (by omega)))
theorem ge_rOc {k : Nat} {a : Int32} : ge k (rOc k a) := by
  rintro M b M' (⟨-, hb, e⟩ | ⟨-, hb, e⟩)
  · exact ge_rf (c := 4) (by omega) (by omega) hb e
  · subst hb e
    obtain ⟨u1, u2⟩ := up_3 (k := k) (c := k) (j := 10) (x := (M k 10) ||| (1 <<< (a &&& 31))) (M := M) (by omega) (by omega) (by omega)
    exact ⟨u1, fun _ => u2, fun w => by cases w⟩
theorem ge_rRl {k z : Nat} : ∀ m i, ge k (rRl k z m i) := by
  intro m
  induction m with
  | zero =>
    intro i
    rintro M b M' (⟨-, hb, e⟩ | ⟨-, h⟩)
    · exact ge_rf (c := 5) (by omega) (by omega) hb e
    · exact ge_rSi _ _ _ h
  | succ m ih =>
    intro i
    rintro M b M' (⟨-, h⟩ | ⟨-, h⟩)
    · exact ge_rSi _ _ _ h
    · exact ge_bnd ge_rWi (ge_pre (ge_bnd ge_tkn (ih (i + 1))) (fun M => up_3t (up_3 (by omega) (by omega) (by omega)) (up_3 (by omega) (by omega) (by omega)))) _ _ _ h
theorem ge_rRo {k z : Nat} : ge k (rRo k z) := ge_bnd ge_rN (ge_pre (ge_bnd ge_tkn (ge_rRl 5 1)) (fun M => up_3 (by omega) (by omega) (by omega)))
theorem ge_rEn {k z n : Nat} : ∀ m h lo, ge k (rEn k z n m h lo) := by
  intro m
  induction m with
  | zero => intro h lo; exact ge_rS
  | succ m ih =>
    intro h lo
    refine ge_bnd (B := fun M1 => rEn k z n m (h + 1) (M1 k 9) (zup M1 (k + 5) h (M1 k 9))) ge_rN ?_
    intro M b M' hh
    obtain ⟨u1, u2⟩ := up_3 (k := k) (c := k + 5) (j := h) (x := M k 9) (M := M) (by omega) (by omega) (by omega)
    obtain ⟨c1, c2, c3⟩ := ih _ _ _ _ _ hh
    exact ⟨u1.tr c1, fun e => (c2 e).trans u2, c3⟩
theorem ge_rEs {k z n H : Nat} {rule : Int32} : ge k (rEs k z n H rule) := ge_pre (f := fun M => zup (zup (zup M k 12 1) k 13 1) (k + 1) 4 rule) (ge_rEn (H - 1) 0 1) (fun M => up_3t (up_3t (up_3 (by omega) (by omega) (by omega)) (up_3 (by omega) (by omega) (by omega))) (up_3 (by omega) (by omega) (by omega)))
theorem ge_rLn {k z n H nm : Nat} : ge k (rLn k z n H nm) := by
  unfold rLn
  split
  · exact ge_rPi
  · exact ge_rWh
  · exact ge_rSo
  · exact ge_bnd ge_rOc ge_rRo
  · exact ge_rHa
  · exact ge_bnd ge_rOc ge_rOn
  · exact ge_bnd ge_rOc ge_rOn
  · exact ge_bnd ge_rOc ge_rS
  · exact ge_bnd ge_rOc ge_rEs
  · exact ge_bnd ge_rOc ge_rEs
