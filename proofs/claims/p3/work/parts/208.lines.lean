/-- what a piece of reading may change, and how it ends -/
def lf (k : Nat) (M M' : zMem) : Prop := ∀ c, (c < k ∨ k + 6 ≤ c) → M' c = M c
def gd (k : Nat) (R : zMem → Bool → zMem → Prop) : Prop := ∀ M b M', R M b M' → lf k M M' ∧ (b = true → M' k 1 = M k 1) ∧ (b = false → ∃ c X, 1 ≤ c ∧ c ≤ 5 ∧ M' = rfs k (nI c) X)
theorem lf.tr {k : Nat} {M M1 M2 : zMem} (a : lf k M M1) (b : lf k M1 M2) : lf k M M2 := fun c h => (b c h).trans (a c h)
theorem lf.up {k c j : Nat} {x : Int32} {M : zMem} (h : k ≤ c) (h2 : c ≤ k + 5) : lf k M (zup M c j x) := fun d hd => zup_ne (by omega)
theorem lf_rfs {k : Nat} {c : Int32} {M : zMem} : lf k M (rfs k c M) := by
  unfold rfs
  exact (lf.up (Nat.le_refl _) (by omega)).tr (lf.up (Nat.le_refl _) (by omega))
theorem tkf.lf {k : Nat} {M M' : zMem} (f : tkf k M M') : lf k M M' := fun c h => f.1 c (by omega)
theorem gd_bnd {k : Nat} {A B : zMem → Bool → zMem → Prop} (hA : gd k A) (hB : gd k B) : gd k (bnd A B) := by
  rintro M b M' ⟨b1, M1, h1, ⟨rfl, rfl, rfl⟩ | ⟨rfl, h⟩⟩
  · exact hA _ _ _ h1
  · obtain ⟨a1, a2, -⟩ := hA _ _ _ h1
    obtain ⟨c1, c2, c3⟩ := hB _ _ _ h
    exact ⟨a1.tr c1, fun e => (c2 e).trans (a2 rfl), c3⟩
theorem gd_pre {k : Nat} {B : zMem → Bool → zMem → Prop} {f : zMem → zMem} (hB : gd k B) (hf : ∀ M, lf k M (f M) ∧ f M k 1 = M k 1) : gd k (fun M => B (f M)) := by
  intro M b M' h
  obtain ⟨c1, c2, c3⟩ := hB _ _ _ h
  obtain ⟨f1, f2⟩ := hf M
  exact ⟨f1.tr c1, fun e => (c2 e).trans f2, c3⟩
theorem gd_tkn {k z : Nat} : gd k (tkn k z) := by
  rintro M b M' ⟨p, -, -, ⟨rfl, -, f, -⟩ | ⟨rfl, -, M1, f, -, rfl⟩⟩
  · exact ⟨f.lf, fun _ => f.2 1 (by omega) (by omega) (by omega) (by omega), fun w => by cases w⟩
  · exact ⟨f.lf.tr lf_rfs, fun w => (by cases w), fun _ => ⟨1, M1, by omega, by omega, rfl⟩⟩
theorem gd_rf {k c : Nat} {M M' : zMem} {b : Bool} (h1 : 1 ≤ c) (h5 : c ≤ 5) (hb : b = false) (e : M' = rfs k (nI c) M) : lf k M M' ∧ (b = true → M' k 1 = M k 1) ∧ (b = false → ∃ c X, 1 ≤ c ∧ c ≤ 5 ∧ M' = rfs k (nI c) X) := by
  subst hb e
  exact ⟨lf_rfs, fun w => (by cases w), fun _ => ⟨c, M, h1, h5, rfl⟩⟩
theorem gd_id {k : Nat} {M M' : zMem} {b : Bool} (hb : b = true) (e : M' = M) : lf k M M' ∧ (b = true → M' k 1 = M k 1) ∧ (b = false → ∃ c X, 1 ≤ c ∧ c ≤ 5 ∧ M' = rfs k (nI c) X) := by
  subst hb e
  exact ⟨fun _ _ => rfl, fun _ => rfl, fun w => by cases w⟩
theorem gd_rWi {k : Nat} {lo hi : Int32} : gd k (rWi k lo hi) := by
  rintro M b M' (⟨-, hb, e⟩ | ⟨-, -, hb, e⟩)
  · exact gd_rf (c := 3) (by omega) (by omega) hb e
  · exact gd_id hb e
theorem gd_rNu {k : Nat} {lo hi : Int32} : gd k (rNu k lo hi) := by
  rintro M b M' (⟨-, hb, e⟩ | ⟨-, h⟩)
  · exact gd_rf (c := 2) (by omega) (by omega) hb e
  · exact gd_rWi _ _ _ h
theorem gd_rSi {k : Nat} : gd k (rSi k) := by
  rintro M b M' (⟨-, hb, e⟩ | ⟨-, hb, e⟩)
  · exact gd_rf (c := 2) (by omega) (by omega) hb e
  · exact gd_id hb e
theorem gd_rN {k z : Nat} {lo hi : Int32} : gd k (rN k z lo hi) := gd_bnd gd_tkn gd_rNu
theorem gd_rS {k z : Nat} : gd k (rS k z) := gd_bnd gd_tkn gd_rSi
theorem up_k {k c j : Nat} {x : Int32} {M : zMem} (h : k ≤ c) (h2 : c ≤ k + 5) (hj : c ≠ k ∨ j ≠ 1) : lf k M (zup M c j x) ∧ zup M c j x k 1 = M k 1 := by
  refine ⟨lf.up h h2, ?_⟩
  by_cases e : c = k
  · subst e
    rw [zup_eq, upd_ne (by omega)]
  · rw [zup_ne (Ne.symm e)]
theorem up_tr {k : Nat} {M M1 M2 : zMem} (a : lf k M M1 ∧ M1 k 1 = M k 1) (b : lf k M1 M2 ∧ M2 k 1 = M1 k 1) : lf k M M2 ∧ M2 k 1 = M k 1 := ⟨a.1.tr b.1, b.2.trans a.2⟩
theorem gd_rPi {k z : Nat} : gd k (rPi k z) := by
  rintro M b M' (⟨-, hb, e⟩ | ⟨-, -, h⟩)
  · exact gd_rf (c := 5) (by omega) (by omega) hb e
  · exact gd_bnd gd_rN (gd_pre gd_rS (fun M => up_tr (up_k (by omega) (by omega) (by omega)) (up_k (by omega) (by omega) (by omega)))) _ _ _ h
theorem gd_rWh {k z : Nat} : gd k (rWh k z) := by
  intro M b M' h
  refine gd_bnd (B := fun M1 b M' => ((((M1 (k + 1) 5) >>> ((M1 k 9) &&& 31)) &&& 1) = 1 ∧ b = false ∧ M' = rfs k 4 M1) ∨ (¬ (((M1 (k + 1) 5) >>> ((M1 k 9) &&& 31)) &&& 1) = 1 ∧ rS k z (zup M1 (k + 1) 5 ((M1 (k + 1) 5) ||| (1 <<< ((M1 k 9) &&& 31)))) b M')) gd_rN ?_ _ _ _ h
  rintro M b M' (⟨-, hb, e⟩ | ⟨-, h⟩)
  · exact gd_rf (c := 4) (by omega) (by omega) hb e
  · exact gd_pre (f := fun M1 => zup M1 (k + 1) 5 ((M1 (k + 1) 5) ||| (1 <<< ((M1 k 9) &&& 31)))) gd_rS (fun M => up_k (by omega) (by omega) (by omega)) _ _ _ h
theorem gd_rNs {k z c : Nat} {lo hi : Int32} {C : zMem → Bool → zMem → Prop} (hc : k < c) (hc2 : c ≤ k + 5) (hC : gd k C) : ∀ m i, gd k (rNs k z c lo hi C m i) := by
  intro m
  induction m with
  | zero => intro i; exact hC
  | succ m ih => intro i; exact gd_bnd gd_rN (gd_pre (ih (i + 1)) (fun M => up_k (by omega) (by omega) (by omega)))
theorem gd_rSo {k z n : Nat} : gd k (rSo k z n) := by
  intro M b M' h
  refine gd_pre (f := fun M => zup M k 12 1) (gd_bnd (B := fun M2 b M' => ((((M2 k 11) >>> ((M2 k 9) &&& 31)) &&& 1) = 1 ∧ b = false ∧ M' = rfs k 4 M2) ∨ (¬ (((M2 k 11) >>> ((M2 k 9) &&& 31)) &&& 1) = 1 ∧ rNs k z (k + 3) 0 6 (rS k z) n (ix (M2 k 9) * 8) (zup M2 k 11 ((M2 k 11) ||| (1 <<< ((M2 k 9) &&& 31)))) b M')) (gd_rN (z := z) (lo := 1) (hi := 2)) ?_) (fun M => up_k (by omega) (by omega) (by omega)) _ _ _ h
  rintro M b M' (⟨-, hb, e⟩ | ⟨-, h⟩)
  · exact gd_rf (c := 4) (by omega) (by omega) hb e
  · obtain ⟨u1, u2⟩ := up_k (k := k) (c := k) (j := 11) (x := (M k 11) ||| (1 <<< ((M k 9) &&& 31))) (M := M) (by omega) (by omega) (by omega)
    obtain ⟨c1, c2, c3⟩ := gd_rNs (by omega) (by omega) gd_rS _ _ _ _ _ h
    exact ⟨u1.tr c1, fun e => (c2 e).trans u2, c3⟩
theorem gd_rHa {k z n H : Nat} : gd k (rHa k z n H) := by
  rintro M b M' (⟨-, hb, e⟩ | ⟨-, -, h⟩)
  · exact gd_rf (c := 5) (by omega) (by omega) hb e
  · exact gd_pre (f := fun M => zup M k 12 1) (gd_rNs (c := k + 4) (by omega) (by omega) (gd_pre gd_rS (fun M => up_k (by omega) (by omega) (by omega))) n (H * 8)) (fun M => up_k (by omega) (by omega) (by omega)) _ _ _ h
theorem gd_rOn {k z j : Nat} {hi : Int32} : gd k (rOn k z j hi) := gd_bnd gd_rN (gd_pre gd_rS (fun M => up_k (by omega) (by omega) (by omega)))
theorem gd_rOc {k : Nat} {a : Int32} : gd k (rOc k a) := by
  rintro M b M' (⟨-, hb, e⟩ | ⟨-, hb, e⟩)
  · exact gd_rf (c := 4) (by omega) (by omega) hb e
  · subst hb e
    obtain ⟨u1, u2⟩ := up_k (k := k) (c := k) (j := 10) (x := (M k 10) ||| (1 <<< (a &&& 31))) (M := M) (by omega) (by omega) (by omega)
    exact ⟨u1, fun _ => u2, fun w => by cases w⟩
theorem gd_rRl {k z : Nat} : ∀ m i, gd k (rRl k z m i) := by
  intro m
  induction m with
  | zero =>
    intro i
    rintro M b M' (⟨-, hb, e⟩ | ⟨-, h⟩)
    · exact gd_rf (c := 5) (by omega) (by omega) hb e
    · exact gd_rSi _ _ _ h
  | succ m ih =>
    intro i
    rintro M b M' (⟨-, h⟩ | ⟨-, h⟩)
    · exact gd_rSi _ _ _ h
    · exact gd_bnd gd_rWi (gd_pre (gd_bnd gd_tkn (ih (i + 1))) (fun M => up_tr (up_k (by omega) (by omega) (by omega)) (up_k (by omega) (by omega) (by omega)))) _ _ _ h
theorem gd_rRo {k z : Nat} : gd k (rRo k z) := gd_bnd gd_rN (gd_pre (gd_bnd gd_tkn (gd_rRl 5 1)) (fun M => up_k (by omega) (by omega) (by omega)))
theorem gd_rEn {k z n : Nat} : ∀ m h lo, gd k (rEn k z n m h lo) := by
  intro m
  induction m with
  | zero => intro h lo; exact gd_rS
  | succ m ih =>
    intro h lo
    refine gd_bnd (B := fun M1 => rEn k z n m (h + 1) (M1 k 9) (zup M1 (k + 5) h (M1 k 9))) gd_rN ?_
    intro M b M' hh
    obtain ⟨u1, u2⟩ := up_k (k := k) (c := k + 5) (j := h) (x := M k 9) (M := M) (by omega) (by omega) (by omega)
    obtain ⟨c1, c2, c3⟩ := ih _ _ _ _ _ hh
    exact ⟨u1.tr c1, fun e => (c2 e).trans u2, c3⟩
theorem gd_rEs {k z n H : Nat} {rule : Int32} : gd k (rEs k z n H rule) := gd_pre (f := fun M => zup (zup (zup M k 12 1) k 13 1) (k + 1) 4 rule) (gd_rEn (H - 1) 0 1) (fun M => up_tr (up_tr (up_k (by omega) (by omega) (by omega)) (up_k (by omega) (by omega) (by omega))) (up_k (by omega) (by omega) (by omega)))
theorem gd_rLn {k z n H nm : Nat} : gd k (rLn k z n H nm) := by
  unfold rLn
  split
  · exact gd_rPi
  · exact gd_rWh
  · exact gd_rSo
  · exact gd_bnd gd_rOc gd_rRo
  · exact gd_rHa
  · exact gd_bnd gd_rOc gd_rOn
  · exact gd_bnd gd_rOc gd_rOn
  · exact gd_bnd gd_rOc gd_rS
  · exact gd_bnd gd_rOc gd_rEs
  · exact gd_bnd gd_rOc gd_rEs
theorem gd_rLi {k z n H : Nat} : gd k (rLi k z n H) := by
  rintro M b M' (⟨-, hb, e⟩ | ⟨-, nm, -, -, h⟩)
  · exact gd_rf (c := 2) (by omega) (by omega) hb e
  · exact gd_pre (f := fun M => zup M k 3 (M k 3 + 1)) gd_rLn (fun M => up_k (by omega) (by omega) (by omega)) _ _ _ h
/-- all that is carried from line to line -/
def DA (k z p0 : Nat) (M : zMem) (n H L : Nat) (t1 t2 : Bool) : Prop := rin k z p0 M ∧ DW k M n H L t1 t2 ∧ DN k M L
theorem DA_line {k z p0 n H L : Nat} {t1 t2 : Bool} {M M' : zMem} (d : DA k z p0 M n H L t1 t2) (h : rLi k z n H M true M') : ∃ n' H' L' t1' t2', DA k z p0 M' n' H' L' t1' t2' := by
  obtain ⟨r, dw, dn⟩ := d
  rcases h with ⟨-, h, -⟩ | ⟨-, nm, hnm, -, h⟩
  · cases h
  generalize hX : zup M k 3 (M k 3 + 1) = X at h
  have r1 : rin k z p0 X := rin_mv r (by rw [← hX, zup_eq, upd_ne (by omega)]) (by rw [← hX, zup_eq, upd_ne (by omega)])
  have w1 : DW k X n H L t1 t2 := dw.mv (fun i h1 _ => by rw [← hX, zup_ne (by omega)]) (fun j h1 h2 => by rw [← hX, zup_eq, upd_ne (by omega)])
  have n1 : DN k X L := dn.mv (by rw [← hX, zup_eq, upd_ne (by omega)])
  have ten : ∀ {R : zMem → Bool → zMem → Prop} (_ : ∀ M M', R M true M' → M' k 10 = M k 10), R X true M' → DN k M' L := fun hR h => n1.mv (hR _ _ h)
  have t_tk : ∀ M M', tkn k z M true M' → M' k 10 = M k 10 := fun M M' h => by
    obtain ⟨p, -, -, ⟨-, -, f, -⟩ | ⟨h, -⟩⟩ := h
    · exact f.2 10 (by omega) (by omega) (by omega) (by omega)
    · cases h
  have t_rN : ∀ lo hi M M', rN k z lo hi M true M' → M' k 10 = M k 10 := fun lo hi M M' h => by
    obtain ⟨M1, h1, h⟩ := bnd_t h
    rcases h with ⟨-, h, -⟩ | ⟨-, h⟩
    · cases h
    · rw [(rWi_in h).1]; exact t_tk _ _ h1
  have t_rS : ∀ M M', rS k z M true M' → M' k 10 = M k 10 := fun M M' h => by
    obtain ⟨M1, h1, h⟩ := bnd_t h
    rw [rSi_in h]; exact t_tk _ _ h1
  have t_Ns : ∀ c lo hi (C : zMem → Bool → zMem → Prop), k < c → (∀ M M', C M true M' → M' k 10 = M k 10) → ∀ m i M M', rNs k z c lo hi C m i M true M' → M' k 10 = M k 10 := by
    intro c lo hi C hc hC m
    induction m with
    | zero => intro i M M' h; exact hC _ _ h
    | succ m ih =>
      intro i M M' h
      obtain ⟨M1, h1, h⟩ := bnd_t h
      rw [ih _ _ _ h, zup_ne (by omega)]; exact t_rN _ _ _ _ h1
  have t_En : ∀ m h lo M M', rEn k z n m h lo M true M' → M' k 10 = M k 10 := by
    intro m
    induction m with
    | zero => intro h lo M M' hh; exact t_rS _ _ hh
    | succ m ih =>
      intro h lo M M' hh
      obtain ⟨M1, h1, hh⟩ := bnd_t hh
      rw [ih _ _ _ _ hh, zup_ne (by omega)]; exact t_rN _ _ _ _ h1
  have t_Rl : ∀ m i M M', rRl k z m i M true M' → M' k 10 = M k 10 := by
    intro m
    induction m with
    | zero =>
      intro i M M' h
      rcases h with ⟨-, h, -⟩ | ⟨-, h⟩
      · cases h
      · rw [rSi_in h]
    | succ m ih =>
      intro i M M' h
      rcases h with ⟨-, h⟩ | ⟨-, h⟩
      · rw [rSi_in h]
      · obtain ⟨M1, h1, h⟩ := bnd_t h
        obtain ⟨M2, h2, h⟩ := bnd_t h
        rw [ih _ _ _ h, t_tk _ _ h2, zup_ne (by omega), zup_ne (by omega), (rWi_in h1).1]
  rcases (show nm = 0 ∨ nm = 1 ∨ nm = 2 ∨ nm = 3 ∨ nm = 4 ∨ nm = 5 ∨ nm = 6 ∨ nm = 7 ∨ nm = 8 ∨ nm = 9 by omega) with rfl | rfl | rfl | rfl | rfl | rfl | rfl | rfl | rfl | rfl
  · obtain ⟨s, w⟩ := DW_piece r1 w1 h
    refine ⟨_, _, _, _, _, s, w, ten (R := rPi k z) (fun M M' h => ?_) h⟩
    rcases h with ⟨-, h, -⟩ | ⟨-, -, h⟩
    · cases h
    · obtain ⟨M1, h1, h⟩ := bnd_t h
      rw [t_rS _ _ h, zup_ne (by omega), zup_ne (by omega)]; exact t_rN _ _ _ _ h1
  · obtain ⟨s, w⟩ := DW_whole r1 w1 h
    refine ⟨_, _, _, _, _, s, w, ten (R := rWh k z) (fun M M' h => ?_) h⟩
    obtain ⟨M1, h1, h⟩ := bnd_t h
    rcases h with ⟨-, h, -⟩ | ⟨-, h⟩
    · cases h
    · rw [t_rS _ _ h, zup_ne (by omega)]; exact t_rN _ _ _ _ h1
  · obtain ⟨s, t1', t2', w⟩ := DW_sort r1 w1 h
    refine ⟨_, _, _, _, _, s, w, ten (R := rSo k z n) (fun M M' h => ?_) h⟩
    obtain ⟨M1, h1, h⟩ := bnd_t h
    rcases h with ⟨-, h, -⟩ | ⟨-, h⟩
    · cases h
    · rw [t_Ns _ _ _ _ (by omega) t_rS _ _ _ _ h, zup_eq, upd_ne (by omega), t_rN _ _ _ _ h1, zup_eq, upd_ne (by omega)]
  · obtain ⟨M1, h1, h⟩ := bnd_t h
    obtain ⟨s1, w2⟩ := DW_once r1 w1 h1
    obtain ⟨l1, l2⟩ := rOc_10 h1 n1 (by decide)
    obtain ⟨s, L', w⟩ := DW_row s1 w2 (l1 rfl) h
    refine ⟨_, _, _, _, _, s, w, (l2 L' (fun q => absurd rfl q)).mv ?_⟩
    obtain ⟨M2, h2, h⟩ := bnd_t h
    obtain ⟨M3, h3, h⟩ := bnd_t h
    rw [t_Rl _ _ _ _ h, t_tk _ _ h3, zup_ne (by omega)]; exact t_rN _ _ _ _ h2
  · obtain ⟨s, w⟩ := DW_hand r1 w1 h
    refine ⟨_, _, _, _, _, s, w, ten (R := rHa k z n H) (fun M M' h => ?_) h⟩
    rcases h with ⟨-, h, -⟩ | ⟨-, -, h⟩
    · cases h
    · rw [t_Ns _ _ _ _ (by omega) (fun M M' h => by rw [t_rS _ _ h, zup_ne (by omega)]) _ _ _ _ h, zup_eq, upd_ne (by omega)]
  · obtain ⟨M1, h1, h⟩ := bnd_t h
    obtain ⟨s1, w2⟩ := DW_once r1 w1 h1
    obtain ⟨l1, l2⟩ := rOc_10 h1 n1 (by decide)
    obtain ⟨s, w⟩ := DW_on s1 w2 (by decide) h
    refine ⟨_, _, _, _, _, s, w, (l2 L (fun _ => rfl)).mv ?_⟩
    obtain ⟨M2, h2, h⟩ := bnd_t h
    rw [t_rS _ _ h, zup_ne (by omega)]; exact t_rN _ _ _ _ h2
  · obtain ⟨M1, h1, h⟩ := bnd_t h
    obtain ⟨s1, w2⟩ := DW_once r1 w1 h1
    obtain ⟨l1, l2⟩ := rOc_10 h1 n1 (by decide)
    obtain ⟨s, w⟩ := DW_on s1 w2 (by decide) h
    refine ⟨_, _, _, _, _, s, w, (l2 L (fun _ => rfl)).mv ?_⟩
    obtain ⟨M2, h2, h⟩ := bnd_t h
    rw [t_rS _ _ h, zup_ne (by omega)]; exact t_rN _ _ _ _ h2
  · obtain ⟨M1, h1, h⟩ := bnd_t h
    obtain ⟨s1, w2⟩ := DW_once r1 w1 h1
    obtain ⟨l1, l2⟩ := rOc_10 h1 n1 (by decide)
    obtain ⟨s, f⟩ := rS_in s1 h
    exact ⟨_, _, _, _, _, s, w2.tk f, (l2 L (fun _ => rfl)).tk f⟩
  · obtain ⟨M1, h1, h⟩ := bnd_t h
    obtain ⟨s1, w2⟩ := DW_once r1 w1 h1
    obtain ⟨l1, l2⟩ := rOc_10 h1 n1 (by decide)
    obtain ⟨s, w⟩ := DW_ends (a := 1) (by omega) s1 w2 h
    refine ⟨_, _, _, _, _, s, w, (l2 L (fun _ => rfl)).mv ?_⟩
    rw [t_En _ _ _ _ _ h, zup_ne (by omega), zup_eq, upd_ne (by omega), zup_eq, upd_ne (by omega)]
  · obtain ⟨M1, h1, h⟩ := bnd_t h
    obtain ⟨s1, w2⟩ := DW_once r1 w1 h1
    obtain ⟨l1, l2⟩ := rOc_10 h1 n1 (by decide)
    obtain ⟨s, w⟩ := DW_ends (a := 2) (by omega) s1 w2 h
    refine ⟨_, _, _, _, _, s, w, (l2 L (fun _ => rfl)).mv ?_⟩
    rw [t_En _ _ _ _ _ h, zup_ne (by omega), zup_eq, upd_ne (by omega), zup_eq, upd_ne (by omega)]
