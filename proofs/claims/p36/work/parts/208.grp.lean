/-- what a piece of reading may change, and how it ends -/
def lf (k : Nat) (M M' : zMem) : Prop := ∀ c, (c < k ∨ k + 6 ≤ c) → M' c = M c
def gd (k : Nat) (R : zMem → Bool → zMem → Prop) : Prop := ∀ M b M', R M b M' → lf k M M' ∧ (b = true → M' k 1 = M k 1) ∧ (b = false → ∃ c X, 1 ≤ c ∧ c ≤ 5 ∧ M' = rfs k (nI c) X)
theorem lf.tr {k : Nat} {M M1 M2 : zMem} (a : lf k M M1) (b : lf k M1 M2) : lf k M M2 := fun c h => (b c h).trans (a c h)
theorem lf.up {k c j : Nat} {x : Int32} {M : zMem} (h : k ≤ c) (h2 : c ≤ k + 5) : lf k M (zup M c j x) := fun d hd => zup_ne (by omega)
theorem lf_rfs {k : Nat} {c : Int32} {M : zMem} : lf k M (rfs k c M) := by
  unfold rfs
  exact (lf.up (Nat.le_refl _) (by omega)).tr (lf.up (Nat.le_refl _) (by omega))
theorem tkf.lf {k : Nat} {M M' : zMem} (f : tkf k M M') : lf k M M' := fun c h => f.1 c (by omega)
theorem gd_bnd {k : Nat} {A B : zMem → Bool → zMem → Prop} (hA : gd k A) (hB : gd k B) : gd k (bnd A B) := by
  rintro M b M' ⟨b1, M1, h1, ⟨rfl, rfl, rfl⟩ | ⟨rfl, h⟩⟩
  · exact hA _ _ _ h1
  · obtain ⟨a1, a2, -⟩ := hA _ _ _ h1
    obtain ⟨c1, c2, c3⟩ := hB _ _ _ h
    exact ⟨a1.tr c1, fun e => (c2 e).trans (a2 rfl), c3⟩
theorem gd_pre {k : Nat} {B : zMem → Bool → zMem → Prop} {f : zMem → zMem} (hB : gd k B) (hf : ∀ M, lf k M (f M) ∧ f M k 1 = M k 1) : gd k (fun M => B (f M)) := by
  intro M b M' h
  obtain ⟨c1, c2, c3⟩ := hB _ _ _ h
  obtain ⟨f1, f2⟩ := hf M
  exact ⟨f1.tr c1, fun e => (c2 e).trans f2, c3⟩
theorem gd_tkn {k z : Nat} : gd k (tkn k z) := by
  rintro M b M' ⟨p, -, -, ⟨rfl, -, f, -⟩ | ⟨rfl, -, M1, f, -, rfl⟩⟩
  · exact ⟨f.lf, fun _ => f.2 1 (by omega) (by omega) (by omega) (by omega), fun w => by cases w⟩
  · exact ⟨f.lf.tr lf_rfs, fun w => (by cases w), fun _ => ⟨1, M1, by omega, by omega, rfl⟩⟩
theorem gd_rf {k c : Nat} {M M' : zMem} {b : Bool} (h1 : 1 ≤ c) (h5 : c ≤ 5) (hb : b = false) (e : M' = rfs k (nI c) M) : lf k M M' ∧ (b = true → M' k 1 = M k 1) ∧ (b = false → ∃ c X, 1 ≤ c ∧ c ≤ 5 ∧ M' = rfs k (nI c) X) := by
  subst hb e
  exact ⟨lf_rfs, fun w => (by cases w), fun _ => ⟨c, M, h1, h5, rfl⟩⟩
theorem gd_id {k : Nat} {M M' : zMem} {b : Bool} (hb : b = true) (e : M' = M) : lf k M M' ∧ (b = true → M' k 1 = M k 1) ∧ (b = false → ∃ c X, 1 ≤ c ∧ c ≤ 5 ∧ M' = rfs k (nI c) X) := by
  subst hb e
  exact ⟨fun _ _ => rfl, fun _ => rfl, fun w => by cases w⟩
theorem gd_rWi {k : Nat} {lo hi : Int32} : gd k (rWi k lo hi) := by
  rintro M b M' (⟨-, hb, e⟩ | ⟨-, -, hb, e⟩)
  · exact gd_rf (c := 3) (by omega) (by omega) hb e
  · exact gd_id hb e
theorem gd_rNu {k : Nat} {lo hi : Int32} : gd k (rNu k lo hi) := by
  rintro M b M' (⟨-, hb, e⟩ | ⟨-, h⟩)
  · exact gd_rf (c := 2) (by omega) (by omega) hb e
  · exact gd_rWi _ _ _ h
theorem gd_rSi {k : Nat} : gd k (rSi k) := by
  rintro M b M' (⟨-, hb, e⟩ | ⟨-, hb, e⟩)
  · exact gd_rf (c := 2) (by omega) (by omega) hb e
  · exact gd_id hb e
theorem gd_rN {k z : Nat} {lo hi : Int32} : gd k (rN k z lo hi) := gd_bnd gd_tkn gd_rNu
theorem gd_rS {k z : Nat} : gd k (rS k z) := gd_bnd gd_tkn gd_rSi
theorem up_k {k c j : Nat} {x : Int32} {M : zMem} (h : k ≤ c) (h2 : c ≤ k + 5) (hj : c ≠ k ∨ j ≠ 1) : lf k M (zup M c j x) ∧ zup M c j x k 1 = M k 1 := by
  refine ⟨lf.up h h2, ?_⟩
  by_cases e : c = k
  · subst e
    rw [zup_eq, upd_ne (by omega)]
  · rw [zup_ne (Ne.symm e)]
theorem up_tr {k : Nat} {M M1 M2 : zMem} (a : lf k M M1 ∧ M1 k 1 = M k 1) (b : lf k M1 M2 ∧ M2 k 1 = M1 k 1) : lf k M M2 ∧ M2 k 1 = M k 1 := ⟨a.1.tr b.1, b.2.trans a.2⟩
theorem gd_rPi {k z : Nat} : gd k (rPi k z) := by
  rintro M b M' (⟨-, hb, e⟩ | ⟨-, -, h⟩)
  · exact gd_rf (c := 5) (by omega) (by omega) hb e
  · exact gd_bnd gd_rN (gd_pre gd_rS (fun M => up_tr (up_k (by omega) (by omega) (by omega)) (up_k (by omega) (by omega) (by omega)))) _ _ _ h
theorem gd_rWh {k z : Nat} : gd k (rWh k z) := by
  intro M b M' h
  refine gd_bnd (B := fun M1 b M' => ((((M1 (k + 1) 5) >>> ((M1 k 9) &&& 31)) &&& 1) = 1 ∧ b = false ∧ M' = rfs k 4 M1) ∨ (¬ (((M1 (k + 1) 5) >>> ((M1 k 9) &&& 31)) &&& 1) = 1 ∧ rS k z (zup M1 (k + 1) 5 ((M1 (k + 1) 5) ||| (1 <<< ((M1 k 9) &&& 31)))) b M')) gd_rN ?_ _ _ _ h
  rintro M b M' (⟨-, hb, e⟩ | ⟨-, h⟩)
  · exact gd_rf (c := 4) (by omega) (by omega) hb e
  · exact gd_pre (f := fun M1 => zup M1 (k + 1) 5 ((M1 (k + 1) 5) ||| (1 <<< ((M1 k 9) &&& 31)))) gd_rS (fun M => up_k (by omega) (by omega) (by omega)) _ _ _ h
theorem gd_rNs {k z c : Nat} {lo hi : Int32} {C : zMem → Bool → zMem → Prop} (hc : k < c) (hc2 : c ≤ k + 5) (hC : gd k C) : ∀ m i, gd k (rNs k z c lo hi C m i) := by
  intro m
  induction m with
  | zero => intro i; exact hC
  | succ m ih => intro i; exact gd_bnd gd_rN (gd_pre (ih (i + 1)) (fun M => up_k (by omega) (by omega) (by omega)))
theorem gd_rSo {k z n : Nat} : gd k (rSo k z n) := by
  intro M b M' h
  refine gd_pre (f := fun M => zup M k 12 1) (gd_bnd (B := fun M2 b M' => ((((M2 k 11) >>> ((M2 k 9) &&& 31)) &&& 1) = 1 ∧ b = false ∧ M' = rfs k 4 M2) ∨ (¬ (((M2 k 11) >>> ((M2 k 9) &&& 31)) &&& 1) = 1 ∧ rNs k z (k + 3) 0 6 (rS k z) n (ix (M2 k 9) * 8) (zup M2 k 11 ((M2 k 11) ||| (1 <<< ((M2 k 9) &&& 31)))) b M')) (gd_rN (z := z) (lo := 1) (hi := 2)) ?_) (fun M => up_k (by omega) (by omega) (by omega)) _ _ _ h
  rintro M b M' (⟨-, hb, e⟩ | ⟨-, h⟩)
  · exact gd_rf (c := 4) (by omega) (by omega) hb e
  · obtain ⟨u1, u2⟩ := up_k (k := k) (c := k) (j := 11) (x := (M k 11) ||| (1 <<< ((M k 9) &&& 31))) (M := M) (by omega) (by omega) (by omega)
    obtain ⟨c1, c2, c3⟩ := gd_rNs (by omega) (by omega) gd_rS _ _ _ _ _ h
    exact ⟨u1.tr c1, fun e => (c2 e).trans u2, c3⟩
theorem gd_rHa {k z n H : Nat} : gd k (rHa k z n H) := by
  rintro M b M' (⟨-, hb, e⟩ | ⟨-, -, h⟩)
  · exact gd_rf (c := 5) (by omega) (by omega) hb e
  · exact gd_pre (f := fun M => zup M k 12 1) (gd_rNs (c := k + 4) (by omega) (by omega) (gd_pre gd_rS (fun M => up_k (by omega) (by omega) (by omega))) n (H * 8)) (fun M => up_k (by omega) (by omega) (by omega)) _ _ _ h
theorem gd_rOn {k z j : Nat} {hi : Int32} : gd k (rOn k z j hi) := gd_bnd gd_rN (gd_pre gd_rS (fun M => up_k (by omega) (by omega) (by omega)))
theorem gd_rOc {k : Nat} {a : Int32} : gd k (rOc k a) := by
  rintro M b M' (⟨-, hb, e⟩ | ⟨-, hb, e⟩)
  · exact gd_rf (c := 4) (by omega) (by omega) hb e
  · subst hb e
    obtain ⟨u1, u2⟩ := up_k (k := k) (c := k) (j := 10) (x := (M k 10) ||| (1 <<< (a &&& 31))) (M := M) (by omega) (by omega) (by omega)
    exact ⟨u1, fun _ => u2, fun w => by cases w⟩
theorem gd_rRl {k z : Nat} : ∀ m i, gd k (rRl k z m i) := by
  intro m
  induction m with
  | zero =>
    intro i
    rintro M b M' (⟨-, hb, e⟩ | ⟨-, h⟩)
    · exact gd_rf (c := 5) (by omega) (by omega) hb e
    · exact gd_rSi _ _ _ h
  | succ m ih =>
    intro i
    rintro M b M' (⟨-, h⟩ | ⟨-, h⟩)
    · exact gd_rSi _ _ _ h
    · exact gd_bnd gd_rWi (gd_pre (gd_bnd gd_tkn (ih (i + 1))) (fun M => up_tr (up_k (by omega) (by omega) (by omega)) (up_k (by omega) (by omega) (by omega)))) _ _ _ h
theorem gd_rRo {k z : Nat} : gd k (rRo k z) := gd_bnd gd_rN (gd_pre (gd_bnd gd_tkn (gd_rRl 5 1)) (fun M => up_k (by omega) (by omega) (by omega)))
theorem gd_rEn {k z n : Nat} : ∀ m h lo, gd k (rEn k z n m h lo) := by
  intro m
  induction m with
  | zero => intro h lo; exact gd_rS
  | succ m ih =>
    intro h lo
    refine gd_bnd (B := fun M1 => rEn k z n m (h + 1) (M1 k 9) (zup M1 (k + 5) h (M1 k 9))) gd_rN ?_
    intro M b M' hh
    obtain ⟨u1, u2⟩ := up_k (k := k) (c := k + 5) (j := h) (x := M k 9) (M := M) (by omega) (by omega) (by omega)
    obtain ⟨c1, c2, c3⟩ := ih _ _ _ _ _ hh
    exact ⟨u1.tr c1, fun e => (c2 e).trans u2, c3⟩
theorem gd_rEs {k z n H : Nat} {rule : Int32} : gd k (rEs k z n H rule) := gd_pre (f := fun M => zup (zup (zup M k 12 1) k 13 1) (k + 1) 4 rule) (gd_rEn (H - 1) 0 1) (fun M => up_tr (up_tr (up_k (by omega) (by omega) (by omega)) (up_k (by omega) (by omega) (by omega))) (up_k (by omega) (by omega) (by omega)))
theorem gd_rLn {k z n H nm : Nat} : gd k (rLn k z n H nm) := by
  unfold rLn
  split
  · exact gd_rPi
  · exact gd_rWh
  · exact gd_rSo
  · exact gd_bnd gd_rOc gd_rRo
  · exact gd_rHa
  · exact gd_bnd gd_rOc gd_rOn
  · exact gd_bnd gd_rOc gd_rOn
  · exact gd_bnd gd_rOc gd_rS
  · exact gd_bnd gd_rOc gd_rEs
  · exact gd_bnd gd_rOc gd_rEs
theorem gd_rLi {k z n H : Nat} : gd k (rLi k z n H) := by
  rintro M b M' (⟨-, hb, e⟩ | ⟨-, nm, -, -, h⟩)
  · exact gd_rf (c := 2) (by omega) (by omega) hb e
  · exact gd_pre (f := fun M => zup M k 3 (M k 3 + 1)) gd_rLn (fun M => up_k (by omega) (by omega) (by omega)) _ _ _ h
/-- all that is carried from line to line -/
def DA (k z p0 : Nat) (M : zMem) (n H L : Nat) (t1 t2 : Bool) : Prop := rin k z p0 M ∧ DW k M n H L t1 t2 ∧ DN k M L
theorem DA_line {k z p0 n H L : Nat} {t1 t2 : Bool} {M M' : zMem} (d : DA k z p0 M n H L t1 t2) (h : rLi k z n H M true M') : ∃ n' H' L' t1' t2', DA k z p0 M' n' H' L' t1' t2' := by
  obtain ⟨r, dw, dn⟩ := d
  rcases h with ⟨-, h, -⟩ | ⟨-, nm, hnm, -, h⟩
  · cases h
  generalize hX : zup M k 3 (M k 3 + 1) = X at h
  have r1 : rin k z p0 X := rin_mv r (by rw [← hX, zup_eq, upd_ne (by omega)]) (by rw [← hX, zup_eq, upd_ne (by omega)])
  have w1 : DW k X n H L t1 t2 := dw.mv (fun i h1 _ => by rw [← hX, zup_ne (by omega)]) (fun j h1 h2 => by rw [← hX, zup_eq, upd_ne (by omega)])
  have n1 : DN k X L := dn.mv (by rw [← hX, zup_eq, upd_ne (by omega)])
  have ten : ∀ {R : zMem → Bool → zMem → Prop} (_ : ∀ M M', R M true M' → M' k 10 = M k 10), R X true M' → DN k M' L := fun hR h => n1.mv (hR _ _ h)
  have t_tk : ∀ M M', tkn k z M true M' → M' k 10 = M k 10 := fun M M' h => by
    obtain ⟨p, -, -, ⟨-, -, f, -⟩ | ⟨h, -⟩⟩ := h
    · exact f.2 10 (by omega) (by omega) (by omega) (by omega)
    · cases h
  have t_rN : ∀ lo hi M M', rN k z lo hi M true M' → M' k 10 = M k 10 := fun lo hi M M' h => by
    obtain ⟨M1, h1, h⟩ := bnd_t h
    rcases h with ⟨-, h, -⟩ | ⟨-, h⟩
    · cases h
    · rw [(rWi_in h).1]; exact t_tk _ _ h1
  have t_rS : ∀ M M', rS k z M true M' → M' k 10 = M k 10 := fun M M' h => by
    obtain ⟨M1, h1, h⟩ := bnd_t h
    rw [rSi_in h]; exact t_tk _ _ h1
  have t_Ns : ∀ c lo hi (C : zMem → Bool → zMem → Prop), k < c → (∀ M M', C M true M' → M' k 10 = M k 10) → ∀ m i M M', rNs k z c lo hi C m i M true M' → M' k 10 = M k 10 := by
    intro c lo hi C hc hC m
    induction m with
    | zero => intro i M M' h; exact hC _ _ h
    | succ m ih =>
      intro i M M' h
      obtain ⟨M1, h1, h⟩ := bnd_t h
      rw [ih _ _ _ h, zup_ne (by omega)]; exact t_rN _ _ _ _ h1
  have t_En : ∀ m h lo M M', rEn k z n m h lo M true M' → M' k 10 = M k 10 := by
    intro m
    induction m with
    | zero => intro h lo M M' hh; exact t_rS _ _ hh
    | succ m ih =>
      intro h lo M M' hh
      obtain ⟨M1, h1, hh⟩ := bnd_t hh
      rw [ih _ _ _ _ hh, zup_ne (by omega)]; exact t_rN _ _ _ _ h1
  have t_Rl : ∀ m i M M', rRl k z m i M true M' → M' k 10 = M k 10 := by
    intro m
    induction m with
    | zero =>
      intro i M M' h
      rcases h with ⟨-, h, -⟩ | ⟨-, h⟩
      · cases h
      · rw [rSi_in h]
    | succ m ih =>
      intro i M M' h
      rcases h with ⟨-, h⟩ | ⟨-, h⟩
      · rw [rSi_in h]
      · obtain ⟨M1, h1, h⟩ := bnd_t h
        obtain ⟨M2, h2, h⟩ := bnd_t h
        rw [ih _ _ _ h, t_tk _ _ h2, zup_ne (by omega), zup_ne (by omega), (rWi_in h1).1]
  rcases (show nm = 0 ∨ nm = 1 ∨ nm = 2 ∨ nm = 3 ∨ nm = 4 ∨ nm = 5 ∨ nm = 6 ∨ nm = 7 ∨ nm = 8 ∨ nm = 9 by omega) with rfl | rfl | rfl | rfl | rfl | rfl | rfl | rfl | rfl | rfl
  · obtain ⟨s, w⟩ := DW_piece r1 w1 h
    refine ⟨_, _, _, _, _, s, w, ten (R := rPi k z) (fun M M' h => ?_) h⟩
    rcases h with ⟨-, h, -⟩ | ⟨-, -, h⟩
    · cases h
    · obtain ⟨M1, h1, h⟩ := bnd_t h
      rw [t_rS _ _ h, zup_ne (by omega), zup_ne (by omega)]; exact t_rN _ _ _ _ h1
  · obtain ⟨s, w⟩ := DW_whole r1 w1 h
    refine ⟨_, _, _, _, _, s, w, ten (R := rWh k z) (fun M M' h => ?_) h⟩
    obtain ⟨M1, h1, h⟩ := bnd_t h
    rcases h with ⟨-, h, -⟩ | ⟨-, h⟩
    · cases h
    · rw [t_rS _ _ h, zup_ne (by omega)]; exact t_rN _ _ _ _ h1
  · obtain ⟨s, t1', t2', w⟩ := DW_sort r1 w1 h
    refine ⟨_, _, _, _, _, s, w, ten (R := rSo k z n) (fun M M' h => ?_) h⟩
    obtain ⟨M1, h1, h⟩ := bnd_t h
    rcases h with ⟨-, h, -⟩ | ⟨-, h⟩
    · cases h
    · rw [t_Ns _ _ _ _ (by omega) t_rS _ _ _ _ h, zup_eq, upd_ne (by omega), t_rN _ _ _ _ h1, zup_eq, upd_ne (by omega)]
  · obtain ⟨M1, h1, h⟩ := bnd_t h
    obtain ⟨s1, w2⟩ := DW_once r1 w1 h1
    obtain ⟨l1, l2⟩ := rOc_10 h1 n1 (by decide)
    obtain ⟨s, L', w⟩ := DW_row s1 w2 (l1 rfl) h
    refine ⟨_, _, _, _, _, s, w, (l2 L' (fun q => absurd rfl q)).mv ?_⟩
    obtain ⟨M2, h2, h⟩ := bnd_t h
    obtain ⟨M3, h3, h⟩ := bnd_t h
    rw [t_Rl _ _ _ _ h, t_tk _ _ h3, zup_ne (by omega)]; exact t_rN _ _ _ _ h2
  · obtain ⟨s, w⟩ := DW_hand r1 w1 h
    refine ⟨_, _, _, _, _, s, w, ten (R := rHa k z n H) (fun M M' h => ?_) h⟩
    rcases h with ⟨-, h, -⟩ | ⟨-, -, h⟩
    · cases h
    · rw [t_Ns _ _ _ _ (by omega) (fun M M' h => by rw [t_rS _ _ h, zup_ne (by omega)]) _ _ _ _ h, zup_eq, upd_ne (by omega)]
  · obtain ⟨M1, h1, h⟩ := bnd_t h
    obtain ⟨s1, w2⟩ := DW_once r1 w1 h1
    obtain ⟨l1, l2⟩ := rOc_10 h1 n1 (by decide)
    obtain ⟨s, w⟩ := DW_on s1 w2 (by decide) h
    refine ⟨_, _, _, _, _, s, w, (l2 L (fun _ => rfl)).mv ?_⟩
    obtain ⟨M2, h2, h⟩ := bnd_t h
    rw [t_rS _ _ h, zup_ne (by omega)]; exact t_rN _ _ _ _ h2
  · obtain ⟨M1, h1, h⟩ := bnd_t h
    obtain ⟨s1, w2⟩ := DW_once r1 w1 h1
    obtain ⟨l1, l2⟩ := rOc_10 h1 n1 (by decide)
    obtain ⟨s, w⟩ := DW_on s1 w2 (by decide) h
    refine ⟨_, _, _, _, _, s, w, (l2 L (fun _ => rfl)).mv ?_⟩
    obtain ⟨M2, h2, h⟩ := bnd_t h
    rw [t_rS _ _ h, zup_ne (by omega)]; exact t_rN _ _ _ _ h2
  · obtain ⟨M1, h1, h⟩ := bnd_t h
    obtain ⟨s1, w2⟩ := DW_once r1 w1 h1
    obtain ⟨l1, l2⟩ := rOc_10 h1 n1 (by decide)
    obtain ⟨s, f⟩ := rS_in s1 h
    exact ⟨_, _, _, _, _, s, w2.tk f, (l2 L (fun _ => rfl)).tk f⟩
  · obtain ⟨M1, h1, h⟩ := bnd_t h
    obtain ⟨s1, w2⟩ := DW_once r1 w1 h1
    obtain ⟨l1, l2⟩ := rOc_10 h1 n1 (by decide)
    obtain ⟨s, w⟩ := DW_ends (a := 1) (by omega) s1 w2 h
    refine ⟨_, _, _, _, _, s, w, (l2 L (fun _ => rfl)).mv ?_⟩
    rw [t_En _ _ _ _ _ h, zup_ne (by omega), zup_eq, upd_ne (by omega), zup_eq, upd_ne (by omega)]
  · obtain ⟨M1, h1, h⟩ := bnd_t h
    obtain ⟨s1, w2⟩ := DW_once r1 w1 h1
    obtain ⟨l1, l2⟩ := rOc_10 h1 n1 (by decide)
    obtain ⟨s, w⟩ := DW_ends (a := 2) (by omega) s1 w2 h
    refine ⟨_, _, _, _, _, s, w, (l2 L (fun _ => rfl)).mv ?_⟩
    rw [t_En _ _ _ _ _ h, zup_ne (by omega), zup_eq, upd_ne (by omega), zup_eq, upd_ne (by omega)]
theorem st_bit : ∀ t1 t2 : Bool, ∀ s, s < 3 → (((nI (stb t1 t2) >>> (nI s &&& 31)) &&& 1) = 0 ↔ ¬ ((s = 1 ∧ t1 = true) ∨ (s = 2 ∧ t2 = true))) := by decide
/-- the units of a sort, when all is told -/
def us (k : Nat) (M : zMem) (t1 t2 : Bool) (s p : Nat) : Int32 := if s = 0 ∨ (s = 1 ∧ t1 = true) ∨ (s = 2 ∧ t2 = true) then M (k + 3) (s * 8 + p) else M (k + 3) p
theorem us_nI {k n H L : Nat} {t1 t2 : Bool} {M : zMem} (d : DW k M n H L t1 t2) {s p : Nat} (hs : s < 3) (hp : p < n) : ∃ u, u ≤ 6 ∧ us k M t1 t2 s p = nI u := by
  unfold us
  split
  · rename_i h
    exact d.2.2.2.2.2.2.2.2.2.1 s p h hp
  · obtain ⟨u, u1, u2⟩ := d.2.2.2.2.2.2.2.2.2.1 0 p (Or.inl rfl) hp
    exact ⟨u, u1, by rw [← u2]; congr 1; omega⟩
theorem xt_complete {k z n H L : Nat} {t1 t2 : Bool} {M : zMem} {Q : Int32 → zMem → Prop} (d : DW k M n H L t1 t2) (h5 : M k 5 = nI z)
    (hQ6 : (n = 0 ∨ H = 0) → Q 0 (zup (zup M k 1 6) k 2 (nI z)))
    (hQ7 : 0 < n → 0 < H → (∃ s, s < 3 ∧ ∀ p, p < n → us k M t1 t2 s p = 0) → ∀ X, lf k M X → X k 1 = 7 → X k 2 = nI z → (∀ j, j ≠ 1 → j ≠ 2 → X k j = M k j) → Q 0 X)
    (hQ1 : 0 < n → 0 < H → (∀ s, s < 3 → ∃ p, p < n ∧ us k M t1 t2 s p ≠ 0) → ∀ X, lf k M X → X k = M k → X (k + 1) = M (k + 1) → X (k + 2) = M (k + 2) → X (k + 4) = M (k + 4) → (∀ s p, s < 3 → p < n → X (k + 3) (s * 8 + p) = us k M t1 t2 s p) → (∀ h, h < H → X (k + 5) h = if M (k + 1) 4 = 0 ∨ h = H - 1 then nI n else M (k + 5) h) → Q 1 X) : wp_Reader_isComplete k M Q := by
  obtain ⟨⟨b1, b2, b3, b4⟩, en, eH, -⟩ := id d
  have es := d.2.2.2.2.2.2.2.2.2.2.2.2.1
  have six : (n = 0 ∨ H = 0) → wp_Reader_refuse k 6 (M k 5) M (fun zr2 zm1 => zbo zr2 ∧ Q zr2 zm1) := fun h M1 e1 M2 e2 => by
    refine ⟨zbo_0, ?_⟩
    rw [e2, e1, h5]
    exact hQ6 h
  unfold wp_Reader_isComplete
  rw [en, eH]
  refine ⟨fun c => six (Or.inl ((nI_eq (b := 0) (by omega) (by omega)).mp c)), fun c => ⟨fun c2 => ?_, fun c2 => six (Or.inr ((nI_eq (b := 0) (by omega) (by omega)).mp c2))⟩⟩
  have n0 : 0 < n := by
    rcases Nat.eq_zero_or_pos n with w | w
    · rw [w] at c; exact absurd rfl c
    · exact w
  have H0 : 0 < H := by
    rcases Nat.eq_zero_or_pos H with w | w
    · rw [w] at c2; exact absurd rfl c2
    · exact w
  refine zlp1_r (fun m x X => ∃ s, x = nI s ∧ s ≤ 3 ∧ m = 3 - s ∧ (∀ c, c ≠ k + 3 → X c = M c) ∧ (∀ s' p, s' < s → p < n → X (k + 3) (s' * 8 + p) = us k M t1 t2 s' p) ∧ (∀ j, (j < 8 ∨ 8 * s ≤ j) → X (k + 3) j = M (k + 3) j) ∧ ∀ s', s' < s → ∃ p, p < n ∧ us k M t1 t2 s' p ≠ 0) ?_ (n := 3) ⟨0, rfl, by omega, rfl, fun _ _ => rfl, fun _ _ h => absurd h (by omega), fun _ _ => rfl, fun _ h => absurd h (by omega)⟩
  rintro m x X ⟨s, rfl, hs, rfl, f1, f2, f3, f4⟩ J hJ
  unfold wpB_Reader_isComplete_33
  refine ⟨fun c => ?_, fun c => ?_⟩
  · have := (nI_leI (a := 3) (by omega) (by omega)).mp c
    have e3 : s = 3 := by omega
    subst e3
    refine xt_fillEnds (n := n) (H := H) (by rw [f1 (k + 1) (by omega)]; exact en) (by rw [f1 (k + 1) (by omega)]; exact eH) b2 (fun Y a1 a2 a3 => ?_)
    refine hQ1 n0 H0 f4 Y (fun c hc => by rw [a3 c (by omega), f1 c (by omega)]) (by rw [a3 k (by omega), f1 k (by omega)]) (by rw [a3 (k + 1) (by omega), f1 (k + 1) (by omega)]) (by rw [a3 (k + 2) (by omega), f1 (k + 2) (by omega)]) (by rw [a3 (k + 4) (by omega), f1 (k + 4) (by omega)]) (fun s p hs hp => by rw [a3 (k + 3) (by omega)]; exact f2 s p hs hp) (fun h hh => ?_)
    have := a1 h hh
    rw [f1 (k + 1) (by omega), show k + 1 + 4 = k + 5 by omega, f1 (k + 5) (by omega)] at this
    exact this
  · have hs2 : s < 3 := (nI_ltI (b := 3) (by omega) (by omega)).mp (Int32.not_le.mp c)
    have bit := st_bit t1 t2 s hs2
    have x11 : X k 11 = nI (stb t1 t2) := by rw [f1 k (by omega)]; exact es
    have step : ∀ Y : zMem, (∀ c, c ≠ k + 3 → Y c = M c) → (∀ s' p, s' < s + 1 → p < n → Y (k + 3) (s' * 8 + p) = us k M t1 t2 s' p) → (∀ j, (j < 8 ∨ 8 * (s + 1) ≤ j) → Y (k + 3) j = M (k + 3) j) → wpJ_Reader_isComplete_77 k J Q (nI s) Y := fun Y g1 g2 g3 => by
      unfold wpJ_Reader_isComplete_77
      have yn : Y (k + 1) 0 = nI n := by rw [g1 (k + 1) (by omega)]; exact en
      refine xt_pieceFrom (p := 0) yn b1 hs2 (by omega) ?_
      rw [yn, show k + 1 + 2 = k + 3 by omega, show n - 0 = n by omega]
      have pl := sp_pf_le (fun i => Y (k + 3) (s * 8 + i)) n 0
      have pp := sp_pf_pos (fun i => Y (k + 3) (s * 8 + i)) n 0
      have pa := sp_pf_all (fun i => Y (k + 3) (s * 8 + i)) n 0
      generalize sp_pf (fun i => Y (k + 3) (s * 8 + i)) n 0 = q at pl pp pa
      refine ⟨fun w y ey => ?_, fun w M2 e2 M3 e3 => ⟨zbo_0, ?_⟩⟩
      · have hq : q < n := by
          rcases Nat.lt_or_ge q n with u | u
          · exact u
          · exact absurd (by rw [show q = n by omega]) w
        rw [ey, nI_1]
        refine hJ (3 - (s + 1)) _ _ (by omega) ⟨s + 1, rfl, by omega, rfl, g1, g2, g3, fun s' hs' => ?_⟩
        rcases Nat.lt_or_ge s' s with u | u
        · exact f4 s' u
        · have e : s' = s := by omega
          subst e
          have := pp (by omega)
          rw [g2 s' q (by omega) hq] at this
          exact ⟨q, hq, fun e0 => by rw [e0] at this; exact absurd this (by decide)⟩
      · have hq : q = n := (nI_eq (by omega) (by omega)).mp w
        have yk : Y k = M k := g1 k (by omega)
        refine hQ7 n0 H0 ⟨s, hs2, fun p hp => ?_⟩ M3 ?_ ?_ ?_ ?_
        · have := pa p (by omega) (by omega)
          rw [g2 s p (by omega) hp] at this
          obtain ⟨u, u1, u2⟩ := us_nI d hs2 hp
          rw [u2] at this ⊢
          rcases Nat.eq_zero_or_pos u with v | v
          · rw [v]; rfl
          · exact absurd ((nI_0lt (by omega)).mpr v) this
        · intro c hc
          rw [e3, zup_ne (by omega), e2, zup_ne (by omega)]; exact g1 c (by omega)
        · rw [e3, zup_eq, upd_ne (by omega), e2, zup_eq, upd_eq]
        · rw [e3, zup_eq, upd_eq, yk]; exact h5
        · intro j j1 j2
          rw [e3, zup_eq, upd_ne j2, e2, zup_eq, upd_ne j1, yk]
    have keep : (s = 0 ∨ (s = 1 ∧ t1 = true) ∨ (s = 2 ∧ t2 = true)) → wpJ_Reader_isComplete_77 k J Q (nI s) X := fun hc => step X f1 (fun s' p hs' hp => by
      rcases Nat.lt_or_ge s' s with u | u
      · exact f2 s' p u hp
      · have e : s' = s := by omega
        subst e
        unfold us
        rw [if_pos hc]
        exact f3 _ (by omega)) (fun j hj => f3 j (by omega))
    rw [x11]
    refine ⟨fun w => keep ?_, fun w => ⟨fun v => keep (Or.inl ?_), fun v => ⟨?_, fun Y eY => step Y (fun c hc => ?_) (fun s' p hs' hp => ?_) (fun j hj => ?_)⟩⟩⟩
    · rcases Classical.em ((s = 1 ∧ t1 = true) ∨ (s = 2 ∧ t2 = true)) with u | u
      · exact Or.inr u
      · exact absurd (bit.mpr u) w
    · have := (nI_leI (b := 0) (by omega) (by omega)).mp v
      omega
    · have e8 : nI s * 8 = nI (s * 8) := by rw [show (8 : Int32) = nI 8 from rfl, q_mul]
      rw [e8]
      refine ⟨by decide, nI_pos (by omega), by decide, by decide, ?_⟩
      rw [q_ix (by omega)]
      show s * 8 + ix (nI 8) ≤ 24
      rw [q_ix (by omega)]
      omega
    · rw [eY, zcopy_ne hc]; exact f1 c hc
    · have s0 : s ≠ 0 := fun e => v (by rw [e]; decide)
      have e8 : nI s * 8 = nI (s * 8) := by rw [show (8 : Int32) = nI 8 from rfl, q_mul]
      rw [eY, e8]
      rcases Nat.lt_or_ge s' s with u | u
      · show zcopyM X (k + 3) (k + 3) (nI 0) (nI (s * 8)) (nI 8) (k + 3) (s' * 8 + p) = _
        rw [zcopy_out (by omega) (by omega) (by omega) (by omega)]
        exact f2 s' p u hp
      · have e : s' = s := by omega
        subst e
        show zcopyM X (k + 3) (k + 3) (nI 0) (nI (s' * 8)) (nI 8) (k + 3) (s' * 8 + p) = _
        rw [zcopy_in (by omega) (by omega) (by omega) (by omega) (by omega)]
        unfold us
        rw [if_neg (fun q => q.elim s0 (bit.mp w)), show 0 + (s' * 8 + p - s' * 8) = p by omega]
        exact f3 p (by omega)
    · have s0 : s ≠ 0 := fun e => v (by rw [e]; decide)
      have e8 : nI s * 8 = nI (s * 8) := by rw [show (8 : Int32) = nI 8 from rfl, q_mul]
      rw [eY, e8]
      show zcopyM X (k + 3) (k + 3) (nI 0) (nI (s * 8)) (nI 8) (k + 3) j = _
      rw [zcopy_out (by omega) (by omega) (by omega) (by omega)]
      exact f3 j (by omega)
theorem tk_e_st {T : Nat → Int32} {z q : Nat} (ho : tk_o T z q) (hk : tk_k T z q ≠ 0) : q + 1 ≤ tk_e T z q := by
  have hqz : q < z := by
    unfold tk_k at hk
    split at hk
    · assumption
    · exact absurd rfl hk
  rcases ho with h | h | ⟨h, -⟩ | ⟨h, -⟩
  · exact absurd h hk
  · unfold tk_e; rw [if_neg (by omega), if_neg (by omega), if_pos h]; omega
  · have hl : isL (T q) = true := by
      unfold tk_k at h
      rw [if_pos hqz] at h
      split at h
      · omega
      · split at h
        · assumption
        · split at h <;> omega
    unfold tk_e
    rw [if_pos h, tk_s_go hqz hl]
    exact (tk_s_le _ _).1
  · have hf : isF (T q) = true := by
      unfold tk_k at h
      rw [if_pos hqz] at h
      split at h
      · omega
      · split at h
        · omega
        · split at h
          · assumption
          · omega
    unfold tk_e
    rw [if_neg (by omega), if_pos h, tk_s_go hqz hf]
    exact (tk_s_le _ _).1
theorem tk_k_b {T : Nat → Int32} {z q : Nat} : tk_k T z q ≤ 4 := by
  unfold tk_k
  split
  · split
    · omega
    · split
      · omega
      · split <;> omega
  · omega
theorem tkn_st {k z i : Nat} {M M1 : zMem} (r : rin k z i M) (h : tkn k z M true M1) (h7 : ¬ M1 k 7 = 0) : rin k z (i + 1) M1 := by
  obtain ⟨r1, -⟩ := tkn_in r h
  obtain ⟨p, hp, e6, h⟩ := h
  obtain ⟨r5, rz, p', ⟨hp0, hpz⟩, e6'⟩ := r
  have ep : p' = p := (nI_eq (by omega) (by omega)).mp (e6'.symm.trans e6)
  subst ep
  rcases h with ⟨-, ho, f, a6, a7, -⟩ | ⟨h, -⟩
  · have hk : tk_k (M (k + 6)) z (tk_q (M (k + 6)) z p') ≠ 0 := fun e => h7 (by rw [a7, e]; rfl)
    have hq := tk_q_b (T := M (k + 6)) hp
    have hb := tk_e_b (T := M (k + 6)) hq.2
    have hs := tk_e_st ho hk
    exact ⟨r1.1, rz, _, ⟨by omega, hb.2⟩, a6⟩
  · cases h
theorem tkn_nm {k z : Nat} {M M1 : zMem} (h : tkn k z M true M1) (h7 : M1 k 7 = 1) : ∃ nm, nm < 10 ∧ M1 k 9 = nI nm := by
  obtain ⟨p, hp, e6, h⟩ := h
  rcases h with ⟨-, ho, -, -, a7, -, a9⟩ | ⟨h, -⟩
  · have hk : tk_k (M (k + 6)) z (tk_q (M (k + 6)) z p) = 1 := (nI_eq (by have := tk_k_b (T := M (k + 6)) (z := z) (q := tk_q (M (k + 6)) z p); omega) (by omega)).mp (a7.symm.trans h7)
    have a9 := a9 (Or.inl hk)
    rcases ho with h | h | ⟨-, h⟩ | ⟨h, -⟩
    · omega
    · omega
    · exact ⟨_, h, by rw [a9]; unfold tk_v; rw [if_pos hk]⟩
    · omega
  · cases h
/-- line by line: f lines at most -/
def rAl (k z : Nat) : Nat → zMem → zMem → Prop
  | 0 => fun _ _ => False
  | f + 1 => fun M M' => ∃ b1 M1, tkn k z M b1 M1 ∧ ((b1 = false ∧ M' = M1) ∨ (b1 = true ∧ M1 k 7 = 0 ∧ M' = M1) ∨ (b1 = true ∧ ¬ M1 k 7 = 0 ∧ ∃ n H b2 M2, M1 (k + 1) 0 = nI n ∧ n ≤ 8 ∧ M1 (k + 1) 1 = nI H ∧ H ≤ 5 ∧ rLi k z n H M1 b2 M2 ∧ ((b2 = false ∧ M' = M2) ∨ (b2 = true ∧ rAl k z f M2 M'))))
theorem xt_lines {k z n0 H0 L0 : Nat} {u1 u2 : Bool} {M : zMem} {Q : Int32 → zMem → Prop} (d : DA k z 0 M n0 H0 L0 u1 u2)
    (hQ : ∀ M', rAl k z 401 M M' → (¬ M' k 1 = 0 → Q 0 M') ∧ (M' k 1 = 0 → wp_Reader_isComplete k M' (fun zr12 zm11 => (zr12 = 0 → Q 0 zm11) ∧ (¬ zr12 = 0 → Q 1 zm11)))) : ∃ n, zlp2 (wpB_Reader_readAll_51 k Q) n 1 0 M := by
  refine zlp2_r (fun m x1 x2 M' => ∃ i, x2 = nI i ∧ i ≤ 401 ∧ m = 401 - i ∧ ((x1 = 0 ∧ (¬ M' k 1 = 0 → Q 0 M') ∧ (M' k 1 = 0 → wp_Reader_isComplete k M' (fun zr12 zm11 => (zr12 = 0 → Q 0 zm11) ∧ (¬ zr12 = 0 → Q 1 zm11)))) ∨ (x1 = 1 ∧ (∃ n H L t1 t2, DA k z i M' n H L t1 t2) ∧ ∀ M'', rAl k z (401 - i) M' M'' → (¬ M'' k 1 = 0 → Q 0 M'') ∧ (M'' k 1 = 0 → wp_Reader_isComplete k M'' (fun zr12 zm11 => (zr12 = 0 → Q 0 zm11) ∧ (¬ zr12 = 0 → Q 1 zm11)))))) ?_ (n := 401) ⟨0, rfl, by omega, rfl, Or.inr ⟨rfl, ⟨_, _, _, _, _, d⟩, hQ⟩⟩
  rintro m x1 x2 M' ⟨i, rfl, hi, rfl, hc⟩ J hJ
  unfold wpB_Reader_readAll_51
  rcases hc with ⟨rfl, hq⟩ | ⟨rfl, ⟨n, H, L, t1, t2, da⟩, rQ⟩
  · exact ⟨fun _ => hq, fun _ => ⟨fun _ => hq, fun w => absurd rfl w⟩⟩
  · obtain ⟨r, dw, dn⟩ := da
    have hi2 : i ≤ 400 := by
      obtain ⟨-, rz, p, ⟨h1, h2⟩, -⟩ := r
      omega
    refine ⟨fun c => ?_, fun c => ⟨fun w => absurd w (by decide), fun _ => ?_⟩⟩
    · have := (nI_ltI (a := 400) (by omega) (by omega)).mp c
      omega
    obtain ⟨f, ef⟩ : ∃ f, 401 - i = f + 1 := ⟨400 - i, by omega⟩
    have ef2 : 401 - (i + 1) = f := by omega
    rw [ef] at rQ
    refine xt_tkn r (fun b1 M1 h1 => ?_)
    cases b1 with
    | false =>
      refine ⟨fun _ y ey => ?_, fun w => absurd rfl w⟩
      rw [ey, nI_1]
      exact hJ (401 - (i + 1)) _ _ _ (by omega) ⟨i + 1, rfl, by omega, rfl, Or.inl ⟨rfl, rQ M1 ⟨false, M1, h1, Or.inl ⟨rfl, rfl⟩⟩⟩⟩
    | true =>
      refine ⟨fun w => absurd w (by decide), fun _ => ⟨fun c7 y ey => ?_, fun c7 => ?_⟩⟩
      · rw [ey, nI_1]
        exact hJ (401 - (i + 1)) _ _ _ (by omega) ⟨i + 1, rfl, by omega, rfl, Or.inl ⟨rfl, rQ M1 ⟨true, M1, h1, Or.inr (Or.inl ⟨rfl, c7, rfl⟩)⟩⟩⟩
      · obtain ⟨-, f1⟩ := tkn_in r h1
        have r1 := tkn_st r h1 c7
        have d1 : DA k z (i + 1) M1 n H L t1 t2 := ⟨r1, dw.tk f1, dn.tk f1⟩
        obtain ⟨⟨b1, b2, b3, b4⟩, en, eH, -⟩ := id d1.2.1
        have hnm : ∃ nm, M1 k 7 = 1 → nm < 10 ∧ M1 k 9 = nI nm := by
          by_cases w : M1 k 7 = 1
          · obtain ⟨nm, a, b⟩ := tkn_nm h1 w
            exact ⟨nm, fun _ => ⟨a, b⟩⟩
          · exact ⟨0, fun v => absurd v w⟩
        obtain ⟨nm, hnm⟩ := hnm
        refine xt_line (nm := nm) r1 en b1 eH b2 hnm (fun b2' M2 h2 => ?_)
        cases b2' with
        | false =>
          refine ⟨fun _ y ey => ?_, fun w => absurd rfl w⟩
          rw [ey, nI_1]
          exact hJ (401 - (i + 1)) _ _ _ (by omega) ⟨i + 1, rfl, by omega, rfl, Or.inl ⟨rfl, rQ M2 ⟨true, M1, h1, Or.inr (Or.inr ⟨rfl, c7, n, H, false, M2, en, b1, eH, b2, h2, Or.inl ⟨rfl, rfl⟩⟩)⟩⟩⟩
        | true =>
          refine ⟨fun w => absurd w (by decide), fun _ y ey => ?_⟩
          rw [ey, nI_1]
          exact hJ (401 - (i + 1)) _ _ _ (by omega) ⟨i + 1, rfl, by omega, rfl, Or.inr ⟨rfl, DA_line d1 h2, fun M'' h => rQ M'' ⟨true, M1, h1, Or.inr (Or.inr ⟨rfl, c7, n, H, true, M2, en, b1, eH, b2, h2, Or.inr ⟨rfl, by rw [ef2] at h; exact h⟩⟩)⟩⟩⟩
/-- the token at hand is the same -/
def AT (k : Nat) (M W : zMem) : Prop := W 0 3 = 0 ∧ W 0 5 = M k 6 ∧ W 0 6 = M k 8 ∧ W 0 7 = M k 7 ∧ (M k 7 = 1 ∨ M k 7 = 2 → W 0 8 = M k 9)
/-- a fault has been met, the same one -/
def BAD (k : Nat) (M W : zMem) : Prop := ∃ c, 1 ≤ c ∧ c ≤ 7 ∧ W 0 3 = nI c ∧ M k 1 = nI c ∧ W 0 4 = M k 2
def bw (W : zMem) : Prop := ∃ c, 1 ≤ c ∧ c ≤ 7 ∧ W 0 3 = nI c
theorem BAD.w {k : Nat} {M W : zMem} (h : BAD k M W) : bw W := by
  obtain ⟨c, a, b, e, -⟩ := h
  exact ⟨c, a, b, e⟩
theorem bw.ne {W : zMem} (h : bw W) : ¬ W 0 3 = 0 := by
  obtain ⟨c, a, b, e⟩ := h
  rw [e]
  exact nI_ne0 (by omega) (by omega)
/-- what a line of the reference may change -/
def lw (W W' : zMem) : Prop := (∀ c, c ≠ 0 → c ≠ 5 → W' c = W c) ∧ ∀ j, (j < 3 ∨ (9 ≤ j ∧ j ≤ 12) ∨ 16 ≤ j) → W' 0 j = W 0 j
theorem lw.rf {W : zMem} : lw W W := ⟨fun _ _ _ => rfl, fun _ _ => rfl⟩
theorem lw.tr {W W1 W2 : zMem} (a : lw W W1) (b : lw W1 W2) : lw W W2 := ⟨fun c h h2 => (b.1 c h h2).trans (a.1 c h h2), fun j h => (b.2 j h).trans (a.2 j h)⟩
theorem tkw.l {W W' : zMem} (a : tkw W W') : lw W W' := ⟨fun c h _ => a.1 c h, fun j h => a.2 j (by omega)⟩
theorem lw.u5 {W : zMem} {j : Nat} {x : Int32} : lw W (zup W 5 j x) := ⟨fun c _ h => zup_ne h, fun i _ => by rw [zup_ne (by omega)]⟩
theorem lw.u0 {W : zMem} {j : Nat} {x : Int32} (h : (3 ≤ j ∧ j ≤ 8) ∨ (13 ≤ j ∧ j ≤ 15)) : lw W (zup W 0 j x) := ⟨fun c h _ => zup_ne h, fun i hi => by rw [zup_eq, upd_ne (by omega)]⟩
theorem tkw.fs {W : zMem} {c : Int32} : tkw W (wfs c W) := by
  unfold wfs
  exact (tkw.rf.up (by omega) (by omega)).up (by omega) (by omega)
/-- the tape and the table of words, for both -/
def WS (k z : Nat) (M W : zMem) : Prop := W 0 1 = nI z ∧ z ≤ 400 ∧ tpe (M (k + 6)) (W 1) z ∧ wtb W
theorem WS.mv {k z : Nat} {M M' W W' : zMem} (h : WS k z M W) (f : lf k M M') (g : lw W W') : WS k z M' W' := by
  obtain ⟨a, b, c, d⟩ := h
  refine ⟨(g.2 1 (by omega)).trans a, b, ?_, ?_⟩
  · rw [f (k + 6) (by omega), g.1 1 (by omega) (by omega)]; exact c
  · unfold wtb
    rw [g.1 2 (by omega) (by omega), g.1 3 (by omega) (by omega)]; exact d
/-- the reference has read what the class reads next -/
def NXT (k z : Nat) (M W : zMem) : Prop := ∃ p, p ≤ z ∧ M k 6 = nI p ∧ nT (M (k + 6)) z p W
theorem mt_nx {k z p0 : Nat} {M W : zMem} {Q : zMem → Prop} (h3 : W 0 3 = 0) (h5 : W 0 5 = M k 6) (s : WS k z M W) (r : rin k z p0 M) (hQ : ∀ W', tkw W W' → NXT k z M W' → Q W') : wp_Model_next W Q := by
  obtain ⟨-, -, p, ⟨-, hp⟩, e6⟩ := r
  exact mt_next h3 s.1 s.2.1 (h5.trans e6) hp s.2.2.1 s.2.2.2 (fun W' f h => hQ W' f ⟨p, hp, e6, h⟩)
theorem nx_tkn {k z : Nat} {M M1 W : zMem} {b : Bool} (hz : z ≤ 400) (h : NXT k z M W) (t : tkn k z M b M1) : (b = true → AT k M1 W) ∧ (b = false → BAD k M1 W) := by
  obtain ⟨p, hp, e6, h6, h⟩ := h
  obtain ⟨p', hp', e6', t⟩ := t
  have ep : p = p' := (nI_eq (by omega) (by omega)).mp (e6.symm.trans e6')
  subst ep
  rcases t with ⟨rfl, ho, f, a6, a7, a8, a9⟩ | ⟨rfl, ho, M2, f, a8, rfl⟩
  · refine ⟨fun _ => ?_, fun w => by cases w⟩
    rcases h with ⟨-, c3, c5, c7, c8⟩ | ⟨c, -⟩
    · refine ⟨c3, c5.trans a6.symm, h6.trans a8.symm, c7.trans a7.symm, fun w => ?_⟩
      have hk : tk_k (M (k + 6)) z (tk_q (M (k + 6)) z p) = 1 ∨ tk_k (M (k + 6)) z (tk_q (M (k + 6)) z p) = 2 := by
        have hb := tk_k_b (T := M (k + 6)) (z := z) (q := tk_q (M (k + 6)) z p)
        rw [a7] at w
        rcases w with w | w
        · exact Or.inl ((nI_eq (b := 1) (by omega) (by omega)).mp w)
        · exact Or.inr ((nI_eq (b := 2) (by omega) (by omega)).mp w)
      rw [c8 hk, a9 hk]
    · exact absurd ho c
  · refine ⟨fun w => (by cases w), fun _ => ?_⟩
    rcases h with ⟨c, -⟩ | ⟨-, c3, c4⟩
    · exact absurd c ho
    · refine ⟨1, by omega, by omega, c3, ?_, ?_⟩
      · unfold rfs; rw [zup_eq, upd_ne (by omega), zup_eq, upd_eq]; rfl
      · unfold rfs; rw [zup_eq, upd_eq, a8]; exact c4
theorem BAD_fs {k c : Nat} {M W : zMem} (h6 : W 0 6 = M k 8) (h1 : 1 ≤ c) (h7 : c ≤ 7) : BAD k (rfs k (nI c) M) (wfs (nI c) W) := by
  refine ⟨c, h1, h7, ?_, ?_, ?_⟩
  · unfold wfs; rw [zup_eq, upd_ne (by omega), zup_eq, upd_eq]
  · unfold rfs; rw [zup_eq, upd_ne (by omega), zup_eq, upd_eq]
  · unfold wfs rfs; rw [zup_eq, upd_eq, zup_eq, upd_eq]; exact h6
theorem BAD.mv {k : Nat} {M W W' : zMem} (h : BAD k M W) (e3 : W' 0 3 = W 0 3) (e4 : W' 0 4 = W 0 4) : BAD k M W' := by
  obtain ⟨c, a, b, e, f, g⟩ := h
  exact ⟨c, a, b, e3.trans e, f, e4.trans g⟩
theorem mt_num {k : Nat} {lo hi : Int32} {M M' W : zMem} {b : Bool} {Q : Int32 → zMem → Prop} (a : AT k M W) (h : rNu k lo hi M b M') (ht : b = true → M' = M → Q (M k 9) W) (hf : ∀ W', b = false → tkw W W' → BAD k M' W' → Q lo W') : wp_Model_number lo hi W Q := by
  obtain ⟨a3, a5, a6, a7, a8⟩ := a
  have nb : ∀ c : Nat, 1 ≤ c → c ≤ 7 → ¬ wfs (nI c) W 0 3 = 0 := fun c c1 c7 => by
    unfold wfs
    rw [zup_eq, upd_ne (by omega), zup_eq, upd_eq]
    exact nI_ne0 (by omega) (by omega)
  unfold wp_Model_number wpJ_Model_number_20
  refine ⟨fun w => absurd a3 w, fun _ => ⟨fun c7 => ⟨fun w => absurd a3 w, fun _ => ?_⟩, fun c7 => e_fails (c := nI 2) a3 ⟨fun _ => ⟨fun _ => ?_, fun w => absurd w (nb 2 (by omega) (by omega))⟩, fun w => absurd w (nb 2 (by omega) (by omega))⟩⟩⟩
  · rw [a7] at c7
    rcases h with ⟨c, -⟩ | ⟨-, h⟩
    · exact absurd c7 c
    rw [a8 (Or.inr c7)]
    rcases h with ⟨c, rfl, rfl⟩ | ⟨c1, c2, rfl, rfl⟩
    · refine mt_in (lo' := lo) (hi' := hi) rfl rfl (fun d1 d2 => ?_) (fun d => ⟨fun w => absurd rfl w, fun _ => e_fails (c := nI 3) a3 ⟨fun _ => hf _ rfl tkw.fs (BAD_fs (c := 3) a6 (by omega) (by omega)), fun w => absurd w (nb 3 (by omega) (by omega))⟩⟩)
      rcases c with c | c
      · exact absurd c (Int32.not_lt.mpr d1)
      · exact absurd d2 c
    · refine mt_in (lo' := lo) (hi' := hi) rfl rfl (fun d1 d2 => ⟨fun _ => ⟨fun w => absurd a3 w, fun _ => ?_⟩, fun w => absurd w (by decide)⟩) (fun d => absurd ⟨Int32.not_lt.mp c1, c2⟩ d)
      have := ht rfl rfl
      rw [a8 (Or.inr c7)]
      exact this
  · rw [a7] at c7
    rcases h with ⟨-, rfl, rfl⟩ | ⟨c, -⟩
    · exact hf _ rfl tkw.fs (BAD_fs (c := 2) a6 (by omega) (by omega))
    · exact absurd c c7
theorem mt_num_bad {lo hi : Int32} {W : zMem} {Q : Int32 → zMem → Prop} (h : bw W) (hQ : Q lo W) : wp_Model_number lo hi W Q := by
  have n := h.ne
  unfold wp_Model_number wpJ_Model_number_20
  exact ⟨fun _ => ⟨fun _ => ⟨fun _ => hQ, fun w => absurd w n⟩, fun w => absurd w n⟩, fun w => absurd w n⟩
/-- a fault stays as it is -/
def kb (W W' : zMem) : Prop := lw W W' ∧ W' 0 3 = W 0 3 ∧ W' 0 4 = W 0 4
theorem kb.rf {W : zMem} : kb W W := ⟨lw.rf, rfl, rfl⟩
theorem kb.tr {W W1 W2 : zMem} (a : kb W W1) (b : kb W1 W2) : kb W W2 := ⟨a.1.tr b.1, b.2.1.trans a.2.1, b.2.2.trans a.2.2⟩
theorem kb.u5 {W : zMem} {j : Nat} {x : Int32} : kb W (zup W 5 j x) := ⟨lw.u5, by rw [zup_ne (by omega)], by rw [zup_ne (by omega)]⟩
theorem kb.u0 {W : zMem} {j : Nat} {x : Int32} (h : 13 ≤ j ∧ j ≤ 15) : kb W (zup W 0 j x) := ⟨lw.u0 (by omega), by rw [zup_eq, upd_ne (by omega)], by rw [zup_eq, upd_ne (by omega)]⟩
theorem kb.w {W W' : zMem} (a : kb W W') (h : bw W) : bw W' := by
  obtain ⟨c, x, y, e⟩ := h
  exact ⟨c, x, y, a.2.1.trans e⟩
theorem BAD.kb {k : Nat} {M W W' : zMem} (h : BAD k M W) (a : kb W W') : BAD k M W' := h.mv a.2.1 a.2.2
theorem mt_nums_bad {a m : Nat} {lo hi : Int32} {W : zMem} {Q : zMem → Prop} (h : bw W) (ha : a + m ≤ 100) (hQ : ∀ W', kb W W' → (∀ j, (j < a ∨ a + m ≤ j) → W' 5 j = W 5 j) → Q W') : wp_Model_numbers (nI a) (nI m) lo hi W Q := by
  refine zlp1_r (fun n x W' => ∃ i, x = nI i ∧ i ≤ m ∧ n = m - i ∧ kb W W' ∧ ∀ j, (j < a ∨ a + m ≤ j) → W' 5 j = W 5 j) ?_ (n := m) ⟨0, rfl, by omega, rfl, kb.rf, fun _ _ => rfl⟩
  rintro n x W' ⟨i, rfl, hi, rfl, k1, k2⟩ J hJ
  unfold wpB_Model_numbers_3
  refine ⟨fun _ => hQ W' k1 k2, fun c => ?_⟩
  have hi2 : i < m := (nI_ltI (by omega) (by omega)).mp (Int32.not_le.mp c)
  refine mt_num_bad (k1.w h) ?_
  rw [q_add, q_ix (by omega)]
  refine ⟨vp_in_nI (by omega) (by omega), fun W3 e3 => ?_⟩
  have k3 : kb W W3 := k1.tr (by rw [e3]; exact kb.u5)
  refine mt_next_no (k3.w h) (fun y ey => ?_)
  rw [ey, nI_1]
  exact hJ (m - (i + 1)) _ _ (by omega) ⟨i + 1, rfl, by omega, rfl, k3, fun j hj => by rw [e3, zup_eq, upd_ne (by omega)]; exact k2 j hj⟩
/-- the end of a line: the sign, and what stands behind it -/
theorem mt_sign {k z p0 : Nat} {X M' W : zMem} {b : Bool} {Q : zMem → Prop} (n : NXT k z X W) (s : WS k z X W) (r : rin k z p0 X) (h : rS k z X b M') (ht : ∀ W', b = true → tkw W W' → NXT k z M' W' → Q W') (hf : ∀ W', b = false → tkw W W' → BAD k M' W' → Q W') : wpJ_Model_readLine_218 Q W := by
  obtain ⟨b1, M1, t, h⟩ := h
  obtain ⟨n1, n2⟩ := nx_tkn s.2.1 n t
  unfold wpJ_Model_readLine_218
  rcases h with ⟨rfl, rfl, rfl⟩ | ⟨rfl, h⟩
  · have bd := n2 rfl
    exact ⟨fun _ => mt_next_no bd.w (hf W rfl tkw.rf bd), fun w => absurd w bd.w.ne⟩
  · have at1 := n1 rfl
    obtain ⟨r1, f1⟩ := tkn_in r t
    refine ⟨fun w => absurd at1.1 w, fun _ => ⟨fun c => ?_, fun c => ?_⟩⟩
    · rw [at1.2.2.2.1] at c
      rcases h with ⟨d, -⟩ | ⟨-, rfl, rfl⟩
      · exact absurd c d
      · exact mt_nx at1.1 at1.2.1 (s.mv f1.lf lw.rf) r1 (fun W' f h => ht W' rfl f h)
    · rw [at1.2.2.2.1] at c
      rcases h with ⟨-, rfl, rfl⟩ | ⟨d, -⟩
      · have bd := BAD_fs (c := 2) at1.2.2.1 (by omega) (by omega)
        exact e_fails (c := nI 2) at1.1 (mt_next_no bd.w (hf _ rfl tkw.fs bd))
      · exact absurd d c
theorem mt_sign_bad {W : zMem} {Q : zMem → Prop} (h : bw W) (hQ : Q W) : wpJ_Model_readLine_218 Q W := ⟨fun _ => mt_next_no h hQ, fun w => absurd w h.ne⟩
/-- what both have been told -/
def EQ (k : Nat) (M W : zMem) (n H L : Nat) (t1 t2 : Bool) : Prop :=
  (∀ j, j ≤ 6 → W 5 j = M (k + 1) j) ∧ (∀ i, i < L → W 5 (10 + i) = M (k + 2) i) ∧ (∀ s p, (s = 0 ∨ (s = 1 ∧ t1 = true) ∨ (s = 2 ∧ t2 = true)) → p < n → W 5 (30 + 8 * s + p) = M (k + 3) (s * 8 + p)) ∧ (∀ h p, h < H → p < n → W 5 (60 + 8 * h + p) = M (k + 4) (h * 8 + p)) ∧ (¬ M (k + 1) 4 = 0 → ∀ h, h + 1 < H → W 5 (20 + h) = M (k + 5) h) ∧ W 0 13 = M k 10 ∧ W 0 14 = M k 11 ∧ W 0 15 = M k 13
theorem EQ.mv {k n H L : Nat} {t1 t2 : Bool} {M M' W W' : zMem} (h : EQ k M W n H L t1 t2) (f : ∀ i, 1 ≤ i → i ≤ 5 → M' (k + i) = M (k + i)) (f2 : M' k 10 = M k 10 ∧ M' k 11 = M k 11 ∧ M' k 13 = M k 13) (g : tkw W W') : EQ k M' W' n H L t1 t2 := by
  unfold EQ at h ⊢
  rw [f 1 (by omega) (by omega), f 2 (by omega) (by omega), f 3 (by omega) (by omega), f 4 (by omega) (by omega), f 5 (by omega) (by omega), f2.1, f2.2.1, f2.2.2, g.1 5 (by omega), g.2 13 (by omega), g.2 14 (by omega), g.2 15 (by omega)]
  exact h
theorem EQ.tk {k n H L : Nat} {t1 t2 : Bool} {M M' W W' : zMem} (h : EQ k M W n H L t1 t2) (f : tkf k M M') (g : tkw W W') : EQ k M' W' n H L t1 t2 := h.mv (fun i h1 _ => f.1 _ (by omega)) ⟨f.2 10 (by omega) (by omega) (by omega) (by omega), f.2 11 (by omega) (by omega) (by omega) (by omega), f.2 13 (by omega) (by omega) (by omega) (by omega)⟩ g
/-- how a line of the reference ends -/
def PL (k z : Nat) (M' W : zMem) (b : Bool) (Q : zMem → Prop) : Prop := (∀ W', b = true → lw W W' → NXT k z M' W' → (∃ n H L t1 t2, DW k M' n H L t1 t2 ∧ EQ k M' W' n H L t1 t2) → Q W') ∧ (∀ W', b = false → lw W W' → BAD k M' W' → Q W')
theorem mt_numN {k z : Nat} {lo hi : Int32} {M M1 W : zMem} {b : Bool} {Q : Int32 → zMem → Prop} (n : NXT k z M W) (hz : z ≤ 400) (h : rN k z lo hi M b M1) (ht : b = true → AT k M1 W → Q (M1 k 9) W) (hf : ∀ W', b = false → tkw W W' → BAD k M1 W' → Q lo W') : wp_Model_number lo hi W Q := by
  obtain ⟨b0, M0, t, h⟩ := h
  obtain ⟨n1, n2⟩ := nx_tkn hz n t
  rcases h with ⟨rfl, rfl, rfl⟩ | ⟨rfl, h⟩
  · have bd := n2 rfl
    exact mt_num_bad bd.w (hf W rfl tkw.rf bd)
  · have a := n1 rfl
    exact mt_num a h (fun hb e => by
      have := ht hb (by rw [e]; exact a)
      rw [e] at this; exact this) hf
theorem mt_end {k z p0 n H L : Nat} {t1 t2 : Bool} {X M' W W3 : zMem} {b : Bool} {Q : zMem → Prop} (h3 : W3 0 3 = 0) (h5 : W3 0 5 = X k 6) (s : WS k z X W3) (r : rin k z p0 X) (h : rS k z X b M') (l : lw W W3) (e : EQ k X W3 n H L t1 t2) (hD : b = true → DW k M' n H L t1 t2) (q : PL k z M' W b Q) : wp_Model_next W3 (fun W4 => wpJ_Model_readLine_218 Q W4) :=
  mt_nx h3 h5 s r (fun W4 f4 n4 => mt_sign n4 (s.mv (fun _ _ => rfl) f4.l) r h (fun W' hb f' n' => q.1 W' hb ((l.tr f4.l).tr f'.l) n' ⟨_, _, _, _, _, hD hb, e.tk (rS_in r (by rw [hb] at h; exact h)).2 (f4.tr f')⟩) (fun W' hb f' bd => q.2 W' hb ((l.tr f4.l).tr f'.l) bd))
theorem mt_endb {k z : Nat} {M' W W3 : zMem} {b : Bool} {Q : zMem → Prop} (hb : b = false) (bd : BAD k M' W3) (l : lw W W3) (q : PL k z M' W b Q) : wp_Model_next W3 (fun W4 => wpJ_Model_readLine_218 Q W4) := mt_next_no bd.w (mt_sign_bad bd.w (q.2 W3 hb l bd))
theorem mt_piece {k z p0 n H L : Nat} {t1 t2 : Bool} {M M' W : zMem} {b : Bool} {Q : zMem → Prop} (a : AT k M W) (s : WS k z M W) (r : rin k z p0 M) (d : DW k M n H L t1 t2) (e : EQ k M W n H L t1 t2) (h : rPi k z M b M') (q : PL k z M' W b Q) : wp_Model_readPiece W (fun W1 => wpJ_Model_readLine_218 Q W1) := by
  have hD : b = true → DW k M' (n + 1) H L t1 t2 := fun hb => (DW_piece r d (by rw [hb] at h; exact h)).2
  obtain ⟨⟨b1, b2, b3, b4⟩, en, eH, -, -, -, -, -, -, -, -, -, es, k12, k12', -⟩ := id d
  have w0 : W 5 (ix 0) = nI n := (e.1 0 (by omega)).trans en
  have w1 : W 5 (ix 1) = nI H := (e.1 1 (by omega)).trans eH
  have w14 : W 0 14 = nI (stb t1 t2) := e.2.2.2.2.2.2.1.trans es
  have w15 : W 0 15 = M k 13 := e.2.2.2.2.2.2.2
  unfold wp_Model_readPiece
  rw [w0, w1, w14, w15]
  rcases h with ⟨hc, hb, hM⟩ | ⟨c12, cn, h⟩
  · have bad : wpJ_Model_readPiece_34 (fun W1 => wpJ_Model_readLine_218 Q W1) W := by
      have bd := BAD_fs (k := k) (c := 5) (M := M) (W := W) a.2.2.1 (by omega) (by omega)
      have bd' : BAD k M' (wfs (nI 5) W) := by rw [hM]; exact bd
      exact e_fails (c := nI 5) a.1 (mt_next_no bd.w (mt_num_bad bd.w ⟨fun _ => mt_endb hb bd' tkw.fs.l q, fun w => absurd w bd.w.ne⟩))
    refine ⟨vp_in_nI (n := 0) (by omega) (by omega), fun _ => bad, fun c8 => ⟨fun _ => bad, fun cs => ⟨vp_in_nI (n := 1) (by omega) (by omega), fun _ => bad, fun cH => ⟨fun c13 => ?_, fun _ => bad⟩⟩⟩⟩
    exfalso
    have n8 : n ≠ 8 := fun w => c8 (by rw [w]; rfl)
    have c12 : ¬ M k 12 = 0 := by
      rcases hc with w | w
      · exact w
      · exact absurd (by rw [en]; exact (nI_ltI (b := 8) (by omega) (by omega)).mpr (by omega)) w
    have st : stb t1 t2 = 0 := (nI_eq (b := 0) (by unfold stb; split <;> split <;> omega) (by omega)).mp cs
    rcases k12' c12 with w | w | w | w
    · rw [w] at st; unfold stb at st; simp at st
    · rw [w] at st; unfold stb at st; simp at st
    · exact cH ((nI_0lt (by omega)).mpr w)
    · exact w c13
  · obtain ⟨q1, q2, q3, q4⟩ := k12 c12
    have n8 : n < 8 := by
      rw [en] at cn
      exact (nI_ltI (b := 8) (by omega) (by omega)).mp cn
    have st : stb t1 t2 = 0 := by rw [q1, q2]; rfl
    have go : wpJ_Model_readPiece_39 (fun W1 => wpJ_Model_readLine_218 Q W1) W := by
      obtain ⟨b1', M1, h1, h⟩ := h
      refine mt_nx a.1 a.2.1 s r (fun W1 f1 n1 => mt_numN n1 s.2.1 h1 (fun hb1 a1 => ?_) (fun W2 hb1 f2 bd => ?_))
      · subst hb1
        rcases h with ⟨h, -⟩ | ⟨-, h⟩
        · cases h
        obtain ⟨s1, g1, -, lo, hi⟩ := rN_in r h1
        have e1 := e.tk g1 f1
        have en1 : M1 (k + 1) 0 = nI n := by rw [g1.1 (k + 1) (by omega)]; exact en
        have w5 : W1 5 (ix 0) = nI n := by rw [f1.1 5 (by omega)]; exact w0
        have e30 : (30 : Int32) + nI n = nI (30 + n) := q_add 30 n
        rw [en1, q_ix (by omega), nI_1] at h
        rw [w5, e30, q_ix (by omega)]
        refine ⟨fun w => absurd a1.1 w, fun _ => ⟨vp_in_nI (n := 0) (by omega) (by omega), vp_in_nI (by omega) (by omega), fun W9 e9 => ⟨vp_in_nI (n := 0) (by omega) (by omega), vp_in_nI (n := 0) (by omega) (by omega), fun W10 e10 => ?_⟩⟩⟩
        have y0 : W9 5 (ix 0) = nI n := by rw [e9, zup_eq]; exact (upd_ne (show (0 : Nat) ≠ 30 + n by omega)).trans w5
        rw [y0, nI_1] at e10
        have e10' : W10 = zup (zup W1 5 (30 + n) (M1 k 9)) 5 0 (nI (n + 1)) := by rw [e10, e9]; rfl
        generalize hX : zup (zup M1 (k + 3) n (M1 k 9)) (k + 1) 0 (nI (n + 1)) = X at h
        have lX : lf k M X := g1.lf.tr (by rw [← hX]; exact (lf.up (by omega) (by omega)).tr (lf.up (by omega) (by omega)))
        have lW : lw W W10 := f1.l.tr (by rw [e10']; exact lw.u5.tr lw.u5)
        refine mt_end (X := X) (n := n + 1) (by rw [e10', zup_ne (by omega), zup_ne (by omega)]; exact a1.1) (by rw [e10', zup_ne (by omega), zup_ne (by omega), ← hX, zup_ne (by omega), zup_ne (by omega)]; exact a1.2.1) (s.mv lX lW) (rin_mv s1 (by rw [← hX, zup_ne (by omega), zup_ne (by omega)]) (by rw [← hX, zup_ne (by omega), zup_ne (by omega)])) h lW ?_ hD q
        obtain ⟨i0, i1, i2, i3, i4, i5, i6, i7⟩ := e1
        have xk : ∀ i, i = 0 ∨ i = 2 ∨ i = 4 ∨ i = 5 → X (k + i) = M1 (k + i) := fun i hi => by rw [← hX, zup_ne (by omega), zup_ne (by omega)]
        have x0 : X k = M1 k := xk 0 (by omega)
        have y5 : ∀ j, j ≠ 0 → j ≠ 30 + n → W10 5 j = W1 5 j := fun j j1 j2 => by rw [e10', zup_eq, upd_ne j1, zup_eq, upd_ne j2]
        have yk : W10 0 = W1 0 := by rw [e10', zup_ne (by omega), zup_ne (by omega)]
        refine ⟨fun j hj => ?_, fun i hi => ?_, fun s' p hs hp => ?_, fun h p hh => absurd hh (by omega), fun w h hh => absurd hh (by omega), by rw [yk, x0]; exact i5, by rw [yk, x0]; exact i6, by rw [yk, x0]; exact i7⟩
        · by_cases w : j = 0
          · subst w
            rw [e10', zup_eq, upd_eq, ← hX, zup_eq, upd_eq]
          · rw [y5 j w (by omega), ← hX, zup_eq, upd_ne w, zup_ne (by omega)]; exact i0 j hj
        · rw [y5 _ (by omega) (by omega), xk 2 (by omega)]; exact i1 i hi
        · have hs0 : s' = 0 := by
            rcases hs with w | w | w
            · exact w
            · rw [q1] at w; exact absurd w.2 (by decide)
            · rw [q2] at w; exact absurd w.2 (by decide)
          subst hs0
          have x3 : X (k + 3) = upd (M1 (k + 3)) n (M1 k 9) := by rw [← hX, zup_ne (by omega), zup_eq]
          rw [x3]
          by_cases w : p = n
          · rw [w, show 30 + 8 * 0 + n = 30 + n by omega, show 0 * 8 + n = n by omega, upd_eq, e10', zup_eq, upd_ne (by omega), zup_eq, upd_eq]
          · rw [y5 _ (by omega) (by omega), upd_ne (by omega)]
            exact i2 0 p (Or.inl rfl) (by omega)
      · subst hb1
        rcases h with ⟨-, hb, hM⟩ | ⟨h, -⟩
        · exact ⟨fun _ => mt_endb hb (by rw [hM]; exact bd) (f1.tr f2).l q, fun w => absurd w bd.w.ne⟩
        · cases h
    refine ⟨vp_in_nI (n := 0) (by omega) (by omega), fun c8 => ?_, fun c8 => ⟨fun cs => ?_, fun cs => ⟨vp_in_nI (n := 1) (by omega) (by omega), fun cH => ?_, fun cH => ⟨fun c13 => go, fun c13 => absurd q4 c13⟩⟩⟩⟩
    · have := (nI_eq (b := 8) (by omega) (by omega)).mp c8
      omega
    · exact absurd (by rw [st]; rfl) cs
    · have := (nI_0lt (by omega)).mp cH
      omega
/-- numbers into a row: what may change -/
def l5 (W W' : zMem) : Prop := (∀ c, c ≠ 0 → c ≠ 5 → W' c = W c) ∧ ∀ j, (j < 3 ∨ 8 < j) → W' 0 j = W 0 j
theorem l5.l {W W' : zMem} (h : l5 W W') : lw W W' := ⟨h.1, fun j hj => h.2 j (by omega)⟩
theorem l5.rf {W : zMem} : l5 W W := ⟨fun _ _ _ => rfl, fun _ _ => rfl⟩
theorem l5.tr {W W1 W2 : zMem} (a : l5 W W1) (b : l5 W1 W2) : l5 W W2 := ⟨fun c h h2 => (b.1 c h h2).trans (a.1 c h h2), fun j h => (b.2 j h).trans (a.2 j h)⟩
theorem tkw.l5 {W W' : zMem} (a : tkw W W') : l5 W W' := ⟨fun c h _ => a.1 c h, a.2⟩
theorem l5_u {W : zMem} {j : Nat} {x : Int32} : l5 W (zup W 5 j x) := ⟨fun c _ h => zup_ne h, fun i _ => by rw [zup_ne (by omega)]⟩
theorem mt_nums {k z p0 c a ci m : Nat} {lo hi : Int32} {C : zMem → Bool → zMem → Prop} {X M' W : zMem} {b : Bool} {Q : zMem → Prop} (n : NXT k z X W) (s : WS k z X W) (r : rin k z p0 X) (h : rNs k z c lo hi C m ci X b M') (ha : a + m ≤ 100) (hc : k < c) (hc5 : c ≤ k + 5)
    (ht : ∀ X' W', C X' b M' → NXT k z X' W' → rin k z p0 X' → l5 W W' → (∀ j, (j < a ∨ a + m ≤ j) → W' 5 j = W 5 j) → (∀ j, j < m → W' 5 (a + j) = X' c (ci + j)) → (∀ d, d ≠ k → d ≠ c → X' d = X d) → (∀ j, (j < ci ∨ ci + m ≤ j) → X' c j = X c j) → (∀ j, j ≠ 6 → j ≠ 7 → j ≠ 8 → j ≠ 9 → X' k j = X k j) → Q W')
    (hf : ∀ W', b = false → BAD k M' W' → lw W W' → (∀ j, (j < a ∨ a + m ≤ j) → W' 5 j = W 5 j) → Q W') : wp_Model_numbers (nI a) (nI m) lo hi W Q := by
  refine zlp1_r (fun q x W' => ∃ i, x = nI i ∧ i ≤ m ∧ q = m - i ∧ (∀ j, (j < a ∨ a + m ≤ j) → W' 5 j = W 5 j) ∧ ((b = false ∧ BAD k M' W' ∧ lw W W') ∨ ∃ X', NXT k z X' W' ∧ rin k z p0 X' ∧ rNs k z c lo hi C (m - i) (ci + i) X' b M' ∧ l5 W W' ∧ (∀ j, j < i → W' 5 (a + j) = X' c (ci + j)) ∧ (∀ d, d ≠ k → d ≠ c → X' d = X d) ∧ (∀ j, (j < ci ∨ ci + i ≤ j) → X' c j = X c j) ∧ (∀ j, j ≠ 6 → j ≠ 7 → j ≠ 8 → j ≠ 9 → X' k j = X k j))) ?_ (n := m) ⟨0, rfl, by omega, rfl, fun _ _ => rfl, Or.inr ⟨X, n, r, h, l5.rf, fun j hj => absurd hj (by omega), fun _ _ _ => rfl, fun _ _ => rfl, fun _ _ _ _ _ => rfl⟩⟩
  rintro q x W' ⟨i, rfl, hi, rfl, g0, hcase⟩ J hJ
  unfold wpB_Model_numbers_3
  rcases hcase with ⟨hb, bd, l⟩ | ⟨X', n', r', h', l, g1, g2, g3, g4⟩
  · refine ⟨fun _ => hf W' hb bd l g0, fun cc => ?_⟩
    have hi2 : i < m := (nI_ltI (by omega) (by omega)).mp (Int32.not_le.mp cc)
    refine mt_num_bad bd.w ?_
    rw [q_add, q_ix (by omega)]
    refine ⟨vp_in_nI (by omega) (by omega), fun W3 e3 => ?_⟩
    have b3 : BAD k M' W3 := by rw [e3]; exact bd.kb kb.u5
    refine mt_next_no b3.w (fun y ey => ?_)
    rw [ey, nI_1]
    exact hJ (m - (i + 1)) _ _ (by omega) ⟨i + 1, rfl, by omega, rfl, fun j hj => by rw [e3, zup_eq, upd_ne (by omega)]; exact g0 j hj, Or.inl ⟨hb, b3, l.tr (by rw [e3]; exact lw.u5)⟩⟩
  · refine ⟨fun cc => ?_, fun cc => ?_⟩
    · have := (nI_leI (by omega) (by omega)).mp cc
      have ei : i = m := by omega
      subst ei
      rw [show i - i = 0 by omega] at h'
      exact ht X' W' h' n' r' l g0 g1 g2 g3 g4
    · have hi2 : i < m := (nI_ltI (by omega) (by omega)).mp (Int32.not_le.mp cc)
      obtain ⟨f, ef⟩ : ∃ f, m - i = f + 1 := ⟨m - i - 1, by omega⟩
      rw [ef] at h'
      obtain ⟨b1, M1, h1, h2⟩ := h'
      rw [q_add, q_ix (by omega)]
      refine mt_numN n' s.2.1 h1 (fun hb1 a1 => ⟨vp_in_nI (by omega) (by omega), fun W3 e3 => ?_⟩) (fun W2 hb1 f2 bd => ⟨vp_in_nI (by omega) (by omega), fun W3 e3 => ?_⟩)
      · subst hb1
        rcases h2 with ⟨h2, -⟩ | ⟨-, h2⟩
        · cases h2
        obtain ⟨r1, t1, -⟩ := rN_in r' h1
        have w5 : l5 W W3 := l.tr (by rw [e3]; exact l5_u)
        generalize hY : zup M1 c (ci + i) (M1 k 9) = Y at h2
        have lY : lf k X Y := by
          intro d hd
          rw [← hY, zup_ne (by omega), t1.1 d (by omega)]
          exact g2 d (by omega) (by omega)
        have rY : rin k z p0 Y := rin_mv r1 (by rw [← hY, zup_ne (by omega)]) (by rw [← hY, zup_ne (by omega)])
        refine mt_nx (M := Y) (by rw [e3, zup_ne (by omega)]; exact a1.1) (by rw [e3, zup_ne (by omega), ← hY, zup_ne (by omega)]; exact a1.2.1) (s.mv lY w5.l) rY (fun W4 f4 n4 y ey => ?_)
        rw [ey, nI_1]
        have y5 : W4 5 = W3 5 := f4.1 5 (by omega)
        refine hJ (m - (i + 1)) _ _ (by omega) ⟨i + 1, rfl, by omega, rfl, fun j hj => by rw [y5, e3, zup_eq, upd_ne (by omega)]; exact g0 j hj, Or.inr ⟨Y, n4, rY, by rw [show m - (i + 1) = f by omega, show ci + (i + 1) = ci + i + 1 by omega]; exact h2, w5.tr f4.l5, fun j hj => ?_, fun d h1 h2 => ?_, fun j hj => ?_, fun j a b c' d => ?_⟩⟩
        · rw [y5, e3, zup_eq]
          by_cases e : j = i
          · rw [e, upd_eq, ← hY, zup_eq, upd_eq]
          · rw [upd_ne (by omega), ← hY, zup_eq, upd_ne (by omega), t1.1 c (by omega)]
            exact g1 j (by omega)
        · rw [← hY, zup_ne h2, t1.1 d h1]; exact g2 d h1 h2
        · rw [← hY, zup_eq, upd_ne (by omega), t1.1 c (by omega)]; exact g3 j (by omega)
        · rw [← hY, zup_ne (by omega), t1.2 j a b c' d]; exact g4 j a b c' d
      · subst hb1
        rcases h2 with ⟨-, hb, hM⟩ | ⟨h2, -⟩
        · have b3 : BAD k M' W3 := by rw [hM, e3]; exact bd.kb kb.u5
          refine mt_next_no b3.w (fun y ey => ?_)
          rw [ey, nI_1]
          exact hJ (m - (i + 1)) _ _ (by omega) ⟨i + 1, rfl, by omega, rfl, fun j hj => by rw [e3, zup_eq, upd_ne (by omega), f2.1 5 (by omega)]; exact g0 j hj, Or.inl ⟨hb, b3, (l.l.tr f2.l).tr (by rw [e3]; exact lw.u5)⟩⟩
        · cases h2
theorem or_0 (x : Int32) : x ||| 0 = x := by
  apply Int32.toBitVec_inj.mp
  simp
theorem mt_whole {k z p0 n H L : Nat} {t1 t2 : Bool} {M M' W : zMem} {b : Bool} {Q : zMem → Prop} (a : AT k M W) (s : WS k z M W) (r : rin k z p0 M) (d : DW k M n H L t1 t2) (e : EQ k M W n H L t1 t2) (h : rWh k z M b M') (q : PL k z M' W b Q) : wp_Model_readWhole W (fun W1 => wpJ_Model_readLine_218 Q W1) := by
  have hD : b = true → DW k M' n H L t1 t2 := fun hb => (DW_whole r d (by rw [hb] at h; exact h)).2
  have en := d.2.1
  have w0 : W 5 (ix 0) = M (k + 1) 0 := e.1 0 (by omega)
  obtain ⟨b1, M1, h1, h⟩ := h
  refine mt_nx a.1 a.2.1 s r (fun W1 f1 n1 => ⟨vp_in_nI (n := 0) (by omega) (by omega), ?_⟩)
  have v0 : W1 5 (ix 0) = M (k + 1) 0 := by rw [f1.1 5 (by omega)]; exact w0
  rw [v0]
  have badt : ∀ (x : Int32) (W2 : zMem), b = false → BAD k M' W2 → lw W W2 → wpJ_Model_readWhole_44 (fun W1 => wpJ_Model_readLine_218 Q W1) x W2 := fun x W2 hb bd l => by
    refine ⟨vp_in_nI (n := 5) (by omega) (by omega), fun _ => ⟨vp_in_nI (n := 5) (by omega) (by omega), fun W5 e5 => ?_⟩, fun w => absurd w bd.w.ne⟩
    exact mt_endb hb (by rw [e5]; exact bd.kb kb.u5) (l.tr (by rw [e5]; exact lw.u5)) q
  refine mt_numN n1 s.2.1 h1 (fun hb1 a1 => ?_) (fun W2 hb1 f2 bd => ?_)
  · subst hb1
    rcases h with ⟨h, -⟩ | ⟨-, h⟩
    · cases h
    obtain ⟨s1, g1, -, lo, hi⟩ := rN_in r h1
    have e1 := e.tk g1 f1
    have w5 : W1 5 (ix 5) = M1 (k + 1) 5 := e1.1 5 (by omega)
    refine ⟨fun w => absurd a1.1 w, fun _ => ⟨vp_in_nI (n := 5) (by omega) (by omega), fun c => ?_, fun c => ?_⟩⟩
    · rw [w5] at c
      rcases h with ⟨c', -⟩ | ⟨-, h⟩
      · exact absurd c' c
      refine ⟨vp_in_nI (n := 5) (by omega) (by omega), fun w => absurd a1.1 w, fun _ => ⟨vp_in_nI (n := 5) (by omega) (by omega), fun W8 e8 => ?_⟩⟩
      rw [w5] at e8
      generalize hX : zup M1 (k + 1) 5 ((M1 (k + 1) 5) ||| (1 <<< ((M1 k 9) &&& 31))) = X at h
      have e8' : W8 = zup W1 5 5 ((M1 (k + 1) 5) ||| (1 <<< ((M1 k 9) &&& 31))) := e8
      have lX : lf k M X := g1.lf.tr (by rw [← hX]; exact lf.up (by omega) (by omega))
      have lW : lw W W8 := f1.l.tr (by rw [e8']; exact lw.u5)
      refine mt_end (X := X) (by rw [e8', zup_ne (by omega)]; exact a1.1) (by rw [e8', zup_ne (by omega), ← hX, zup_ne (by omega)]; exact a1.2.1) (s.mv lX lW) (rin_mv s1 (by rw [← hX, zup_ne (by omega)]) (by rw [← hX, zup_ne (by omega)])) h lW ?_ hD q
      obtain ⟨i0, i1, i2, i3, i4, i5, i6, i7⟩ := e1
      have xk : ∀ i, i = 0 ∨ i = 2 ∨ i = 3 ∨ i = 4 ∨ i = 5 → X (k + i) = M1 (k + i) := fun i hi => by rw [← hX, zup_ne (by omega)]
      have x0 : X k = M1 k := xk 0 (by omega)
      have y5 : ∀ j, j ≠ 5 → W8 5 j = W1 5 j := fun j j1 => by rw [e8', zup_eq, upd_ne j1]
      have yk : W8 0 = W1 0 := by rw [e8', zup_ne (by omega)]
      refine ⟨fun j hj => ?_, fun i hi => by rw [y5 _ (by omega), xk 2 (by omega)]; exact i1 i hi, fun s' p hs hp => ?_, fun h p hh hp => by rw [y5 _ (by omega), xk 4 (by omega)]; exact i3 h p hh hp, fun w h hh => ?_, by rw [yk, x0]; exact i5, by rw [yk, x0]; exact i6, by rw [yk, x0]; exact i7⟩
      · by_cases w : j = 5
        · subst w
          rw [e8', zup_eq, upd_eq, ← hX, zup_eq, upd_eq]
        · rw [y5 j w, ← hX, zup_eq, upd_ne w]; exact i0 j hj
      · rw [y5 _ (by omega), xk 3 (by omega)]
        exact i2 s' p hs hp
      · rw [y5 _ (by omega), xk 5 (by omega)]
        exact i4 (by rw [← hX, zup_eq, upd_ne (by omega)] at w; exact w) h hh
    · rw [w5] at c
      rcases h with ⟨-, hb, hM⟩ | ⟨c', -⟩
      · have bd := BAD_fs (k := k) (c := 4) (M := M1) (W := W1) a1.2.2.1 (by omega) (by omega)
        exact e_fails (c := nI 4) a1.1 (badt _ _ hb (by rw [hM]; exact bd) (f1.l.tr tkw.fs.l))
      · exact absurd c c'
  · subst hb1
    rcases h with ⟨-, hb, hM⟩ | ⟨h, -⟩
    · exact ⟨fun _ => badt _ _ hb (by rw [hM]; exact bd) (f1.tr f2).l, fun w => absurd w bd.w.ne⟩
    · cases h
theorem AT.mv {k : Nat} {M M' W : zMem} (a : AT k M W) (e : ∀ j, 6 ≤ j → j ≤ 9 → M' k j = M k j) : AT k M' W := by
  unfold AT at a ⊢
  rw [e 6 (by omega) (by omega), e 7 (by omega) (by omega), e 8 (by omega) (by omega), e 9 (by omega) (by omega)]; exact a
theorem stb_inj : ∀ a b c d : Bool, nI (stb a b) = nI (stb c d) → a = c ∧ b = d := by decide
theorem mt_fin {k z p0 n H L : Nat} {t1 t2 : Bool} {X M' W W3 : zMem} {b : Bool} {Q : zMem → Prop} (n3 : NXT k z X W3) (s : WS k z X W3) (r : rin k z p0 X) (h : rS k z X b M') (l : lw W W3) (e : EQ k X W3 n H L t1 t2) (hD : b = true → DW k M' n H L t1 t2) (q : PL k z M' W b Q) : wpJ_Model_readLine_218 Q W3 :=
  mt_sign n3 s r h (fun W' hb f' n' => q.1 W' hb (l.tr f'.l) n' ⟨_, _, _, _, _, hD hb, e.tk (rS_in r (by rw [hb] at h; exact h)).2 f'⟩) (fun W' hb f' bd => q.2 W' hb (l.tr f'.l) bd)
theorem first_bad {k z : Nat} {B : zMem → Bool → zMem → Prop} {X M' W : zMem} {b : Bool} (hz : z ≤ 400) (n : NXT k z X W) (hw : bw W) (h : bnd (tkn k z) B X b M') : b = false ∧ BAD k M' W := by
  obtain ⟨b1, M1, t, h⟩ := h
  obtain ⟨n1, n2⟩ := nx_tkn hz n t
  rcases h with ⟨rfl, hb, hM⟩ | ⟨hb, -⟩
  · exact ⟨hb, by rw [hM]; exact n2 rfl⟩
  · exact absurd (n1 hb).1 hw.ne
theorem mt_sort {k z p0 n H L : Nat} {t1 t2 : Bool} {M M' W : zMem} {b : Bool} {Q : zMem → Prop} (a : AT k M W) (s : WS k z M W) (r : rin k z p0 M) (d : DW k M n H L t1 t2) (e : EQ k M W n H L t1 t2) (h : rSo k z n M b M') (q : PL k z M' W b Q) : wp_Model_readSort W (fun W1 => wpJ_Model_readLine_218 Q W1) := by
  have hD : b = true → ∃ u1 u2, DW k M' n H L u1 u2 := fun hb => (DW_sort r d (by rw [hb] at h; exact h)).2
  obtain ⟨⟨d1, d2, d3, d4⟩, en, -⟩ := id d
  have es : M k 11 = nI (stb t1 t2) := d.2.2.2.2.2.2.2.2.2.2.2.2.1
  have w0 : W 5 (ix 0) = nI n := (e.1 0 (by omega)).trans en
  obtain ⟨b1, M2, h1, h⟩ := h
  generalize hM0 : zup M k 12 1 = M0 at h1
  have m0 : ∀ j, j ≠ 12 → M0 k j = M k j := fun j hj => by rw [← hM0, zup_eq, upd_ne hj]
  have mc : ∀ c, c ≠ k → M0 c = M c := fun c hc => by rw [← hM0, zup_ne hc]
  have a0 : AT k M0 W := a.mv (fun j _ _ => m0 j (by omega))
  have r0 : rin k z p0 M0 := rin_mv r (m0 5 (by omega)) (m0 6 (by omega))
  have f0 : lf k M M0 := by rw [← hM0]; exact lf.up (by omega) (by omega)
  have s0 : WS k z M0 W := s.mv f0 lw.rf
  have e0 : EQ k M0 W n H L t1 t2 := e.mv (fun i h1 _ => mc _ (by omega)) ⟨m0 10 (by omega), m0 11 (by omega), m0 13 (by omega)⟩ tkw.rf
  have badt : ∀ (x : Nat) (W2 : zMem), 1 ≤ x → x ≤ 2 → b = false → BAD k M' W2 → lw W W2 → W2 5 0 = nI n → wpJ_Model_readSort_35 (fun W1 => wpJ_Model_readLine_218 Q W1) (nI x) W2 := fun x W2 x1 x2 hb bd l wn => by
    refine ⟨fun _ W5 e5 => ?_, fun w => absurd w bd.w.ne⟩
    have k5 : kb W2 W5 := by rw [e5]; exact kb.u0 (by omega)
    have b5 := bd.kb k5
    refine mt_next_no b5.w ⟨vp_in_nI (n := 0) (by omega) (by omega), ?_⟩
    have wn5 : W5 5 (ix 0) = nI n := by rw [e5, zup_ne (by omega)]; exact wn
    have e38 : 30 + 8 * nI x = nI (30 + 8 * x) := by rw [show (8 : Int32) = nI 8 from rfl, q_mul, show (30 : Int32) = nI 30 from rfl, q_add]
    rw [wn5, e38]
    exact mt_nums_bad b5.w (by omega) (fun W8 k8 _ => mt_sign_bad (k8.w b5.w) (q.2 W8 hb ((l.tr k5.1).tr k8.1) (b5.kb k8)))
  refine mt_nx a0.1 a0.2.1 s0 r0 (fun W1 f1 n1 => mt_numN n1 s.2.1 h1 (fun hb1 a1 => ?_) (fun W2 hb1 f2 bd => ?_))
  · subst hb1
    rcases h with ⟨h, -⟩ | ⟨-, h⟩
    · cases h
    obtain ⟨s1, g1, -, lo, hi⟩ := rN_in r0 h1
    obtain ⟨s', hs, es9⟩ := nI_of2 (x := M2 k 9) (M := 2) (n := 2) rfl (fun q => lo (Int32.lt_trans q (by decide))) hi
    have hs1 : 1 ≤ s' := by
      rw [es9] at lo
      rcases Nat.lt_or_ge s' 1 with u | u
      · exact absurd ((nI_ltI (b := 1) (by omega) (by omega)).mpr u) lo
      · exact u
    have e1 := e0.tk g1 f1
    have w14 : W1 0 14 = M2 k 11 := e1.2.2.2.2.2.2.1
    have w50 : W1 5 0 = nI n := by rw [f1.1 5 (by omega)]; exact w0
    rw [es9] at h ⊢
    refine ⟨fun w => absurd a1.1 w, fun _ => ⟨fun c => ?_, fun c => ?_⟩⟩
    · rw [w14] at c
      rcases h with ⟨c', -⟩ | ⟨-, h⟩
      · exact absurd c' c
      refine ⟨fun w => absurd a1.1 w, fun _ W10 e10 => ?_⟩
      rw [w14] at e10
      rw [q_ix (by omega)] at h
      generalize hX : zup M2 k 11 ((M2 k 11) ||| (1 <<< (nI s' &&& 31))) = X at h
      have lX : lf k M X := f0.tr (g1.lf.tr (by rw [← hX]; exact lf.up (by omega) (by omega)))
      have lW : lw W W10 := f1.l.tr (by rw [e10]; exact lw.u0 (by omega))
      have rX : rin k z p0 X := rin_mv s1 (by rw [← hX, zup_eq, upd_ne (by omega)]) (by rw [← hX, zup_eq, upd_ne (by omega)])
      refine mt_nx (M := X) (by rw [e10, zup_eq, upd_ne (by omega)]; exact a1.1) (by rw [e10, zup_eq, upd_ne (by omega), ← hX, zup_eq, upd_ne (by omega)]; exact a1.2.1) (s.mv lX lW) rX (fun W11 f11 n11 => ⟨vp_in_nI (n := 0) (by omega) (by omega), ?_⟩)
      have v5 : W11 5 = W1 5 := by rw [f11.1 5 (by omega), e10, zup_ne (by omega)]
      have e38 : 30 + 8 * nI s' = nI (30 + 8 * s') := by rw [show (8 : Int32) = nI 8 from rfl, q_mul, show (30 : Int32) = nI 30 from rfl, q_add]
      rw [show W11 5 (ix 0) = nI n by rw [v5]; exact w50, e38]
      have lW11 : lw W W11 := lW.tr f11.l
      refine mt_nums n11 (s.mv lX lW11) rX h (by omega) (by omega) (by omega) (fun X' W' hC nn rr l j0 j1 j2 j3 j4 => ?_) (fun W' hb bd l _ => mt_sign_bad bd.w (q.2 W' hb (lW11.tr l) bd))
      have lX' : lf k M X' := lX.tr (fun c hc => j2 c (by omega) (by omega))
      obtain ⟨i0, i1, i2, i3, i4, i5, i6, i7⟩ := e1
      have xM : ∀ i, i = 1 ∨ i = 2 ∨ i = 4 ∨ i = 5 → X' (k + i) = M2 (k + i) := fun i hi => by rw [j2 _ (by omega) (by omega), ← hX, zup_ne (by omega)]
      have x3 : ∀ j, (j < s' * 8 ∨ s' * 8 + n ≤ j) → X' (k + 3) j = M2 (k + 3) j := fun j hj => by rw [j3 j hj, ← hX, zup_ne (by omega)]
      have y5 : ∀ j, (j < 30 + 8 * s' ∨ 30 + 8 * s' + n ≤ j) → W' 5 j = W1 5 j := fun j hj => by rw [j0 j hj, v5]
      have x11 : X' k 11 = nI (stb t1 t2) ||| (1 <<< (nI s' &&& 31)) := by
        rw [j4 11 (by omega) (by omega) (by omega) (by omega), ← hX, zup_eq, upd_eq, g1.2 11 (by omega) (by omega) (by omega) (by omega), m0 11 (by omega), es]
      have z14 : W' 0 14 = X' k 11 := by
        rw [l.2 14 (by omega), f11.2 14 (by omega), e10, zup_eq, upd_eq, x11, g1.2 11 (by omega) (by omega) (by omega) (by omega), m0 11 (by omega), es]
      have z13 : W' 0 13 = X' k 10 := by
        rw [l.2 13 (by omega), f11.2 13 (by omega), e10, zup_eq, upd_ne (by omega), j4 10 (by omega) (by omega) (by omega) (by omega), ← hX, zup_eq, upd_ne (by omega)]; exact i5
      have z15 : W' 0 15 = X' k 13 := by
        rw [l.2 15 (by omega), f11.2 15 (by omega), e10, zup_eq, upd_ne (by omega), j4 13 (by omega) (by omega) (by omega) (by omega), ← hX, zup_eq, upd_ne (by omega)]; exact i7
      have eqq : ∀ u1 u2 : Bool, (∀ s'' p, (s'' = 0 ∨ (s'' = 1 ∧ u1 = true) ∨ (s'' = 2 ∧ u2 = true)) → p < n → W' 5 (30 + 8 * s'' + p) = X' (k + 3) (s'' * 8 + p)) → EQ k X' W' n H L u1 u2 := fun u1 u2 hu => by
        refine ⟨fun j hj => by rw [y5 j (by omega), xM 1 (by omega)]; exact i0 j hj, fun i hi => by rw [y5 _ (by omega), xM 2 (by omega)]; exact i1 i hi, hu, fun h p hh hp => by rw [y5 _ (by omega), xM 4 (by omega)]; exact i3 h p hh hp, fun w h hh => ?_, z13, z14, z15⟩
        rw [y5 _ (by omega), xM 5 (by omega)]
        exact i4 (by rw [xM 1 (by omega)] at w; exact w) h hh
      have unit : ∀ s'' p, s'' ≠ s' → s'' < 3 → (s'' = 0 ∨ (s'' = 1 ∧ t1 = true) ∨ (s'' = 2 ∧ t2 = true)) → p < n → W' 5 (30 + 8 * s'' + p) = X' (k + 3) (s'' * 8 + p) := fun s'' p hne h3 ht hp => by
        rw [y5 _ (by omega), x3 _ (by omega)]
        exact i2 s'' p ht hp
      have own : ∀ p, p < n → W' 5 (30 + 8 * s' + p) = X' (k + 3) (s' * 8 + p) := fun p hp => j1 p hp
      have dd : ∀ u1 u2 : Bool, X' k 11 = nI (stb u1 u2) → b = true → DW k M' n H L u1 u2 := fun u1 u2 h11 hb => by
        obtain ⟨v1, v2, dv⟩ := hD hb
        have f := (rS_in rr (by rw [hb] at hC; exact hC)).2
        have : nI (stb u1 u2) = nI (stb v1 v2) := by
          rw [← h11, ← f.2 11 (by omega) (by omega) (by omega) (by omega)]
          exact dv.2.2.2.2.2.2.2.2.2.2.2.2.1
        obtain ⟨c1, c2⟩ := stb_inj _ _ _ _ this
        rw [c1, c2]; exact dv
      have sW : WS k z X' W' := s.mv lX' (lW11.tr l.l)
      rcases (show s' = 1 ∨ s' = 2 by omega) with hs' | hs'
      · subst hs'
        have q11 : X' k 11 = nI (stb true t2) := by rw [x11]; exact (st_or t1 t2).1
        refine mt_fin (n := n) (H := H) (L := L) (t1 := true) (t2 := t2) nn sW rr hC (lW11.tr l.l) (eqq true t2 (fun s'' p ht hp => ?_)) (dd true t2 q11) q
        by_cases w : s'' = 1
        · subst w; exact own p hp
        · exact unit s'' p w (by omega) (by
            rcases ht with u | u | u
            · exact Or.inl u
            · exact absurd u.1 w
            · exact Or.inr (Or.inr u)) hp
      · subst hs'
        have q11 : X' k 11 = nI (stb t1 true) := by rw [x11]; exact (st_or t1 t2).2
        refine mt_fin (n := n) (H := H) (L := L) (t1 := t1) (t2 := true) nn sW rr hC (lW11.tr l.l) (eqq t1 true (fun s'' p ht hp => ?_)) (dd t1 true q11) q
        by_cases w : s'' = 2
        · subst w; exact own p hp
        · exact unit s'' p w (by omega) (by
            rcases ht with u | u | u
            · exact Or.inl u
            · exact Or.inr (Or.inl u)
            · exact absurd u.1 w) hp
    · rw [w14] at c
      rcases h with ⟨-, hb, hM⟩ | ⟨c', -⟩
      · have bd := BAD_fs (k := k) (c := 4) (M := M2) (W := W1) a1.2.2.1 (by omega) (by omega)
        exact e_fails (c := nI 4) a1.1 (badt s' _ hs1 hs hb (by rw [hM]; exact bd) (f1.l.tr tkw.fs.l) (by unfold wfs; rw [zup_ne (by omega), zup_ne (by omega)]; exact w50))
      · exact absurd c c'
  · subst hb1
    rcases h with ⟨-, hb, hM⟩ | ⟨h, -⟩
    · exact ⟨fun _ => badt 1 _ (by omega) (by omega) hb (by rw [hM]; exact bd) (f1.tr f2).l (by rw [f2.1 5 (by omega), f1.1 5 (by omega)]; exact w0), fun w => absurd w bd.w.ne⟩
    · cases h
theorem mt_handL {k z p0 n H L : Nat} {t1 t2 : Bool} {M M' W : zMem} {b : Bool} {Q : zMem → Prop} (a : AT k M W) (s : WS k z M W) (r : rin k z p0 M) (d : DW k M n H L t1 t2) (e : EQ k M W n H L t1 t2) (h : rHa k z n H M b M') (q : PL k z M' W b Q) : wp_Model_readHand W (fun W1 => wpJ_Model_readLine_218 Q W1) := by
  have hD : b = true → DW k M' n (H + 1) L t1 t2 := fun hb => (DW_hand r d (by rw [hb] at h; exact h)).2
  obtain ⟨⟨d1, d2, d3, d4⟩, en, eH, -⟩ := id d
  have w0 : W 5 (ix 0) = nI n := (e.1 0 (by omega)).trans en
  have w1 : W 5 (ix 1) = nI H := (e.1 1 (by omega)).trans eH
  have w15 : W 0 15 = M k 13 := e.2.2.2.2.2.2.2
  have k4 := d.2.2.2.2.2.2.2.2.2.2.2.2.2.2.2
  have e60 : ∀ x : Nat, 60 + 8 * nI x = nI (60 + 8 * x) := fun x => by rw [show (8 : Int32) = nI 8 from rfl, q_mul, show (60 : Int32) = nI 60 from rfl, q_add]
  unfold wp_Model_readHand
  rw [w1, w15]
  rcases h with ⟨hc, hb, hM⟩ | ⟨c13, cH, h⟩
  · have bad : wpJ_Model_readHand_17 (fun W1 => wpJ_Model_readLine_218 Q W1) W := by
      have bd := BAD_fs (k := k) (c := 5) (M := M) (W := W) a.2.2.1 (by omega) (by omega)
      have bd' : BAD k M' (wfs (nI 5) W) := by rw [hM]; exact bd
      have v1 : wfs (nI 5) W 5 (ix 1) = nI H := by unfold wfs; rw [zup_ne (by omega), zup_ne (by omega)]; exact w1
      have tail : ∀ x : Nat, x ≤ 5 → wp_Model_numbers (nI (60 + 8 * x)) 0 1 9 (wfs (nI 5) W) (fun zm5 => vp_in 1 100 ∧ vp_in 1 100 ∧ ∀ zm7 : zMem, zm7 = zup zm5 5 (ix 1) ((zm5 5 (ix 1)) + 1) → wpJ_Model_readLine_218 Q zm7) := fun x hx => by
        refine mt_nums_bad (m := 0) bd.w (by omega) (fun W8 k8 _ => ⟨vp_in_nI (n := 1) (by omega) (by omega), vp_in_nI (n := 1) (by omega) (by omega), fun W9 e9 => ?_⟩)
        have k9 : kb (wfs (nI 5) W) W9 := k8.tr (by rw [e9]; exact kb.u5)
        exact mt_sign_bad (k9.w bd.w) (q.2 W9 hb (tkw.fs.l.tr k9.1) (bd'.kb k9))
      refine e_fails (c := nI 5) a.1 (mt_next_no bd.w ⟨vp_in_nI (n := 1) (by omega) (by omega), fun _ => ⟨fun _ => ?_, fun w => absurd w bd.w.ne⟩, fun _ => ⟨vp_in_nI (n := 1) (by omega) (by omega), fun _ => ?_, fun w => absurd w bd.w.ne⟩⟩)
      · exact tail 0 (by omega)
      · rw [v1, e60]; exact tail H (by omega)
    refine ⟨vp_in_nI (n := 1) (by omega) (by omega), fun _ => bad, fun cH => ⟨fun c13 => ?_, fun _ => bad⟩⟩
    exfalso
    rcases hc with w | w
    · exact w c13
    · exact w (by rw [eH]; exact (nI_ltI (b := 5) (by omega) (by omega)).mpr (by
        rcases Nat.lt_or_ge H 5 with u | u
        · exact u
        · exact absurd (by rw [show H = 5 by omega]; rfl) cH))
  · have hH : H < 5 := by
      rw [eH] at cH
      exact (nI_ltI (b := 5) (by omega) (by omega)).mp cH
    refine ⟨vp_in_nI (n := 1) (by omega) (by omega), fun c5 => ?_, fun _ => ⟨fun _ => ?_, fun w => absurd c13 w⟩⟩
    · have := (nI_eq (b := 5) (by omega) (by omega)).mp c5
      omega
    generalize hM0 : zup M k 12 1 = M0 at h
    have m0 : ∀ j, j ≠ 12 → M0 k j = M k j := fun j hj => by rw [← hM0, zup_eq, upd_ne hj]
    have mc : ∀ c, c ≠ k → M0 c = M c := fun c hc => by rw [← hM0, zup_ne hc]
    have a0 : AT k M0 W := a.mv (fun j _ _ => m0 j (by omega))
    have r0 : rin k z p0 M0 := rin_mv r (m0 5 (by omega)) (m0 6 (by omega))
    have f0 : lf k M M0 := by rw [← hM0]; exact lf.up (by omega) (by omega)
    have s0 : WS k z M0 W := s.mv f0 lw.rf
    refine mt_nx a0.1 a0.2.1 s0 r0 (fun W1 f1 n1 => ?_)
    have v5 : W1 5 = W 5 := f1.1 5 (by omega)
    rw [v5, w1]
    refine ⟨vp_in_nI (n := 1) (by omega) (by omega), fun c5 => ?_, fun _ => ⟨vp_in_nI (n := 1) (by omega) (by omega), ?_⟩⟩
    · have := (nI_leI (a := 5) (by omega) (by omega)).mp c5
      omega
    rw [e60, w0]
    have badt : ∀ W', b = false → BAD k M' W' → lw W W' → vp_in 1 100 ∧ vp_in 1 100 ∧ ∀ zm16 : zMem, zm16 = zup W' 5 (ix 1) ((W' 5 (ix 1)) + 1) → wpJ_Model_readLine_218 Q zm16 := fun W' hb bd l => ⟨vp_in_nI (n := 1) (by omega) (by omega), vp_in_nI (n := 1) (by omega) (by omega), fun W9 e9 => by
      have b9 : BAD k M' W9 := by rw [e9]; exact bd.kb kb.u5
      exact mt_sign_bad b9.w (q.2 W9 hb (l.tr (by rw [e9]; exact lw.u5)) b9)⟩
    refine ⟨fun w => ?_, fun _ => ⟨vp_in_nI (n := 0) (by omega) (by omega), ?_⟩⟩
    · have hw : bw W1 := by
        obtain ⟨p, p1, p2, p3, p4⟩ := n1
        rcases p4 with ⟨-, c3, -⟩ | ⟨-, c3, -⟩
        · exact absurd c3 w
        · exact ⟨1, by omega, by omega, c3⟩
      have bb : b = false ∧ BAD k M' W1 := by
        cases n with
        | zero =>
          have h' : rS k z (zup M0 (k + 1) 1 (M0 (k + 1) 1 + 1)) b M' := h
          refine first_bad s.2.1 ?_ hw h'
          obtain ⟨p, p1, p2, p3⟩ := n1
          exact ⟨p, p1, by rw [zup_ne (by omega)]; exact p2, by rw [zup_ne (by omega)]; exact p3⟩
        | succ n =>
          obtain ⟨b1, M1, h1, h2⟩ := h
          obtain ⟨c1, c2⟩ := first_bad s.2.1 n1 hw h1
          rcases h2 with ⟨-, hb, hM⟩ | ⟨hb, -⟩
          · exact ⟨hb, by rw [hM]; exact c2⟩
          · rw [hb] at c1; cases c1
      refine mt_nums_bad (m := 0) hw (by omega) (fun W8 k8 _ => badt W8 bb.1 (bb.2.kb k8) (f1.l.tr k8.1))
    · refine mt_nums n1 (s0.mv (fun _ _ => rfl) f1.l) r0 h (by omega) (by omega) (by omega) (fun X' W' hC nn rr l j0 j1 j2 j3 j4 => ⟨vp_in_nI (n := 1) (by omega) (by omega), vp_in_nI (n := 1) (by omega) (by omega), fun W9 e9 => ?_⟩) (fun W' hb bd l _ => badt W' hb bd (f1.l.tr l))
      have xM : ∀ i, i = 1 ∨ i = 2 ∨ i = 3 ∨ i = 5 → X' (k + i) = M (k + i) := fun i hi => by rw [j2 _ (by omega) (by omega)]; exact mc _ (by omega)
      have y5 : ∀ j, (j < 60 + 8 * H ∨ 60 + 8 * H + n ≤ j) → W' 5 j = W 5 j := fun j hj => by rw [j0 j hj, v5]
      have u1 : X' (k + 1) 1 + 1 = nI (H + 1) := by rw [xM 1 (by omega), eH, nI_1]
      have u2 : W' 5 (ix 1) + 1 = nI (H + 1) := by rw [y5 (ix 1) (by show ix (nI 1) < _ ∨ _; rw [q_ix (by omega)]; omega), w1, nI_1]
      rw [u1] at hC
      rw [u2] at e9
      have e9' : W9 = zup W' 5 1 (nI (H + 1)) := e9
      generalize hX : zup X' (k + 1) 1 (nI (H + 1)) = X at hC
      have lX : lf k M X := by
        intro c hc
        rw [← hX, zup_ne (by omega), j2 c (by omega) (by omega)]; exact mc c (by omega)
      have lW : lw W W9 := (f1.l.tr l.l).tr (by rw [e9']; exact lw.u5)
      have rX : rin k z p0 X := rin_mv rr (by rw [← hX, zup_ne (by omega)]) (by rw [← hX, zup_ne (by omega)])
      have nX : NXT k z X W9 := by
        obtain ⟨p, p1, p2, p3⟩ := nn
        refine ⟨p, p1, by rw [← hX, zup_ne (by omega)]; exact p2, ?_⟩
        rw [show X (k + 6) = X' (k + 6) by rw [← hX, zup_ne (by omega)]]
        unfold nT at p3 ⊢
        rw [e9', zup_ne (by omega)]; exact p3
      refine mt_fin (n := n) (H := H + 1) (L := L) (t1 := t1) (t2 := t2) nX (s.mv lX lW) rX hC lW ?_ hD q
      obtain ⟨i0, i1, i2, i3, i4, i5, i6, i7⟩ := e
      have xk : ∀ i, i = 2 ∨ i = 3 ∨ i = 5 → X (k + i) = M (k + i) := fun i hi => by rw [← hX, zup_ne (by omega)]; exact xM i (by omega)
      have xs : ∀ j, j = 10 ∨ j = 11 ∨ j = 13 → X k j = M k j := fun j hj => by rw [← hX, zup_ne (by omega), j4 j (by omega) (by omega) (by omega) (by omega), m0 j (by omega)]
      have ys : ∀ j, 13 ≤ j → j ≤ 15 → W9 0 j = W 0 j := fun j h1 h2 => by rw [e9', zup_ne (by omega), l.2 j (by omega), f1.2 j (by omega)]
      have z5 : ∀ j, j ≠ 1 → W9 5 j = W' 5 j := fun j hj => by rw [e9', zup_eq, upd_ne hj]
      refine ⟨fun j hj => ?_, fun i hi => by rw [z5 _ (by omega), y5 _ (by omega), xk 2 (by omega)]; exact i1 i hi, fun s'' p ht hp => by rw [z5 _ (by omega), y5 _ (by omega), xk 3 (by omega)]; exact i2 s'' p ht hp, fun h p hh hp => ?_, fun w => absurd (by rw [← hX, zup_eq, upd_ne (by omega), xM 1 (by omega)]; exact k4 c13) w, by rw [ys 13 (by omega) (by omega), xs 10 (by omega)]; exact i5, by rw [ys 14 (by omega) (by omega), xs 11 (by omega)]; exact i6, by rw [ys 15 (by omega) (by omega), xs 13 (by omega)]; exact i7⟩
      · by_cases w : j = 1
        · subst w
          rw [e9', zup_eq, upd_eq, ← hX, zup_eq, upd_eq]
        · rw [z5 j w, y5 j (by omega), ← hX, zup_eq, upd_ne w, xM 1 (by omega)]; exact i0 j hj
      · rw [z5 _ (by omega), show X (k + 4) = X' (k + 4) by rw [← hX, zup_ne (by omega)]]
        by_cases w : h = H
        · rw [w]; exact j1 p hp
        · rw [y5 _ (by omega), j3 _ (by omega), mc _ (by omega)]
          exact i3 h p (by omega) hp
/-- the sign, its token at hand -/
theorem mt_signA {k z p0 : Nat} {M1 M' W : zMem} {b : Bool} {Q : zMem → Prop} (a : AT k M1 W) (s : WS k z M1 W) (r : rin k z p0 M1) (h : rSi k M1 b M') (ht : ∀ W', b = true → M' = M1 → tkw W W' → NXT k z M' W' → Q W') (hf : ∀ W', b = false → tkw W W' → BAD k M' W' → Q W') : wpJ_Model_readLine_218 Q W := by
  unfold wpJ_Model_readLine_218
  refine ⟨fun w => absurd a.1 w, fun _ => ⟨fun c => ?_, fun c => ?_⟩⟩
  · rw [a.2.2.2.1] at c
    rcases h with ⟨d, -⟩ | ⟨-, hb, rfl⟩
    · exact absurd c d
    · exact mt_nx a.1 a.2.1 s r (fun W' f h => ht W' hb rfl f h)
  · rw [a.2.2.2.1] at c
    rcases h with ⟨-, hb, rfl⟩ | ⟨d, -⟩
    · have bd := BAD_fs (k := k) (c := 2) (M := M1) (W := W) a.2.2.1 (by omega) (by omega)
      exact e_fails (c := nI 2) a.1 (mt_next_no bd.w (hf _ hb tkw.fs bd))
    · exact absurd d c
theorem mt_on {k z p0 n H L j : Nat} {hi : Int32} {t1 t2 : Bool} {M M' W : zMem} {b : Bool} {Q : zMem → Prop} (hj : (j = 2 ∧ hi = 5) ∨ (j = 3 ∧ hi = 99)) (a : AT k M W) (s : WS k z M W) (r : rin k z p0 M) (d : DW k M n H L t1 t2) (e : EQ k M W n H L t1 t2) (h : rOn k z j hi M b M') (q : PL k z M' W b Q) : wp_Model_next W (fun W1 => wp_Model_number 0 hi W1 (fun v W2 => vp_in (nI j) 100 ∧ ∀ W3 : zMem, W3 = zup W2 5 (ix (nI j)) v → wp_Model_next W3 (fun W4 => wpJ_Model_readLine_218 Q W4))) := by
  have hD : b = true → DW k M' n H L t1 t2 := fun hb => (DW_on r d hj (by rw [hb] at h; exact h)).2
  have j3 : j = 2 ∨ j = 3 := by rcases hj with w | w <;> omega
  obtain ⟨b1, M1, h1, h⟩ := h
  rw [q_ix (by omega)]
  refine mt_nx a.1 a.2.1 s r (fun W1 f1 n1 => mt_numN n1 s.2.1 h1 (fun hb1 a1 => ⟨vp_in_nI (by omega) (by omega), fun W3 e3 => ?_⟩) (fun W2 hb1 f2 bd => ⟨vp_in_nI (by omega) (by omega), fun W3 e3 => ?_⟩))
  · subst hb1
    rcases h with ⟨h, -⟩ | ⟨-, h⟩
    · cases h
    obtain ⟨s1, g1, -⟩ := rN_in r h1
    have e1 := e.tk g1 f1
    generalize hX : zup M1 (k + 1) j (M1 k 9) = X at h
    have lX : lf k M X := g1.lf.tr (by rw [← hX]; exact lf.up (by omega) (by omega))
    have lW : lw W W3 := f1.l.tr (by rw [e3]; exact lw.u5)
    refine mt_end (X := X) (by rw [e3, zup_ne (by omega)]; exact a1.1) (by rw [e3, zup_ne (by omega), ← hX, zup_ne (by omega)]; exact a1.2.1) (s.mv lX lW) (rin_mv s1 (by rw [← hX, zup_ne (by omega)]) (by rw [← hX, zup_ne (by omega)])) h lW ?_ hD q
    obtain ⟨i0, i1, i2, i3, i4, i5, i6, i7⟩ := e1
    have xk : ∀ i, i = 0 ∨ i = 2 ∨ i = 3 ∨ i = 4 ∨ i = 5 → X (k + i) = M1 (k + i) := fun i hi => by rw [← hX, zup_ne (by omega)]
    have x0 : X k = M1 k := xk 0 (by omega)
    have y5 : ∀ i, i ≠ j → W3 5 i = W1 5 i := fun i hi => by rw [e3, zup_eq, upd_ne hi]
    have yk : W3 0 = W1 0 := by rw [e3, zup_ne (by omega)]
    refine ⟨fun i hi => ?_, fun i hi => by rw [y5 _ (by omega), xk 2 (by omega)]; exact i1 i hi, fun s' p hs hp => by rw [y5 _ (by omega), xk 3 (by omega)]; exact i2 s' p hs hp, fun h p hh hp => by rw [y5 _ (by omega), xk 4 (by omega)]; exact i3 h p hh hp, fun w h hh => ?_, by rw [yk, x0]; exact i5, by rw [yk, x0]; exact i6, by rw [yk, x0]; exact i7⟩
    · by_cases w : i = j
      · rw [w, e3, zup_eq, upd_eq, ← hX, zup_eq, upd_eq]
      · rw [y5 i w, ← hX, zup_eq, upd_ne w]; exact i0 i hi
    · rw [y5 _ (by omega), xk 5 (by omega)]
      exact i4 (by rw [← hX, zup_eq, upd_ne (by omega)] at w; exact w) h hh
  · subst hb1
    rcases h with ⟨-, hb, hM⟩ | ⟨h, -⟩
    · exact mt_endb hb (by rw [hM, e3]; exact bd.kb kb.u5) ((f1.tr f2).l.tr (by rw [e3]; exact lw.u5)) q
    · cases h
theorem mt_endsL {k z p0 n H L a : Nat} {t1 t2 : Bool} {M M' W : zMem} {b : Bool} {Q : zMem → Prop} (ha : 1 ≤ a ∧ a ≤ 2) (at0 : AT k M W) (s : WS k z M W) (r : rin k z p0 M) (d : DW k M n H L t1 t2) (e : EQ k M W n H L t1 t2) (h : rEs k z n H (nI a) M b M') (q : PL k z M' W b Q) : ∀ W1, W1 = zup W 5 4 (nI a) → wp_Model_readEnds W1 (fun W2 => wpJ_Model_readLine_218 Q W2) := by
  intro W1 e1
  have hD : b = true → DW k M' n H L t1 t2 := fun hb => (DW_ends ha r d (by rw [hb] at h; exact h)).2
  obtain ⟨⟨d1, d2, d3, d4⟩, en, eH, -⟩ := id d
  unfold rEs at h
  generalize hY : zup (zup (zup M k 12 1) k 13 1) (k + 1) 4 (nI a) = Y at h
  have yj : ∀ j, j ≠ 12 → j ≠ 13 → Y k j = M k j := fun j j1 j2 => by rw [← hY, zup_ne (by omega), zup_eq, upd_ne j2, zup_eq, upd_ne j1]
  have yc : ∀ c, c ≠ k → c ≠ k + 1 → Y c = M c := fun c c1 c2 => by rw [← hY, zup_ne c2, zup_ne c1, zup_ne c1]
  have y1 : ∀ j, j ≠ 4 → Y (k + 1) j = M (k + 1) j := fun j hj => by rw [← hY, zup_eq, upd_ne hj, zup_ne (by omega), zup_ne (by omega)]
  have y14 : Y (k + 1) 4 = nI a := by rw [← hY, zup_eq, upd_eq]
  have y13 : Y k 13 = 1 := by rw [← hY, zup_ne (by omega), zup_eq, upd_eq]
  have rY : rin k z p0 Y := rin_mv r (yj 5 (by omega) (by omega)) (yj 6 (by omega) (by omega))
  have fY : lf k M Y := by
    intro c hc
    exact yc c (by omega) (by omega)
  intro W2 e2
  have l2 : lw W W2 := by rw [e2, e1]; exact lw.u5.tr (lw.u0 (by omega))
  have w3 : W2 0 3 = 0 := by rw [e2, zup_eq, upd_ne (by omega), e1, zup_ne (by omega)]; exact at0.1
  have w5 : W2 0 5 = Y k 6 := by rw [e2, zup_eq, upd_ne (by omega), e1, zup_ne (by omega), yj 6 (by omega) (by omega)]; exact at0.2.1
  have c5 : ∀ j, j ≠ 4 → W2 5 j = W 5 j := fun j hj => by rw [e2, zup_ne (by omega), e1, zup_eq, upd_ne hj]
  have c54 : W2 5 4 = nI a := by rw [e2, zup_ne (by omega), e1, zup_eq, upd_eq]
  have eq2 : ∀ (X W' : zMem), l5 W2 W' → (∀ j, (j < 20 ∨ 20 + (H - 1) ≤ j) → W' 5 j = W2 5 j) → (∀ j, j < H - 1 → W' 5 (20 + j) = X (k + 5) j) → (∀ c, c ≠ k → c ≠ k + 5 → X c = Y c) → (∀ j, j ≠ 6 → j ≠ 7 → j ≠ 8 → j ≠ 9 → X k j = Y k j) → EQ k X W' n H L t1 t2 := fun X W' l j0 j1 x0 x1 => by
    obtain ⟨i0, i1, i2, i3, i4, i5, i6, i7⟩ := e
    refine ⟨fun j hj => ?_, fun i hi => by rw [j0 _ (by omega), c5 _ (by omega), x0 _ (by omega) (by omega), yc _ (by omega) (by omega)]; exact i1 i hi, fun s' p hs hp => by rw [j0 _ (by omega), c5 _ (by omega), x0 _ (by omega) (by omega), yc _ (by omega) (by omega)]; exact i2 s' p hs hp, fun h p hh hp => by rw [j0 _ (by omega), c5 _ (by omega), x0 _ (by omega) (by omega), yc _ (by omega) (by omega)]; exact i3 h p hh hp, fun _ h hh => j1 h (by omega), ?_, ?_, ?_⟩
    · rw [j0 j (by omega), x0 _ (by omega) (by omega)]
      by_cases w : j = 4
      · rw [w, c54, y14]
      · rw [c5 j w, y1 j w]; exact i0 j hj
    · rw [l.2 13 (by omega), e2, zup_eq, upd_ne (by omega), e1, zup_ne (by omega), x1 10 (by omega) (by omega) (by omega) (by omega), yj 10 (by omega) (by omega)]; exact i5
    · rw [l.2 14 (by omega), e2, zup_eq, upd_ne (by omega), e1, zup_ne (by omega), x1 11 (by omega) (by omega) (by omega) (by omega), yj 11 (by omega) (by omega)]; exact i6
    · rw [l.2 15 (by omega), e2, zup_eq, upd_eq, x1 13 (by omega) (by omega) (by omega) (by omega), y13]
  refine mt_nx w3 w5 (s.mv fY l2) rY (fun W3 f3 n3 => ?_)
  have wn : ∀ W' : zMem, (∀ j, (j < 20 ∨ 20 + (H - 1) ≤ j) → W' 5 j = W2 5 j) → W' 5 (ix 0) = nI n ∧ W' 5 (ix 1) = nI H := fun W' j0 => by
    have z0 : (ix 0 : Nat) = 0 := rfl
    have z1 : (ix 1 : Nat) = 1 := rfl
    rw [z0, z1, j0 0 (by omega), j0 1 (by omega), c5 0 (by omega), c5 1 (by omega)]
    exact ⟨(e.1 0 (by omega)).trans en, (e.1 1 (by omega)).trans eH⟩
  refine zlp1_r (fun m x W' => ∃ i, x = nI i ∧ i ≤ H ∧ m = H - i ∧ (∀ j, (j < 20 ∨ 20 + (H - 1) ≤ j) → W' 5 j = W2 5 j) ∧ ((b = false ∧ BAD k M' W' ∧ lw W W') ∨ ∃ X lo, NXT k z X W' ∧ rin k z p0 X ∧ rEn k z n (H - 1 - i) i lo X b M' ∧ (i = 0 → lo = 1) ∧ (0 < i → lo = W' 5 (20 + i - 1)) ∧ l5 W2 W' ∧ (∀ j, j < i → W' 5 (20 + j) = X (k + 5) j) ∧ i ≤ (H - 1) ∧ (∀ c, c ≠ k → c ≠ k + 5 → X c = Y c) ∧ (∀ j, j ≠ 6 → j ≠ 7 → j ≠ 8 → j ≠ 9 → X k j = Y k j))) ?_ (n := H) ⟨0, rfl, by omega, rfl, fun j _ => by rw [f3.1 5 (by omega)], Or.inr ⟨Y, 1, n3, rY, h, fun _ => rfl, fun w => absurd w (by omega), f3.l5, fun j hj => absurd hj (by omega), by omega, fun _ _ _ => rfl, fun _ _ _ _ _ => rfl⟩⟩
  rintro m x W' ⟨i, rfl, hi, rfl, g0, hcase⟩ J hJ
  obtain ⟨wn0, wn1⟩ := wn W' g0
  unfold wpB_Model_readEnds_11
  rw [wn1]
  have le : (nI H - 1 ≤ nI i) ↔ H - 1 ≤ i := by
    rcases Nat.eq_zero_or_pos H with h0 | h0
    · subst h0
      exact ⟨fun _ => by omega, fun _ => Int32.le_trans (show nI 0 - 1 ≤ 0 by decide) (nI_pos' (by omega))⟩
    · have e : nI H - 1 = nI (H - 1) := q_sub (a := H) (b := 1) h0
      rw [e]
      exact nI_leI (by omega) (by omega)
  have e20 : (20 : Int32) + nI i = nI (20 + i) := q_add 20 i
  rcases hcase with ⟨hb, bd, l⟩ | ⟨X, lo, n', r', h', lo0, lo1, l, g1, iH, g2, g4⟩
  · have bj : ∀ x : Int32, i < H - 1 → wpJ_Model_readEnds_42 J (fun W2 => wpJ_Model_readLine_218 Q W2) (nI i) x W' := fun x hi2 => by
      refine ⟨vp_in_nI (n := 0) (by omega) (by omega), mt_num_bad bd.w ?_⟩
      rw [e20, q_ix (by omega)]
      refine ⟨vp_in_nI (by omega) (by omega), fun W6 e6 => ?_⟩
      have b6 : BAD k M' W6 := by rw [e6]; exact bd.kb kb.u5
      refine mt_next_no b6.w (fun y ey => ?_)
      rw [ey, nI_1]
      exact hJ (H - (i + 1)) _ _ (by omega) ⟨i + 1, rfl, by omega, rfl, fun j hj => by rw [e6, zup_eq, upd_ne (by omega)]; exact g0 j hj, Or.inl ⟨hb, b6, l.tr (by rw [e6]; exact lw.u5)⟩⟩
    refine ⟨vp_in_nI (n := 1) (by omega) (by omega), fun _ => mt_sign_bad bd.w (q.2 W' hb l bd), fun c => ⟨fun c0 => ?_, fun _ => bj _ ?_⟩⟩
    · have i0 : i ≠ 0 := fun w => c0 (by rw [w]; rfl)
      have hi2 : i < H - 1 := by
        rcases Nat.lt_or_ge i (H - 1) with u | u
        · exact u
        · exact absurd (le.mpr u) c
      rw [e20, show nI (20 + i) - 1 = nI (20 + i - 1) from q_sub (a := 20 + i) (b := 1) (by omega)]
      exact ⟨vp_in_nI (by omega) (by omega), bj _ hi2⟩
    · rcases Nat.lt_or_ge i (H - 1) with u | u
      · exact u
      · exact absurd (le.mpr u) c
  · have goj : i < H - 1 → wpJ_Model_readEnds_42 J (fun W2 => wpJ_Model_readLine_218 Q W2) (nI i) lo W' := fun hi2 => by
      obtain ⟨f, ef⟩ : ∃ f, H - 1 - i = f + 1 := ⟨H - 1 - i - 1, by omega⟩
      rw [ef] at h'
      obtain ⟨b1, M1, h1, h2⟩ := h'
      refine ⟨vp_in_nI (n := 0) (by omega) (by omega), ?_⟩
      rw [wn0, e20, q_ix (by omega)]
      refine mt_numN n' s.2.1 h1 (fun hb1 a1 => ⟨vp_in_nI (by omega) (by omega), fun W6 e6 => ?_⟩) (fun W5 hb1 f5 bd => ⟨vp_in_nI (by omega) (by omega), fun W6 e6 => ?_⟩)
      · subst hb1
        rcases h2 with ⟨h2, -⟩ | ⟨-, h2⟩
        · cases h2
        obtain ⟨r1, tk1, -⟩ := rN_in r' h1
        have w6 : l5 W2 W6 := l.tr (by rw [e6]; exact l5_u)
        generalize hZ : zup M1 (k + 5) i (M1 k 9) = Z at h2
        have lZ : lf k M Z := by
          intro c hc
          rw [← hZ, zup_ne (by omega), tk1.1 c (by omega), g2 c (by omega) (by omega)]
          exact yc c (by omega) (by omega)
        have rZ : rin k z p0 Z := rin_mv r1 (by rw [← hZ, zup_ne (by omega)]) (by rw [← hZ, zup_ne (by omega)])
        refine mt_nx (M := Z) (by rw [e6, zup_ne (by omega)]; exact a1.1) (by rw [e6, zup_ne (by omega), ← hZ, zup_ne (by omega)]; exact a1.2.1) (s.mv lZ (l2.tr w6.l)) rZ (fun W7 f7 n7 y ey => ?_)
        rw [ey, nI_1]
        have v5 : W7 5 = W6 5 := f7.1 5 (by omega)
        refine hJ (H - (i + 1)) _ _ (by omega) ⟨i + 1, rfl, by omega, rfl, fun j hj => by rw [v5, e6, zup_eq, upd_ne (by omega)]; exact g0 j hj, Or.inr ⟨Z, M1 k 9, n7, rZ, by rw [show H - 1 - (i + 1) = f by omega]; exact h2, fun w => absurd w (by omega), fun _ => ?_, w6.tr f7.l5, fun j hj => ?_, by omega, fun c c1 c2 => ?_, fun j j1 j2 j3 j4 => ?_⟩⟩
        · rw [v5, e6, zup_eq, show 20 + (i + 1) - 1 = 20 + i by omega, upd_eq]
        · rw [v5, e6, zup_eq]
          by_cases w : j = i
          · rw [w, upd_eq, ← hZ, zup_eq, upd_eq]
          · rw [upd_ne (by omega), ← hZ, zup_eq, upd_ne w, tk1.1 _ (by omega)]
            exact g1 j (by omega)
        · rw [← hZ, zup_ne c2, tk1.1 c c1]; exact g2 c c1 c2
        · rw [← hZ, zup_ne (by omega), tk1.2 j j1 j2 j3 j4]; exact g4 j j1 j2 j3 j4
      · subst hb1
        rcases h2 with ⟨-, hb, hM⟩ | ⟨h2, -⟩
        · have b6 : BAD k M' W6 := by rw [hM, e6]; exact bd.kb kb.u5
          refine mt_next_no b6.w (fun y ey => ?_)
          rw [ey, nI_1]
          exact hJ (H - (i + 1)) _ _ (by omega) ⟨i + 1, rfl, by omega, rfl, fun j hj => by rw [e6, zup_eq, upd_ne (by omega), f5.1 5 (by omega)]; exact g0 j hj, Or.inl ⟨hb, b6, ((l2.tr l.l).tr f5.l).tr (by rw [e6]; exact lw.u5)⟩⟩
        · cases h2
    refine ⟨vp_in_nI (n := 1) (by omega) (by omega), fun c => ?_, fun c => ⟨fun c0 => ?_, fun c0 => ?_⟩⟩
    · have hi2 := le.mp c
      rw [show H - 1 - i = 0 by omega] at h'
      have lX : lf k M X := by
        intro c hc
        rw [g2 c (by omega) (by omega)]
        exact yc c (by omega) (by omega)
      exact mt_fin (n := n) (H := H) (L := L) (t1 := t1) (t2 := t2) n' (s.mv lX (l2.tr l.l)) r' h' (l2.tr l.l) (eq2 X W' l g0 (fun j hj => g1 j (by omega)) g2 g4) hD q
    · have i0 : 0 < i := by
        rcases Nat.eq_zero_or_pos i with w | w
        · exact absurd (by rw [w]; rfl) c0
        · exact w
      have hi2 : i < H - 1 := by
        rcases Nat.lt_or_ge i (H - 1) with u | u
        · exact u
        · exact absurd (le.mpr u) c
      rw [e20, show nI (20 + i) - 1 = nI (20 + i - 1) from q_sub (a := 20 + i) (b := 1) (by omega), q_ix (by omega), ← lo1 i0]
      exact ⟨vp_in_nI (by omega) (by omega), goj hi2⟩
    · have i0 : i = 0 := (nI_eq (b := 0) (by omega) (by omega)).mp c0
      have hi2 : i < H - 1 := by
        rcases Nat.lt_or_ge i (H - 1) with u | u
        · exact u
        · exact absurd (le.mpr u) c
      rw [← lo0 i0]
      exact goj hi2
theorem mt_rowL {k z p0 n H : Nat} {t1 t2 : Bool} {M M' W : zMem} {b : Bool} {Q : zMem → Prop} (at0 : AT k M W) (s : WS k z M W) (r : rin k z p0 M) (d : DW k M n H 1 t1 t2) (e : EQ k M W n H 1 t1 t2) (h : rRo k z M b M') (q : PL k z M' W b Q) : wp_Model_readRow W (fun W2 => wpJ_Model_readLine_218 Q W2) := by
  have hD : b = true → ∃ L', DW k M' n H L' t1 t2 := fun hb => (DW_row r d rfl (by rw [hb] at h; exact h)).2
  refine mt_nx at0.1 at0.2.1 s r (fun W1 f1 n1 => ⟨vp_in_nI (n := 6) (by omega) (by omega), fun W3 e3 => ?_⟩)
  have e3' : W3 = zup W1 5 6 0 := e3
  have l3 : lw W W3 := f1.l.tr (by rw [e3']; exact lw.u5)
  have n3 : NXT k z M W3 := by
    obtain ⟨p, p1, p2, p3⟩ := n1
    refine ⟨p, p1, p2, ?_⟩
    unfold nT at p3 ⊢
    rw [e3', zup_ne (by omega)]; exact p3
  have c5 : ∀ j, j ≠ 6 → W3 5 j = W 5 j := fun j hj => by rw [e3', zup_eq, upd_ne hj, f1.1 5 (by omega)]
  have c56 : W3 5 6 = 0 := by rw [e3', zup_eq, upd_eq]
  have c0 : ∀ j, (j < 3 ∨ 8 < j) → W3 0 j = W 0 j := fun j hj => by rw [e3', zup_ne (by omega)]; exact f1.2 j hj
  -- what the row is when i numbers have come
  have eqi : ∀ (i : Nat) (X W' : zMem), l5 W3 W' → (∀ j, (j < 6 ∨ (6 < j ∧ j < 10) ∨ 16 ≤ j) → W' 5 j = W3 5 j) → W' 5 6 = nI i → (∀ j, j < i → W' 5 (10 + j) = X (k + 2) j) → X (k + 1) 6 = nI i → (∀ j, j ≠ 6 → X (k + 1) j = M (k + 1) j) → (∀ c, c ≠ k → c ≠ k + 1 → c ≠ k + 2 → X c = M c) → (∀ j, j ≠ 6 → j ≠ 7 → j ≠ 8 → j ≠ 9 → X k j = M k j) → EQ k X W' n H i t1 t2 := fun i X W' l j0 j6 j1 x6 x1 xc xk => by
    obtain ⟨i0, i1, i2, i3, i4, i5, i6, i7⟩ := e
    refine ⟨fun j hj => ?_, fun j hj => j1 j hj, fun s' p hs hp => by rw [j0 _ (by omega), c5 _ (by omega), xc _ (by omega) (by omega) (by omega)]; exact i2 s' p hs hp, fun h p hh hp => by rw [j0 _ (by omega), c5 _ (by omega), xc _ (by omega) (by omega) (by omega)]; exact i3 h p hh hp, fun w h hh => ?_, by rw [l.2 13 (by omega), c0 13 (by omega), xk 10 (by omega) (by omega) (by omega) (by omega)]; exact i5, by rw [l.2 14 (by omega), c0 14 (by omega), xk 11 (by omega) (by omega) (by omega) (by omega)]; exact i6, by rw [l.2 15 (by omega), c0 15 (by omega), xk 13 (by omega) (by omega) (by omega) (by omega)]; exact i7⟩
    · by_cases w : j = 6
      · rw [w, j6, x6]
      · rw [j0 j (by omega), c5 j w, x1 j w]; exact i0 j hj
    · have hH : H ≤ 5 := d.1.2.1
      rw [j0 _ (by omega), c5 _ (by omega), xc _ (by omega) (by omega) (by omega)]
      exact i4 (by rw [x1 4 (by omega)] at w; exact w) h hh
  have dd : ∀ (i : Nat) (X : zMem), i ≤ 6 → X (k + 1) 6 = nI i → tkf k X M' ∨ M' = X → b = true → DW k M' n H i t1 t2 := fun i X hi x6 hx hb => by
    obtain ⟨L', dv⟩ := hD hb
    have e6 : M' (k + 1) 6 = X (k + 1) 6 := by
      rcases hx with f | f
      · rw [f.1 (k + 1) (by omega)]
      · rw [f]
    have b6 := dv.1.2.2.2
    have : i = L' := (nI_eq (by omega) (by omega)).mp (x6.symm.trans (e6.symm.trans dv.2.2.2.1))
    rw [this]; exact dv
  refine zlp1_r (fun m x W' => (x = 0 ∨ x = 1) ∧ ((b = false ∧ BAD k M' W' ∧ lw W W') ∨ (m = 7 ∧ x = 1 ∧ W' = W3) ∨ ∃ i X, 1 ≤ i ∧ i ≤ 6 ∧ m = 7 - i ∧ AT k X W' ∧ rin k z p0 X ∧ (x = 1 ↔ X k 7 = 2) ∧ rRl k z (6 - i) i X b M' ∧ l5 W3 W' ∧ (∀ j, (j < 6 ∨ (6 < j ∧ j < 10) ∨ 16 ≤ j) → W' 5 j = W3 5 j) ∧ W' 5 6 = nI i ∧ (∀ j, j < i → W' 5 (10 + j) = X (k + 2) j) ∧ X (k + 1) 6 = nI i ∧ (∀ j, j ≠ 6 → X (k + 1) j = M (k + 1) j) ∧ (∀ c, c ≠ k → c ≠ k + 1 → c ≠ k + 2 → X c = M c) ∧ (∀ j, j ≠ 6 → j ≠ 7 → j ≠ 8 → j ≠ 9 → X k j = M k j))) ?_ (n := 7) ⟨Or.inr rfl, Or.inr (Or.inl ⟨rfl, rfl, rfl⟩)⟩
  rintro m x W' ⟨hx, hcase⟩ J hJ
  unfold wpB_Model_readRow_14
  have badJ91 : ∀ W5 : zMem, 0 < m → b = false → BAD k M' W5 → lw W W5 → wpJ_Model_readRow_91 J (fun W2 => wpJ_Model_readLine_218 Q W2) W5 := fun W5 hm hb bd l => mt_next_no bd.w ⟨fun _ => hJ 0 _ _ hm ⟨Or.inl rfl, Or.inl ⟨hb, bd, l⟩⟩, fun _ => hJ 0 _ _ hm ⟨Or.inr rfl, Or.inl ⟨hb, bd, l⟩⟩⟩
  have nx91 : ∀ (i : Nat) (X W5 : zMem), 1 ≤ i → i ≤ 6 → 7 - i < m → W5 0 3 = 0 → W5 0 5 = X k 6 → rin k z p0 X → bnd (tkn k z) (rRl k z (6 - i) i) X b M' → l5 W3 W5 → (∀ j, (j < 6 ∨ (6 < j ∧ j < 10) ∨ 16 ≤ j) → W5 5 j = W3 5 j) → W5 5 6 = nI i → (∀ j, j < i → W5 5 (10 + j) = X (k + 2) j) → X (k + 1) 6 = nI i → (∀ j, j ≠ 6 → X (k + 1) j = M (k + 1) j) → (∀ c, c ≠ k → c ≠ k + 1 → c ≠ k + 2 → X c = M c) → (∀ j, j ≠ 6 → j ≠ 7 → j ≠ 8 → j ≠ 9 → X k j = M k j) → wpJ_Model_readRow_91 J (fun W2 => wpJ_Model_readLine_218 Q W2) W5 := fun i X W5 i1 i6 hm w3 w5 rX hB l j0 j6 j1 x6 x1 xc xk => by
    have lX : lf k M X := fun c hc => xc c (by omega) (by omega) (by omega)
    have sX : WS k z X W5 := s.mv lX (l3.tr l.l)
    refine mt_nx w3 w5 sX rX (fun W6 f6 n6 => ?_)
    obtain ⟨b4, M4, t4, h4⟩ := hB
    obtain ⟨q1, q2⟩ := nx_tkn s.2.1 n6 t4
    rcases h4 with ⟨rfl, hb, hM⟩ | ⟨rfl, h4⟩
    · have bd : BAD k M' W6 := by rw [hM]; exact q2 rfl
      have ll : lw W W6 := (l3.tr l.l).tr f6.l
      exact ⟨fun _ => hJ 0 _ _ (by omega) ⟨Or.inl rfl, Or.inl ⟨hb, bd, ll⟩⟩, fun _ => hJ 0 _ _ (by omega) ⟨Or.inr rfl, Or.inl ⟨hb, bd, ll⟩⟩⟩
    · have a4 := q1 rfl
      obtain ⟨r4, g4⟩ := tkn_in rX t4
      have v5 : W6 5 = W5 5 := f6.1 5 (by omega)
      have st : ∀ x : Int32, (x = 0 ∨ x = 1) → (x = 1 ↔ M4 k 7 = 2) → J x W6 := fun x hx hx2 => hJ (7 - i) _ _ hm ⟨hx, Or.inr (Or.inr ⟨i, M4, i1, i6, rfl, a4, r4, hx2, h4, l.tr f6.l5, by rw [v5]; exact j0, by rw [v5]; exact j6, fun j hj => by rw [v5, g4.1 (k + 2) (by omega)]; exact j1 j hj, by rw [g4.1 (k + 1) (by omega)]; exact x6, fun j hj => by rw [g4.1 (k + 1) (by omega)]; exact x1 j hj, fun c c1 c2 c3 => by rw [g4.1 c c1]; exact xc c c1 c2 c3, fun j a b c d => by rw [g4.2 j a b c d]; exact xk j a b c d⟩)⟩
      rw [a4.2.2.2.1]
      exact ⟨fun c => st 0 (Or.inl rfl) ⟨fun w => absurd w (by decide), fun w => absurd w c⟩, fun c => st 1 (Or.inr rfl) ⟨fun _ => c, fun _ => rfl⟩⟩
  rcases hcase with ⟨hb, bd, l⟩ | ⟨rfl, rfl, rfl⟩ | ⟨i, X, i1, i6, rfl, aX, rX, hx2, hR, l, j0, j6, j1, x6, x1, xc, xk⟩
  · exact ⟨fun _ => mt_sign_bad bd.w (q.2 W' hb l bd), fun _ => ⟨fun _ => mt_sign_bad bd.w (q.2 W' hb l bd), fun w => absurd w bd.w.ne⟩⟩
  · refine ⟨fun w => absurd w (by decide), fun _ => ⟨fun w => ?_, fun w3 => ?_⟩⟩
    · have hw : bw W' := by
        obtain ⟨p, p1, p2, p3, p4⟩ := n3
        rcases p4 with ⟨-, c3, -⟩ | ⟨-, c3, -⟩
        · exact absurd c3 w
        · exact ⟨1, by omega, by omega, c3⟩
      obtain ⟨b1, M1, h1, h2⟩ := h
      obtain ⟨c1, c2⟩ := first_bad s.2.1 n3 hw h1
      rcases h2 with ⟨-, hb, hM⟩ | ⟨hb, -⟩
      · exact mt_sign_bad hw (q.2 W' hb l3 (by rw [hM]; exact c2))
      · rw [hb] at c1; cases c1
    · have go : wpJ_Model_readRow_50 J (fun W2 => wpJ_Model_readLine_218 Q W2) W' := by
        obtain ⟨b1, M1, h1, h2⟩ := h
        refine mt_numN n3 s.2.1 h1 (fun hb1 a1 => ?_) (fun W5 hb1 f5 bd => ?_)
        · subst hb1
          rcases h2 with ⟨h2, -⟩ | ⟨-, h2⟩
          · cases h2
          obtain ⟨r1, g1, -⟩ := rN_in r h1
          have z6 : W' 5 (ix 6) = 0 := c56
          refine ⟨fun w => absurd a1.1 w, fun _ => ⟨vp_in_nI (n := 6) (by omega) (by omega), by rw [z6]; exact vp_in_nI (n := 10) (by omega) (by omega), fun W8 e8 => ⟨vp_in_nI (n := 6) (by omega) (by omega), vp_in_nI (n := 6) (by omega) (by omega), fun W9 e9 => ?_⟩⟩⟩
          rw [z6] at e8
          have e8' : W8 = zup W' 5 10 (M1 k 9) := e8
          have y6 : W8 5 (ix 6) = 0 := by rw [e8', zup_eq]; exact (upd_ne (show (6 : Nat) ≠ 10 by omega)).trans c56
          rw [y6] at e9
          have e9' : W9 = zup (zup W' 5 10 (M1 k 9)) 5 6 (nI 1) := by rw [e9, e8']; rfl
          generalize hX : zup M1 (k + 2) 0 (M1 k 9) = X at h2
          have e16 : M (k + 1) 6 = nI 1 := d.2.2.2.1
          refine nx91 1 X W9 (by omega) (by omega) (by omega) (by rw [e9', zup_ne (by omega), zup_ne (by omega)]; exact a1.1) (by rw [e9', zup_ne (by omega), zup_ne (by omega), ← hX, zup_ne (by omega)]; exact a1.2.1) (rin_mv r1 (by rw [← hX, zup_ne (by omega)]) (by rw [← hX, zup_ne (by omega)])) h2 (by rw [e9']; exact l5_u.tr l5_u) (fun j hj => by rw [e9', zup_eq, upd_ne (by omega), zup_eq, upd_ne (by omega)]) (by rw [e9', zup_eq, upd_eq]) (fun j hj => ?_) (by rw [← hX, zup_ne (by omega), g1.1 (k + 1) (by omega)]; exact e16) (fun j hj => by rw [← hX, zup_ne (by omega), g1.1 (k + 1) (by omega)]) (fun c c1 c2 c3 => by rw [← hX, zup_ne c3, g1.1 c c1]) (fun j a b c d => by rw [← hX, zup_ne (by omega), g1.2 j a b c d])
          rw [show j = 0 by omega, e9', zup_eq, upd_ne (by omega), zup_eq, upd_eq, ← hX, zup_eq, upd_eq]
        · subst hb1
          rcases h2 with ⟨-, hb, hM⟩ | ⟨h2, -⟩
          · exact ⟨fun _ => badJ91 W5 (by omega) hb (by rw [hM]; exact bd) (l3.tr f5.l), fun w => absurd w bd.w.ne⟩
          · cases h2
      refine ⟨fun _ => go, fun _ => ⟨vp_in_nI (n := 6) (by omega) (by omega), fun _ => go, fun w => ?_⟩⟩
      have z6 : W' 5 (ix 6) = 0 := c56
      rw [z6] at w
      exact absurd w (by decide)
  · have lX : lf k M X := fun c hc => xc c (by omega) (by omega) (by omega)
    have lW : lw W W' := l3.tr l.l
    have sX : WS k z X W' := s.mv lX lW
    refine ⟨fun w => ?_, fun w => ⟨fun v => absurd aX.1 v, fun _ => ?_⟩⟩
    · have c7 : ¬ X k 7 = 2 := fun v => by rw [w] at hx2; exact absurd (hx2.mpr v) (by decide)
      have hS : rSi k X b M' := by
        cases h6 : 6 - i with
        | zero =>
          rw [h6] at hR
          rcases hR with ⟨v, -⟩ | ⟨-, v⟩
          · exact absurd v c7
          · exact v
        | succ m =>
          rw [h6] at hR
          rcases hR with ⟨-, v⟩ | ⟨v, -⟩
          · exact v
          · exact absurd v c7
      refine mt_signA aX sX rX hS (fun W2 hb hM f2 n2 => q.1 W2 hb (lW.tr f2.l) n2 ⟨n, H, i, t1, t2, dd i X i6 x6 (Or.inr hM) hb, ?_⟩) (fun W2 hb f2 bd => q.2 W2 hb (lW.tr f2.l) bd)
      rw [hM]
      exact (eqi i X W' l j0 j6 j1 x6 x1 xc xk).mv (fun _ _ _ => rfl) ⟨rfl, rfl, rfl⟩ f2
    · have c7 : X k 7 = 2 := hx2.mp (hx.resolve_left w)
      have z6 : W' 5 (ix 6) = nI i := j6
      refine ⟨fun v => absurd (by rw [aX.2.2.2.1]; exact c7) v, fun _ => ⟨vp_in_nI (n := 6) (by omega) (by omega), fun v => ?_, fun v => ?_⟩⟩
      · rw [z6] at v
        have i5 : i < 6 := by
          rcases Nat.lt_or_ge i 6 with u | u
          · exact u
          · exact absurd (by rw [show i = 6 by omega]; rfl) v
        obtain ⟨m, em⟩ : ∃ m, 6 - i = m + 1 := ⟨6 - i - 1, by omega⟩
        rw [em] at hR
        rcases hR with ⟨u, -⟩ | ⟨-, hR⟩
        · exact absurd c7 u
        obtain ⟨b1, M1, hw, h2⟩ := hR
        refine mt_num aX (Or.inr ⟨c7, hw⟩) (fun hb1 e1 => ?_) (fun W5 hb1 f5 bd => ?_)
        · subst hb1
          rcases h2 with ⟨h2, -⟩ | ⟨-, h2⟩
          · cases h2
          rw [e1] at h2
          have e10 : (10 : Int32) + nI i = nI (10 + i) := q_add 10 i
          rw [z6, e10, q_ix (by omega)]
          refine ⟨fun u => absurd aX.1 u, fun _ => ⟨vp_in_nI (n := 6) (by omega) (by omega), vp_in_nI (by omega) (by omega), fun W8 e8 => ⟨vp_in_nI (n := 6) (by omega) (by omega), vp_in_nI (n := 6) (by omega) (by omega), fun W9 e9 => ?_⟩⟩⟩
          have y6 : W8 5 (ix 6) = nI i := by rw [e8, zup_eq]; exact (upd_ne (show (6 : Nat) ≠ 10 + i by omega)).trans j6
          rw [y6, nI_1] at e9
          have e9' : W9 = zup (zup W' 5 (10 + i) (X k 9)) 5 6 (nI (i + 1)) := by rw [e9, e8]; rfl
          generalize hX : zup (zup X (k + 2) i (X k 9)) (k + 1) 6 (nI (i + 1)) = X2 at h2
          refine nx91 (i + 1) X2 W9 (by omega) (by omega) (by omega) (by rw [e9', zup_ne (by omega), zup_ne (by omega)]; exact aX.1) (by rw [e9', zup_ne (by omega), zup_ne (by omega), ← hX, zup_ne (by omega), zup_ne (by omega)]; exact aX.2.1) (rin_mv rX (by rw [← hX, zup_ne (by omega), zup_ne (by omega)]) (by rw [← hX, zup_ne (by omega), zup_ne (by omega)])) (by rw [show 6 - (i + 1) = m by omega]; exact h2) (l.tr (by rw [e9']; exact l5_u.tr l5_u)) (fun j hj => by rw [e9', zup_eq, upd_ne (by omega), zup_eq, upd_ne (by omega)]; exact j0 j hj) (by rw [e9', zup_eq, upd_eq]) (fun j hj => ?_) (by rw [← hX, zup_eq, upd_eq]) (fun j hj => by rw [← hX, zup_eq, upd_ne hj, zup_ne (by omega)]; exact x1 j hj) (fun c c1 c2 c3 => by rw [← hX, zup_ne c2, zup_ne c3]; exact xc c c1 c2 c3) (fun j a b c d => by rw [← hX, zup_ne (by omega), zup_ne (by omega)]; exact xk j a b c d)
          rw [e9', zup_eq, upd_ne (by omega), zup_eq, ← hX, zup_ne (by omega), zup_eq]
          by_cases u : j = i
          · rw [u, upd_eq, upd_eq]
          · rw [upd_ne (by omega), upd_ne u]; exact j1 j (by omega)
        · subst hb1
          rcases h2 with ⟨-, hb, hM⟩ | ⟨h2, -⟩
          · exact ⟨fun _ => badJ91 W5 (by omega) hb (by rw [hM]; exact bd) (lW.tr f5.l), fun u => absurd u bd.w.ne⟩
          · cases h2
      · rw [z6] at v
        have i6' : i = 6 := (nI_eq (b := 6) (by omega) (by omega)).mp v
        subst i6'
        have hR' : rRl k z 0 6 X b M' := hR
        rcases hR' with ⟨-, hb, hM⟩ | ⟨u, -⟩
        · have bd := BAD_fs (k := k) (c := 5) (M := X) (W := W') aX.2.2.1 (by omega) (by omega)
          have bd' : BAD k M' (wfs (nI 5) W') := by rw [hM]; exact bd
          exact e_fails (c := nI 5) aX.1 (mt_num_bad bd.w ⟨fun _ => badJ91 _ (by omega) hb bd' (lW.tr tkw.fs.l), fun u => absurd u bd.w.ne⟩)
        · exact absurd c7 u
theorem PL.mv {k z : Nat} {M' W W1 : zMem} {b : Bool} {Q : zMem → Prop} (q : PL k z M' W b Q) (l : lw W W1) : PL k z M' W1 b Q := ⟨fun W' hb l' n e => q.1 W' hb (l.tr l') n e, fun W' hb l' bd => q.2 W' hb (l.tr l') bd⟩
/-- under a fault the rest of a line does nothing -/
theorem mt_bad71 {nm H : Nat} {Q : zMem → Prop} {W : zMem} (h : bw W) (eH : W 5 1 = nI H) (H5 : H ≤ 5) (hn : nm = 3 ∨ nm = 5 ∨ nm = 6 ∨ nm = 7 ∨ nm = 8 ∨ nm = 9) (hQ : ∀ W', kb W W' → Q W') : wpJ_Model_readLine_71 Q (nI nm) W := by
  have row : wp_Model_readRow W (fun W2 => wpJ_Model_readLine_218 Q W2) := by
    refine mt_next_no h ⟨vp_in_nI (n := 6) (by omega) (by omega), fun W3 e3 => ?_⟩
    have k3 : kb W W3 := by rw [e3]; exact kb.u5
    have b3 := k3.w h
    refine ⟨1, ?_⟩
    show wpB_Model_readRow_14 _ _ _ _
    exact ⟨fun w => absurd w (by decide), fun _ => ⟨fun _ => mt_sign_bad b3 (hQ W3 k3), fun w => absurd w b3.ne⟩⟩
  have on : ∀ (j : Nat) (hi : Int32), j ≤ 3 → wp_Model_next W (fun W1 => wp_Model_number 0 hi W1 (fun v W2 => vp_in (nI j) 100 ∧ ∀ W3 : zMem, W3 = zup W2 5 (ix (nI j)) v → wp_Model_next W3 (fun W4 => wpJ_Model_readLine_218 Q W4))) := fun j hi hj => by
    refine mt_next_no h (mt_num_bad h ⟨vp_in_nI (by omega) (by omega), fun W3 e3 => ?_⟩)
    have k3 : kb W W3 := by rw [e3]; exact kb.u5
    exact mt_next_no (k3.w h) (mt_sign_bad (k3.w h) (hQ W3 k3))
  have ends : ∀ v : Int32, ∀ W1, W1 = zup W 5 (ix 4) v → wp_Model_readEnds W1 (fun W2 => wpJ_Model_readLine_218 Q W2) := fun v W1 e1 W2 e2 => by
    have e1' : W1 = zup W 5 4 v := e1
    have k2 : kb W W2 := by rw [e2, e1']; exact kb.u5.tr (kb.u0 (by omega))
    have s2 : W2 5 1 = nI H := by rw [e2, zup_ne (by omega), e1', zup_eq, upd_ne (by omega)]; exact eH
    refine mt_next_no (k2.w h) ?_
    refine zlp1_r (fun m x W' => ∃ i, x = nI i ∧ i ≤ H ∧ m = H - i ∧ kb W W' ∧ W' 5 1 = nI H) ?_ (n := H) ⟨0, rfl, by omega, rfl, k2, s2⟩
    rintro m x W' ⟨i, rfl, hi, rfl, k', s'⟩ J hJ
    unfold wpB_Model_readEnds_11
    have z1 : W' 5 (ix 1) = nI H := s'
    rw [z1]
    have le : (nI H - 1 ≤ nI i) ↔ H - 1 ≤ i := by
      rcases Nat.eq_zero_or_pos H with h0 | h0
      · subst h0
        exact ⟨fun _ => by omega, fun _ => Int32.le_trans (show nI 0 - 1 ≤ 0 by decide) (nI_pos' (by omega))⟩
      · have e : nI H - 1 = nI (H - 1) := q_sub (a := H) (b := 1) h0
        rw [e]
        exact nI_leI (by omega) (by omega)
    have e20 : (20 : Int32) + nI i = nI (20 + i) := q_add 20 i
    have bj : ∀ x : Int32, i < H - 1 → wpJ_Model_readEnds_42 J (fun W2 => wpJ_Model_readLine_218 Q W2) (nI i) x W' := fun x hi2 => by
      refine ⟨vp_in_nI (n := 0) (by omega) (by omega), mt_num_bad (k'.w h) ?_⟩
      rw [e20, q_ix (by omega)]
      refine ⟨vp_in_nI (by omega) (by omega), fun W6 e6 => ?_⟩
      have k6 : kb W W6 := k'.tr (by rw [e6]; exact kb.u5)
      refine mt_next_no (k6.w h) (fun y ey => ?_)
      rw [ey, nI_1]
      exact hJ (H - (i + 1)) _ _ (by omega) ⟨i + 1, rfl, by omega, rfl, k6, by rw [e6, zup_eq, upd_ne (by omega)]; exact s'⟩
    have lt : ¬ (nI H - 1 ≤ nI i) → i < H - 1 := fun c => by
      rcases Nat.lt_or_ge i (H - 1) with u | u
      · exact u
      · exact absurd (le.mpr u) c
    refine ⟨vp_in_nI (n := 1) (by omega) (by omega), fun _ => mt_sign_bad (k'.w h) (hQ W' k'), fun c => ⟨fun c0 => ?_, fun _ => bj _ (lt c)⟩⟩
    have i0 : i ≠ 0 := fun w => c0 (by rw [w]; rfl)
    rw [e20, show nI (20 + i) - 1 = nI (20 + i - 1) from q_sub (a := 20 + i) (b := 1) (by omega)]
    exact ⟨vp_in_nI (by omega) (by omega), bj _ (lt c)⟩
  intro x ex
  subst ex
  rcases hn with rfl | rfl | rfl | rfl | rfl | rfl
  · exact ⟨fun w => absurd w (by decide), fun w => absurd w (by decide), fun w => absurd w (by decide), fun _ => row, fun w => absurd w (by decide), fun w => absurd w (by decide), fun w => absurd w (by decide), fun w => absurd w (by decide), fun _ _ _ w => absurd rfl w⟩
  · refine ⟨fun w => absurd w (by decide), fun w => absurd w (by decide), fun w => absurd w (by decide), fun w => absurd w (by decide), fun w => absurd w (by decide), fun _ => ?_, fun w => absurd w (by decide), fun w => absurd w (by decide), fun _ _ _ _ _ w => absurd rfl w⟩
    have e5 : (nI 5 = (5 : Int32)) = True := eq_true rfl
    simp only [e5, not_true_eq_false, false_implies, true_implies, true_and]
    exact on 2 5 (by omega)
  · refine ⟨fun w => absurd w (by decide), fun w => absurd w (by decide), fun w => absurd w (by decide), fun w => absurd w (by decide), fun w => absurd w (by decide), fun w => absurd w (by decide), fun _ => ?_, fun w => absurd w (by decide), fun _ _ _ _ _ _ w => absurd rfl w⟩
    have e5 : (nI 6 = (5 : Int32)) = False := eq_false (by decide)
    simp only [e5, not_false_eq_true, false_implies, true_implies, and_true]
    exact on 3 99 (by omega)
  · exact ⟨fun w => absurd w (by decide), fun w => absurd w (by decide), fun w => absurd w (by decide), fun w => absurd w (by decide), fun w => absurd w (by decide), fun w => absurd w (by decide), fun w => absurd w (by decide), fun _ => mt_next_no h (mt_sign_bad h (hQ W kb.rf)), fun _ _ _ _ _ _ _ w => absurd rfl w⟩
  · exact ⟨fun w => absurd w (by decide), fun w => absurd w (by decide), fun w => absurd w (by decide), fun w => absurd w (by decide), fun w => absurd w (by decide), fun w => absurd w (by decide), fun w => absurd w (by decide), fun w => absurd w (by decide), fun _ _ _ _ _ _ _ _ => ⟨vp_in_nI (n := 4) (by omega) (by omega), ends _⟩⟩
  · exact ⟨fun w => absurd w (by decide), fun w => absurd w (by decide), fun w => absurd w (by decide), fun w => absurd w (by decide), fun w => absurd w (by decide), fun w => absurd w (by decide), fun w => absurd w (by decide), fun w => absurd w (by decide), fun _ _ _ _ _ _ _ _ => ⟨vp_in_nI (n := 4) (by omega) (by omega), ends _⟩⟩
theorem mt_once {k : Nat} {a x : Int32} {A : zMem → Bool → zMem → Prop} {M M' W : zMem} {b : Bool} {Q : zMem → Prop} (at0 : AT k M W) (e13 : W 0 13 = M k 10) (h : bnd (rOc k a) A M b M')
    (ht : ∀ M1 W1, rOc k a M true M1 → A M1 b M' → M1 = zup M k 10 (M k 10 ||| (1 <<< (a &&& 31))) → W1 = zup W 0 13 (M k 10 ||| (1 <<< (a &&& 31))) → wpJ_Model_readLine_71 Q x W1)
    (hf : ∀ W1, b = false → lw W W1 → W1 5 = W 5 → BAD k M' W1 → wpJ_Model_readLine_71 Q x W1) : wpJ_Model_readLine_42 Q x a W := by
  obtain ⟨b1, M1, h1, h2⟩ := h
  unfold wpJ_Model_readLine_42
  rw [e13]
  have h1' := h1
  rcases h1 with ⟨c, hb1, e1⟩ | ⟨c, hb1, e1⟩
  · subst hb1
    rcases h2 with ⟨-, hb, e2⟩ | ⟨w, -⟩
    · refine ⟨fun w => absurd c w, fun _ => e_fails (c := nI 4) at0.1 (fun W2 e3 => ?_)⟩
      have bd := BAD_fs (k := k) (c := 4) (M := M) (W := W) at0.2.2.1 (by omega) (by omega)
      refine hf W2 hb ?_ ?_ ?_
      · rw [e3]; exact tkw.fs.l.tr (lw.u0 (by omega))
      · rw [e3, zup_ne (by omega)]; exact tkw.fs.1 5 (by omega)
      · rw [e2, e1, e3]
        exact bd.kb (kb.u0 (by omega))
    · cases w
  · subst hb1
    rcases h2 with ⟨w, -⟩ | ⟨-, h2⟩
    · cases w
    · refine ⟨fun _ W2 e3 => ?_, fun w => absurd w c⟩
      rw [e13] at e3
      exact ht M1 W2 h1' h2 e1 e3
theorem EQ.once {k n H L : Nat} {t1 t2 : Bool} {v : Int32} {M M1 W W1 : zMem} (h : EQ k M W n H L t1 t2) (e1 : M1 = zup M k 10 v) (e2 : W1 = zup W 0 13 v) : EQ k M1 W1 n H L t1 t2 := by
  obtain ⟨i0, i1, i2, i3, i4, i5, i6, i7⟩ := h
  have xk : ∀ i, 1 ≤ i → M1 (k + i) = M (k + i) := fun i hi => by rw [e1, zup_ne (by omega)]
  have y5 : W1 5 = W 5 := by rw [e2, zup_ne (by omega)]
  have x0 : ∀ j, j ≠ 10 → M1 k j = M k j := fun j hj => by rw [e1, zup_eq, upd_ne hj]
  have y0 : ∀ j, j ≠ 13 → W1 0 j = W 0 j := fun j hj => by rw [e2, zup_eq, upd_ne hj]
  unfold EQ
  rw [xk 1 (by omega), xk 2 (by omega), xk 3 (by omega), xk 4 (by omega), xk 5 (by omega), y5, y0 14 (by omega), y0 15 (by omega), x0 11 (by omega), x0 13 (by omega)]
  exact ⟨i0, i1, i2, i3, i4, by rw [e1, e2, zup_eq, zup_eq, upd_eq, upd_eq], i6, i7⟩
theorem mt_line {k z p0 n H L : Nat} {t1 t2 : Bool} {M M' W : zMem} {b : Bool} {Q : zMem → Prop} (at0 : AT k M W) (s : WS k z M W) (d : DA k z p0 M n H L t1 t2) (e : EQ k M W n H L t1 t2) (h : rLi k z n H M b M') (q : PL k z M' W b Q) : wp_Model_readLine W Q := by
  obtain ⟨r, dw, dn⟩ := d
  intro x ex
  rcases h with ⟨c7, hb, e1⟩ | ⟨c7, nm, hnm, e9, h⟩
  · refine ⟨fun w => absurd (by rw [← at0.2.2.2.1]; exact w) c7, fun _ => e_fails (c := nI 2) at0.1 ?_⟩
    refine q.2 _ hb tkw.fs.l ?_
    rw [e1]
    exact BAD_fs (k := k) (c := 2) at0.2.2.1 (by omega) (by omega)
  · refine ⟨fun _ => ?_, fun w => absurd (by rw [at0.2.2.2.1]; exact c7) w⟩
    have ex' : x = nI nm := by rw [ex, at0.2.2.2.2 (Or.inl c7)]; exact e9
    subst ex'
    generalize hY : zup M k 3 (M k 3 + 1) = Y at h
    have yk : ∀ j, j ≠ 3 → Y k j = M k j := fun j hj => by rw [← hY, zup_eq, upd_ne hj]
    have yc : ∀ c, c ≠ k → Y c = M c := fun c hc => by rw [← hY, zup_ne hc]
    have aY : AT k Y W := at0.mv (fun j j1 j2 => yk j (by omega))
    have sY : WS k z Y W := s.mv (fun c hc => yc c (by omega)) lw.rf
    have rY : rin k z p0 Y := rin_mv r (yk 5 (by omega)) (yk 6 (by omega))
    have dY : DW k Y n H L t1 t2 := dw.mv (fun i h1 _ => yc _ (by omega)) (fun j _ _ => yk j (by omega))
    have nY : DN k Y L := dn.mv (yk 10 (by omega))
    have eY : EQ k Y W n H L t1 t2 := e.mv (fun i h1 _ => yc _ (by omega)) ⟨yk 10 (by omega), yk 11 (by omega), yk 13 (by omega)⟩ tkw.rf
    have H5 : H ≤ 5 := dw.1.2.1
    have eH : W 5 1 = nI H := (e.1 1 (by omega)).trans dw.2.2.1
    have bad : ∀ W1, (nm = 3 ∨ nm = 5 ∨ nm = 6 ∨ nm = 7 ∨ nm = 8 ∨ nm = 9) → b = false → lw W W1 → W1 5 = W 5 → BAD k M' W1 → wpJ_Model_readLine_71 Q (nI nm) W1 := fun W1 hn hb l e5 bd => mt_bad71 bd.w (by rw [e5]; exact eH) H5 hn (fun W' k' => q.2 W' hb (l.tr k'.1) (bd.kb k'))
    have on : ∀ {a : Int32} {M1 W1 : zMem}, rOc k a Y true M1 → M1 = zup Y k 10 (Y k 10 ||| (1 <<< (a &&& 31))) → W1 = zup W 0 13 (Y k 10 ||| (1 <<< (a &&& 31))) → AT k M1 W1 ∧ WS k z M1 W1 ∧ rin k z p0 M1 ∧ DW k M1 n H L t1 t2 ∧ EQ k M1 W1 n H L t1 t2 ∧ PL k z M' W1 b Q := fun {a M1 W1} ho e1 e2 => by
      have lW : lw W W1 := by rw [e2]; exact lw.u0 (by omega)
      obtain ⟨r1, d1⟩ := DW_once rY dY ho
      refine ⟨?_, sY.mv (by rw [e1]; exact lf.up (by omega) (by omega)) lW, r1, d1, eY.once e1 e2, q.mv lW⟩
      obtain ⟨a1, a2, a3, a4, a5⟩ := aY
      have m0 : ∀ j, j ≠ 10 → M1 k j = Y k j := fun j hj => by rw [e1, zup_eq, upd_ne hj]
      have w0 : ∀ j, j ≠ 13 → W1 0 j = W 0 j := fun j hj => by rw [e2, zup_eq, upd_ne hj]
      unfold AT
      rw [m0 6 (by omega), m0 7 (by omega), m0 8 (by omega), m0 9 (by omega), w0 3 (by omega), w0 5 (by omega), w0 6 (by omega), w0 7 (by omega), w0 8 (by omega)]
      exact ⟨a1, a2, a3, a4, a5⟩
    have e13 : W 0 13 = Y k 10 := eY.2.2.2.2.2.1
    rcases (show nm = 0 ∨ nm = 1 ∨ nm = 2 ∨ nm = 3 ∨ nm = 4 ∨ nm = 5 ∨ nm = 6 ∨ nm = 7 ∨ nm = 8 ∨ nm = 9 by omega) with rfl | rfl | rfl | rfl | rfl | rfl | rfl | rfl | rfl | rfl
    · refine ⟨fun _ => ⟨fun w => absurd w (by decide), fun _ => ⟨fun _ => ?_, fun w => absurd (by decide) w⟩⟩, fun w => absurd (by decide) w⟩
      intro x ex
      subst ex
      exact ⟨fun _ => mt_piece aY sY rY dY eY h q, fun w => absurd w (by decide), fun w => absurd w (by decide), fun w => absurd w (by decide), fun w => absurd w (by decide), fun w => absurd w (by decide), fun w => absurd w (by decide), fun w => absurd w (by decide), fun w => absurd rfl w⟩
    · refine ⟨fun _ => ⟨fun w => absurd w (by decide), fun _ => ⟨fun _ => ?_, fun w => absurd (by decide) w⟩⟩, fun w => absurd (by decide) w⟩
      intro x ex
      subst ex
      exact ⟨fun w => absurd w (by decide), fun _ => mt_whole aY sY rY dY eY h q, fun w => absurd w (by decide), fun w => absurd w (by decide), fun w => absurd w (by decide), fun w => absurd w (by decide), fun w => absurd w (by decide), fun w => absurd w (by decide), fun _ w => absurd rfl w⟩
    · refine ⟨fun _ => ⟨fun w => absurd w (by decide), fun _ => ⟨fun _ => ?_, fun w => absurd (by decide) w⟩⟩, fun w => absurd (by decide) w⟩
      intro x ex
      subst ex
      exact ⟨fun w => absurd w (by decide), fun w => absurd w (by decide), fun _ => mt_sort aY sY rY dY eY h q, fun w => absurd w (by decide), fun w => absurd w (by decide), fun w => absurd w (by decide), fun w => absurd w (by decide), fun w => absurd w (by decide), fun _ _ w => absurd rfl w⟩
    · refine ⟨fun _ => ⟨fun _ => ?_, fun w => absurd rfl w⟩, fun w => absurd (by decide) w⟩
      refine mt_once (a := 3) aY e13 h (fun M1 W1 ho h1 e1 e2 => ?_) (fun W1 => bad W1 (by omega))
      obtain ⟨a1, s1, r1, d1, q1, p1⟩ := on ho e1 e2
      have L1 : L = 1 := (rOc_10 ho nY (Or.inl rfl)).1 rfl
      subst L1
      intro x ex
      subst ex
      exact ⟨fun w => absurd w (by decide), fun w => absurd w (by decide), fun w => absurd w (by decide), fun _ => mt_rowL a1 s1 r1 d1 q1 h1 p1, fun w => absurd w (by decide), fun w => absurd w (by decide), fun w => absurd w (by decide), fun w => absurd w (by decide), fun _ _ _ w => absurd rfl w⟩
    · refine ⟨fun _ => ⟨fun w => absurd w (by decide), fun _ => ⟨fun _ => ?_, fun w => absurd (by decide) w⟩⟩, fun w => absurd (by decide) w⟩
      intro x ex
      subst ex
      exact ⟨fun w => absurd w (by decide), fun w => absurd w (by decide), fun w => absurd w (by decide), fun w => absurd w (by decide), fun _ => mt_handL aY sY rY dY eY h q, fun w => absurd w (by decide), fun w => absurd w (by decide), fun w => absurd w (by decide), fun _ _ _ _ w => absurd rfl w⟩
    · refine ⟨fun _ => ⟨fun w => absurd w (by decide), fun _ => ⟨fun w => absurd w (by decide), fun _ => ?_⟩⟩, fun w => absurd (by decide) w⟩
      refine mt_once (a := 5) aY e13 h (fun M1 W1 ho h1 e1 e2 => ?_) (fun W1 => bad W1 (by omega))
      obtain ⟨a1, s1, r1, d1, q1, p1⟩ := on ho e1 e2
      intro x ex
      subst ex
      refine ⟨fun w => absurd w (by decide), fun w => absurd w (by decide), fun w => absurd w (by decide), fun w => absurd w (by decide), fun w => absurd w (by decide), fun _ => ?_, fun w => absurd w (by decide), fun w => absurd w (by decide), fun _ _ _ _ _ w => absurd rfl w⟩
      have e5 : (nI 5 = (5 : Int32)) = True := eq_true rfl
      simp only [e5, not_true_eq_false, false_implies, true_implies, true_and]
      exact mt_on (j := 2) (hi := 5) (Or.inl ⟨rfl, rfl⟩) a1 s1 r1 d1 q1 h1 p1
    · refine ⟨fun _ => ⟨fun w => absurd w (by decide), fun _ => ⟨fun w => absurd w (by decide), fun _ => ?_⟩⟩, fun w => absurd (by decide) w⟩
      refine mt_once (a := 6) aY e13 h (fun M1 W1 ho h1 e1 e2 => ?_) (fun W1 => bad W1 (by omega))
      obtain ⟨a1, s1, r1, d1, q1, p1⟩ := on ho e1 e2
      intro x ex
      subst ex
      refine ⟨fun w => absurd w (by decide), fun w => absurd w (by decide), fun w => absurd w (by decide), fun w => absurd w (by decide), fun w => absurd w (by decide), fun w => absurd w (by decide), fun _ => ?_, fun w => absurd w (by decide), fun _ _ _ _ _ _ w => absurd rfl w⟩
      have e5 : (nI 6 = (5 : Int32)) = False := eq_false (by decide)
      simp only [e5, not_false_eq_true, false_implies, true_implies, and_true]
      exact mt_on (j := 3) (hi := 99) (Or.inr ⟨rfl, rfl⟩) a1 s1 r1 d1 q1 h1 p1
    · refine ⟨fun _ => ⟨fun w => absurd w (by decide), fun _ => ⟨fun w => absurd w (by decide), fun _ => ?_⟩⟩, fun w => absurd (by decide) w⟩
      refine mt_once (a := 7) aY e13 h (fun M1 W1 ho h1 e1 e2 => ?_) (fun W1 => bad W1 (by omega))
      obtain ⟨a1, s1, r1, d1, q1, p1⟩ := on ho e1 e2
      intro x ex
      subst ex
      exact ⟨fun w => absurd w (by decide), fun w => absurd w (by decide), fun w => absurd w (by decide), fun w => absurd w (by decide), fun w => absurd w (by decide), fun w => absurd w (by decide), fun w => absurd w (by decide), fun _ => mt_end a1.1 a1.2.1 s1 r1 h1 lw.rf q1 (fun hb => d1.tk (rS_in r1 (by rw [hb] at h1; exact h1)).2) p1, fun _ _ _ _ _ _ _ w => absurd rfl w⟩
    · refine ⟨fun w => absurd w (by decide), fun _ => ⟨fun w => absurd w (by decide), fun _ => ⟨fun w => absurd w (by decide), fun _ => ?_⟩⟩⟩
      refine mt_once (a := 7) aY e13 h (fun M1 W1 ho h1 e1 e2 => ?_) (fun W1 => bad W1 (by omega))
      obtain ⟨a1, s1, r1, d1, q1, p1⟩ := on ho e1 e2
      intro x ex
      subst ex
      exact ⟨fun w => absurd w (by decide), fun w => absurd w (by decide), fun w => absurd w (by decide), fun w => absurd w (by decide), fun w => absurd w (by decide), fun w => absurd w (by decide), fun w => absurd w (by decide), fun w => absurd w (by decide), fun _ _ _ _ _ _ _ _ => ⟨vp_in_nI (n := 4) (by omega) (by omega), mt_endsL (a := 1) (by omega) a1 s1 r1 d1 q1 h1 p1⟩⟩
    · refine ⟨fun w => absurd w (by decide), fun _ => ⟨fun w => absurd w (by decide), fun _ => ⟨fun w => absurd w (by decide), fun _ => ?_⟩⟩⟩
      refine mt_once (a := 7) aY e13 h (fun M1 W1 ho h1 e1 e2 => ?_) (fun W1 => bad W1 (by omega))
      obtain ⟨a1, s1, r1, d1, q1, p1⟩ := on ho e1 e2
      intro x ex
      subst ex
      exact ⟨fun w => absurd w (by decide), fun w => absurd w (by decide), fun w => absurd w (by decide), fun w => absurd w (by decide), fun w => absurd w (by decide), fun w => absurd w (by decide), fun w => absurd w (by decide), fun w => absurd w (by decide), fun _ _ _ _ _ _ _ _ => ⟨vp_in_nI (n := 4) (by omega) (by omega), mt_endsL (a := 2) (by omega) a1 s1 r1 d1 q1 h1 p1⟩⟩
def ge (k : Nat) (R : zMem → Bool → zMem → Prop) : Prop := ∀ M b M', R M b M' → lf k M M' ∧ (b = true → M' k 3 = M k 3) ∧ (b = false → ∃ c X, 1 ≤ c ∧ c ≤ 5 ∧ M' = rfs k (nI c) X)
theorem ge_bnd {k : Nat} {A B : zMem → Bool → zMem → Prop} (hA : ge k A) (hB : ge k B) : ge k (bnd A B) := by
  rintro M b M' ⟨b1, M1, h1, ⟨rfl, rfl, rfl⟩ | ⟨rfl, h⟩⟩
  · exact hA _ _ _ h1
  · obtain ⟨a1, a2, -⟩ := hA _ _ _ h1
    obtain ⟨c1, c2, c3⟩ := hB _ _ _ h
    exact ⟨a1.tr c1, fun e => (c2 e).trans (a2 rfl), c3⟩
theorem ge_pre {k : Nat} {B : zMem → Bool → zMem → Prop} {f : zMem → zMem} (hB : ge k B) (hf : ∀ M, lf k M (f M) ∧ f M k 3 = M k 3) : ge k (fun M => B (f M)) := by
  intro M b M' h
  obtain ⟨c1, c2, c3⟩ := hB _ _ _ h
  obtain ⟨f1, f2⟩ := hf M
  exact ⟨f1.tr c1, fun e => (c2 e).trans f2, c3⟩
theorem ge_tkn {k z : Nat} : ge k (tkn k z) := by
  rintro M b M' ⟨p, -, -, ⟨rfl, -, f, -⟩ | ⟨rfl, -, M1, f, -, rfl⟩⟩
  · exact ⟨f.lf, fun _ => f.2 3 (by omega) (by omega) (by omega) (by omega), fun w => by cases w⟩
  · exact ⟨f.lf.tr lf_rfs, fun w => (by cases w), fun _ => ⟨1, M1, by omega, by omega, rfl⟩⟩
theorem ge_rf {k c : Nat} {M M' : zMem} {b : Bool} (h1 : 1 ≤ c) (h5 : c ≤ 5) (hb : b = false) (e : M' = rfs k (nI c) M) : lf k M M' ∧ (b = true → M' k 3 = M k 3) ∧ (b = false → ∃ c X, 1 ≤ c ∧ c ≤ 5 ∧ M' = rfs k (nI c) X) := by
  subst hb e
  exact ⟨lf_rfs, fun w => (by cases w), fun _ => ⟨c, M, h1, h5, rfl⟩⟩
theorem ge_id {k : Nat} {M M' : zMem} {b : Bool} (hb : b = true) (e : M' = M) : lf k M M' ∧ (b = true → M' k 3 = M k 3) ∧ (b = false → ∃ c X, 1 ≤ c ∧ c ≤ 5 ∧ M' = rfs k (nI c) X) := by
  subst hb e
  exact ⟨fun _ _ => rfl, fun _ => rfl, fun w => by cases w⟩
theorem ge_rWi {k : Nat} {lo hi : Int32} : ge k (rWi k lo hi) := by
  rintro M b M' (⟨-, hb, e⟩ | ⟨-, -, hb, e⟩)
  · exact ge_rf (c := 3) (by omega) (by omega) hb e
  · exact ge_id hb e
theorem ge_rNu {k : Nat} {lo hi : Int32} : ge k (rNu k lo hi) := by
  rintro M b M' (⟨-, hb, e⟩ | ⟨-, h⟩)
  · exact ge_rf (c := 2) (by omega) (by omega) hb e
  · exact ge_rWi _ _ _ h
theorem ge_rSi {k : Nat} : ge k (rSi k) := by
  rintro M b M' (⟨-, hb, e⟩ | ⟨-, hb, e⟩)
  · exact ge_rf (c := 2) (by omega) (by omega) hb e
  · exact ge_id hb e
theorem ge_rN {k z : Nat} {lo hi : Int32} : ge k (rN k z lo hi) := ge_bnd ge_tkn ge_rNu
theorem ge_rS {k z : Nat} : ge k (rS k z) := ge_bnd ge_tkn ge_rSi
theorem up_3 {k c j : Nat} {x : Int32} {M : zMem} (h : k ≤ c) (h2 : c ≤ k + 5) (hj : c ≠ k ∨ j ≠ 3) : lf k M (zup M c j x) ∧ zup M c j x k 3 = M k 3 := by
  refine ⟨lf.up h h2, ?_⟩
  by_cases e : c = k
  · subst e
    rw [zup_eq, upd_ne (by omega)]
  · rw [zup_ne (Ne.symm e)]
theorem up_3t {k : Nat} {M M1 M2 : zMem} (a : lf k M M1 ∧ M1 k 3 = M k 3) (b : lf k M1 M2 ∧ M2 k 3 = M1 k 3) : lf k M M2 ∧ M2 k 3 = M k 3 := ⟨a.1.tr b.1, b.2.trans a.2⟩
theorem ge_rPi {k z : Nat} : ge k (rPi k z) := by
  rintro M b M' (⟨-, hb, e⟩ | ⟨-, -, h⟩)
  · exact ge_rf (c := 5) (by omega) (by omega) hb e
  · exact ge_bnd ge_rN (ge_pre ge_rS (fun M => up_3t (up_3 (by omega) (by omega) (by omega)) (up_3 (by omega) (by omega) (by omega)))) _ _ _ h
theorem ge_rWh {k z : Nat} : ge k (rWh k z) := by
  intro M b M' h
  refine ge_bnd (B := fun M1 b M' => ((((M1 (k + 1) 5) >>> ((M1 k 9) &&& 31)) &&& 1) = 1 ∧ b = false ∧ M' = rfs k 4 M1) ∨ (¬ (((M1 (k + 1) 5) >>> ((M1 k 9) &&& 31)) &&& 1) = 1 ∧ rS k z (zup M1 (k + 1) 5 ((M1 (k + 1) 5) ||| (1 <<< ((M1 k 9) &&& 31)))) b M')) ge_rN ?_ _ _ _ h
  rintro M b M' (⟨-, hb, e⟩ | ⟨-, h⟩)
  · exact ge_rf (c := 4) (by omega) (by omega) hb e
  · exact ge_pre (f := fun M1 => zup M1 (k + 1) 5 ((M1 (k + 1) 5) ||| (1 <<< ((M1 k 9) &&& 31)))) ge_rS (fun M => up_3 (by omega) (by omega) (by omega)) _ _ _ h
theorem ge_rNs {k z c : Nat} {lo hi : Int32} {C : zMem → Bool → zMem → Prop} (hc : k < c) (hc2 : c ≤ k + 5) (hC : ge k C) : ∀ m i, ge k (rNs k z c lo hi C m i) := by
  intro m
  induction m with
  | zero => intro i; exact hC
  | succ m ih => intro i; exact ge_bnd ge_rN (ge_pre (ih (i + 1)) (fun M => up_3 (by omega) (by omega) (by omega)))
theorem ge_rSo {k z n : Nat} : ge k (rSo k z n) := by
  intro M b M' h
  refine ge_pre (f := fun M => zup M k 12 1) (ge_bnd (B := fun M2 b M' => ((((M2 k 11) >>> ((M2 k 9) &&& 31)) &&& 1) = 1 ∧ b = false ∧ M' = rfs k 4 M2) ∨ (¬ (((M2 k 11) >>> ((M2 k 9) &&& 31)) &&& 1) = 1 ∧ rNs k z (k + 3) 0 6 (rS k z) n (ix (M2 k 9) * 8) (zup M2 k 11 ((M2 k 11) ||| (1 <<< ((M2 k 9) &&& 31)))) b M')) (ge_rN (z := z) (lo := 1) (hi := 2)) ?_) (fun M => up_3 (by omega) (by omega) (by omega)) _ _ _ h
  rintro M b M' (⟨-, hb, e⟩ | ⟨-, h⟩)
  · exact ge_rf (c := 4) (by omega) (by omega) hb e
  · obtain ⟨u1, u2⟩ := up_3 (k := k) (c := k) (j := 11) (x := (M k 11) ||| (1 <<< ((M k 9) &&& 31))) (M := M) (by omega) (by omega) (by omega)
    obtain ⟨c1, c2, c3⟩ := ge_rNs (by omega) (by omega) ge_rS _ _ _ _ _ h
    exact ⟨u1.tr c1, fun e => (c2 e).trans u2, c3⟩
theorem ge_rHa {k z n H : Nat} : ge k (rHa k z n H) := by
  rintro M b M' (⟨-, hb, e⟩ | ⟨-, -, h⟩)
  · exact ge_rf (c := 5) (by omega) (by omega) hb e
  · exact ge_pre (f := fun M => zup M k 12 1) (ge_rNs (c := k + 4) (by omega) (by omega) (ge_pre ge_rS (fun M => up_3 (by omega) (by omega) (by omega))) n (H * 8)) (fun M => up_3 (by omega) (by omega) (by omega)) _ _ _ h
theorem ge_rOn {k z j : Nat} {hi : Int32} : ge k (rOn k z j hi) := ge_bnd ge_rN (ge_pre ge_rS (fun M => up_3 (by omega) (by omega) (by omega)))
theorem ge_rOc {k : Nat} {a : Int32} : ge k (rOc k a) := by
  rintro M b M' (⟨-, hb, e⟩ | ⟨-, hb, e⟩)
  · exact ge_rf (c := 4) (by omega) (by omega) hb e
  · subst hb e
    obtain ⟨u1, u2⟩ := up_3 (k := k) (c := k) (j := 10) (x := (M k 10) ||| (1 <<< (a &&& 31))) (M := M) (by omega) (by omega) (by omega)
    exact ⟨u1, fun _ => u2, fun w => by cases w⟩
theorem ge_rRl {k z : Nat} : ∀ m i, ge k (rRl k z m i) := by
  intro m
  induction m with
  | zero =>
    intro i
    rintro M b M' (⟨-, hb, e⟩ | ⟨-, h⟩)
    · exact ge_rf (c := 5) (by omega) (by omega) hb e
    · exact ge_rSi _ _ _ h
  | succ m ih =>
    intro i
    rintro M b M' (⟨-, h⟩ | ⟨-, h⟩)
    · exact ge_rSi _ _ _ h
    · exact ge_bnd ge_rWi (ge_pre (ge_bnd ge_tkn (ih (i + 1))) (fun M => up_3t (up_3 (by omega) (by omega) (by omega)) (up_3 (by omega) (by omega) (by omega)))) _ _ _ h
theorem ge_rRo {k z : Nat} : ge k (rRo k z) := ge_bnd ge_rN (ge_pre (ge_bnd ge_tkn (ge_rRl 5 1)) (fun M => up_3 (by omega) (by omega) (by omega)))
theorem ge_rEn {k z n : Nat} : ∀ m h lo, ge k (rEn k z n m h lo) := by
  intro m
  induction m with
  | zero => intro h lo; exact ge_rS
  | succ m ih =>
    intro h lo
    refine ge_bnd (B := fun M1 => rEn k z n m (h + 1) (M1 k 9) (zup M1 (k + 5) h (M1 k 9))) ge_rN ?_
    intro M b M' hh
    obtain ⟨u1, u2⟩ := up_3 (k := k) (c := k + 5) (j := h) (x := M k 9) (M := M) (by omega) (by omega) (by omega)
    obtain ⟨c1, c2, c3⟩ := ih _ _ _ _ _ hh
    exact ⟨u1.tr c1, fun e => (c2 e).trans u2, c3⟩
theorem ge_rEs {k z n H : Nat} {rule : Int32} : ge k (rEs k z n H rule) := ge_pre (f := fun M => zup (zup (zup M k 12 1) k 13 1) (k + 1) 4 rule) (ge_rEn (H - 1) 0 1) (fun M => up_3t (up_3t (up_3 (by omega) (by omega) (by omega)) (up_3 (by omega) (by omega) (by omega))) (up_3 (by omega) (by omega) (by omega)))
theorem ge_rLn {k z n H nm : Nat} : ge k (rLn k z n H nm) := by
  unfold rLn
  split
  · exact ge_rPi
  · exact ge_rWh
  · exact ge_rSo
  · exact ge_bnd ge_rOc ge_rRo
  · exact ge_rHa
  · exact ge_bnd ge_rOc ge_rOn
  · exact ge_bnd ge_rOc ge_rOn
  · exact ge_bnd ge_rOc ge_rS
  · exact ge_bnd ge_rOc ge_rEs
  · exact ge_bnd ge_rOc ge_rEs
theorem stb_ij : ∀ a b c d : Bool, nI (stb a b) = nI (stb c d) → a = c ∧ b = d := by decide
theorem DW_un {k n H L n' H' L' : Nat} {t1 t2 u1 u2 : Bool} {M : zMem} (a : DW k M n H L t1 t2) (b : DW k M n' H' L' u1 u2) : n = n' ∧ H = H' ∧ L = L' ∧ t1 = u1 ∧ t2 = u2 := by
  obtain ⟨⟨b1, b2, b3, b4⟩, en, eH, eL, -⟩ := id a
  obtain ⟨⟨c1, c2, c3, c4⟩, fn, fH, fL, -⟩ := id b
  have e11 := a.2.2.2.2.2.2.2.2.2.2.2.2.1
  have f11 := b.2.2.2.2.2.2.2.2.2.2.2.2.1
  exact ⟨(nI_eq (by omega) (by omega)).mp (en.symm.trans fn), (nI_eq (by omega) (by omega)).mp (eH.symm.trans fH), (nI_eq (by omega) (by omega)).mp (eL.symm.trans fL), stb_ij _ _ _ _ (e11.symm.trans f11)⟩
theorem mt_lines {k z f0 n0 H0 L0 : Nat} {u1 u2 : Bool} {M M' W : zMem} {K : Int32 → zMem → Prop} {Q : Int32 → zMem → Prop} (h : rAl k z f0 M M') (d0 : DA k z 0 M n0 H0 L0 u1 u2) (e0 : EQ k M W n0 H0 L0 u1 u2) (nx : NXT k z M W) (s0 : WS k z M W) (m3 : M k 3 = 0) (m1 : M k 1 = 0)
    (hb : ∀ x W', BAD k M' W' → lw W W' → lf k M M' → K x W')
    (hg : ∀ W' n H L t1 t2, M' k 1 = 0 → W' 0 3 = 0 → DA k z 0 M' n H L t1 t2 → EQ k M' W' n H L t1 t2 → lw W W' → lf k M M' → K (M' k 3) W') : ∃ m, zlp1 (wpB_Model_text_62 K Q) m 0 W := by
  refine zlp1_r (fun m x W' => (BAD k M' W' ∧ lw W W' ∧ lf k M M') ∨ ∃ X, rAl k z m X M' ∧ (∃ n H L t1 t2, DA k z 0 X n H L t1 t2 ∧ EQ k X W' n H L t1 t2) ∧ NXT k z X W' ∧ WS k z X W' ∧ lw W W' ∧ lf k M X ∧ x = X k 3 ∧ X k 1 = 0) ?_ (n := f0) (Or.inr ⟨M, h, ⟨n0, H0, L0, u1, u2, d0, e0⟩, nx, s0, lw.rf, fun _ _ => rfl, m3.symm, m1⟩)
  rintro m x W' hc J hJ
  unfold wpB_Model_text_62
  rcases hc with ⟨bd, l, f⟩ | ⟨X, hR, ⟨n, H, L, t1, t2, dX, eX⟩, nX, sX, l, f, hx, x1⟩
  · exact ⟨fun _ => hb x W' bd l f, fun w => absurd w bd.w.ne⟩
  · cases m with
    | zero => exact absurd hR (fun h => h)
    | succ m =>
      obtain ⟨b1, M1, t, hR⟩ := hR
      obtain ⟨q1, q2⟩ := nx_tkn sX.2.1 nX t
      obtain ⟨g1, g2, -⟩ := gd_tkn _ _ _ t
      rcases hR with ⟨rfl, rfl⟩ | ⟨rfl, c7, rfl⟩ | ⟨rfl, c7, n', H', b2, M2, en, n8, eH, H5, hL, h2⟩
      · have bd := q2 rfl
        exact ⟨fun _ => hb x W' bd l (f.tr g1), fun w => absurd w bd.w.ne⟩
      · have a1 := q1 rfl
        obtain ⟨r1, f1⟩ := tkn_in dX.1 t
        refine ⟨fun w => absurd a1.1 w, fun _ => ⟨fun _ => ?_, fun w => absurd (a1.2.2.2.1.trans c7) w⟩⟩
        rw [hx, ← f1.2 3 (by omega) (by omega) (by omega) (by omega)]
        exact hg W' n H L t1 t2 ((g2 rfl).trans x1) a1.1 ⟨r1, dX.2.1.tk f1, dX.2.2.tk f1⟩ (eX.tk f1 tkw.rf) l (f.tr g1)
      · have a1 := q1 rfl
        obtain ⟨r1, f1⟩ := tkn_in dX.1 t
        have d1 : DA k z 0 M1 n H L t1 t2 := ⟨r1, dX.2.1.tk f1, dX.2.2.tk f1⟩
        have e1 : EQ k M1 W' n H L t1 t2 := eX.tk f1 tkw.rf
        have s1 : WS k z M1 W' := sX.mv g1 lw.rf
        obtain ⟨⟨v1, v2, v3, v4⟩, fn, fH, -⟩ := id d1.2.1
        have hn : n' = n := (nI_eq (by omega) (by omega)).mp (en.symm.trans fn)
        have hH : H' = H := (nI_eq (by omega) (by omega)).mp (eH.symm.trans fH)
        subst hn hH
        obtain ⟨y1, y2, -⟩ := gd_rLi _ _ _ hL
        refine ⟨fun w => absurd a1.1 w, fun _ => ⟨fun w => absurd (a1.2.2.2.1.symm.trans w) c7, fun _ => mt_line a1 s1 d1 e1 hL ⟨fun W2 hb2 l2 n2 hde => ?_, fun W2 hb2 l2 bd y ey => ?_⟩⟩⟩
        · subst hb2
          rcases h2 with ⟨w, -⟩ | ⟨-, h2⟩
          · cases w
          obtain ⟨n3, H3, L3, t13, t23, d3⟩ := DA_line d1 hL
          obtain ⟨n4, H4, L4, t14, t24, d4, e4⟩ := hde
          obtain ⟨i1, i2, i3, i4, i5⟩ := DW_un d3.2.1 d4
          subst i1 i2 i3 i4 i5
          intro y ey
          refine hJ m _ _ (by omega) (Or.inr ⟨M2, h2, ⟨_, _, _, _, _, d3, e4⟩, n2, s1.mv y1 l2, l.tr l2, (f.tr g1).tr y1, ?_, (y2 rfl).trans ((g2 rfl).trans x1)⟩)
          rw [ey, hx, ← f1.2 3 (by omega) (by omega) (by omega) (by omega)]
          rcases hL with ⟨-, w, -⟩ | ⟨-, nm, -, -, hL⟩
          · cases w
          · have := (ge_rLn _ _ _ hL).2.1 rfl
            rw [this, zup_eq, upd_eq]
        · subst hb2
          rcases h2 with ⟨-, rfl⟩ | ⟨w, -⟩
          · exact hJ m _ _ (by omega) (Or.inl ⟨bd, l.tr l2, (f.tr g1).tr y1⟩)
          · cases w
theorem st_bitI : ∀ t1 t2 : Bool, ∀ s, s < 3 → 0 < s → ((((nI (stb t1 t2) >>> (nI s &&& 31)) &&& 1) = 0) ↔ ¬ (s = 0 ∨ (s = 1 ∧ t1 = true) ∨ (s = 2 ∧ t2 = true))) := by decide
theorem mt_wholeFault {k n H L : Nat} {t1 t2 : Bool} {M W : zMem} {Q : Int32 → zMem → Prop} (d : DW k M n H L t1 t2) (e : EQ k M W n H L t1 t2)
    (h6 : (n = 0 ∨ H = 0) → Q 6 W)
    (h7 : 0 < n → 0 < H → (∃ s, s < 3 ∧ ∀ p, p < n → us k M t1 t2 s p = 0) → ∀ W', (∀ c, c ≠ 5 → W' c = W c) → Q 7 W')
    (h1 : 0 < n → 0 < H → (∀ s, s < 3 → ∃ p, p < n ∧ us k M t1 t2 s p ≠ 0) → ∀ W', (∀ c, c ≠ 5 → W' c = W c) → (∀ j, (j < 38 ∨ 54 ≤ j) → W' 5 j = W 5 j) → (∀ s p, s < 3 → p < n → W' 5 (30 + 8 * s + p) = us k M t1 t2 s p) → Q 0 W') : wp_Model_wholeFault W Q := by
  obtain ⟨⟨b1, b2, b3, b4⟩, en, eH, -⟩ := id d
  have es := d.2.2.2.2.2.2.2.2.2.2.2.2.1
  obtain ⟨i0, i1, i2, i3, i4, i5, i6, i7⟩ := e
  have w0 : W 5 (ix 0) = nI n := (i0 0 (by omega)).trans en
  have w1 : W 5 (ix 1) = nI H := (i0 1 (by omega)).trans eH
  unfold wp_Model_wholeFault
  rw [w0, w1]
  refine ⟨vp_in_nI (n := 0) (by omega) (by omega), fun c => h6 (Or.inl ((nI_eq (b := 0) (by omega) (by omega)).mp c)), fun c => ⟨vp_in_nI (n := 1) (by omega) (by omega), fun c2 => ?_, fun c2 => h6 (Or.inr ((nI_eq (b := 0) (by omega) (by omega)).mp c2))⟩⟩
  have n0 : 0 < n := by
    rcases Nat.eq_zero_or_pos n with w | w
    · rw [w] at c; exact absurd rfl c
    · exact w
  have H0 : 0 < H := by
    rcases Nat.eq_zero_or_pos H with w | w
    · rw [w] at c2; exact absurd rfl c2
    · exact w
  refine zlp1_r (fun m x W' => ∃ s, x = nI s ∧ s ≤ 3 ∧ m = 3 - s ∧ (∀ c, c ≠ 5 → W' c = W c) ∧ (∀ j, (j < 38 ∨ 30 + 8 * s ≤ j) → W' 5 j = W 5 j) ∧ (∀ s' p, s' < s → p < n → W' 5 (30 + 8 * s' + p) = us k M t1 t2 s' p) ∧ ∀ s', s' < s → ∃ p, p < n ∧ us k M t1 t2 s' p ≠ 0) ?_ (n := 3) ⟨0, rfl, by omega, rfl, fun _ _ => rfl, fun _ _ => rfl, fun _ _ h => absurd h (by omega), fun _ h => absurd h (by omega)⟩
  rintro m x W1 ⟨s, rfl, hs, rfl, f1, f2, f3, f4⟩ J hJ
  unfold wpB_Model_wholeFault_23
  refine ⟨fun c => ?_, fun c => ?_⟩
  · have := (nI_leI (a := 3) (by omega) (by omega)).mp c
    have e3 : s = 3 := by omega
    subst e3
    exact h1 n0 H0 f4 W1 f1 (fun j hj => f2 j (by omega)) (fun s p hs hp => f3 s p hs hp)
  · have s3 : s < 3 := by
      rcases Nat.lt_or_ge s 3 with w | w
      · exact w
      · exact absurd ((nI_leI (a := 3) (by omega) (by omega)).mpr w) c
    refine zlp2_r (fun m x2 x3 W' => ∃ p S, x3 = nI p ∧ p ≤ n ∧ m = n - p ∧ x2 = nI S ∧ S ≤ 6 * p ∧ (S = 0 ↔ ∀ p', p' < p → us k M t1 t2 s p' = 0) ∧ (∀ c, c ≠ 5 → W' c = W c) ∧ (∀ j, (j < 38 ∨ 30 + 8 * (s + 1) ≤ j) → W' 5 j = W 5 j) ∧ (∀ j, p ≤ j → j < n → W' 5 (30 + 8 * s + j) = W 5 (30 + 8 * s + j)) ∧ (∀ s' p, s' < s → p < n → W' 5 (30 + 8 * s' + p) = us k M t1 t2 s' p) ∧ ∀ p', p' < p → W' 5 (30 + 8 * s + p') = us k M t1 t2 s p') ?_ (n := n) ⟨0, 0, rfl, by omega, rfl, rfl, by omega, ⟨fun _ _ h => absurd h (by omega), fun _ => rfl⟩, f1, fun j hj => f2 j (by omega), fun j _ hj => f2 _ (by omega), f3, fun _ h => absurd h (by omega)⟩
    rintro m' x2 x3 W' ⟨p, S, rfl, hp, rfl, rfl, hS, hS0, g1, g2, g3, g4, g5⟩ J' hJ'
    unfold wpB_Model_wholeFault_32
    have v0 : W' 5 (ix 0) = nI n := by
      have : W' 5 (ix 0) = W 5 (ix 0) := g2 0 (by omega)
      rw [this]; exact w0
    rw [v0]
    refine ⟨vp_in_nI (n := 0) (by omega) (by omega), fun c => ?_, fun c => ?_⟩
    · have hp2 : p = n := by
        have := (nI_leI (by omega) (by omega)).mp c
        omega
      subst hp2
      refine ⟨fun c0 y ey => ?_, fun c0 => ?_⟩
      · rw [ey, nI_1]
        have S0 : ¬ S = 0 := fun w => c0 (by rw [w]; rfl)
        refine hJ (3 - (s + 1)) _ _ (by omega) ⟨s + 1, rfl, by omega, rfl, g1, g2, fun s' p' hs' hp' => ?_, fun s' hs' => ?_⟩
        · rcases Nat.lt_or_ge s' s with w | w
          · exact g4 s' p' w hp'
          · rw [show s' = s by omega]; exact g5 p' hp'
        · rcases Nat.lt_or_ge s' s with w | w
          · exact f4 s' w
          · rw [show s' = s by omega]
            exact Classical.byContradiction (fun no => S0 (hS0.mpr (fun p' hp' => Classical.byContradiction (fun w => no ⟨p', hp', w⟩))))
      · have S0 : S = 0 := (nI_eq (b := 0) (by omega) (by omega)).mp c0
        exact h7 n0 H0 ⟨s, s3, hS0.mp S0⟩ W' g1
    · have hp2 : p < n := by
        rcases Nat.lt_or_ge p n with w | w
        · exact w
        · exact absurd ((nI_leI (by omega) (by omega)).mpr w) c
      have eix : (30 : Int32) + 8 * nI s + nI p = nI (30 + 8 * s + p) := by
        rw [show (8 : Int32) = nI 8 from rfl, show (30 : Int32) = nI 30 from rfl, q_mul, q_add, q_add]
      obtain ⟨u, u6, eu⟩ := us_nI d (s := s) (p := p) s3 hp2
      -- one more unit
      have step : ∀ W2 : zMem, (∀ c, c ≠ 5 → W2 c = W c) → (∀ j, (j < 38 ∨ 30 + 8 * (s + 1) ≤ j) → W2 5 j = W 5 j) → (∀ j, j ≠ 30 + 8 * s + p → W2 5 j = W' 5 j) → W2 5 (30 + 8 * s + p) = us k M t1 t2 s p → wpJ_Model_wholeFault_80 (fun (zx5 : Int32) (zm4 : zMem) => (¬ zx5 = 0 → ∀ zx6 : Int32, zx6 = nI s + 1 → J zx6 zm4) ∧ (zx5 = 0 → Q 7 zm4)) J' Q (nI s) (nI S) (nI p) W2 := fun W2 k1 k2 k3 k4 => by
        unfold wpJ_Model_wholeFault_80
        rw [eix, q_ix (by omega), k4, eu, q_add]
        refine ⟨vp_in_nI (by omega) (by omega), fun y ey y2 ey2 => ?_⟩
        rw [ey, ey2, nI_1]
        refine hJ' (n - (p + 1)) _ _ _ (by omega) ⟨p + 1, S + u, rfl, by omega, rfl, rfl, by omega, ⟨fun w p' hp' => ?_, fun w => ?_⟩, k1, k2, fun j hj hj2 => by rw [k3 _ (by omega)]; exact g3 j (by omega) hj2, fun s' p' hs' hp' => by rw [k3 _ (by omega)]; exact g4 s' p' hs' hp', fun p' hp' => ?_⟩
        · rcases Nat.lt_or_ge p' p with v | v
          · exact hS0.mp (by omega) p' v
          · rw [show p' = p by omega, eu, show u = 0 by omega]; rfl
        · have z1 : S = 0 := hS0.mpr (fun p' hp' => w p' (by omega))
          have z2 := w p (by omega)
          rw [eu] at z2
          have : u = 0 := (nI_eq (b := 0) (by omega) (by omega)).mp z2
          omega
        · rcases Nat.lt_or_ge p' p with v | v
          · rw [k3 _ (by omega)]; exact g5 p' v
          · rw [show p' = p by omega]; exact k4
      have told : (s = 0 ∨ (s = 1 ∧ t1 = true) ∨ (s = 2 ∧ t2 = true)) → W' 5 (30 + 8 * s + p) = us k M t1 t2 s p := fun w => by
        rw [g3 p (Nat.le_refl _) hp2, i2 s p w hp2]
        unfold us
        rw [if_pos w]
      have e14 : W' 0 14 = nI (stb t1 t2) := by rw [g1 0 (by omega), i6]; exact es
      rw [e14]
      refine ⟨fun c => ?_, fun c => ⟨fun c3 => ?_, fun c3 => ?_⟩⟩
      · have s0 : s = 0 := by
          have := (nI_leI (b := 0) (by omega) (by omega)).mp c
          omega
        exact step W' g1 g2 (fun _ _ => rfl) (told (Or.inl s0))
      · have s0 : 0 < s := by
          rcases Nat.eq_zero_or_pos s with w | w
          · exact absurd (by rw [w]; decide) c
          · exact w
        exact step W' g1 g2 (fun _ _ => rfl) (told (Classical.byContradiction (fun w => c3 ((st_bitI t1 t2 s s3 s0).mpr w))))
      · have s0 : 0 < s := by
          rcases Nat.eq_zero_or_pos s with w | w
          · exact absurd (by rw [w]; decide) c
          · exact w
        have nt := (st_bitI t1 t2 s s3 s0).mp c3
        have e30 : (30 : Int32) + nI p = nI (30 + p) := q_add 30 p
        rw [eix, e30, q_ix (by omega), q_ix (by omega)]
        refine ⟨vp_in_nI (by omega) (by omega), vp_in_nI (by omega) (by omega), fun W2 e2 => step W2 (fun c hc => by rw [e2, zup_ne hc]; exact g1 c hc) (fun j hj => by rw [e2, zup_eq, upd_ne (by omega)]; exact g2 j hj) (fun j hj => by rw [e2, zup_eq, upd_ne hj]) ?_⟩
        rw [e2, zup_eq, upd_eq, g2 _ (by omega)]
        have := i2 0 p (Or.inl rfl) hp2
        rw [show 30 + p = 30 + 8 * 0 + p by omega, this]
        unfold us
        rw [if_neg nt]
        congr 1
        omega
theorem DA_al {k z : Nat} : ∀ f M M' n H L t1 t2, rAl k z f M M' → DA k z 0 M n H L t1 t2 → M' k 1 = 0 → ∃ n H L t1 t2, DA k z 0 M' n H L t1 t2 := by
  intro f
  induction f with
  | zero => intro M M' n H L t1 t2 h; exact absurd h (fun h => h)
  | succ f ih =>
    intro M M' n H L t1 t2 h d h1
    have nb : ∀ (c : Nat) (X : zMem), 1 ≤ c → c ≤ 5 → M' = rfs k (nI c) X → False := fun c X c1 c5 e => by
      rw [e] at h1
      unfold rfs at h1
      rw [zup_eq, upd_ne (by omega), zup_eq, upd_eq] at h1
      exact absurd h1 (nI_ne0 (by omega) (by omega))
    obtain ⟨b1, M1, t, h⟩ := h
    rcases h with ⟨rfl, rfl⟩ | ⟨rfl, c7, rfl⟩ | ⟨rfl, c7, n', H', b2, M2, en, n8, eH, H5, hL, h2⟩
    · obtain ⟨c, X, c1, c5, e⟩ := (gd_tkn _ _ _ t).2.2 rfl
      exact absurd (nb c X c1 c5 e) (fun h => h)
    · obtain ⟨r1, f1⟩ := tkn_in d.1 t
      exact ⟨_, _, _, _, _, r1, d.2.1.tk f1, d.2.2.tk f1⟩
    · obtain ⟨r1, f1⟩ := tkn_in d.1 t
      have d1 : DA k z 0 M1 n H L t1 t2 := ⟨r1, d.2.1.tk f1, d.2.2.tk f1⟩
      obtain ⟨⟨v1, v2, v3, v4⟩, fn, fH, -⟩ := id d1.2.1
      have hn : n' = n := (nI_eq (by omega) (by omega)).mp (en.symm.trans fn)
      have hH : H' = H := (nI_eq (by omega) (by omega)).mp (eH.symm.trans fH)
      subst hn hH
      rcases h2 with ⟨rfl, rfl⟩ | ⟨rfl, h2⟩
      · obtain ⟨c, X, c1, c5, e⟩ := (gd_rLi _ _ _ hL).2.2 rfl
        exact absurd (nb c X c1 c5 e) (fun h => h)
      · obtain ⟨n3, H3, L3, t13, t23, d3⟩ := DA_line d1 hL
        exact ih _ _ _ _ _ _ _ h2 d3 h1
/-- what a text changes in the reference when it is refused -/
def tfr (W W' : zMem) : Prop := (∀ c, c ≠ 0 → c ≠ 5 → W' c = W c) ∧ W' 0 1 = 0 ∧ ∀ j, (j = 0 ∨ (9 ≤ j ∧ j ≤ 12) ∨ 16 ≤ j) → W' 0 j = W 0 j
theorem mt_115 {c : Nat} {x : Int32} {W : zMem} {Q : Int32 → zMem → Prop} (h : W 0 3 = nI c) (c1 : 1 ≤ c) (c7 : c ≤ 7) (hQ : ∀ W', (∀ k, k ≠ 0 → W' k = W k) → W' 0 1 = 0 → W' 0 2 = nI c → (∀ j, j ≠ 1 → j ≠ 2 → W' 0 j = W 0 j) → Q (-10 - W 0 4) W') : wpJ_Model_text_115 Q x W := by
  intro a ea b eb
  have b3 : b 0 3 = nI c := by rw [eb, zup_eq, upd_ne (by omega), ea, zup_eq, upd_ne (by omega)]; exact h
  have b4 : b 0 4 = W 0 4 := by rw [eb, zup_eq, upd_ne (by omega), ea, zup_eq, upd_ne (by omega)]
  refine ⟨fun w => ?_, fun _ => ?_⟩
  · rw [b3] at w
    have := (nI_leI (b := 0) (by omega) (by omega)).mp w
    omega
  · rw [b4]
    refine hQ b (fun k hk => by rw [eb, zup_ne hk, ea, zup_ne hk]) (by rw [eb, zup_eq, upd_ne (by omega), ea, zup_eq, upd_eq]) ?_ (fun j j1 j2 => by rw [eb, zup_eq, upd_ne j2, ea, zup_eq, upd_ne j1])
    rw [eb, zup_eq, upd_eq, ea, zup_eq, upd_ne (by omega)]; exact h
theorem mt_text {z : Nat} {M9 M' W : zMem} {Q : Int32 → zMem → Prop} (d0 : DA 11 z 0 M9 0 0 1 false false) (m3 : M9 11 3 = 0) (m1 : M9 11 1 = 0) (m6 : M9 11 6 = 0) (m10 : M9 11 10 = 0) (m11 : M9 11 11 = 0) (m13 : M9 11 13 = 0) (m12 : ∀ j, j ≤ 6 → M9 12 j = if j = 6 then 1 else 0) (mr0 : M9 13 0 = 0)
    (hz : W 0 1 = nI z) (hz4 : z ≤ 400) (ht : tpe (M9 17) (W 1) z) (wt : wtb W) (hR : rAl 11 z 401 M9 M')
    (hA : ¬ M' 11 1 = 0 → ∀ W', tfr W W' → W' 0 2 = M' 11 1 → Q (-10 - M' 11 2) W')
    (h6 : M' 11 1 = 0 → ∀ n H L t1 t2, DW 11 M' n H L t1 t2 → (n = 0 ∨ H = 0) → ∀ W', tfr W W' → W' 0 2 = 6 → Q (-10 - nI z) W')
    (h7 : M' 11 1 = 0 → ∀ n H L t1 t2, DW 11 M' n H L t1 t2 → 0 < n → 0 < H → (∃ s, s < 3 ∧ ∀ p, p < n → us 11 M' t1 t2 s p = 0) → ∀ W', tfr W W' → W' 0 2 = 7 → Q (-10 - nI z) W')
    (h1 : M' 11 1 = 0 → ∀ n H L t1 t2, DW 11 M' n H L t1 t2 → 0 < n → 0 < H → (∀ s, s < 3 → ∃ p, p < n ∧ us 11 M' t1 t2 s p ≠ 0) → ∀ W', (∀ c, c ≠ 0 → c ≠ 4 → c ≠ 5 → W' c = W c) → W' 0 1 = 0 → W' 0 2 = 0 → (∀ j, (j = 0 ∨ (9 ≤ j ∧ j ≤ 12) ∨ 16 ≤ j) → W' 0 j = W 0 j) → (∀ j, j ≤ 6 → W' 4 j = M' 12 j) → (∀ i, i < L → W' 4 (10 + i) = M' 13 i) → (∀ s p, s < 3 → p < n → W' 4 (30 + 8 * s + p) = us 11 M' t1 t2 s p) → (∀ h p, h < H → p < n → W' 4 (60 + 8 * h + p) = M' 15 (h * 8 + p)) → (¬ M' 12 4 = 0 → ∀ h, h + 1 < H → W' 4 (20 + h) = M' 16 h) → wp_Model_beginAnew W' (fun zm23 => vp_in 0 2 ∧ ∀ zm25 : zMem, zm25 = zup zm23 7 (ix 0) (vp_nar .boolean 0) → vp_in 1 2 ∧ ∀ zm26 : zMem, zm26 = zup zm25 7 (ix 1) (vp_nar .boolean 0) → Q (M' 11 3) zm26)) : wp_Model_text W Q := by
  intro w1 f1 w2 f2 w3 f3 w4 f4 w5 f5
  have k5 : ∀ k, k ≠ 0 → w5 k = W k := fun k hk => by rw [f5, zup_ne hk, f4, zup_ne hk, f3, zup_ne hk, f2, zup_ne hk, f1, zup_ne hk]
  have v3 : w5 0 3 = 0 := by rw [f5, zup_eq, upd_ne (by omega), f4, zup_eq, upd_ne (by omega), f3, zup_eq, upd_ne (by omega), f2, zup_eq, upd_ne (by omega), f1, zup_eq, upd_eq]
  have v5 : w5 0 5 = 0 := by rw [f5, zup_eq, upd_ne (by omega), f4, zup_eq, upd_ne (by omega), f3, zup_eq, upd_ne (by omega), f2, zup_eq, upd_eq]
  have v13 : w5 0 13 = 0 := by rw [f5, zup_eq, upd_ne (by omega), f4, zup_eq, upd_ne (by omega), f3, zup_eq, upd_eq]
  have v14 : w5 0 14 = 0 := by rw [f5, zup_eq, upd_ne (by omega), f4, zup_eq, upd_eq]
  have v15 : w5 0 15 = 0 := by rw [f5, zup_eq, upd_eq]
  have vo : ∀ j, j ≠ 3 → j ≠ 5 → j ≠ 13 → j ≠ 14 → j ≠ 15 → w5 0 j = W 0 j := fun j a b c d e => by rw [f5, zup_eq, upd_ne e, f4, zup_eq, upd_ne d, f3, zup_eq, upd_ne c, f2, zup_eq, upd_ne b, f1, zup_eq, upd_ne a]
  refine zlp1_r (fun m x W' => ∃ i, x = nI i ∧ i ≤ 100 ∧ m = 100 - i ∧ (∀ c, c ≠ 5 → W' c = w5 c) ∧ ∀ j, j < i → W' 5 j = if j = 6 then 1 else 0) ?_ (n := 100) ⟨0, rfl, by omega, rfl, fun _ _ => rfl, fun j hj => absurd hj (by omega)⟩
  rintro m x W1 ⟨i, rfl, hi, rfl, g1, g2⟩ J hJ
  unfold wpB_Model_text_29
  refine ⟨fun c => ?_, fun c => ?_⟩
  · have hi2 : 100 ≤ i := (nI_leI (a := 100) (by omega) (by omega)).mp c
    have g0 : W1 0 = w5 0 := g1 0 (by omega)
    have lW : ∀ j, (j = 0 ∨ j = 1 ∨ j = 2 ∨ (9 ≤ j ∧ j ≤ 12) ∨ 16 ≤ j) → W1 0 j = W 0 j := fun j hj => by rw [g0]; exact vo j (by omega) (by omega) (by omega) (by omega) (by omega)
    have cW : ∀ c, c ≠ 0 → c ≠ 5 → W1 c = W c := fun c c0 c5 => (g1 c c5).trans (k5 c c0)
    have sW : WS 11 z M9 W1 := by
      refine ⟨(lW 1 (by omega)).trans hz, hz4, ?_, ?_⟩
      · show tpe (M9 17) (W1 1) z
        rw [cW 1 (by omega) (by omega)]; exact ht
      · unfold wtb
        rw [cW 2 (by omega) (by omega), cW 3 (by omega) (by omega)]; exact wt
    have e1 : EQ 11 M9 W1 0 0 1 false false := by
      refine ⟨fun j hj => by rw [g2 j (by omega)]; exact (m12 j hj).symm, fun i hi => ?_, fun s p _ hp => absurd hp (by omega), fun h p hh => absurd hh (by omega), fun w => absurd (m12 4 (by omega)) w, by rw [g0, v13, m10], by rw [g0, v14, m11], by rw [g0, v15, m13]⟩
      rw [show i = 0 by omega, g2 10 (by omega)]
      exact mr0.symm
    refine mt_nx (by rw [g0]; exact v3) (by rw [g0, v5, m6]) sW d0.1 (fun W2 t2 n2 => ?_)
    have l2 := t2.l
    refine mt_lines hR d0 (e1.mv (fun _ _ _ => rfl) ⟨rfl, rfl, rfl⟩ t2) n2 (sW.mv (fun _ _ => rfl) l2) m3 m1 (fun x W3 bd l f => ?_) (fun W3 n H L t1 t2' p1 p3 dd ee l f => ?_)
    · have l3 := l2.tr l
      obtain ⟨c, c1, c7, b3, bm, b4⟩ := id bd
      refine ⟨fun _ => ?_, fun w => absurd w bd.w.ne⟩
      refine mt_115 b3 c1 c7 (fun W4 q1 q2 q3 q4 => ?_)
      rw [b4]
      refine hA (by rw [bm]; exact nI_ne0 (by omega) (by omega)) W4 ⟨fun c c0 c5 => by rw [q1 c c0, l3.1 c c0 c5]; exact cW c c0 c5, q2, fun j hj => by rw [q4 j (by omega) (by omega), l3.2 j (by omega)]; exact lW j (by omega)⟩ (by rw [q3, bm])
    · have l3 := l2.tr l
      refine ⟨fun w => absurd p3 w, fun _ W4 e4 => ?_⟩
      have k4 : ∀ c, c ≠ 0 → W4 c = W3 c := fun c hc => by rw [e4, zup_ne hc]
      have j4 : ∀ j, j ≠ 6 → W4 0 j = W3 0 j := fun j hj => by rw [e4, zup_eq, upd_ne hj]
      have j46 : W4 0 6 = nI z := by rw [e4, zup_eq, upd_eq, l3.2 1 (by omega), lW 1 (by omega)]; exact hz
      have ee4 : EQ 11 M' W4 n H L t1 t2' := ee.mv (fun _ _ _ => rfl) ⟨rfl, rfl, rfl⟩ (by rw [e4]; exact tkw.rf.up (by omega) (by omega))
      have ff : ∀ (c : Nat) (W5 : zMem), 1 ≤ c → c ≤ 7 → (∀ d, d ≠ 5 → W5 d = W4 d) → (∀ W', tfr W W' → W' 0 2 = nI c → Q (-10 - nI z) W') → wp_Model_fails (nI c) W5 (fun zm30 => wpJ_Model_text_115 Q (M' 11 3) zm30) := fun c W5 c1 c7 k5' hq => by
        have z5 : W5 0 = W4 0 := k5' 0 (by omega)
        refine e_fails (by rw [z5, j4 3 (by omega)]; exact p3) ?_
        have y3 : wfs (nI c) W5 0 3 = nI c := by unfold wfs; rw [zup_eq, upd_ne (by omega), zup_eq, upd_eq]
        have y4 : wfs (nI c) W5 0 4 = nI z := by unfold wfs; rw [zup_eq, upd_eq, z5]; exact j46
        have yo : ∀ j, j ≠ 3 → j ≠ 4 → wfs (nI c) W5 0 j = W5 0 j := fun j a b => by unfold wfs; rw [zup_eq, upd_ne b, zup_eq, upd_ne a]
        have yc : ∀ d, d ≠ 0 → wfs (nI c) W5 d = W5 d := fun d hd => by unfold wfs; rw [zup_ne hd, zup_ne hd]
        refine mt_115 y3 c1 c7 (fun W6 q1 q2 q3 q4 => ?_)
        rw [y4]
        exact hq W6 ⟨fun c c0 c5 => by rw [q1 c c0, yc c c0, k5' c c5, k4 c c0, l3.1 c c0 c5]; exact cW c c0 c5, q2, fun j hj => by rw [q4 j (by omega) (by omega), yo j (by omega) (by omega), z5, j4 j (by omega), l3.2 j (by omega)]; exact lW j (by omega)⟩ q3
      refine mt_wholeFault dd.2.1 ee4 (fun c6 => ⟨fun w => absurd w (by decide), fun _ => ff 6 W4 (by omega) (by omega) (fun _ _ => rfl) (fun W' t q => h6 p1 n H L t1 t2' dd.2.1 c6 W' t q)⟩) (fun n0 H0 c7 W5 k5' => ⟨fun w => absurd w (by decide), fun _ => ff 7 W5 (by omega) (by omega) k5' (fun W' t q => h7 p1 n H L t1 t2' dd.2.1 n0 H0 c7 W' t q)⟩) (fun n0 H0 cc W5 k5' k6 k7 => ⟨fun _ => ?_, fun w => absurd (by decide) w⟩)
      -- all is well: the words are taken over
      have z5 : W5 0 = W4 0 := k5' 0 (by omega)
      intro a ea b eb
      have bc : ∀ d, d ≠ 0 → b d = W5 d := fun d hd => by rw [eb, zup_ne hd, ea, zup_ne hd]
      have bo : ∀ j, j ≠ 1 → j ≠ 2 → b 0 j = W5 0 j := fun j j1 j2 => by rw [eb, zup_eq, upd_ne j2, ea, zup_eq, upd_ne j1]
      have b1 : b 0 1 = 0 := by rw [eb, zup_eq, upd_ne (by omega), ea, zup_eq, upd_eq]
      have y3 : W5 0 3 = 0 := by rw [z5, j4 3 (by omega)]; exact p3
      have b2 : b 0 2 = 0 := by rw [eb, zup_eq, upd_eq, ea, zup_eq, upd_ne (by omega)]; exact y3
      have b3 : b 0 3 = 0 := (bo 3 (by omega) (by omega)).trans y3
      refine ⟨fun _ => ?_, fun w => absurd (by rw [b3]; decide) w⟩
      refine zlp1_r (fun m x W' => ∃ i, x = nI i ∧ i ≤ 100 ∧ m = 100 - i ∧ (∀ c, c ≠ 4 → W' c = b c) ∧ ∀ j, j < i → W' 4 j = b 5 j) ?_ (n := 100) ⟨0, rfl, by omega, rfl, fun _ _ => rfl, fun j hj => absurd hj (by omega)⟩
      rintro m x W6 ⟨i, rfl, hi, rfl, a1, a2⟩ J hJ
      unfold wpB_Model_text_145
      refine ⟨fun c => ?_, fun c => ?_⟩
      · have i100 : 100 ≤ i := (nI_leI (a := 100) (by omega) (by omega)).mp c
        have z0 : W6 0 = b 0 := a1 0 (by omega)
        have x4 : ∀ j, j < 100 → W6 4 j = W5 5 j := fun j hj => by rw [a2 j (by omega), bc 5 (by omega)]
        obtain ⟨i0, i1, i2, i3, i4, i5, i6, i7⟩ := ee4
        have H5 : H ≤ 5 := dd.2.1.1.2.1
        have n8 : n ≤ 8 := dd.2.1.1.1
        have L6 : L ≤ 6 := dd.2.1.1.2.2.2
        exact h1 p1 n H L t1 t2' dd.2.1 n0 H0 cc W6 (fun c c0 c4 c5 => by rw [a1 c c4, bc c c0, k5' c c5, k4 c c0, l3.1 c c0 c5]; exact cW c c0 c5) (by rw [z0]; exact b1) (by rw [z0]; exact b2) (fun j hj => by rw [z0, bo j (by omega) (by omega), z5, j4 j (by omega), l3.2 j (by omega)]; exact lW j (by omega)) (fun j hj => by rw [x4 j (by omega), k6 j (by omega)]; exact i0 j hj) (fun i hi => by rw [x4 _ (by omega), k6 _ (by omega)]; exact i1 i hi) (fun s p hs hp => by rw [x4 _ (by omega)]; exact k7 s p hs hp) (fun h p hh hp => by rw [x4 _ (by omega), k6 _ (by omega)]; exact i3 h p hh hp) (fun w h hh => by rw [x4 _ (by omega), k6 _ (by omega)]; exact i4 w h hh)
      · have i100 : i < 100 := by
          rcases Nat.lt_or_ge i 100 with w | w
          · exact w
          · exact absurd ((nI_leI (a := 100) (by omega) (by omega)).mpr w) c
        refine ⟨vp_in_nI i100 (by omega), vp_in_nI i100 (by omega), fun W7 e7 y ey => ?_⟩
        rw [ey, nI_1]
        rw [q_ix (by omega)] at e7
        refine hJ (100 - (i + 1)) _ _ (by omega) ⟨i + 1, rfl, by omega, rfl, fun c hc => by rw [e7, zup_ne hc]; exact a1 c hc, fun j hj => ?_⟩
        rw [e7, zup_eq]
        by_cases w : j = i
        · rw [w, upd_eq, a1 5 (by omega)]
        · rw [upd_ne w]; exact a2 j (by omega)
  · have i100 : i < 100 := by
      rcases Nat.lt_or_ge i 100 with w | w
      · exact w
      · exact absurd ((nI_leI (a := 100) (by omega) (by omega)).mpr w) c
    have st : ∀ (v : Int32) (W2 : zMem), v = (if i = 6 then 1 else 0) → W2 = zup W1 5 (ix (nI i)) v → ∀ y : Int32, y = nI i + 1 → J y W2 := fun v W2 hv e2 y ey => by
      rw [ey, nI_1]
      rw [q_ix (by omega)] at e2
      refine hJ (100 - (i + 1)) _ _ (by omega) ⟨i + 1, rfl, by omega, rfl, fun c hc => by rw [e2, zup_ne hc]; exact g1 c hc, fun j hj => ?_⟩
      rw [e2, zup_eq]
      by_cases w : j = i
      · rw [w, upd_eq]; exact hv
      · rw [upd_ne w]; exact g2 j (by omega)
    refine ⟨fun c6 => ⟨vp_in_nI i100 (by omega), fun W2 e2 => st 0 W2 ?_ e2⟩, fun c6 => ⟨vp_in_nI i100 (by omega), fun W2 e2 => st 1 W2 ?_ e2⟩⟩
    · rw [if_neg (fun w => c6 (by rw [w]; rfl))]
    · rw [if_pos ((nI_eq (b := 6) (by omega) (by omega)).mp c6)]
/-- the bench is the same, slot for slot -/
def bsl (N M : zMem) : Prop := (∀ j, 2 ≤ j → j ≤ 5 → N 18 j = M 18 j) ∧ (∀ a x, 1 ≤ a → a ≤ 6 → x < 5 → N (18 + a) x = M (18 + a) x) ∧ (∀ x, x < 40 → N 25 x = M 25 x)
theorem bsl.of {N M : zMem} (h : ∀ c, 18 ≤ c → c ≤ 25 → N c = M c) : bsl N M := ⟨fun j _ _ => by rw [h 18 (by omega) (by omega)], fun a x _ _ _ => by rw [h (18 + a) (by omega) (by omega)], fun x _ => by rw [h 25 (by omega) (by omega)]⟩
theorem pr_cong {W M N : zMem} {n H : Nat} (H5 : H ≤ 5) (n8 : n ≤ 8) (p : pr W M n H) (s : bsl N M) : pr W N n H := by
  obtain ⟨⟨a1, a2, a3, a4⟩, b, c, d, e, f⟩ := p
  refine ⟨⟨a1.trans (s.1 2 (by omega) (by omega)).symm, a2.trans (s.1 3 (by omega) (by omega)).symm, a3.trans (s.1 4 (by omega) (by omega)).symm, a4.trans (s.1 5 (by omega) (by omega)).symm⟩, fun h hh => ?_, fun h p hh hp => (c h p hh hp).trans (s.2.2 _ (by omega)).symm, d, e, f⟩
  have b := b h hh
  unfold mr_h at b ⊢
  rw [s.2.1 1 h (by omega) (by omega) (by omega), s.2.1 2 h (by omega) (by omega) (by omega), s.2.1 3 h (by omega) (by omega) (by omega), s.2.1 4 h (by omega) (by omega) (by omega), s.2.1 5 h (by omega) (by omega) (by omega), s.2.1 6 h (by omega) (by omega) (by omega)]
  exact b
theorem hand_none {M N : zMem} {H h : Nat} (hh : h < H) (H5 : H ≤ 5) (hH : M 1 1 = nI H) (e1 : N 1 = M 1) (e5 : N 5 = M 5) (s : bsl N M) (x : sp_hand 1 18 h M = none) : sp_hand 1 18 h N = none := by
  have c1 : ∀ g, g < 5 → N (18 + 1) g = M (18 + 1) g := fun g hg => s.2.1 1 g (by omega) (by omega) hg
  have c2 : ∀ g, g < 5 → N (18 + 2) g = M (18 + 2) g := fun g hg => s.2.1 2 g (by omega) (by omega) hg
  have c3 : ∀ g, g < 5 → N (18 + 3) g = M (18 + 3) g := fun g hg => s.2.1 3 g (by omega) (by omega) hg
  have c4 : ∀ g, g < 5 → N (18 + 4) g = M (18 + 4) g := fun g hg => s.2.1 4 g (by omega) (by omega) hg
  have e5' : N (1 + 4) = M (1 + 4) := e5
  have can : ∀ g, g < 5 → (sp_can 1 18 g N ↔ sp_can 1 18 g M) := fun g hg => by
    unfold sp_can
    rw [c3 g hg, c4 g hg, e1, e5']
  have held : sp_held 1 18 h N ↔ sp_held 1 18 h M := by
    unfold sp_held
    rw [e1]
    by_cases w : h + 1 < 5
    · rw [c3 h (by omega), c4 h (by omega), c3 _ w, c4 _ w]
    · have no : ¬ nI (h + 1) < M 1 1 := fun v => by
        rw [hH] at v
        have := (nI_ltI (by omega) (by omega)).mp v
        omega
      exact ⟨fun v => absurd v.1 no, fun v => absurd v.1 no⟩
  have may : sp_may 1 18 h N ↔ sp_may 1 18 h M := by
    unfold sp_may
    rw [c3 h (by omega), e5', held]
  unfold sp_hand at x ⊢
  by_cases z : M (18 + 2) h = 0
  · rw [if_pos z] at x
    rw [if_pos ((c2 h (by omega)).trans z)]
    by_cases z3 : M (18 + 1) h = 3
    · rw [if_pos z3] at x; cases x
    rw [if_neg z3] at x
    rw [if_neg (by rw [c1 h (by omega)]; exact z3)]
    by_cases z0 : M (18 + 1) h = 0
    · rw [if_pos z0] at x
      rw [if_pos ((c1 h (by omega)).trans z0)]
      by_cases h0 : h = 0
      · rw [if_pos h0] at x; cases x
      rw [if_neg h0] at x
      rw [if_neg h0]
      by_cases zc : M (18 + 1) (h - 1) = 2 ∧ sp_can 1 18 (h - 1) M
      · rw [if_pos zc] at x; cases x
      · rw [if_neg (fun w => zc ⟨by rw [← c1 (h - 1) (by omega)]; exact w.1, (can (h - 1) (by omega)).mp w.2⟩)]
    · rw [if_neg z0] at x
      rw [if_neg (by rw [c1 h (by omega)]; exact z0)]
      by_cases z2 : M (18 + 1) h = 2
      · rw [if_pos z2] at x
        rw [if_pos ((c1 h (by omega)).trans z2)]
        by_cases zm : sp_may 1 18 h M
        · rw [if_pos zm] at x; cases x
        · rw [if_neg (fun w => zm (may.mp w))]
      · rw [if_neg (by rw [c1 h (by omega)]; exact z2)]
  · rw [if_neg (by rw [c2 h (by omega)]; exact z)]
theorem bst_cong {M N : zMem} {n H L : Nat} (b : bst M n H L) (vt : sp_vt N 1 n H L) (e1 : N 1 = M 1) (e3 : N 3 = M 3) (e5 : N 5 = M 5) (ht : ztc (N 18 0) = 1) (s : bsl N M) : bst N n H L := by
  obtain ⟨⟨-, -, -, vM, ⟨pl, hpl, epl⟩, hd, -⟩, hs⟩ := b
  have H5 : H ≤ 5 := vt.1.2.2.2.1
  refine ⟨⟨ht, by omega, by omega, vt, ⟨pl, hpl, (s.1 5 (by omega) (by omega)).trans epl⟩, fun h hh => ?_, fun g hg => by rw [zlg_18] at hg; cases hg⟩, fun j hj => hand_none hj H5 vM.2.2.1 e1 e5 s (hs j hj)⟩
  have hd := hd h hh
  unfold sp_hd at hd ⊢
  have e3' : N (1 + 2) = M (1 + 2) := e3
  have e5' : N (1 + 4) = M (1 + 4) := e5
  rw [s.2.1 1 h (by omega) (by omega) (by omega), s.2.1 2 h (by omega) (by omega) (by omega), s.2.1 3 h (by omega) (by omega) (by omega), s.2.1 4 h (by omega) (by omega) (by omega), s.2.1 5 h (by omega) (by omega) (by omega), e1, e3', e5']
  exact hd
theorem pf_some {f : Nat → Int32} : ∀ m p i, p ≤ i → i < p + m → 0 < f i → sp_pf f m p < p + m := by
  intro m
  induction m with
  | zero => intro p i h1 h2; omega
  | succ m ih =>
    intro p i h1 h2 h3
    unfold sp_pf
    split
    · omega
    · rename_i w
      have : p ≠ i := fun e => w (by rw [e]; exact h3)
      have := ih (p + 1) i (by omega) (by omega) h3
      omega
/-- what a text does to the class's memory when it is taken over, the bench apart -/
def tgd (M M' : zMem) : Prop := (∀ c, (c = 0 ∨ (6 ≤ c ∧ c < 11) ∨ c = 17 ∨ c = 27 ∨ (30 ≤ c ∧ c < 54) ∨ c = 55 ∨ c = 56 ∨ c = 57 ∨ c = 59 ∨ 61 ≤ c) → M' c = M c) ∧ M' 29 2 = 0 ∧ M' 54 0 = 0 ∧ M' 60 0 = 0 ∧ (∀ q, q < 120 → M' 58 q = 0) ∧ M' 28 0 = 0 ∧ M' 28 1 = 0
theorem DW_vt {n H L : Nat} {t1 t2 : Bool} {M' X : zMem} (d : DW 11 M' n H L t1 t2) (n0 : 0 < n) (H0 : 0 < H) (hu : ∀ s, s < 3 → ∃ p, p < n ∧ us 11 M' t1 t2 s p ≠ 0) (x1 : X 12 = M' 12) (x2 : X 13 = M' 13) (x4 : X 15 = M' 15) (x3 : ∀ s p, s < 3 → p < n → X 14 (s * 8 + p) = us 11 M' t1 t2 s p) (x5 : ∀ h, h < H → X 16 h = if M' 12 4 = 0 ∨ h = H - 1 then nI n else M' 16 h) : sp_vt X 12 n H L := by
  obtain ⟨⟨b1, b2, b3, b4⟩, en, eH, eL, w2, w3, w4, w5, hr, hU, hp, he, -⟩ := id d
  have y1 : X (12 + 1) = M' (11 + 2) := x2
  have y3 : X (12 + 3) = M' (11 + 4) := x4
  have y0 : X 12 = M' (11 + 1) := x1
  refine ⟨⟨n0, b1, H0, b2, b3, b4⟩, by rw [y0]; exact en, by rw [y0]; exact eH, by rw [y0]; exact eL, by rw [y0]; exact w2, by rw [y0]; exact w3, by rw [y0]; exact w4, by rw [y0]; exact w5, by rw [y1]; exact hr, fun s p hs hp => ?_, fun s hs => ?_, by rw [y3]; exact hp, fun h hh => ?_, ?_, fun w h hh => ?_⟩
  · obtain ⟨u, u6, eu⟩ := us_nI d hs hp
    exact ⟨u, u6, (x3 s p hs hp).trans eu⟩
  · obtain ⟨p, hp, hne⟩ := hu s hs
    obtain ⟨u, u6, eu⟩ := us_nI d hs hp
    have := pf_some (f := fun i => X (12 + 2) (s * 8 + i)) n 0 p (by omega) (by omega) (by
      show 0 < X 14 (s * 8 + p)
      rw [x3 s p hs hp, eu]
      rw [eu] at hne
      exact (nI_0lt (by omega)).mpr (Nat.pos_of_ne_zero (fun w => hne (by rw [w]; rfl))))
    omega
  · show ∃ e, e ≤ n ∧ X 16 h = nI e
    rw [x5 h hh]
    by_cases w : M' 12 4 = 0 ∨ h = H - 1
    · rw [if_pos w]; exact ⟨n, Nat.le_refl _, rfl⟩
    · rw [if_neg w]
      obtain ⟨e, e1, e2, e3⟩ := he (fun v => w (Or.inl v)) h (by omega)
      exact ⟨e, e2, e3⟩
  · show X 16 (H - 1) = nI n
    rw [x5 _ (by omega), if_pos (Or.inr rfl)]
  · show X 16 h = nI n
    rw [x5 h hh, if_pos (Or.inl (by rw [← x1]; exact w))]
theorem p_text {z : Nat} {M W : zMem} {P : zMem → zMem → Prop} (e5 : M 11 5 = nI z) (hz4 : z ≤ 400) (hz : W 0 1 = nI z) (ht : tpe (M 17) (W 1) z) (wt : wtb W) (h18 : ztc (M 18 0) = 1)
    (hA : ∀ M' W', (∀ c, (c < 11 ∨ 17 ≤ c) → M' c = M c) → M' 11 5 = 0 → W' 0 2 = M' 11 1 → tfr W W' → P M' W')
    (hB : ∀ n H L M' W', sp_vt M' 1 n H L → rt0 W' M' n H L → bst M' n H L → W' 0 24 = 1 → pr W' M' n H → M' 18 0 = M 18 0 → tgd M M' → (∀ j, j ≠ 2 → M' 29 j = M 29 j) → M' 11 5 = 0 → M' 11 1 = W' 0 2 → W' 0 1 = 0 → (∀ c, c ≠ 0 → c ≠ 4 → c ≠ 5 → c ≠ 6 → c ≠ 7 → c ≠ 8 → c ≠ 9 → W' c = W c) → W' 7 0 = 0 → W' 7 1 = 0 → (∀ j, 96 ≤ j → W' 6 j = W 6 j) → (∀ j, (20 ≤ j ∧ j ≠ 24) → W' 0 j = W 0 j) → P M' W') : wp_Main_text M (fun x M' => wp_Model_text W (fun y W' => x = y ∧ P M' W')) := by
  intro m1 f1 m2 f2 m3 f3 m4 f4 m5 f5 m6 f6 m7 f7 m8 f8 n1 g1 n2 g2 n3 g3 n4 g4 n5 g5 n6 g6 n7 g7
  refine ⟨vp_in_nI (n := 0) (by omega) (by omega), fun A gA => ?_⟩
  have gA' : A = zup n7 13 0 0 := gA
  have o8 : ∀ c, c ≠ 11 → m8 c = M c := fun c hc => by rw [f8, zup_ne hc, f7, zup_ne hc, f6, zup_ne hc, f5, zup_ne hc, f4, zup_ne hc, f3, zup_ne hc, f2, zup_ne hc, f1, zup_ne hc]
  have o7 : ∀ c, c ≠ 12 → n7 c = m8 c := fun c hc => by
    have g1' : n1 = zup m8 12 0 0 := g1
    have g2' : n2 = zup n1 12 1 0 := g2
    have g3' : n3 = zup n2 12 2 0 := g3
    have g4' : n4 = zup n3 12 3 0 := g4
    have g5' : n5 = zup n4 12 4 0 := g5
    have g6' : n6 = zup n5 12 5 0 := g6
    have g7' : n7 = zup n6 12 6 1 := g7
    rw [g7', zup_ne hc, g6', zup_ne hc, g5', zup_ne hc, g4', zup_ne hc, g3', zup_ne hc, g2', zup_ne hc, g1', zup_ne hc]
  have A12 : ∀ j, j ≤ 6 → A 12 j = if j = 6 then 1 else 0 := fun j hj => by
    have g1' : n1 = zup m8 12 0 0 := g1
    have g2' : n2 = zup n1 12 1 0 := g2
    have g3' : n3 = zup n2 12 2 0 := g3
    have g4' : n4 = zup n3 12 3 0 := g4
    have g5' : n5 = zup n4 12 4 0 := g5
    have g6' : n6 = zup n5 12 5 0 := g6
    have g7' : n7 = zup n6 12 6 1 := g7
    rw [gA', zup_ne (by omega), g7', zup_eq, g6', zup_eq, g5', zup_eq, g4', zup_eq, g3', zup_eq, g2', zup_eq, g1', zup_eq]
    rcases (show j = 0 ∨ j = 1 ∨ j = 2 ∨ j = 3 ∨ j = 4 ∨ j = 5 ∨ j = 6 by omega) with rfl | rfl | rfl | rfl | rfl | rfl | rfl <;> rfl
  have oA : ∀ c, c ≠ 11 → c ≠ 12 → c ≠ 13 → A c = M c := fun c c1 c2 c3 => by rw [gA', zup_ne c3, o7 c c2, o8 c c1]
  have A11 : A 11 = m8 11 := by rw [gA', zup_ne (by omega), o7 11 (by omega)]
  have s11 : ∀ j, j = 1 ∨ j = 2 ∨ j = 3 ∨ j = 6 ∨ j = 10 ∨ j = 11 ∨ j = 12 ∨ j = 13 → A 11 j = 0 := fun j hj => by
    rw [A11, f8, zup_eq, f7, zup_eq, f6, zup_eq, f5, zup_eq, f4, zup_eq, f3, zup_eq, f2, zup_eq, f1, zup_eq]
    rcases hj with rfl | rfl | rfl | rfl | rfl | rfl | rfl | rfl <;> rfl
  have s5 : A 11 5 = nI z := by
    rw [A11, f8, zup_eq, upd_ne (by omega), f7, zup_eq, upd_ne (by omega), f6, zup_eq, upd_ne (by omega), f5, zup_eq, upd_ne (by omega), f4, zup_eq, upd_ne (by omega), f3, zup_eq, upd_ne (by omega), f2, zup_eq, upd_ne (by omega), f1, zup_eq, upd_ne (by omega)]
    exact e5
  have A13 : A 13 0 = 0 := by rw [gA', zup_eq, upd_eq]
  have d0 : DA 11 z 0 A 0 0 1 false false := by
    refine ⟨⟨s5, hz4, 0, by omega, s11 6 (by omega)⟩, ⟨by omega, A12 0 (by omega), A12 1 (by omega), A12 6 (by omega), ⟨0, by omega, A12 2 (by omega)⟩, ⟨0, by omega, A12 3 (by omega)⟩, ⟨0, by omega, A12 4 (by omega)⟩, ⟨0, by omega, A12 5 (by omega)⟩, fun i hi => ⟨0, by omega, by rw [show i = 0 by omega]; exact A13⟩, fun s p _ hp => absurd hp (by omega), fun h p hh => absurd hh (by omega), fun _ h hh => absurd hh (by omega), s11 11 (by omega), fun _ => ⟨rfl, rfl, rfl, s11 13 (by omega)⟩, fun w => absurd (s11 12 (by omega)) w, fun _ => A12 4 (by omega)⟩, ⟨false, false, false, false, s11 10 (by omega), fun _ => rfl⟩⟩
  have fA : ∀ X : zMem, lf 11 A X → ∀ c, (c < 11 ∨ 17 ≤ c) → X c = M c := fun X f c hc => by
    rw [f c (by omega)]; exact oA c (by omega) (by omega) (by omega)
  have lfA : ∀ X, rAl 11 z 401 A X → lf 11 A X := by
    have go : ∀ f Y X, rAl 11 z f Y X → lf 11 Y X := by
      intro f
      induction f with
      | zero => intro Y X h; exact absurd h (fun h => h)
      | succ f ih =>
        rintro Y X ⟨b1, M1, t, h⟩
        have g1 := (gd_tkn _ _ _ t).1
        rcases h with ⟨-, rfl⟩ | ⟨-, -, rfl⟩ | ⟨-, -, n', H', b2, M2, -, -, -, -, hL, h2⟩
        · exact g1
        · exact g1
        · have g2 := (gd_rLi _ _ _ hL).1
          rcases h2 with ⟨-, rfl⟩ | ⟨-, h2⟩
          · exact g1.tr g2
          · exact (g1.tr g2).tr (ih _ _ h2)
    intro X h
    exact go _ _ _ h
  have tA : tpe (A 17) (W 1) z := by rw [oA 17 (by omega) (by omega) (by omega)]; exact ht
  refine xt_lines d0 (fun X hR => ?_)
  have lX := lfA X hR
  -- a fault is answered the same
  have bad : ∀ (Y : zMem) (c : Int32) (v : Int32), lf 11 A Y → Y 11 1 = c → Y 11 2 = v → ∀ M3, M3 = zup Y 11 5 0 → ∀ W', tfr W W' → W' 0 2 = c → ((-10) - M3 11 2 = -10 - v) ∧ P M3 W' := fun Y c v lY y1 y2 M3 e3 W' t w2 => by
    refine ⟨by rw [e3, zup_eq, upd_ne (by omega), y2], hA M3 W' (fun c hc => by rw [e3, zup_ne (by omega)]; exact fA Y lY c hc) (by rw [e3, zup_eq, upd_eq]) (by rw [e3, zup_eq, upd_ne (by omega), y1, w2]) t⟩
  refine ⟨fun x1 M3 e3 => ⟨fun w => absurd rfl w, fun _ => ?_⟩, fun x1 => ?_⟩
  · refine mt_text d0 (s11 3 (by omega)) (s11 1 (by omega)) (s11 6 (by omega)) (s11 10 (by omega)) (s11 11 (by omega)) (s11 13 (by omega)) A12 A13 hz hz4 tA wt hR (fun _ W' t w2 => bad X _ _ lX rfl rfl M3 e3 W' t w2) (fun w => absurd w x1) (fun w => absurd w x1) (fun w => absurd w x1)
  · obtain ⟨n, H, L, t1, t2, dX⟩ := DA_al _ _ _ _ _ _ _ _ hR d0 x1
    have un : ∀ {n' H' L' u1 u2}, DW 11 X n' H' L' u1 u2 → n = n' ∧ H = H' ∧ L = L' ∧ t1 = u1 ∧ t2 = u2 := fun d' => DW_un dX.2.1 d'
    refine xt_complete dX.2.1 dX.1.1 (fun c6 => ⟨fun _ M3 e3 => ⟨fun w => absurd rfl w, fun _ => ?_⟩, fun w => absurd rfl w⟩) (fun n0 H0 c7 Y lY y1 y2 yo => ⟨fun _ M3 e3 => ⟨fun w => absurd rfl w, fun _ => ?_⟩, fun w => absurd rfl w⟩) (fun n0 H0 hu Y lY yk yk1 yk2 yk4 yu ye => ⟨fun w => absurd w (by decide), fun _ M3 e3 => ⟨fun _ => ?_, fun w => absurd w (by decide)⟩⟩)
    · refine mt_text d0 (s11 3 (by omega)) (s11 1 (by omega)) (s11 6 (by omega)) (s11 10 (by omega)) (s11 11 (by omega)) (s11 13 (by omega)) A12 A13 hz hz4 tA wt hR (fun w => absurd x1 w) (fun _ n' H' L' u1 u2 d' c W' t w2 => bad _ 6 (nI z) (lX.tr ((lf.up (by omega) (by omega)).tr (lf.up (by omega) (by omega)))) (by rw [zup_eq, upd_ne (by omega), zup_eq, upd_eq]) (by rw [zup_eq, upd_eq]) M3 e3 W' t w2) (fun _ n' H' L' u1 u2 d' n0 H0 _ => ?_) (fun _ n' H' L' u1 u2 d' n0 H0 _ => ?_)
      · obtain ⟨i1, i2, -⟩ := un d'
        omega
      · obtain ⟨i1, i2, -⟩ := un d'
        omega
    · refine mt_text d0 (s11 3 (by omega)) (s11 1 (by omega)) (s11 6 (by omega)) (s11 10 (by omega)) (s11 11 (by omega)) (s11 13 (by omega)) A12 A13 hz hz4 tA wt hR (fun w => absurd x1 w) (fun _ n' H' L' u1 u2 d' c => ?_) (fun _ n' H' L' u1 u2 d' _ _ _ W' t w2 => bad Y 7 (nI z) (lX.tr lY) y1 y2 M3 e3 W' t w2) (fun _ n' H' L' u1 u2 d' _ _ hu => ?_)
      · obtain ⟨i1, i2, -⟩ := un d'
        omega
      · obtain ⟨i1, i2, i3, i4, i5⟩ := un d'
        subst i1 i2 i3 i4 i5
        obtain ⟨s, hs, hs2⟩ := c7
        obtain ⟨p, hp, hp2⟩ := hu s hs
        exact absurd (hs2 p hp) hp2
    · -- taken over
      have M3c : ∀ c, c ≠ 11 → M3 c = Y c := fun c hc => by rw [e3, zup_ne hc]
      have vt12 : sp_vt M3 12 n H L := DW_vt (X := M3) dX.2.1 n0 H0 hu (by rw [M3c 12 (by omega)]; exact yk1) (by rw [M3c 13 (by omega)]; exact yk2) (by rw [M3c 15 (by omega)]; exact yk4) (fun s p hs hp => by rw [M3c 14 (by omega)]; exact yu s p hs hp) (fun h hh => by rw [M3c 16 (by omega)]; exact ye h hh)
      refine xt_copyFrom (k := 1) (t := 12) (by omega) (fun M4 td4 o4 => ?_)
      have vt1 : sp_vt M4 1 n H L := vt12.copy td4
      have fM4 : ∀ c, (c = 0 ∨ (6 ≤ c ∧ c < 11) ∨ 17 ≤ c) → M4 c = M c := fun c hc => by rw [o4 c (by omega), M3c c (by omega)]; exact fA Y (lX.tr lY) c (by omega)
      have h18' : M4 18 0 = M 18 0 := by rw [fM4 18 (by omega)]
      refine xt_clear (fun Mc hc => ?_)
      have ok := sp_ok_clear hc (by rw [h18']; exact h18) (by omega) (by omega) vt1 (fun g hg => by rw [zlg_18] at hg; cases hg)
      refine xt_doAll ok ?_
      obtain ⟨ok2, fr2, hs2⟩ := sp_all_ok ok
      have ek : ∀ k, (k < 18 ∨ 27 ≤ k) → sp_all 1 18 H Mc k = M4 k := fun k hk => by
        rw [fr2.1 k (by omega) (fun q => absurd q (by omega))]
        exact hc.2.2.2.2.2.2.2.2.2 k (by omega)
      have e180 : sp_all 1 18 H Mc 18 0 = M 18 0 := by rw [fr2.2, hc.2.2.2.2.1, h18']
      generalize hN : sp_all 1 18 H Mc = N at ok2 hs2 ek e180
      refine zlp1_r (fun m x N' => ∃ i, x = nI i ∧ i ≤ 2 ∧ m = 2 - i ∧ (∀ c, c ≠ 28 → N' c = N c) ∧ ∀ j, j < i → N' 28 j = 0) ?_ (n := 2) ⟨0, rfl, by omega, rfl, fun _ _ => rfl, fun j hj => absurd hj (by omega)⟩
      rintro m x N' ⟨i, rfl, hi, rfl, u1, u2⟩ J hJ
      unfold wpB_Main_text_61
      refine ⟨fun c => ?_, fun c => ?_⟩
      · have i2 : 2 ≤ i := (nI_leI (a := 2) (by omega) (by omega)).mp c
        unfold wp_Main_forgetAnswers
        intro A2 b2 A3 b3 A4 b4
        refine xt_forget (fun A5 q1 q2 => ?_)
        have cA : ∀ c, c ≠ 28 → c ≠ 29 → c ≠ 54 → c ≠ 58 → c ≠ 60 → A5 c = N c := fun c c1 c2 c3 c4 c5 => by rw [q2 c c4, b4, zup_ne c5, b3, zup_ne c3, b2, zup_ne c2]; exact u1 c c1
        have A511 : ∀ j, j ≠ 5 → A5 11 j = X 11 j := fun j hj => by rw [cA 11 (by omega) (by omega) (by omega) (by omega) (by omega), ek 11 (by omega), o4 11 (by omega), e3, zup_eq, upd_ne hj]; exact congrFun yk j
        have tg : tgd M A5 := by
          refine ⟨fun c hc => ?_, ?_, ?_, ?_, q1, ?_, ?_⟩
          · rw [cA c (by omega) (by omega) (by omega) (by omega) (by omega), ek c (by omega)]; exact fM4 c (by omega)
          · rw [q2 29 (by omega), b4, zup_ne (by omega), b3, zup_ne (by omega), b2, zup_eq, upd_eq]
          · rw [q2 54 (by omega), b4, zup_ne (by omega), b3, zup_eq, upd_eq]
          · rw [q2 60 (by omega), b4, zup_eq, upd_eq]
          · rw [q2 28 (by omega), b4, zup_ne (by omega), b3, zup_ne (by omega), b2, zup_ne (by omega)]; exact u2 0 (by omega)
          · rw [q2 28 (by omega), b4, zup_ne (by omega), b3, zup_ne (by omega), b2, zup_ne (by omega)]; exact u2 1 (by omega)
        have t29 : ∀ j, j ≠ 2 → A5 29 j = M 29 j := fun j hj => by
          rw [q2 29 (by omega), b4, zup_ne (by omega), b3, zup_ne (by omega), b2, zup_eq, upd_ne hj, u1 29 (by omega), ek 29 (by omega), fM4 29 (by omega)]
        have told : ∀ i, i ≤ 4 → A5 (1 + i) = N (1 + i) := fun i hi => cA _ (by omega) (by omega) (by omega) (by omega) (by omega)
        have vtN : sp_vt N 1 n H L := ok2.2.2.2.1
        have vtA : sp_vt A5 1 n H L := vtN.moved told
        have bs : bsl A5 N := bsl.of (fun c c1 c2 => cA c (by omega) (by omega) (by omega) (by omega) (by omega))
        have bA : bst A5 n H L := bst_cong ⟨ok2, hs2⟩ vtA (told 0 (by omega)) (told 2 (by omega)) (told 4 (by omega)) (by rw [cA 18 (by omega) (by omega) (by omega) (by omega) (by omega), e180]; exact h18) bs
        have e511 : A5 11 5 = 0 := by rw [cA 11 (by omega) (by omega) (by omega) (by omega) (by omega), ek 11 (by omega), o4 11 (by omega), e3, zup_eq, upd_eq]
        refine mt_text d0 (s11 3 (by omega)) (s11 1 (by omega)) (s11 6 (by omega)) (s11 10 (by omega)) (s11 11 (by omega)) (s11 13 (by omega)) A12 A13 hz hz4 tA wt hR (fun w => absurd x1 w) (fun _ n' H' L' u1 u2 d' c => ?_) (fun _ n' H' L' u1 u2 d' _ _ c7 => ?_) (fun _ n' H' L' u1' u2' d' _ _ _ W1 w1 w2 w3 w4 v0 v1 v2 v3 v4 => ?_)
        · obtain ⟨i1, i2, -⟩ := un d'
          omega
        · obtain ⟨i1, i2, i3, i4, i5⟩ := un d'
          subst i1 i2 i3 i4 i5
          obtain ⟨s, hs, hs2⟩ := c7
          obtain ⟨p, hp, hp2⟩ := hu s hs
          exact absurd (hs2 p hp) hp2
        · obtain ⟨i1, i2, i3, i4, i5⟩ := un d'
          subst i1 i2 i3 i4 i5
          have H5 : H ≤ 5 := vtA.1.2.2.2.1
          have n8 : n ≤ 8 := vtA.1.2.1
          have L6 : L ≤ 6 := vtA.1.2.2.2.2.2
          obtain ⟨d0', d1', d2', d3', d4'⟩ := td4
          -- what is told, on both sides
          have m12 : ∀ j, j ≤ 6 → M4 1 j = X 12 j := fun j hj => by rw [d0' j hj, M3c 12 (by omega)]; exact congrFun yk1 j
          have rN4 : rt0 W1 M4 n H L := by
            refine ⟨by rw [v0 0 (by omega)]; exact dX.2.1.2.1, by rw [v0 1 (by omega)]; exact dX.2.1.2.2.1, by rw [v0 2 (by omega), m12 2 (by omega)], by rw [v0 3 (by omega), m12 3 (by omega)], by rw [v0 4 (by omega), m12 4 (by omega)], by rw [v0 5 (by omega), m12 5 (by omega)], by rw [v0 6 (by omega)]; exact dX.2.1.2.2.2.1, fun i hi => ?_, fun s p hs hp => ?_, fun h p hh hp => ?_, fun h hh => ?_⟩
            · have e : M4 2 i = M3 13 i := d1' i (by omega)
              rw [v1 i hi, e, M3c 13 (by omega)]; exact (congrFun yk2 i).symm
            · have e : M4 3 (s * 8 + p) = M3 14 (s * 8 + p) := d2' _ (by omega)
              rw [v2 s p hs hp, e, M3c 14 (by omega)]; exact (yu s p hs hp).symm
            · have e : M4 4 (h * 8 + p) = M3 15 (h * 8 + p) := d3' _ (by omega)
              rw [v3 h p hh hp, e, M3c 15 (by omega)]; exact (congrFun yk4 _).symm
            · have e : M4 5 h = M3 16 h := d4' h (by omega)
              have y := ye h hh
              have y' : Y 16 h = if X 12 4 = 0 ∨ h = H - 1 then nI n else X 16 h := y
              rw [e, M3c 16 (by omega), y', m12 4 (by omega)]
              by_cases w : X 12 4 = 0 ∨ h = H - 1
              · rw [if_pos w, if_pos (Or.symm w)]
              · rw [if_neg w, if_neg (fun v => w (Or.symm v))]
                exact (v4 (fun v => w (Or.inl v)) h (by omega)).symm
          have rN : rt0 W1 N n H L := rN4.moved rfl (fun i hi => ek _ (by omega))
          show wp_Model_clear (nI 0) W1 _
          refine mt_clear (by omega) (fun W2 a1 a2 a3 => ?_)
          intro W3 e3'
          have x4 : W3 4 = W1 4 := by rw [e3', zup_ne (by omega), a3 4 (by omega)]
          have x6 : W3 6 = W2 6 := by rw [e3', zup_ne (by omega)]
          refine mt_awake (M := N) (n := n) (H := H) (L := L) vtN (rN.moved x4 (fun _ _ => rfl)) (Or.inr ⟨by rw [e3', zup_eq, upd_eq], fun j hj => ?_, M4, Mc, hc, ok, hN.symm⟩) (fun W4 h24 hp f4 => ⟨vp_in_nI (n := 0) (by omega) (by omega), fun W5 e5' => ⟨vp_in_nI (n := 1) (by omega) (by omega), fun W6 e6' => ⟨?_, ?_⟩⟩⟩)
          · rw [x6, ← a1 j hj]; congr 1; omega
          · exact A511 3 (by omega)
          · have e5'' : W5 = zup W4 7 0 0 := e5'
            have e6'' : W6 = zup W5 7 1 0 := e6'
            have c6 : ∀ c, c ≠ 7 → W6 c = W4 c := fun c hc => by rw [e6'', zup_ne hc, e5'', zup_ne hc]
            have j0 : ∀ j, j ≠ 18 → j ≠ 19 → j ≠ 24 → W6 0 j = W1 0 j := fun j q1 q2 q3 => by rw [c6 0 (by omega), f4.2.1 j q1 q2 q3, e3', zup_eq, upd_ne q3, a3 0 (by omega)]
            refine hB n H L A5 W6 vtA ((rN.moved (W' := W6) ?_ told)) bA (by rw [c6 0 (by omega)]; exact h24) (pr_cong H5 n8 (hp.moved H5 n8 (fun j _ => by rw [c6 6 (by omega)])) bs) (by rw [cA 18 (by omega) (by omega) (by omega) (by omega) (by omega), e180]) tg t29 e511 ?_ ?_ (fun c c0 c4 c5 c6' c7 c8 c9 => ?_) (by rw [e6'', zup_eq, upd_ne (by omega), e5'', zup_eq, upd_eq]) (by rw [e6'', zup_eq, upd_eq]) (fun j hj => ?_) (fun j hj => ?_)
            · rw [c6 4 (by omega), f4.1 4 (by omega) (by omega) (by omega) (by omega)]; exact x4
            · rw [A511 1 (by omega), j0 2 (by omega) (by omega) (by omega), x1, w3]
            · rw [j0 1 (by omega) (by omega) (by omega)]; exact w2
            · rw [c6 c c7, f4.1 c c0 c6' c8 c9, e3', zup_ne c0, a3 c c6']; exact w1 c c0 c4 c5
            · rw [c6 6 (by omega), f4.2.2 j hj, x6, a2 j (by omega)]
              exact congrFun (w1 6 (by omega) (by omega) (by omega)) j
            · rw [j0 j (by omega) (by omega) (by omega)]; exact w4 j (by omega)
      · have i2 : i < 2 := by
          rcases Nat.lt_or_ge i 2 with w | w
          · exact w
          · exact absurd ((nI_leI (a := 2) (by omega) (by omega)).mpr w) c
        refine ⟨vp_in_nI i2 (by omega), fun N2 e2 y ey => ?_⟩
        rw [ey, nI_1]
        rw [q_ix (by omega)] at e2
        have e2' : N2 = zup N' 28 i 0 := e2
        refine hJ (2 - (i + 1)) _ _ (by omega) ⟨i + 1, rfl, by omega, rfl, fun c hc => by rw [e2', zup_ne hc]; exact u1 c hc, fun j hj => ?_⟩
        rw [e2', zup_eq]
        by_cases w : j = i
        · rw [w, upd_eq]
        · rw [upd_ne w]; exact u2 j (by omega)
theorem nar8 (x : Int32) : (x <<< ((24 : Int32) &&& 31)) >>> ((24 : Int32) &&& 31) = x.toInt8.toInt32 := by
  rw [show ((24 : Int32) &&& 31) = 24 from by decide]
  refine Int32.toBitVec_inj.1 (BitVec.eq_of_toInt_eq ?_)
  show (BitVec.sshiftRight' (x.toBitVec <<< ((24 : Int32).toBitVec.smod 32)) ((24 : Int32).toBitVec.smod 32)).toInt = ((x.toBitVec.signExtend 8).signExtend 32).toInt
  rw [show ((24 : Int32).toBitVec.smod 32) = 24#32 from by decide, BitVec.toInt_sshiftRight', BitVec.toInt_signExtend_of_le (by omega), BitVec.toInt_signExtend, BitVec.shiftLeft_eq', BitVec.toInt_shiftLeft, BitVec.toInt_eq_toNat_bmod, show (24#32 : BitVec 32).toNat = 24 from rfl, Int.shiftRight_eq_div_pow, Nat.shiftLeft_eq]
  generalize x.toBitVec.toNat = v
  unfold Int.bmod
  simp only [Nat.reducePow, Nat.reduceLeDiff, Nat.min_eq_left]
  omega
theorem nar16 (x : Int32) : (x <<< ((16 : Int32) &&& 31)) >>> ((16 : Int32) &&& 31) = x.toInt16.toInt32 := by
  rw [show ((16 : Int32) &&& 31) = 16 from by decide]
  refine Int32.toBitVec_inj.1 (BitVec.eq_of_toInt_eq ?_)
  show (BitVec.sshiftRight' (x.toBitVec <<< ((16 : Int32).toBitVec.smod 32)) ((16 : Int32).toBitVec.smod 32)).toInt = ((x.toBitVec.signExtend 16).signExtend 32).toInt
  rw [show ((16 : Int32).toBitVec.smod 32) = 16#32 from by decide, BitVec.toInt_sshiftRight', BitVec.toInt_signExtend_of_le (by omega), BitVec.toInt_signExtend, BitVec.shiftLeft_eq', BitVec.toInt_shiftLeft, BitVec.toInt_eq_toNat_bmod, show (16#32 : BitVec 32).toNat = 16 from rfl, Int.shiftRight_eq_div_pow, Nat.shiftLeft_eq]
  generalize x.toBitVec.toNat = v
  unfold Int.bmod
  simp only [Nat.reducePow, Nat.reduceLeDiff, Nat.min_eq_left]
  omega
/-- a sheet is the same for both -/
def sht (M W : zMem) (i : Nat) : Prop := (M (81 + 2 * i) 0 = -1 ∧ M (81 + 2 * i) 1 = 0 ∧ W 16 i = -4) ∨ ∃ l z, l < 3 ∧ z ≤ 40 ∧ M (81 + 2 * i) 0 = nI l ∧ W 16 i = nI l ∧ M (81 + 2 * i) 1 = nI z ∧ W 17 i = nI z ∧ ∀ j, j < z → W 18 (40 * i + j) = M (81 + 2 * i + 1) j
def shs (M W : zMem) : Prop := ∀ i, i < 4 → sht M W i
theorem lt_pred {j z : Nat} (hj : j < 2147483648) (hz : z ≤ 40) : nI j ≤ nI z - 1 ↔ j < z := by
  rcases Nat.eq_zero_or_pos z with h | h
  · subst h
    refine ⟨fun w => ?_, fun w => absurd w (by omega)⟩
    have : (0 : Int32) ≤ -1 := Int32.le_trans (nI_pos' hj) w
    exact absurd this (by decide)
  · have e : nI z - 1 = nI (z - 1) := q_sub (a := z) (b := 1) h
    rw [e, nI_leI hj (by omega)]
    omega
theorem p_lay {M W : zMem} {a1 a2 a3 : Int32} {P : zMem → zMem → Prop} (hs : shs M W) (hP0 : P M W) (hP : ∀ i j v, i < 4 → j < 40 → P (zup M (81 + 2 * i + 1) j v) (zup W 18 (40 * i + j) v)) : wp_Main_lay a1 a2 a3 M (fun x M' => wp_Model_lay a1 a2 a3 W (fun y W' => x = y ∧ P M' W')) := by
  refine xt_isSheet (fun i hi ei => ⟨fun _ => ?_, fun q => absurd q (by decide)⟩) (fun nh => ⟨fun q => absurd rfl q, fun _ => in_no (hi := 3) rfl nh ⟨fun q => absurd rfl q, fun _ => ⟨rfl, hP0⟩⟩⟩)
  subst ei
  have v4 : vp_in (nI i) 4 := vp_in_nI (by omega) (by omega)
  refine ⟨v4, ?_⟩
  rw [q_ix (by omega)]
  rcases hs i hi with ⟨s0, -, w16⟩ | ⟨l, z, hl, hz, s0, w16, s1, w17, hc⟩
  · refine ⟨fun q => absurd s0 q, fun _ => in_yes (hi := 3) rfl (by omega) (by omega) ⟨fun _ => ⟨v4, ?_⟩, fun q => absurd q (by decide)⟩⟩
    rw [q_ix (by omega)]
    exact ⟨fun q => absurd w16 q, fun _ => ⟨rfl, hP0⟩⟩
  · have nm1 : ¬ nI l = -1 := fun w => absurd w (by rcases (show l = 0 ∨ l = 1 ∨ l = 2 by omega) with rfl | rfl | rfl <;> decide)
    have nm4 : ¬ nI l = -4 := fun w => absurd w (by rcases (show l = 0 ∨ l = 1 ∨ l = 2 by omega) with rfl | rfl | rfl <;> decide)
    refine ⟨fun _ => ?_, fun q => absurd (s0.symm.trans q) nm1⟩
    rw [s1]
    have ref : ∀ (K : Int32 → zMem → Prop), (¬ (0 ≤ a2 ∧ a2 ≤ nI z - 1) → K (-12) W) → (0 ≤ a2 → a2 ≤ nI z - 1 → vp_in (nI i) 4 ∧ (¬ (W 16 (ix (nI i))) = 0 → vp_in (nI i) 4 ∧ (¬ (W 16 (ix (nI i))) = 1 → vp_in ((40 * nI i) + a2) 160 ∧ ∀ zm5 : zMem, zm5 = zup W 18 (ix ((40 * nI i) + a2)) a3 → K 1 zm5) ∧ ((W 16 (ix (nI i))) = 1 → vp_in ((40 * nI i) + a2) 160 ∧ ∀ zm6 : zMem, zm6 = zup W 18 (ix ((40 * nI i) + a2)) ((a3 <<< (16 &&& 31)) >>> (16 &&& 31)) → K 1 zm6)) ∧ ((W 16 (ix (nI i))) = 0 → vp_in ((40 * nI i) + a2) 160 ∧ ∀ zm7 : zMem, zm7 = zup W 18 (ix ((40 * nI i) + a2)) ((a3 <<< (24 &&& 31)) >>> (24 &&& 31)) → K 1 zm7)) → wp_Model_lay (nI i) a2 a3 W K := fun K h0 h1 => by
      refine in_yes (hi := 3) rfl (by omega) (by omega) ⟨fun _ => ⟨v4, ?_⟩, fun q => absurd q (by decide)⟩
      have e16 : W 16 (ix (nI i)) = nI l := by rw [q_ix (by omega)]; exact w16
      have e17 : W 17 (ix (nI i)) = nI z := by rw [q_ix (by omega)]; exact w17
      refine ⟨fun _ => ⟨v4, ?_⟩, fun q => absurd (e16.symm.trans q) nm4⟩
      rw [e17]
      exact mt_in (lo' := 0) (hi' := nI z - 1) rfl rfl (fun c1 c2 => ⟨fun _ => h1 c1 c2, fun q => absurd q (by decide)⟩) (fun c => ⟨fun q => absurd rfl q, fun _ => h0 c⟩)
    refine ⟨fun c => ref _ (fun _ => ⟨rfl, hP0⟩) (fun q _ => absurd c (Int32.not_lt.mpr q)), fun c => ?_⟩
    obtain ⟨j, hj, rfl⟩ := nI_of c
    refine ⟨fun c2 => ?_, fun c2 => ref _ (fun _ => ⟨rfl, hP0⟩) (fun _ q => absurd ((nI_ltI (by omega) (by omega)).mpr ((lt_pred (by omega) hz).mp q)) c2)⟩
    have jz : j < z := (nI_ltI (by omega) (by omega)).mp c2
    have e40 : (40 : Int32) * nI i + nI j = nI (40 * i + j) := by rw [show (40 : Int32) = nI 40 from rfl, q_mul, q_add]
    have vc : vp_in (nI (40 * i + j)) 160 := vp_in_nI (by omega) (by omega)
    have vj : vp_in (nI j) 40 := vp_in_nI (by omega) (by omega)
    have no : ¬ ((0 : Int32) ≤ nI j ∧ nI j ≤ nI z - 1) → False := fun q => q ⟨nI_pos' (by omega), (lt_pred (by omega) hz).mpr jz⟩
    have e16 : W 16 (ix (nI i)) = nI l := by rw [q_ix (by omega)]; exact w16
    unfold wp_Sheet_put
    rw [s0, q_ix (by omega)]
    have fin : ∀ (v : Int32) (M' : zMem), M' = zup M (81 + 2 * i + 1) j v → (¬ (nI l) = 0 → (¬ (nI l) = 1 → v = a3) ∧ (nI l = 1 → v = a3.toInt16.toInt32)) → (nI l = 0 → v = a3.toInt8.toInt32) → wp_Model_lay (nI i) (nI j) a3 W (fun y W' => 1 = y ∧ P M' W') := fun v M' eM f1 f0 => by
      refine ref _ (fun q => absurd (no q) (fun h => h)) (fun _ _ => ?_)
      rw [e16, e40, q_ix (by omega)]
      have pp : ∀ W', W' = zup W 18 (40 * i + j) v → P M' W' := fun W' eW => by rw [eM, eW]; exact hP i j v hi (by omega)
      refine ⟨v4, fun c0 => ⟨v4, fun c1 => ⟨vc, fun W' eW => ⟨rfl, pp W' ?_⟩⟩, fun c1 => ⟨vc, fun W' eW => ⟨rfl, pp W' ?_⟩⟩⟩, fun c0 => ⟨vc, fun W' eW => ⟨rfl, pp W' ?_⟩⟩⟩
      · rw [eW, (f1 c0).1 c1]
      · rw [eW, (f1 c0).2 c1, nar16]
      · rw [eW, f0 c0, nar8]
    refine ⟨fun c0 => ⟨fun c1 => ⟨vj, fun M' eM => fin a3 M' eM (fun _ => ⟨fun _ => rfl, fun w => absurd w c1⟩) (fun w => absurd w c0)⟩, fun c1 => ⟨vj, fun M' eM => fin _ M' eM (fun _ => ⟨fun w => absurd c1 w, fun _ => rfl⟩) (fun w => absurd w c0)⟩⟩, fun c0 => ⟨vj, fun M' eM => fin _ M' eM (fun w => absurd c0 w) (fun _ => rfl)⟩⟩
theorem in_cell {a c Z : Nat} {W : zMem} {Q : Int32 → zMem → Prop} (ha : a < 2147483648) (hc : c ≤ 40) (hZ : Z ≤ 40) (h1 : a + c < Z → Q 1 W) (h0 : ¬ a + c < Z → Q 0 W) : wp_Model_in ((nI a).toInt64 + (nI c).toInt64) 0 ((nI Z - 1).toInt64) W Q := by
  rw [q_l64 ha, q_l64 (by omega), lN_add, e_in]
  rcases Nat.eq_zero_or_pos Z with w | w
  · subst w
    rw [if_neg]
    · exact h0 (by omega)
    · rintro ⟨u, v⟩
      have : (0 : Int64) ≤ (nI 0 - 1).toInt64 := Int64.le_trans u v
      exact absurd this (by decide)
  · rw [show nI Z - 1 = nI (Z - 1) from q_sub (a := Z) (b := 1) w, q_l64 (by omega), show (0 : Int64) = lN 0 from rfl]
    by_cases c' : a + c < Z
    · rw [if_pos ⟨(pk_lLE (by omega) (by omega)).mpr (by omega), (pk_lLE (by omega) (by omega)).mpr (by omega)⟩]; exact h1 c'
    · rw [if_neg (fun u => c' (by
        have := (pk_lLE (by omega) (by omega)).mp u.2
        omega))]; exact h0 c'
theorem dm_u {n r p c : Nat} (hp : p < n) (h : r * n + p = c) : c / n = r ∧ c % n = p := by
  subst h
  have n0 : 0 < n := by omega
  rw [Nat.mul_comm r n]
  exact ⟨by rw [Nat.mul_add_div n0, Nat.div_eq_of_lt hp, Nat.add_zero], by rw [Nat.mul_add_mod, Nat.mod_eq_of_lt hp]⟩
/-- a row of the sheet is of paces alone -/
def rgd (V : Nat → Int32) (n r : Nat) : Prop := ∀ p, p < n → 1 ≤ V (r * n + p) ∧ V (r * n + p) ≤ 9
theorem mw_copyR {i l n R a y z : Nat} {a3 f : Int32} {W : zMem} {Q : Int32 → zMem → Prop} (hi : i < 4) (n1 : 1 ≤ n) (n8 : n ≤ 8) (e0 : W 4 0 = nI n) (hy : y + R ≤ 5) (ha : 0 < R → a3 = nI a ∧ a + n * R ≤ 40)
    (hQ : ∀ W', (∀ r p, r < R → p < n → W' 4 (60 + 8 * (y + r) + p) = W 18 (40 * i + a + (r * n + p))) → (∀ j, (∀ r p, r < R → p < n → j ≠ 60 + 8 * (y + r) + p) → W' 4 j = W 4 j) → (∀ c, c ≠ 0 → c ≠ 4 → W' c = W c) → W' 0 39 = f → (∀ j, j ≠ 39 → W' 0 j = W 0 j) → Q (nI R) W') : ∃ k, zlp1 (wpB_Model_read_234 (nI i) (nI l) a3 (nI y) (nI z) f (nI R) Q) k 0 W := by
  have nR : n * R ≤ 40 := by
    have := Nat.mul_le_mul n8 (show R ≤ 5 by omega)
    omega
  refine zlp1_r (fun m x W' => ∃ c, x = nI c ∧ c ≤ n * R ∧ m = n * R - c ∧ (∀ r p, p < n → r * n + p < c → W' 4 (60 + 8 * (y + r) + p) = W 18 (40 * i + a + (r * n + p))) ∧ (∀ j, (∀ r p, p < n → r * n + p < c → j ≠ 60 + 8 * (y + r) + p) → W' 4 j = W 4 j) ∧ (∀ c, c ≠ 4 → W' c = W c)) ?_ (n := n * R) ⟨0, rfl, by omega, rfl, fun _ _ _ h => absurd h (by omega), fun _ _ => rfl, fun _ _ => rfl⟩
  rintro m x W' ⟨c, rfl, hc, rfl, g1, g2, g3⟩ J hJ
  unfold wpB_Model_read_234
  have w0 : W' 4 (ix 0) = nI n := by
    have : W' 4 (ix 0) = W 4 0 := g2 0 (fun r p _ _ => by omega)
    rw [this]; exact e0
  rw [w0, q_mul, pk_rem (by omega) (by omega) (by omega), pk_div (by omega) (by omega) (by omega)]
  have lt : ∀ r p, p < n → (r < R ↔ r * n + p < n * R) := fun r p hp => by
    constructor
    · intro h
      have := Nat.mul_le_mul_right n (show r + 1 ≤ R by omega)
      rw [Nat.succ_mul, Nat.mul_comm R n] at this
      omega
    · intro h
      rcases Nat.lt_or_ge r R with w | w
      · exact w
      · have := Nat.mul_le_mul_right n w
        rw [Nat.mul_comm R n] at this
        omega
  refine ⟨vp_in_nI (n := 0) (by omega) (by omega), fun c1 W2 e2 => ?_, fun c1 => ?_⟩
  · have hc2 : c = n * R := by
      have := (nI_leI (by omega) (by omega)).mp c1
      omega
    refine hQ W2 (fun r p hr hp => ?_) (fun j hj => ?_) (fun d d0 d4 => by rw [e2, zup_ne d0]; exact g3 d d4) (by rw [e2, zup_eq, upd_eq]) (fun j hj => by rw [e2, zup_eq, upd_ne hj, g3 0 (by omega)])
    · rw [e2, zup_ne (by omega)]
      exact g1 r p hp (by rw [hc2]; exact (lt r p hp).mp hr)
    · rw [e2, zup_ne (by omega)]
      exact g2 j (fun r p hp hlt => hj r p ((lt r p hp).mpr (by rw [← hc2]; exact hlt)) hp)
  · have hc2 : c < n * R := by
      rcases Nat.lt_or_ge c (n * R) with w | w
      · exact w
      · exact absurd ((nI_leI (by omega) (by omega)).mpr w) c1
    have R0 : 0 < R := by
      rcases Nat.eq_zero_or_pos R with w | w
      · rw [w, Nat.mul_zero] at hc2; omega
      · exact w
    obtain ⟨ea, hab⟩ := ha R0
    have hm := Nat.mod_lt c (show 0 < n by omega)
    have hdm : c / n * n + c % n = c := by rw [Nat.mul_comm]; exact Nat.div_add_mod c n
    have hr : c / n < R := (lt (c / n) (c % n) hm).mpr (by omega)
    generalize hr0 : c / n = r0 at hdm hr
    generalize hp0 : c % n = p0 at hdm hm
    have e1 : (40 : Int32) * nI i + a3 + nI c = nI (40 * i + a + c) := by rw [ea, show (40 : Int32) = nI 40 from rfl, q_mul, q_add, q_add]
    have e2 : (60 : Int32) + 8 * (nI y + nI r0) + nI p0 = nI (60 + 8 * (y + r0) + p0) := by rw [show (8 : Int32) = nI 8 from rfl, show (60 : Int32) = nI 60 from rfl, q_add, q_mul, q_add, q_add]
    rw [e1, e2, q_ix (by omega), q_ix (by omega)]
    have nn : ¬ nI n = 0 := nI_ne0 (by omega) (by omega)
    refine ⟨vp_in_nI (n := 0) (by omega) (by omega), nn, vp_in_nI (n := 0) (by omega) (by omega), nn, vp_in_nI (by omega) (by omega), vp_in_nI (by omega) (by omega), fun W2 e2 y' ey => ?_⟩
    rw [ey, nI_1]
    refine hJ (n * R - (c + 1)) _ _ (by omega) ⟨c + 1, rfl, by omega, rfl, fun r p hp hlt => ?_, fun j hj => ?_, fun d d4 => by rw [e2, zup_ne d4]; exact g3 d d4⟩
    · rcases Nat.lt_or_ge (r * n + p) c with w | w
      · have ne : ¬ (r = r0 ∧ p = p0) := fun v => by
          rw [v.1, v.2] at w
          omega
        rw [e2, zup_eq, upd_ne (by omega)]
        exact g1 r p hp w
      · obtain ⟨u1, u2⟩ := dm_u hp (show r * n + p = c by omega)
        have u3 : r = r0 := by omega
        have u4 : p = p0 := by omega
        rw [u3, u4, e2, zup_eq, upd_eq, g3 18 (by omega), ← hdm]
    · rw [e2, zup_eq, upd_ne (hj r0 p0 hm (by omega))]
      exact g2 j (fun r p hp hlt => hj r p hp (by omega))
theorem mw_scan {i l n a y z Z T R : Nat} {W : zMem} {K : Int32 → Int32 → zMem → Prop} {Q : Int32 → zMem → Prop} (hi : i < 4) (n1 : 1 ≤ n) (n8 : n ≤ 8) (z5 : z ≤ 5) (e0 : W 4 0 = nI n) (hl : l < 3) (w16 : W 16 i = nI l) (w17 : W 17 i = nI Z) (hZ : Z ≤ 40) (ha : a < 2147483648) (hT : T = Z - a) (hR : R = min z (T / n))
    (hbad : ∀ r, r < R → (∀ r', r' < r → rgd (fun j => W 18 (40 * i + a + j)) n r') → ¬ rgd (fun j => W 18 (40 * i + a + j)) n r → Q (-20 - nI r) W)
    (hok : (∀ r, r < R → rgd (fun j => W 18 (40 * i + a + j)) n r) → K (if R = z then 0 else 2) (nI R) W) : ∃ k, zlp4 (wpB_Model_read_78 (nI i) (nI l) (nI a) (nI y) (nI z) K Q) k 0 0 1 0 W := by
  have nz : n * z ≤ 40 := by
    have := Nat.mul_le_mul n8 z5
    omega
  have w0 : W 4 (ix 0) = nI n := e0
  have v4 : vp_in (nI i) 4 := vp_in_nI (by omega) (by omega)
  generalize hV : (fun j => W 18 (40 * i + a + j)) = V at hbad hok
  have Vj : ∀ j, W 18 (40 * i + a + j) = V j := fun j => by rw [← hV]
  refine zlp4_r (fun m x6 x7 x8 x9 W' => W' = W ∧ ((x6 = 0 ∧ ∃ r p, p < n ∧ x9 = nI (r * n + p) ∧ x7 = nI r ∧ r * n + p ≤ n * z ∧ (∀ r', r' < r → rgd V n r') ∧ r * n + p ≤ T ∧ ((x8 = 1 ∧ ∀ p', p' < p → 1 ≤ V (r * n + p') ∧ V (r * n + p') ≤ 9) ∨ (x8 = 0 ∧ ∃ p', p' < p ∧ ¬ (1 ≤ V (r * n + p') ∧ V (r * n + p') ≤ 9))) ∧ m = n * z + 1 - (r * n + p)) ∨ (x6 = 2 ∧ x7 = nI R ∧ R ≠ z ∧ ∀ r', r' < R → rgd V n r'))) ?_ (n := n * z + 1) ⟨rfl, Or.inl ⟨rfl, 0, 0, by omega, by rw [Nat.zero_mul]; rfl, rfl, by omega, fun _ h => absurd h (by omega), by omega, Or.inl ⟨rfl, fun _ h => absurd h (by omega)⟩, by omega⟩⟩
  rintro m x6 x7 x8 x9 W' ⟨rfl, hc⟩ J hJ
  unfold wpB_Model_read_78
  rw [w0, q_mul]
  refine ⟨vp_in_nI (n := 0) (by omega) (by omega), ?_⟩
  rcases hc with ⟨rfl, r, p, hp, rfl, rfl, hle, hg, hleT, hx8, rfl⟩ | ⟨rfl, rfl, hne, hg⟩
  · refine ⟨fun c => ?_, fun c => ⟨fun q => absurd rfl q, fun _ => ⟨v4, ?_⟩⟩⟩
    · have e : r * n + p = n * z := by
        have := (nI_leI (by omega) (by omega)).mp c
        omega
      have hz : r = z := by
        have h1 := dm_u hp e
        have h2 := dm_u (r := z) (p := 0) (n := n) (c := n * z) (by omega) (by rw [Nat.mul_comm, Nat.add_zero])
        omega
      have hRz : R = z := by
        have : z ≤ T / n := (Nat.le_div_iff_mul_le (by omega)).mpr (by rw [Nat.mul_comm]; omega)
        omega
      have k := hok (fun r' hr' => hg r' (by omega))
      rw [if_pos hRz, hRz, ← hz] at k
      exact k
    · have hlt : r * n + p < n * z := by
        rcases Nat.lt_or_ge (r * n + p) (n * z) with w | w
        · exact w
        · exact absurd ((nI_leI (by omega) (by omega)).mpr w) c
      have hrz : r < z := by
        rcases Nat.lt_or_ge r z with w | w
        · exact w
        · have := Nat.mul_le_mul_right n w
          rw [Nat.mul_comm z n] at this
          omega
      have e16 : W' 16 (ix (nI i)) = nI l := by rw [q_ix (by omega)]; exact w16
      have e17 : W' 17 (ix (nI i)) = nI Z := by rw [q_ix (by omega)]; exact w17
      have nm4 : ¬ nI l = -4 := fun w => absurd w (by rcases (show l = 0 ∨ l = 1 ∨ l = 2 by omega) with rfl | rfl | rfl <;> decide)
      rw [e16, e17]
      refine ⟨fun _ => ⟨v4, fun _ => ⟨v4, ?_⟩, fun q => absurd rfl q⟩, fun q => absurd q nm4⟩
      refine in_cell ha (by omega) hZ (fun c1 => ⟨fun _ => ?_, fun q => absurd q (by decide)⟩) (fun c1 => ⟨fun q => absurd rfl q, fun _ => ?_⟩)
      · -- a cell of the sheet
        have hT1 : r * n + p + 1 ≤ T := by omega
        have e1 : nI (r * n + p) + 1 = nI (r * n + p + 1) := nI_1 _
        have end195 : ∀ s : Int32, ((s = 1 ∧ ∀ p', p' < p + 1 → 1 ≤ V (r * n + p') ∧ V (r * n + p') ≤ 9) ∨ (s = 0 ∧ ∃ p', p' < p + 1 ∧ ¬ (1 ≤ V (r * n + p') ∧ V (r * n + p') ≤ 9))) → wpJ_Model_read_195 (nI i) (nI l) (nI a) (nI y) (nI z) K J Q 0 (nI r) (nI (r * n + p)) s W' := fun s hs => by
          unfold wpJ_Model_read_195
          rw [w0, e1, pk_rem (by omega) (by omega) (by omega)]
          refine ⟨vp_in_nI (n := 0) (by omega) (by omega), nI_ne0 (by omega) (by omega), fun cm x ex => ?_, fun cm => ?_⟩
          · have hpn : p + 1 < n := by
              rcases Nat.lt_or_ge (p + 1) n with w | w
              · exact w
              · have : (r * n + p + 1) % n = 0 := (dm_u (r := r + 1) (p := 0) (n := n) (c := r * n + p + 1) (by omega) (by rw [Nat.succ_mul]; omega)).2
                rw [this] at cm
                exact absurd rfl cm
            rw [ex]
            exact hJ (n * z + 1 - (r * n + (p + 1))) _ _ _ _ _ (by omega) ⟨rfl, Or.inl ⟨rfl, r, p + 1, hpn, rfl, rfl, by omega, hg, by omega, hs, rfl⟩⟩
          · have hpn : p + 1 = n := by
              rcases Nat.lt_or_ge (p + 1) n with w | w
              · have h2 : (r * n + p + 1) % n = p + 1 := (dm_u (r := r) (p := p + 1) (n := n) (c := r * n + p + 1) w (by omega)).2
                rw [h2] at cm
                exact absurd cm (nI_ne0 (by omega) (by omega))
              · omega
            have hRn : (r + 1) * n = r * n + p + 1 := by rw [Nat.succ_mul]; omega
            refine ⟨fun s0 x ex x2 ex2 => ?_, fun s0 => ?_⟩
            · rcases hs with ⟨s1, hs⟩ | ⟨s1, -⟩
              · rw [ex, ex2, nI_1]
                refine hJ (n * z + 1 - ((r + 1) * n + 0)) _ _ _ _ _ (by omega) ⟨rfl, Or.inl ⟨rfl, r + 1, 0, by omega, by rw [hRn], rfl, by omega, fun r' hr' => ?_, by omega, Or.inl ⟨s1, fun _ h => absurd h (by omega)⟩, rfl⟩⟩
                rcases Nat.lt_or_ge r' r with w | w
                · exact hg r' w
                · rw [show r' = r by omega]
                  exact fun p' hp' => hs p' (by omega)
              · exact absurd s1 s0
            · rcases hs with ⟨s1, -⟩ | ⟨-, p', hp', hb⟩
              · rw [s1] at s0
                exact absurd s0 (by decide)
              · have hrR : r < R := by
                  have : r + 1 ≤ T / n := (Nat.le_div_iff_mul_le (by omega)).mpr (by omega)
                  omega
                exact hbad r hrR hg (fun w => hb (w p' (by omega)))
        have e40 : (40 : Int32) * nI i + nI a + nI (r * n + p) = nI (40 * i + a + (r * n + p)) := by rw [show (40 : Int32) = nI 40 from rfl, q_mul, q_add, q_add]
        refine ⟨fun q => absurd rfl q, fun _ => ⟨fun c8 => ?_, fun c8 => ?_⟩⟩
        · rcases hx8 with ⟨w, -⟩ | ⟨-, p', hp', hb⟩
          · rw [w] at c8; exact absurd c8 (by decide)
          · exact end195 0 (Or.inr ⟨rfl, p', by omega, hb⟩)
        · rcases hx8 with ⟨-, hv⟩ | ⟨w, -⟩
          · rw [e40, q_ix (by omega), Vj]
            refine ⟨vp_in_nI (by omega) (by omega), mt_in (lo' := 1) (hi' := 9) rfl rfl (fun d1 d2 => ⟨fun q => absurd q (by decide), fun _ => end195 1 (Or.inl ⟨rfl, fun p' hp' => ?_⟩)⟩) (fun d => ⟨fun _ => end195 0 (Or.inr ⟨rfl, p, by omega, d⟩), fun q => absurd rfl q⟩)⟩
            rcases Nat.lt_or_ge p' p with w | w
            · exact hv p' w
            · rw [show p' = p by omega]; exact ⟨d1, d2⟩
          · exact absurd w c8
      · -- past the end of the sheet
        have hTe : r * n + p = T := by omega
        have hRr : R = r := by
          have := (dm_u hp hTe).1
          omega
        refine ⟨fun _ x ex => ?_, fun q => absurd q (by decide)⟩
        refine hJ 0 _ _ _ _ _ (by omega) ⟨rfl, Or.inr ⟨rfl, by rw [hRr], by omega, fun r' hr' => hg r' (by omega)⟩⟩
  · have k := hok hg
    rw [if_neg hne] at k
    exact ⟨fun _ => k, fun _ => ⟨fun _ => k, fun q => absurd q (by decide)⟩⟩
theorem xt_pace1 {v : Int32} {M : zMem} {Q : Int32 → zMem → Prop} (h1 : 1 ≤ v → v ≤ 9 → Q 1 M) (h0 : ¬ (1 ≤ v ∧ v ≤ 9) → Q 0 M) : wp_Main_isPace v M Q := ⟨fun c => h0 (fun q => absurd c (Int32.not_lt.mpr q.1)), fun c => ⟨fun c2 => h0 (fun q => absurd c2 (Int32.not_lt.mpr q.2)), fun c2 => h1 (Int32.not_lt.mp c) (Int32.not_lt.mp c2)⟩⟩
theorem xt_aloneP {k b n : Nat} {M : zMem} {Q : Int32 → zMem → Prop} (hn : M 1 0 = nI n) (n8 : n ≤ 8) (hb : b + n ≤ 40) (h1 : (∀ p, p < n → 1 ≤ M (k + 1) (b + p) ∧ M (k + 1) (b + p) ≤ 9) → Q 1 M) (h0 : (∃ p, p < n ∧ ¬ (1 ≤ M (k + 1) (b + p) ∧ M (k + 1) (b + p) ≤ 9)) → Q 0 M) : wp_Main_hasPacesAlone k (nI b) M Q := by
  refine zlp1_r (fun m x M' => ∃ p, x = nI p ∧ p ≤ n ∧ m = n - p ∧ M' = M ∧ ∀ p', p' < p → 1 ≤ M (k + 1) (b + p') ∧ M (k + 1) (b + p') ≤ 9) ?_ (n := n) ⟨0, rfl, by omega, rfl, rfl, fun _ h => absurd h (by omega)⟩
  rintro m x M' ⟨p, rfl, hp, rfl, rfl, hv⟩ J hJ
  unfold wpB_Main_hasPacesAlone_2
  rw [hn]
  refine ⟨fun c => ?_, fun c => ?_⟩
  · have := (nI_leI (by omega) (by omega)).mp c
    exact h1 (fun p' hp' => hv p' (by omega))
  · have hp2 : p < n := by
      rcases Nat.lt_or_ge p n with w | w
      · exact w
      · exact absurd ((nI_leI (by omega) (by omega)).mpr w) c
    rw [q_add, q_ix (by omega)]
    refine ⟨vp_in_nI (by omega) (by omega), xt_pace1 (fun d1 d2 => ⟨fun _ y ey => ?_, fun q => absurd q (by decide)⟩) (fun d => ⟨fun q => absurd rfl q, fun _ => h0 ⟨p, hp2, d⟩⟩)⟩
    rw [ey, nI_1]
    refine hJ (n - (p + 1)) _ _ (by omega) ⟨p + 1, rfl, by omega, rfl, rfl, fun p' hp' => ?_⟩
    rcases Nat.lt_or_ge p' p with w | w
    · exact hv p' w
    · rw [show p' = p by omega]; exact ⟨d1, d2⟩
theorem xt_copyP {k b y n : Nat} {M : zMem} {Q : zMem → Prop} (hk : k + 1 ≠ 4) (hn : M 1 0 = nI n) (n8 : n ≤ 8) (hb : b + n ≤ 40) (hy : y < 5) (hQ : ∀ M', (∀ p, p < n → M' 4 (y * 8 + p) = M (k + 1) (b + p)) → (∀ j, (∀ p, p < n → j ≠ y * 8 + p) → M' 4 j = M 4 j) → (∀ c, c ≠ 4 → M' c = M c) → Q M') : wp_Main_copyPaces k (nI b) (nI y) M Q := by
  refine zlp1_r (fun m x M' => ∃ p, x = nI p ∧ p ≤ n ∧ m = n - p ∧ (∀ p', p' < p → M' 4 (y * 8 + p') = M (k + 1) (b + p')) ∧ (∀ j, (∀ p', p' < p → j ≠ y * 8 + p') → M' 4 j = M 4 j) ∧ (∀ c, c ≠ 4 → M' c = M c)) ?_ (n := n) ⟨0, rfl, by omega, rfl, fun _ h => absurd h (by omega), fun _ _ => rfl, fun _ _ => rfl⟩
  rintro m x M' ⟨p, rfl, hp, rfl, g1, g2, g3⟩ J hJ
  unfold wpB_Main_copyPaces_3
  rw [show M' 1 0 = nI n by rw [g3 1 (by omega)]; exact hn]
  refine ⟨fun c => ?_, fun c => ?_⟩
  · have := (nI_leI (by omega) (by omega)).mp c
    exact hQ M' (fun p' hp' => g1 p' (by omega)) (fun j hj => g2 j (fun p' hp' => hj p' (by omega))) g3
  · have hp2 : p < n := by
      rcases Nat.lt_or_ge p n with w | w
      · exact w
      · exact absurd ((nI_leI (by omega) (by omega)).mpr w) c
    have e8 : nI y * 8 + nI p = nI (y * 8 + p) := by rw [show (8 : Int32) = nI 8 from rfl, q_mul, q_add]
    rw [e8, q_add, q_ix (by omega), q_ix (by omega)]
    refine ⟨vp_in_nI (by omega) (by omega), vp_in_nI (by omega) (by omega), fun M2 e2 x ex => ?_⟩
    rw [ex, nI_1]
    refine hJ (n - (p + 1)) _ _ (by omega) ⟨p + 1, rfl, by omega, rfl, fun p' hp' => ?_, fun j hj => ?_, fun c hc => by rw [e2, zup_ne hc]; exact g3 c hc⟩
    · rw [e2, zup_eq]
      by_cases w : p' = p
      · rw [w, upd_eq, g3 (k + 1) hk]
      · rw [upd_ne (by omega)]; exact g1 p' (by omega)
    · rw [e2, zup_eq, upd_ne (hj p (by omega))]
      exact g2 j (fun p' hp' => hj p' (by omega))
theorem xt_loops {i n R a y : Nat} {a1 a2 a3 a5 f : Int32} {M : zMem} {Q : Int32 → zMem → Prop} (hn : M 1 0 = nI n) (n1 : 1 ≤ n) (n8 : n ≤ 8) (hy : y + R ≤ 5) (ha : 0 < R → a3 = nI a ∧ a + n * R ≤ 40)
    (hbad : ∀ r, r < R → (∀ r', r' < r → rgd (fun j => M (81 + 2 * i + 1) (a + j)) n r') → ¬ rgd (fun j => M (81 + 2 * i + 1) (a + j)) n r → Q (-20 - nI r) M)
    (hok : (∀ r, r < R → rgd (fun j => M (81 + 2 * i + 1) (a + j)) n r) → ∀ M', (∀ r p, r < R → p < n → M' 4 ((y + r) * 8 + p) = M (81 + 2 * i + 1) (a + (r * n + p))) → (∀ j, (∀ r p, r < R → p < n → j ≠ (y + r) * 8 + p) → M' 4 j = M 4 j) → M' 0 13 = f → (∀ j, j ≠ 13 → M' 0 j = M 0 j) → (R = 0 → ∀ c, c ≠ 0 → M' c = M c) → (0 < R → M' 29 2 = 0 ∧ M' 54 0 = 0 ∧ M' 60 0 = 0 ∧ ∀ q, q < 120 → M' 58 q = 0) → (∀ c, c ≠ 0 → c ≠ 4 → c ≠ 29 → c ≠ 54 → c ≠ 58 → c ≠ 60 → M' c = M c) → Q (nI R) M') : ∃ k, zlp1 (wpB_Main_read_116 a1 a2 a3 (nI y) a5 (81 + 2 * i) f (nI R) (fun (zm12 : zMem) => ∃ n : Nat, zlp1 (wpB_Main_read_159 a1 a2 a3 (nI y) a5 (81 + 2 * i) f (nI R) Q) n 0 zm12) Q) k 0 M := by
  have mul : ∀ r, r < R → r * n + n ≤ n * R := fun r hr => by
    have := Nat.mul_le_mul_right n (show r + 1 ≤ R by omega)
    rw [Nat.succ_mul, Nat.mul_comm R n] at this
    exact this
  refine zlp1_r (fun m x M' => ∃ r, x = nI r ∧ r ≤ R ∧ m = R - r ∧ M' = M ∧ ∀ r', r' < r → rgd (fun j => M (81 + 2 * i + 1) (a + j)) n r') ?_ (n := R) ⟨0, rfl, by omega, rfl, rfl, fun _ h => absurd h (by omega)⟩
  rintro m x M1 ⟨r, rfl, hr, rfl, rfl, hg⟩ J hJ
  unfold wpB_Main_read_116
  refine ⟨fun c => ?_, fun c => ?_⟩
  · have hrR := (nI_leI (by omega) (by omega)).mp c
    have hg' : ∀ r, r < R → rgd (fun j => M1 (81 + 2 * i + 1) (a + j)) n r := fun r' hr' => hg r' (by omega)
    refine zlp1_r (fun m x M' => ∃ r, x = nI r ∧ r ≤ R ∧ m = R - r ∧ (∀ r' p, r' < r → p < n → M' 4 ((y + r') * 8 + p) = M1 (81 + 2 * i + 1) (a + (r' * n + p))) ∧ (∀ j, (∀ r' p, r' < r → p < n → j ≠ (y + r') * 8 + p) → M' 4 j = M1 4 j) ∧ (∀ c, c ≠ 4 → M' c = M1 c)) ?_ (n := R) ⟨0, rfl, by omega, rfl, fun _ _ h => absurd h (by omega), fun _ _ => rfl, fun _ _ => rfl⟩
    rintro m x M' ⟨r, rfl, hr, rfl, g1, g2, g3⟩ J hJ
    unfold wpB_Main_read_159
    rw [show M' 1 0 = nI n by rw [g3 1 (by omega)]; exact hn]
    refine ⟨fun c M2 e2 => ?_, fun c => ?_⟩
    · have hrR := (nI_leI (by omega) (by omega)).mp c
      have k1 : ∀ r p, r < R → p < n → M' 4 ((y + r) * 8 + p) = M1 (81 + 2 * i + 1) (a + (r * n + p)) := fun r' p hr' hp => g1 r' p (by omega) hp
      have k2 : ∀ j, (∀ r p, r < R → p < n → j ≠ (y + r) * 8 + p) → M' 4 j = M1 4 j := fun j hj => g2 j (fun r' p hr' hp => hj r' p (by omega) hp)
      refine ⟨fun c0 => ?_, fun c0 => ?_⟩
      · have R0 : R = 0 := by
          have := (nI_leI (b := 0) (by omega) (by omega)).mp c0
          omega
        have m4 : M' 4 = M1 4 := funext (fun j => k2 j (fun r' p hr' => absurd hr' (by omega)))
        refine hok hg' M2 (fun r' p hr' hp => absurd hr' (by omega)) (fun j _ => by rw [e2, zup_ne (by omega), m4]) (by rw [e2, zup_eq, upd_eq]) (fun j hj => by rw [e2, zup_eq, upd_ne hj, g3 0 (by omega)]) (fun _ c hc => ?_) (fun w => absurd w (by omega)) (fun c c0 c4 _ _ _ _ => by rw [e2, zup_ne c0]; exact g3 c c4)
        rw [e2, zup_ne hc]
        by_cases w : c = 4
        · rw [w]; exact m4
        · exact g3 c w
      · have R0 : 0 < R := by
          rcases Nat.eq_zero_or_pos R with w | w
          · exact absurd (by rw [w]; decide) c0
          · exact w
        unfold wp_Main_forgetAnswers
        intro A2 b2 A3 b3 A4 b4
        refine xt_forget (fun A5 q1 q2 => ?_)
        have cA : ∀ c, c ≠ 29 → c ≠ 54 → c ≠ 58 → c ≠ 60 → A5 c = M2 c := fun c c2 c3 c4 c5 => by rw [q2 c c4, b4, zup_ne c5, b3, zup_ne c3, b2, zup_ne c2]
        refine hok hg' A5 (fun r' p hr' hp => by rw [cA 4 (by omega) (by omega) (by omega) (by omega), e2, zup_ne (by omega)]; exact k1 r' p hr' hp) (fun j hj => by rw [cA 4 (by omega) (by omega) (by omega) (by omega), e2, zup_ne (by omega)]; exact k2 j hj) (by rw [cA 0 (by omega) (by omega) (by omega) (by omega), e2, zup_eq, upd_eq]) (fun j hj => by rw [cA 0 (by omega) (by omega) (by omega) (by omega), e2, zup_eq, upd_ne hj, g3 0 (by omega)]) (fun w => absurd w (by omega)) (fun _ => ⟨?_, ?_, ?_, q1⟩) (fun c c0 c4 c5 c6 c7 c8 => by rw [cA c c5 c6 c7 c8, e2, zup_ne c0]; exact g3 c c4)
        · rw [q2 29 (by omega), b4, zup_ne (by omega), b3, zup_ne (by omega), b2, zup_eq, upd_eq]
        · rw [q2 54 (by omega), b4, zup_ne (by omega), b3, zup_eq, upd_eq]
        · rw [q2 60 (by omega), b4, zup_eq, upd_eq]
    · have hr2 : r < R := by
        rcases Nat.lt_or_ge r R with w | w
        · exact w
        · exact absurd ((nI_leI (by omega) (by omega)).mpr w) c
      obtain ⟨ea, hab⟩ := ha (by omega)
      have hm := mul r hr2
      rw [ea, q_mul, q_add, q_add]
      refine xt_copyP (k := 81 + 2 * i) (b := a + r * n) (y := y + r) (n := n) (by omega) (by rw [g3 1 (by omega)]; exact hn) n8 (by omega) (by omega) (fun M2 u1 u2 u3 x ex => ?_)
      rw [ex, nI_1]
      refine hJ (R - (r + 1)) _ _ (by omega) ⟨r + 1, rfl, by omega, rfl, fun r' p hr' hp => ?_, fun j hj => ?_, fun c hc => (u3 c hc).trans (g3 c hc)⟩
      · by_cases w : r' = r
        · rw [w, u1 p hp, g3 _ (by omega), Nat.add_assoc a (r * n) p]
        · rw [u2 _ (fun p' hp' => by omega)]
          exact g1 r' p (by omega) hp
      · rw [u2 j (fun p' hp' => hj r p' (by omega) hp')]
        exact g2 j (fun r' p hr' hp => hj r' p (by omega) hp)
  · have hr2 : r < R := by
      rcases Nat.lt_or_ge r R with w | w
      · exact w
      · exact absurd ((nI_leI (by omega) (by omega)).mpr w) c
    obtain ⟨ea, hab⟩ := ha (by omega)
    have hm := mul r hr2
    rw [ea, hn, q_mul, q_add]
    refine xt_aloneP (k := 81 + 2 * i) (b := a + r * n) hn n8 (by omega) (fun h1 => ⟨fun _ x ex => ?_, fun q => absurd q (by decide)⟩) (fun h0 => ⟨fun q => absurd rfl q, fun _ => ?_⟩)
    · rw [ex, nI_1]
      refine hJ (R - (r + 1)) _ _ (by omega) ⟨r + 1, rfl, by omega, rfl, rfl, fun r' hr' => ?_⟩
      rcases Nat.lt_or_ge r' r with w | w
      · exact hg r' w
      · rw [show r' = r by omega]
        intro p hp
        have := h1 p hp
        rw [Nat.add_assoc a (r * n) p] at this
        exact this
    · obtain ⟨p, hp, hb⟩ := h0
      refine hbad r hr2 hg (fun w => hb ?_)
      have := w p hp
      rw [Nat.add_assoc a (r * n) p]
      exact this
theorem mw_readG {n H L i l y z : Nat} {a3 : Int32} {M W : zMem} {Q : Int32 → zMem → Prop} (vt : sp_vt M 1 n H L) (r : rt0 W M n H L) (st : pst W M n H L) (hi : i < 4) (hl : l < 3) (hy : y < 2147483648) (hz : z ≤ 5)
    (h0 : ¬ y + z ≤ H → Q (-1) W) (h1 : y + z ≤ H → ∀ W1, W1 0 24 = 1 → pr W1 M n H → awf W W1 → ∃ k, zlp4 (wpB_Model_read_78 (nI i) (nI l) a3 (nI y) (nI z) (fun (zx18 : Int32) (zx19 : Int32) (zm17 : zMem) => ∃ n : Nat, zlp1 (wpB_Model_read_234 (nI i) (nI l) a3 (nI y) (nI z) zx18 zx19 Q) n 0 zm17) Q) k 0 0 1 0 W1) : wp_Model_read (nI i) (nI l) a3 (nI y) (nI z) W Q := by
  obtain ⟨⟨n1, n8, H1, H5, L1, L6⟩, hn, hH, -⟩ := id vt
  refine in_yes (hi := 3) rfl (by omega) (by omega) ⟨fun q => absurd q (by decide), fun _ => in_yes (hi := 2) rfl (by omega) (by omega) ⟨fun q => absurd q (by decide), fun _ => ⟨fun q => absurd q (nI_pos hy), fun _ => ?_⟩⟩⟩
  refine in_yes (hi := 5) rfl (by omega) (by omega) ⟨fun q => absurd q (by decide), fun _ => ⟨vp_in_nI (n := 1) (by omega) (by omega), ?_⟩⟩
  rw [show ix 1 = 1 from rfl, r.2.1, q_l64 hy, q_l64 (by omega), q_l64 (by omega), lN_add]
  refine ⟨fun c => ?_, fun c => h0 (fun q => c (Eq.mpr (cmp_le (y + z) H (by omega) (by omega)) q))⟩
  have hle := Eq.mp (cmp_le (y + z) H (by omega) (by omega)) c
  exact mt_awake vt r st (fun W1 h24 hp f => h1 hle W1 h24 hp f)
/-- the reference finds a fault at the first number -/
theorem mw_scan0 {i l n y z : Nat} {a3 f : Int32} {W : zMem} {K : Int32 → Int32 → zMem → Prop} {Q : Int32 → zMem → Prop} (hi : i < 4) (n1 : 1 ≤ n) (n8 : n ≤ 8) (z5 : z ≤ 5) (e0 : W 4 0 = nI n) (hl : l < 3)
    (hf : (z = 0 ∧ f = 0) ∨ (0 < z ∧ ((W 16 i = -4 ∧ f = 1) ∨ (∃ l', l' < 3 ∧ l' ≠ l ∧ W 16 i = nI l' ∧ f = 3) ∨ (∃ Z, Z ≤ 40 ∧ W 16 i = nI l ∧ W 17 i = nI Z ∧ a3 < 0 ∧ f = 2)))) (hok : K f 0 W) : ∃ k, zlp4 (wpB_Model_read_78 (nI i) (nI l) a3 (nI y) (nI z) K Q) k 0 0 1 0 W := by
  have nz : n * z ≤ 40 := by
    have := Nat.mul_le_mul n8 z5
    omega
  have w0 : W 4 (ix 0) = nI n := e0
  have v4 : vp_in (nI i) 4 := vp_in_nI (by omega) (by omega)
  have nm4 : ∀ l', l' < 3 → ¬ nI l' = -4 := fun l' hl' w => absurd w (by rcases (show l' = 0 ∨ l' = 1 ∨ l' = 2 by omega) with rfl | rfl | rfl <;> decide)
  refine zlp4_r (fun m x6 x7 x8 x9 W' => W' = W ∧ x7 = 0 ∧ ((m = 1 ∧ x6 = 0 ∧ x8 = 1 ∧ x9 = 0) ∨ (m = 0 ∧ x6 = f ∧ ¬ f = 0))) ?_ (n := 1) ⟨rfl, rfl, Or.inl ⟨rfl, rfl, rfl, rfl⟩⟩
  rintro m x6 x7 x8 x9 W' ⟨rfl, rfl, hx⟩ J hJ
  unfold wpB_Model_read_78
  rw [w0, q_mul]
  refine ⟨vp_in_nI (n := 0) (by omega) (by omega), ?_⟩
  rcases hx with ⟨rfl, rfl, rfl, rfl⟩ | ⟨rfl, rfl, hne⟩
  · rcases hf with ⟨hz0, hf0⟩ | ⟨hz0, hf⟩
    · rw [hf0] at hok
      exact ⟨fun _ => hok, fun c => absurd (by rw [hz0, Nat.mul_zero]; exact Int32.le_refl _) c⟩
    · have pos : 0 < n * z := Nat.mul_pos n1 hz0
      have go : ¬ f = 0 → wpJ_Model_read_153 (nI i) (nI l) a3 (nI y) (nI z) K J Q 0 1 0 f W' := fun hne => ⟨fun _ x ex => hJ 0 _ _ _ _ _ (by omega) ⟨rfl, rfl, Or.inr ⟨rfl, rfl, hne⟩⟩, fun q => absurd q hne⟩
      refine ⟨fun c => ?_, fun c => ⟨fun q => absurd rfl q, fun _ => ⟨v4, ?_⟩⟩⟩
      · have := (nI_leI (b := 0) (by omega) (by omega)).mp c
        omega
      rw [q_ix (by omega)]
      rcases hf with ⟨w, hf⟩ | ⟨l', hl', hne, w, hf⟩ | ⟨Z, hZ, w, w17, ha, hf⟩
      · refine ⟨fun q => absurd w q, fun _ => ?_⟩
        have g := go (by rw [hf]; decide)
        rw [hf] at g
        exact g
      · rw [w]
        refine ⟨fun _ => ⟨v4, fun q => absurd ((nI_eq (by omega) (by omega)).mp q) hne, fun _ => ?_⟩, fun q => absurd q (nm4 l' hl')⟩
        have g := go (by rw [hf]; decide)
        rw [hf] at g
        exact g
      · rw [w, w17]
        refine ⟨fun _ => ⟨v4, fun _ => ⟨v4, ?_⟩, fun q => absurd rfl q⟩, fun q => absurd q (nm4 l hl)⟩
        rw [show ((0 : Int32)).toInt64 = 0 from rfl, Int64.add_zero, e_in, if_neg]
        · refine ⟨fun q => absurd rfl q, fun _ => ?_⟩
          have g := go (by rw [hf]; decide)
          rw [hf] at g
          exact g
        · rintro ⟨u, -⟩
          have : (0 : Int32) ≤ a3 := i64_le.mp u
          exact absurd ha (Int32.not_lt.mpr this)
  · exact ⟨fun _ => hok, fun _ => ⟨fun _ => hok, fun q => absurd q hne⟩⟩
theorem xt_wholeR {k n z Z : Nat} {a3 : Int32} {M : zMem} {Q : Int32 → zMem → Prop} (n1 : 1 ≤ n) (n8 : n ≤ 8) (z5 : z ≤ 5) (hZ : Z ≤ 40) (e1 : M k 1 = nI Z) (h0 : a3 < 0 → Q 0 M) (h1 : ∀ a, a < 2147483648 → a3 = nI a → Q (nI (min z ((Z - a) / n))) M) : wp_Sheet_wholeRows k a3 (nI n) (nI z) M Q := by
  unfold wp_Sheet_wholeRows
  rw [e1]
  refine ⟨h0, fun c => ?_⟩
  obtain ⟨a, ha, rfl⟩ := nI_of c
  have h := h1 a ha rfl
  refine ⟨fun c1 => ?_, fun c1 => ⟨fun _ => ?_, fun q => absurd ((nI_leI (a := 1) (by omega) (by omega)).mpr n1) q⟩⟩
  · have := (nI_leI (by omega) (by omega)).mp c1
    rw [show Z - a = 0 by omega, Nat.zero_div, Nat.min_zero] at h
    exact h
  · have aZ : a < Z := by
      rcases Nat.lt_or_ge a Z with w | w
      · exact w
      · exact absurd ((nI_leI (by omega) (by omega)).mpr w) c1
    refine ⟨nI_ne0 (by omega) (by omega), fun x ex => ?_⟩
    rw [q_sub (by omega), pk_div (by omega) (by omega) (by omega)] at ex
    have hd : (Z - a) / n ≤ Z - a := Nat.div_le_self _ _
    subst ex
    refine ⟨fun c2 => ?_, fun c2 => ?_⟩
    · have := (nI_leI (by omega) (by omega)).mp c2
      rw [Nat.min_eq_left this] at h
      exact h
    · have : ¬ z ≤ (Z - a) / n := fun w => c2 ((nI_leI (by omega) (by omega)).mpr w)
      rw [Nat.min_eq_right (by omega)] at h
      exact h
theorem p_read {n H L : Nat} {M W : zMem} {a1 a2 a3 a4 a5 : Int32} {P : zMem → zMem → Prop} (vt : sp_vt M 1 n H L) (r : rt0 W M n H L) (st : pst W M n H L) (hs : shs M W) (hP0 : P M W)
    (hPw : ∀ W1, W1 0 24 = 1 → pr W1 M n H → awf W W1 → P M W1)
    (hP : ∀ R f M' W1 W', W1 0 24 = 1 → pr W1 M n H → awf W W1 → sp_vt M' 1 n H L → rt0 W' M' n H L → M' 0 13 = f → W' 0 39 = f → (∀ j, j ≠ 13 → M' 0 j = M 0 j) → (R = 0 → ∀ c, c ≠ 0 → M' c = M c) → (0 < R → M' 29 2 = 0 ∧ M' 54 0 = 0 ∧ M' 60 0 = 0 ∧ ∀ q, q < 120 → M' 58 q = 0) → (∀ c, c ≠ 0 → c ≠ 4 → c ≠ 29 → c ≠ 54 → c ≠ 58 → c ≠ 60 → M' c = M c) → (∀ c, c ≠ 0 → c ≠ 4 → W' c = W1 c) → (∀ j, j ≠ 39 → W' 0 j = W1 0 j) → P M' W') : wp_Main_read a1 a2 a3 a4 a5 M (fun x M' => wp_Model_read a1 a2 a3 a4 a5 W (fun y W' => x = y ∧ P M' W')) := by
  obtain ⟨⟨n1, n8, H1, H5, L1, L6⟩, hn, hH, -⟩ := id vt
  refine xt_isSheet (fun i hi ei => ⟨fun q => absurd q (by decide), fun _ => ?_⟩) (fun nh => ⟨fun _ => in_no (hi := 3) rfl nh ⟨fun _ => ⟨rfl, hP0⟩, fun q => absurd rfl q⟩, fun q => absurd rfl q⟩)
  subst ei
  refine xt_isLane (fun l hl el => ⟨fun q => absurd q (by decide), fun _ => ?_⟩) (fun nh => ⟨fun _ => in_yes (hi := 3) rfl (by omega) (by omega) ⟨fun q => absurd q (by decide), fun _ => in_no (hi := 2) rfl nh ⟨fun _ => ⟨rfl, hP0⟩, fun q => absurd rfl q⟩⟩, fun q => absurd rfl q⟩)
  subst el
  refine ⟨fun c => ?_, fun c => ?_⟩
  · exact in_yes (hi := 3) rfl (by omega) (by omega) ⟨fun q => absurd q (by decide), fun _ => in_yes (hi := 2) rfl (by omega) (by omega) ⟨fun q => absurd q (by decide), fun _ => ⟨fun _ => ⟨rfl, hP0⟩, fun q => absurd c q⟩⟩⟩
  obtain ⟨y, hy, rfl⟩ := nI_of c
  have bad : ¬ (0 ≤ a5 ∧ a5 ≤ 5) → wp_Model_read (nI i) (nI l) a3 (nI y) a5 W (fun v W' => -1 = v ∧ P M W') := fun nh => in_yes (hi := 3) rfl (by omega) (by omega) ⟨fun q => absurd q (by decide), fun _ => in_yes (hi := 2) rfl (by omega) (by omega) ⟨fun q => absurd q (by decide), fun _ => ⟨fun q => absurd q c, fun _ => in_no (hi := 5) rfl nh ⟨fun _ => ⟨rfl, hP0⟩, fun q => absurd rfl q⟩⟩⟩⟩
  refine ⟨fun c2 => bad (fun q => absurd c2 (Int32.not_lt.mpr q.1)), fun c2 => ⟨fun c3 => bad (fun q => absurd c3 (Int32.not_lt.mpr q.2)), fun c3 => ?_⟩⟩
  obtain ⟨z, hz, rfl⟩ := nI_of2 (x := a5) (M := 5) (n := 5) rfl c2 (Int32.not_lt.mp c3)
  rw [hH, q_ix (by omega)]
  have w40 : ∀ W1, awf W W1 → W1 4 0 = nI n := fun W1 f => by rw [f.1 4 (by omega) (by omega) (by omega) (by omega)]; exact r.1
  -- both sides run
  have run : ∀ (R a : Nat) (f : Int32), y + z ≤ H → R ≤ z → (0 < R → a3 = nI a ∧ a + n * R ≤ 40) → (∀ j, j < n * R → W 18 (40 * i + a + j) = M (81 + 2 * i + 1) (a + j)) →
      (∀ (W1 : zMem) (K : Int32 → Int32 → zMem → Prop) (Q : Int32 → zMem → Prop), awf W W1 → (∀ r, r < R → (∀ r', r' < r → rgd (fun j => W1 18 (40 * i + a + j)) n r') → ¬ rgd (fun j => W1 18 (40 * i + a + j)) n r → Q (-20 - nI r) W1) → ((∀ r, r < R → rgd (fun j => W1 18 (40 * i + a + j)) n r) → K f (nI R) W1) → ∃ k, zlp4 (wpB_Model_read_78 (nI i) (nI l) a3 (nI y) (nI z) K Q) k 0 0 1 0 W1) →
      ∃ k, zlp1 (wpB_Main_read_116 (nI i) (nI l) a3 (nI y) (nI z) (81 + 2 * i) f (nI R) (fun (zm12 : zMem) => ∃ n : Nat, zlp1 (wpB_Main_read_159 (nI i) (nI l) a3 (nI y) (nI z) (81 + 2 * i) f (nI R) (fun x M' => wp_Model_read (nI i) (nI l) a3 (nI y) (nI z) W (fun y W' => x = y ∧ P M' W'))) n 0 zm12) (fun x M' => wp_Model_read (nI i) (nI l) a3 (nI y) (nI z) W (fun y W' => x = y ∧ P M' W'))) k 0 M := fun R a f hle hRz ha hcell scan => by
    have mul : ∀ r p, r < R → p < n → r * n + p < n * R := fun r' p hr hp => by
      have := Nat.mul_le_mul_right n (show r' + 1 ≤ R by omega)
      rw [Nat.succ_mul, Nat.mul_comm R n] at this
      omega
    have w18 : ∀ W1, awf W W1 → W1 18 = W 18 := fun W1 f => f.1 18 (by omega) (by omega) (by omega) (by omega)
    have iff : ∀ W1, awf W W1 → ∀ r', r' < R → (rgd (fun j => W1 18 (40 * i + a + j)) n r' ↔ rgd (fun j => M (81 + 2 * i + 1) (a + j)) n r') := fun W1 f r' hr' => by
      have e : ∀ p, p < n → W1 18 (40 * i + a + (r' * n + p)) = M (81 + 2 * i + 1) (a + (r' * n + p)) := fun p hp => by rw [w18 W1 f]; exact hcell _ (mul r' p hr' hp)
      constructor
      · intro h p hp
        have := h p hp
        show 1 ≤ M (81 + 2 * i + 1) (a + (r' * n + p)) ∧ M (81 + 2 * i + 1) (a + (r' * n + p)) ≤ 9
        rw [← e p hp]; exact this
      · intro h p hp
        have := h p hp
        show 1 ≤ W1 18 (40 * i + a + (r' * n + p)) ∧ W1 18 (40 * i + a + (r' * n + p)) ≤ 9
        rw [e p hp]; exact this
    refine xt_loops (i := i) (R := R) (a := a) hn n1 n8 (by omega) ha (fun r0 hr0 hg hb => ?_) (fun hg M' k1 k2 k3 k4 k5 k6 k7 => ?_)
    · refine mw_readG vt r st hi hl hy hz (fun q => absurd hle q) (fun _ W1 h24 hp f => scan W1 _ _ f (fun r2 hr2 hg2 hb2 => ⟨?_, hPw W1 h24 hp f⟩) (fun hall => ?_))
      · have : r0 = r2 := by
          rcases Nat.lt_trichotomy r0 r2 with w | w | w
          · exact absurd ((iff W1 f r0 hr0).mp (hg2 r0 w)) hb
          · exact w
          · exact absurd ((iff W1 f r2 hr2).mpr (hg r2 w)) hb2
        rw [this]
      · exact absurd ((iff W1 f r0 hr0).mp (hall r0 hr0)) hb
    · refine mw_readG vt r st hi hl hy hz (fun q => absurd hle q) (fun _ W1 h24 hp f => scan W1 _ _ f (fun r2 hr2 hg2 hb2 => absurd ((iff W1 f r2 hr2).mpr (hg r2 hr2)) hb2) (fun hall => ?_))
      refine mw_copyR (a := a) hi n1 n8 (w40 W1 f) (by omega) ha (fun W' u1 u2 u3 u4 u5 => ⟨rfl, ?_⟩)
      have m4 : ∀ c, c = 1 ∨ c = 2 ∨ c = 3 ∨ c = 5 → M' c = M c := fun c hc => k7 c (by omega) (by omega) (by omega) (by omega) (by omega) (by omega)
      have W14 : W1 4 = W 4 := f.1 4 (by omega) (by omega) (by omega) (by omega)
      have W1lo : ∀ j, j < 60 → W' 4 j = W 4 j := fun j hj => by rw [u2 j (fun r' p _ _ => by omega), W14]
      refine hP R _ M' W1 W' h24 hp f ?_ ?_ k3 u4 k4 k5 k6 k7 u3 u5
      · obtain ⟨b0, i1, i2, i3, i4, i5, i6, i7, i8, i9, i10, i11, i12, i13, i14⟩ := id vt
        have e1 : M' 1 = M 1 := m4 1 (by omega)
        have e2 : M' (1 + 1) = M (1 + 1) := m4 2 (by omega)
        have e3 : M' (1 + 2) = M (1 + 2) := m4 3 (by omega)
        have e5 : M' (1 + 4) = M (1 + 4) := m4 5 (by omega)
        refine ⟨b0, by rw [e1]; exact i1, by rw [e1]; exact i2, by rw [e1]; exact i3, by rw [e1]; exact i4, by rw [e1]; exact i5, by rw [e1]; exact i6, by rw [e1]; exact i7, by rw [e2]; exact i8, by rw [e3]; exact i9, by rw [e3]; exact i10, fun h p hh hp => ?_, by rw [e5]; exact i12, by rw [e5]; exact i13, by rw [e1, e5]; exact i14⟩
        show ∃ c, 1 ≤ c ∧ c ≤ 9 ∧ M' 4 (h * 8 + p) = nI c
        by_cases w : y ≤ h ∧ h < y + R
        · have g := hg (h - y) (by omega) p hp
          have e := k1 (h - y) p (by omega) hp
          rw [show y + (h - y) = h by omega] at e
          have g' : 1 ≤ M (81 + 2 * i + 1) (a + ((h - y) * n + p)) ∧ M (81 + 2 * i + 1) (a + ((h - y) * n + p)) ≤ 9 := g
          obtain ⟨c0, hc9, ec⟩ := nI_of2 (x := M (81 + 2 * i + 1) (a + ((h - y) * n + p))) (M := 9) (n := 9) rfl (fun q => absurd (Int32.lt_of_lt_of_le q (by decide : (0 : Int32) ≤ 1)) (Int32.not_lt.mpr g'.1)) g'.2
          refine ⟨c0, ?_, hc9, e.trans ec⟩
          have := g'.1
          rw [ec] at this
          exact (nI_leI (a := 1) (by omega) (by omega)).mp this
        · obtain ⟨c0, c1, c9, ec⟩ := i11 h p hh hp
          refine ⟨c0, c1, c9, ?_⟩
          rw [k2 _ (fun r' p' hr' hp' => by omega)]
          exact ec
      · obtain ⟨r0, r1, r2, r3, r4, r5, r6, rrow, run', rpa, ren⟩ := id r
        refine ⟨by rw [W1lo 0 (by omega)]; exact r0, by rw [W1lo 1 (by omega)]; exact r1, by rw [W1lo 2 (by omega), m4 1 (by omega)]; exact r2, by rw [W1lo 3 (by omega), m4 1 (by omega)]; exact r3, by rw [W1lo 4 (by omega), m4 1 (by omega)]; exact r4, by rw [W1lo 5 (by omega), m4 1 (by omega)]; exact r5, by rw [W1lo 6 (by omega)]; exact r6, fun j hj => by rw [W1lo _ (by omega), m4 2 (by omega)]; exact rrow j hj, fun s p hs' hp' => by rw [W1lo _ (by omega), m4 3 (by omega)]; exact run' s p hs' hp', fun h p hh hp' => ?_, fun h hh => by rw [W1lo _ (by omega), m4 1 (by omega), m4 5 (by omega)]; exact ren h hh⟩
        by_cases w : y ≤ h ∧ h < y + R
        · have e := k1 (h - y) p (by omega) hp'
          have e' := u1 (h - y) p (by omega) hp'
          rw [show y + (h - y) = h by omega] at e e'
          rw [e, e', w18 W1 f]
          exact hcell _ (mul (h - y) p (by omega) hp')
        · rw [k2 _ (fun r' p' hr' hp'' => by omega), u2 _ (fun r' p' hr' hp'' => by omega), W14]
          exact rpa h p hh hp'
  have sc0 : ∀ f : Int32, ((z = 0 ∧ f = 0) ∨ (0 < z ∧ ((W 16 i = -4 ∧ f = 1) ∨ (∃ l', l' < 3 ∧ l' ≠ l ∧ W 16 i = nI l' ∧ f = 3) ∨ (∃ Z, Z ≤ 40 ∧ W 16 i = nI l ∧ W 17 i = nI Z ∧ a3 < 0 ∧ f = 2)))) → y + z ≤ H → ∃ k, zlp1 (wpB_Main_read_116 (nI i) (nI l) a3 (nI y) (nI z) (81 + 2 * i) f 0 (fun (zm12 : zMem) => ∃ n : Nat, zlp1 (wpB_Main_read_159 (nI i) (nI l) a3 (nI y) (nI z) (81 + 2 * i) f 0 (fun x M' => wp_Model_read (nI i) (nI l) a3 (nI y) (nI z) W (fun y W' => x = y ∧ P M' W'))) n 0 zm12) (fun x M' => wp_Model_read (nI i) (nI l) a3 (nI y) (nI z) W (fun y W' => x = y ∧ P M' W'))) k 0 M := fun f hf hle => by
    refine run 0 0 f hle (by omega) (fun w => absurd w (by omega)) (fun j hj => absurd hj (by omega)) (fun W1 K Q fa _ hk => ?_)
    have w16 : W1 16 = W 16 := fa.1 16 (by omega) (by omega) (by omega) (by omega)
    have w17 : W1 17 = W 17 := fa.1 17 (by omega) (by omega) (by omega) (by omega)
    exact mw_scan0 (n := n) hi n1 n8 hz (w40 W1 fa) hl (by rw [w16, w17]; exact hf) (hk (fun r' hr' => absurd hr' (by omega)))
  have eZ : ∃ Z, Z ≤ 40 ∧ M (81 + 2 * i) 1 = nI Z := by
    rcases hs i hi with ⟨-, s1, -⟩ | ⟨l', Z, hl', hZ, -, -, s1, -⟩
    · exact ⟨0, by omega, s1⟩
    · exact ⟨Z, hZ, s1⟩
  obtain ⟨Z, hZ, eZ⟩ := eZ
  refine ⟨fun c4 => ⟨vp_in_nI (by omega) (by omega), fun c5 => ?_, fun c5 => ?_⟩, fun c4 => ?_⟩
  · have hle := (sub_le (by omega) H5 hz).mp c4
    have z0 : 0 < z := Nat.pos_of_ne_zero (fun q => c5 (by rw [q]; rfl))
    unfold wp_Sheet_faultAs
    rcases hs i hi with ⟨s0, s1, w16⟩ | ⟨l', Z', hl', hZ', s0, w16, s1, w17, hcell⟩
    · refine ⟨fun q => absurd s0 q, fun _ => ⟨fun q => absurd q (by decide), fun _ => ⟨fun _ => sc0 1 (Or.inr ⟨z0, Or.inl ⟨w16, rfl⟩⟩) hle, fun q => absurd q (by decide)⟩⟩⟩
    · have nm1 : ¬ nI l' = -1 := fun w => absurd w (by rcases (show l' = 0 ∨ l' = 1 ∨ l' = 2 by omega) with rfl | rfl | rfl <;> decide)
      rw [s0]
      refine ⟨fun _ => ⟨fun c6 => ?_, fun c6 => ⟨fun q => absurd q (by decide), fun _ => ⟨fun _ => sc0 3 (Or.inr ⟨z0, Or.inr (Or.inl ⟨l', hl', fun w => c6 (by rw [w]), w16, rfl⟩)⟩) hle, fun q => absurd q (by decide)⟩⟩⟩, fun q => absurd q nm1⟩
      have ll : l' = l := (nI_eq (by omega) (by omega)).mp c6
      subst ll
      have ZZ : Z' = Z := (nI_eq (by omega) (by omega)).mp (s1.symm.trans eZ)
      subst ZZ
      refine ⟨fun _ => ?_, fun q => absurd rfl q⟩
      rw [hn]
      refine xt_wholeR n1 n8 hz hZ eZ (fun a0 => ⟨fun q => absurd rfl q, fun _ => ⟨fun q => ?_, fun _ => sc0 2 (Or.inr ⟨z0, Or.inr (Or.inr ⟨Z', hZ, w16, w17, a0, rfl⟩)⟩) hle⟩⟩) (fun a ha ea => ⟨fun q => absurd rfl q, fun _ => ?_⟩)
      · have := (nI_leI (b := 0) (by omega) (by omega)).mp q
        omega
      · have hRz : min z ((Z' - a) / n) ≤ z := Nat.min_le_left _ _
        have hRT : min z ((Z' - a) / n) ≤ (Z' - a) / n := Nat.min_le_right _ _
        have both : ∀ f : Int32, (f = if min z ((Z' - a) / n) = z then 0 else 2) → ∃ k, zlp1 (wpB_Main_read_116 (nI i) (nI l') a3 (nI y) (nI z) (81 + 2 * i) f (nI (min z ((Z' - a) / n))) (fun (zm12 : zMem) => ∃ kk : Nat, zlp1 (wpB_Main_read_159 (nI i) (nI l') a3 (nI y) (nI z) (81 + 2 * i) f (nI (min z ((Z' - a) / n))) (fun x M' => wp_Model_read (nI i) (nI l') a3 (nI y) (nI z) W (fun y W' => x = y ∧ P M' W'))) kk 0 zm12) (fun x M' => wp_Model_read (nI i) (nI l') a3 (nI y) (nI z) W (fun y W' => x = y ∧ P M' W'))) k 0 M := fun f hf => by
          generalize hR : min z ((Z' - a) / n) = R at hf hRz hRT
          have bd : 0 < R → a + n * R ≤ Z' := fun w => by
            have := (Nat.le_div_iff_mul_le (show 0 < n by omega)).mp hRT
            rw [Nat.mul_comm] at this
            have : 0 < n * R := Nat.mul_pos n1 w
            omega
          refine run R a f hle hRz (fun w => ⟨ea, by have := bd w; omega⟩) (fun j hj => ?_) (fun W1 K Q fa hb hk => ?_)
          · have R0 : 0 < R := by
              rcases Nat.eq_zero_or_pos R with w | w
              · rw [w, Nat.mul_zero] at hj; omega
              · exact w
            have := bd R0
            rw [Nat.add_assoc]
            exact hcell (a + j) (by omega)
          · have v16 : W1 16 i = nI l' := by rw [fa.1 16 (by omega) (by omega) (by omega) (by omega)]; exact w16
            have v17 : W1 17 i = nI Z' := by rw [fa.1 17 (by omega) (by omega) (by omega) (by omega)]; exact w17
            have := mw_scan (y := y) (K := K) (Q := Q) hi n1 n8 hz (w40 W1 fa) hl v16 v17 hZ ha rfl hR.symm hb (fun h => by rw [← hf]; exact hk h)
            rw [ea]
            exact this
        refine ⟨fun c7 => both 0 ?_, fun c7 => both 2 ?_⟩
        · have := (nI_leI (by omega) (by omega)).mp c7
          rw [if_pos (by omega)]
        · rw [if_neg (fun w => c7 (by rw [w]; exact Int32.le_refl _))]
  · have hle := (sub_le (by omega) H5 hz).mp c4
    have z0 : z = 0 := (nI_eq (b := 0) (by omega) (by omega)).mp c5
    have r0 := sc0 0 (Or.inl ⟨z0, rfl⟩) hle
    have z0' : nI z ≤ 0 := by rw [z0]; exact Int32.le_refl 0
    refine ⟨fun _ => ?_, fun q => absurd rfl q⟩
    rw [hn]
    refine xt_wholeR n1 n8 hz hZ eZ (fun _ => ⟨fun q => absurd rfl q, fun _ => ⟨fun _ => r0, fun q => absurd z0' q⟩⟩) (fun a ha ea => ?_)
    have e0 : nI (min z ((Z - a) / n)) = 0 := by rw [z0, Nat.zero_min]; rfl
    rw [e0]
    exact ⟨fun q => absurd rfl q, fun _ => ⟨fun _ => r0, fun q => absurd z0' q⟩⟩
  · exact mw_readG vt r st hi hl hy hz (fun _ => ⟨rfl, hP0⟩) (fun q => absurd ((sub_le (by omega) H5 hz).mpr q) c4)
theorem cr.mv {M M' : zMem} {n H L : Nat} (h : cr M n H L) (e : ∀ i, i ≤ 4 → M' (1 + i) = M (1 + i)) (e54 : M' 54 = M 54) : cr M' n H L := by
  rcases h with h | ⟨M0, Mc, a, b, c, d, f⟩
  · exact Or.inl (by rw [e54]; exact h)
  · refine Or.inr ⟨M0, Mc, a, b, fun i hi => (c i hi).trans (e i hi).symm, d, ?_⟩
    unfold sp_ro at f ⊢
    rw [e54]; exact f
theorem co.mv {M M' : zMem} {n H L : Nat} (h : co M n H L) (e : ∀ i, i ≤ 4 → M' (1 + i) = M (1 + i)) (e57 : M' 57 = M 57) (e58 : M' 58 = M 58) : co M' n H L := fun q hq => by
  rcases h q hq with h | ⟨o, h⟩
  · exact Or.inl (by rw [e58]; exact h)
  · exact Or.inr ⟨o, h.moved e (by rw [e57]) (by rw [e58])⟩
theorem cp.mv {M M' : zMem} {n H L : Nat} (h : cp M n H L) (e : ∀ i, i ≤ 4 → M' (1 + i) = M (1 + i)) (e60 : M' 60 = M 60) (e61 : M' 61 = M 61) : cp M' n H L := by
  rcases h with h | ⟨o, b, h1, h2, h3⟩
  · exact Or.inl (by rw [e60]; exact h)
  · refine Or.inr ⟨o, b, fun k hk => (h1 k hk).moved (fun i hi => e i (by omega)), h2, ?_⟩
    unfold pbk at h3 ⊢
    rw [e60, e61]; exact h3
theorem cc.mv {M M' : zMem} {n H L : Nat} (h : cc M n H L) (e : ∀ i, i ≤ 4 → M' (1 + i) = M (1 + i)) (f : ∀ k, 29 ≤ k → k ≤ 40 → M' k = M k) : cc M' n H L := by
  rcases h with h | ⟨m, R, m1, m2, e2, e3, ⟨M0, Mc, a, b, c, d, g⟩, hk⟩
  · exact Or.inl (by rw [f 29 (by omega) (by omega)]; exact h)
  · exact Or.inr ⟨m, R, m1, m2, by rw [f 29 (by omega) (by omega)]; exact e2, by rw [f 29 (by omega) (by omega)]; exact e3, ⟨M0, Mc, a, b, fun i hi => (c i hi).trans (e i hi).symm, d, g⟩, fun k k1 k2 => (f k (by omega) (by omega)).trans (hk k k1 k2)⟩
def Cas (M : zMem) (n H L : Nat) : Prop := cr M n H L ∧ co M n H L ∧ cp M n H L ∧ cc M n H L ∧ ztc (M 32 0) = 1
theorem Cas.mv {M M' : zMem} {n H L : Nat} (h : Cas M n H L) (e : ∀ i, i ≤ 4 → M' (1 + i) = M (1 + i)) (f : ∀ k, (29 ≤ k ∧ k ≤ 40) ∨ k = 54 ∨ k = 57 ∨ k = 58 ∨ k = 60 ∨ k = 61 → M' k = M k) : Cas M' n H L := ⟨h.1.mv e (f 54 (by omega)), h.2.1.mv e (f 57 (by omega)) (f 58 (by omega)), h.2.2.1.mv e (f 60 (by omega)) (f 61 (by omega)), h.2.2.2.1.mv e (fun k k1 k2 => f k (by omega)), by rw [f 32 (by omega)]; exact h.2.2.2.2⟩
theorem Cas.no {M : zMem} {n H L : Nat} (h54 : M 54 0 = 0) (h58 : ∀ q, q < 120 → M 58 q = 0) (h60 : M 60 0 = 0) (h29 : M 29 2 = 0) (h32 : ztc (M 32 0) = 1) (H5 : H ≤ 5) : Cas M n H L := ⟨Or.inl h54, fun q hq => Or.inl (h58 q (by have := so_f_le H (by omega); omega)), Or.inl h60, Or.inl h29, h32⟩
theorem pst.mv {W W' M M' : zMem} {n H L : Nat} (st : pst W M n H L) (vt : sp_vt M 1 n H L) (eM : ∀ c, (1 ≤ c ∧ c ≤ 5) ∨ (18 ≤ c ∧ c ≤ 26) → M' c = M c) (e24 : W' 0 24 = W 0 24) (e6 : ∀ j, j < 96 → W' 6 j = W 6 j) : pst W' M' n H L := by
  have H5 : H ≤ 5 := vt.1.2.2.2.1
  have n8 : n ≤ 8 := vt.1.2.1
  rcases st with ⟨a, p⟩ | ⟨a, z, M0, Mc, hc, ok, eq⟩
  · exact Or.inl ⟨e24.trans a, pr_cong H5 n8 (p.moved H5 n8 e6) (bsl.of (fun c c1 c2 => eM c (by omega)))⟩
  · refine Or.inr ⟨e24.trans a, fun j hj => (e6 j hj).trans (z j hj), ?_⟩
    have A1 : ∀ (X : zMem) (c : Nat), (1 ≤ c ∧ c ≤ 5) ∨ (18 ≤ c ∧ c ≤ 26) → (fun c => if (1 ≤ c ∧ c ≤ 5) ∨ (18 ≤ c ∧ c ≤ 26) then X c else M' c) c = X c := fun X c hc => if_pos hc
    have A0 : ∀ (X : zMem) (c : Nat), ¬ ((1 ≤ c ∧ c ≤ 5) ∨ (18 ≤ c ∧ c ≤ 26)) → (fun c => if (1 ≤ c ∧ c ≤ 5) ∨ (18 ≤ c ∧ c ≤ 26) then X c else M' c) c = M' c := fun X c hc => if_neg hc
    have c1 := A1 M0
    have c0 := A0 M0
    have d1 := A1 Mc
    have d0 := A0 Mc
    generalize (fun c => if (1 ≤ c ∧ c ≤ 5) ∨ (18 ≤ c ∧ c ≤ 26) then M0 c else M' c) = N0 at c1 c0
    generalize (fun c => if (1 ≤ c ∧ c ≤ 5) ∨ (18 ≤ c ∧ c ≤ 26) then Mc c else M' c) = Nc at d1 d0
    obtain ⟨q1, q2, q3, q4, q5, q6, q7, q8, q9, q10⟩ := id hc
    have hc' : sp_clear 18 N0 Nc := by
      unfold sp_clear
      rw [d1 18 (by omega), d1 (18 + 1) (by omega), d1 (18 + 2) (by omega), d1 (18 + 3) (by omega), d1 (18 + 6) (by omega), d1 (18 + 7) (by omega), d1 (18 + 8) (by omega), c1 18 (by omega)]
      refine ⟨q1, q2, q3, q4, q5, q6, q7, q8, q9, fun k hk => ?_⟩
      by_cases w : (1 ≤ k ∧ k ≤ 5) ∨ (18 ≤ k ∧ k ≤ 26)
      · rw [d1 k w, c1 k w]; exact q10 k hk
      · rw [d0 k w, c0 k w]
    have vt0 : sp_vt N0 1 n H L := ok.2.2.2.1.moved (fun i hi => by rw [c1 _ (by omega), q10 _ (by omega)])
    have ok' : sp_ok Nc 1 18 n H L := sp_ok_clear hc' (by rw [c1 18 (by omega), ← q5]; exact ok.1) (by omega) (by omega) vt0 (fun g hg => by rw [zlg_18] at hg; cases hg)
    refine ⟨N0, Nc, hc', ok', ?_⟩
    have fr := (sp_all_ok ok).2.1
    have fr' := (sp_all_ok ok').2.1
    have ev : vw 1 18 (sp_all 1 18 H Nc) = vw 1 18 (sp_all 1 18 H Mc) := by
      rw [vw_all (by omega) (by omega), vw_all (by omega) (by omega), vw_ext (t := 1) (b := 18) (M := Mc) (fun i hi => d1 _ (by omega)) (fun j _ => by rw [d1 18 (by omega)]) (fun i _ _ => d1 _ (by omega))]
    funext c
    by_cases w : 18 ≤ c ∧ c ≤ 26
    · rw [eM c (by omega), eq]
      by_cases w18 : c = 18
      · rw [w18]
        funext j
        by_cases j0 : j = 0
        · rw [j0, fr.2, fr'.2, d1 18 (by omega)]
        · rw [← vw_0 (t := 1) (b := 18) (M := sp_all 1 18 H Mc) j0, ← vw_0 (t := 1) (b := 18) (M := sp_all 1 18 H Nc) j0, ev]
      · obtain ⟨i, rfl⟩ : ∃ i, c = 18 + i := ⟨c - 18, by omega⟩
        rw [← vw_b (t := 1) (b := 18) (i := i) (M := sp_all 1 18 H Mc) (by omega) (by omega), ← vw_b (t := 1) (b := 18) (i := i) (M := sp_all 1 18 H Nc) (by omega) (by omega), ev]
    · rw [fr'.1 c (by omega) (fun q => absurd q (by omega))]
      by_cases w2 : (1 ≤ c ∧ c ≤ 5) ∨ (18 ≤ c ∧ c ≤ 26)
      · rw [d1 c w2, eM c w2, eq, fr.1 c (by omega) (fun q => absurd q (by omega))]
      · rw [d0 c w2]
/-- a memory whose bench is what image i holds -/
def imv (i : Nat) (M N : zMem) : Prop := (∀ c, 1 ≤ c → c ≤ 5 → N c = M c) ∧ ztc (N 18 0) = 1 ∧ (∀ j, 2 ≤ j → j ≤ 5 → N 18 j = M (63 + 9 * i) j) ∧ (∀ a x, 1 ≤ a → a ≤ 6 → x < 5 → N (18 + a) x = M (63 + 9 * i + a) x) ∧ (∀ x, x < 40 → N 25 x = M (63 + 9 * i + 7) x)
def img (M W : zMem) (n H L : Nat) : Prop := ∀ i, i < 2 → M 28 i = W 7 i ∧ (M 28 i ≠ 0 → W 0 24 = 1 ∧ ∀ N V, imv i M N → (∀ j, j < 96 → V 6 j = W 6 (96 * (2 + i) + j)) → bst N n H L ∧ pr V N n H)
def Res (M W : zMem) : Prop := (∃ z, z ≤ 400 ∧ M 11 5 = nI z ∧ W 0 1 = nI z ∧ tpe (M 17) (W 1) z) ∧ wtb W ∧ M 11 1 = W 0 2 ∧ M 0 13 = W 0 39 ∧ shs M W
/-- what the reference keeps -/
def wkf (W W' : zMem) : Prop := (∀ c, c = 1 ∨ c = 2 ∨ c = 3 ∨ c = 7 ∨ c = 16 ∨ c = 17 ∨ c = 18 → W' c = W c) ∧ (∀ j, j = 1 ∨ j = 2 ∨ j = 39 → W' 0 j = W 0 j) ∧ ∀ j, 192 ≤ j → W' 6 j = W 6 j
theorem mfy.wkf {W W' : zMem} (f : mfy W W') : wkf W W' := ⟨fun c hc => f.1 c (by omega) (by omega) (by omega) (by omega) (by omega) (by omega) (by omega) (by omega) (by omega) (by omega), fun j hj => f.2.2 j (by omega) (by omega) (by omega), fun j hj => f.2.1 j (by omega)⟩
theorem awf.wkf {W W' : zMem} (f : awf W W') : wkf W W' := ⟨fun c hc => f.1 c (by omega) (by omega) (by omega) (by omega), fun j hj => f.2.1 j (by omega) (by omega) (by omega), fun j hj => f.2.2 j (by omega)⟩
theorem shs.mv {M M' W W' : zMem} (h : shs M W) (e : ∀ c, 81 ≤ c → M' c = M c) (f : ∀ c, c = 16 ∨ c = 17 ∨ c = 18 → W' c = W c) : shs M' W' := fun i hi => by
  have := h i hi
  unfold sht at this ⊢
  rw [e (81 + 2 * i) (by omega), e (81 + 2 * i + 1) (by omega), f 16 (by omega), f 17 (by omega), f 18 (by omega)]
  exact this
theorem wtb.mv {W W' : zMem} (h : wtb W) (e2 : W' 2 = W 2) (e3 : W' 3 = W 3) : wtb W' := by
  unfold wtb at h ⊢
  rw [e2, e3]; exact h
theorem Res.mv {M M' W W' : zMem} (h : Res M W) (e0 : M' 0 13 = M 0 13) (e11 : M' 11 = M 11) (e17 : M' 17 = M 17) (e : ∀ c, 81 ≤ c → M' c = M c) (f : wkf W W') : Res M' W' := by
  obtain ⟨⟨z, a, b, c, d⟩, g, i, j, k⟩ := h
  exact ⟨⟨z, a, by rw [e11]; exact b, by rw [f.2.1 1 (by omega)]; exact c, by rw [e17, f.1 1 (by omega)]; exact d⟩, g.mv (f.1 2 (by omega)) (f.1 3 (by omega)), by rw [e11, f.2.1 2 (by omega)]; exact i, by rw [e0, f.2.1 39 (by omega)]; exact j, k.mv e (fun c hc => f.1 c (by omega))⟩
theorem img.mv {M M' W W' : zMem} {n H L : Nat} (h : img M W n H L) (e : ∀ c, (1 ≤ c ∧ c ≤ 5) ∨ (63 ≤ c ∧ c ≤ 80) → M' c = M c) (e28 : ∀ i, i < 2 → M' 28 i = M 28 i) (e7 : W' 7 = W 7) (e24 : W 0 24 = 1 → W' 0 24 = 1) (e6 : ∀ j, 192 ≤ j → W' 6 j = W 6 j) : img M' W' n H L := fun i hi => by
  obtain ⟨a, b⟩ := h i hi
  refine ⟨by rw [e28 i hi, e7]; exact a, fun w => ?_⟩
  rw [e28 i hi] at w
  obtain ⟨b1, b2⟩ := b w
  refine ⟨e24 b1, fun N V iv hv => b2 N V ?_ (fun j hj => by rw [hv j hj]; exact e6 _ (by omega))⟩
  obtain ⟨v1, v2, v3, v4, v5⟩ := iv
  exact ⟨fun c c1 c2 => (v1 c c1 c2).trans (e c (by omega)), v2, fun j j1 j2 => by rw [v3 j j1 j2, e _ (by omega)], fun a x a1 a2 hx => by rw [v4 a x a1 a2 hx, e _ (by omega)], fun x hx => by rw [v5 x hx, e _ (by omega)]⟩
def Cor (M W : zMem) (n H L : Nat) : Prop := sp_vt M 1 n H L ∧ rt0 W M n H L ∧ pst W M n H L ∧ bst M n H L ∧ ztc (M 18 0) = 1 ∧ img M W n H L ∧ Res M W
def Inv (M W : zMem) : Prop := ∃ n H L, Cor M W n H L ∧ Cas M n H L
/-- a question changes nothing of the core -/
theorem Cor.q {M M' W W' : zMem} {n H L : Nat} (h : Cor M W n H L) (e : ∀ c, c < 6 ∨ (11 ≤ c ∧ c < 29) ∨ 62 ≤ c → M' c = M c) (f : mfy W W') : Cor M' W' n H L := by
  obtain ⟨vt, r, st, bs, e18, im, rs⟩ := h
  have told : ∀ i, i ≤ 4 → M' (1 + i) = M (1 + i) := fun i hi => e _ (by omega)
  have vt' := vt.moved told
  refine ⟨vt', r.moved (f.1 4 (by omega) (by omega) (by omega) (by omega) (by omega) (by omega) (by omega) (by omega) (by omega) (by omega)) told, st.mv vt (fun c hc => e c (by omega)) (f.2.2 24 (by omega) (by omega) (by omega)) (fun j hj => f.2.1 j (by omega)), bst_cong bs vt' (told 0 (by omega)) (told 2 (by omega)) (told 4 (by omega)) (by rw [e 18 (by omega)]; exact e18) (bsl.of (fun c c1 c2 => e c (by omega))), by rw [e 18 (by omega)]; exact e18, im.mv (fun c hc => e c (by omega)) (fun i _ => by rw [e 28 (by omega)]) (f.wkf.1 7 (by omega)) (fun w => (f.2.2 24 (by omega) (by omega) (by omega)).trans w) f.wkf.2.2, rs.mv (by rw [e 0 (by omega)]) (e 11 (by omega)) (e 17 (by omega)) (fun c hc => e c (by omega)) f.wkf⟩
/-- a step of the bench -/
theorem Cor.b {M M' W W' : zMem} {n H L : Nat} (h : Cor M W n H L) (bs : bst M' n H L) (h24 : W' 0 24 = 1) (hp : pr W' M' n H) (e18 : M' 18 0 = M 18 0) (e : ∀ k, (k < 18 ∨ 27 ≤ k) → M' k = M k) (f : awf W W') : Cor M' W' n H L := by
  obtain ⟨vt, r, st, -, t18, im, rs⟩ := h
  have told : ∀ i, i ≤ 4 → M' (1 + i) = M (1 + i) := fun i hi => e _ (by omega)
  exact ⟨vt.moved told, r.moved (f.1 4 (by omega) (by omega) (by omega) (by omega)) told, Or.inl ⟨h24, hp⟩, bs, by rw [e18]; exact t18, im.mv (fun c hc => e c (by omega)) (fun i _ => by rw [e 28 (by omega)]) (f.wkf.1 7 (by omega)) (fun _ => h24) f.wkf.2.2, rs.mv (by rw [e 0 (by omega)]) (e 11 (by omega)) (e 17 (by omega)) (fun c hc => e c (by omega)) f.wkf⟩
theorem Cor.aw {M W W' : zMem} {n H L : Nat} (h : Cor M W n H L) (h24 : W' 0 24 = 1) (hp : pr W' M n H) (f : awf W W') : Cor M W' n H L := h.b h.2.2.2.1 h24 hp rfl (fun _ _ => rfl) f
theorem Cas.b {M M' : zMem} {n H L : Nat} (h : Cas M n H L) (e : ∀ k, (k < 18 ∨ 27 ≤ k) → M' k = M k) : Cas M' n H L := h.mv (fun i hi => e _ (by omega)) (fun k hk => e k (by omega))
