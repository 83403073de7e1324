theorem lg_note {z : Nat} {k w p u s : Int32} {M : zMem} (hz : M 30 0 = nI z) (h6 : z < 600) : sp_note 30 k w p u s M 30 0 = nI (z + 1) ∧ ∀ j, sp_note 30 k w p u s M 31 j = if j = z * 5 + 4 then s else if j = z * 5 + 3 then u else if j = z * 5 + 2 then p else if j = z * 5 + 1 then w else if j = z * 5 then k else M 31 j := by
  have c : M 30 0 < 600 := by rw [hz]; exact (nI_ltI (b := 600) (by omega) (by omega)).mpr h6
  unfold sp_note
  rw [if_pos c, hz, q_ix (by omega)]
  refine ⟨by rw [zup_eq, upd_eq, nI_1], fun j => ?_⟩
  rw [zup_ne (by omega)]
  show zup _ (30 + 1) _ _ (30 + 1) j = _
  rw [zup_eq, zup_eq, zup_eq, zup_eq, zup_eq]
  rfl
theorem lg_full {z : Nat} {k w p u s : Int32} {M : zMem} (hz : M 30 0 = nI z) (h6 : 600 ≤ z) (h7 : z ≤ 600) : sp_note 30 k w p u s M = M := by
  unfold sp_note
  rw [if_neg (fun q => by rw [hz] at q; have := (nI_ltI (b := 600) (by omega) (by omega)).mp q; omega)]
theorem lg_note_c {k w p u s : Int32} {X M : zMem} (h0 : X 30 = M 30) (h1 : X 31 = M 31) : sp_note 30 k w p u s X 30 = sp_note 30 k w p u s M 30 ∧ sp_note 30 k w p u s X 31 = sp_note 30 k w p u s M 31 := by
  unfold sp_note
  rw [h0]
  split
  · refine ⟨?_, ?_⟩
    · rw [zup_eq, zup_eq]; simp (disch := omega) only [zup_ne]; rw [h0]
    · rw [zup_ne (k := 30) (k' := 31) (by omega), zup_ne (k := 30) (k' := 31) (by omega)]
      show zup _ (30 + 1) _ _ (30 + 1) = zup _ (30 + 1) _ _ (30 + 1)
      simp only [zup_eq]
      rw [show X (30 + 1) = M (30 + 1) from h1]
  · exact ⟨h0, h1⟩
theorem lg_gb {h k : Nat} {f : Int32} {X : zMem} (hk : k < 32) : sp_goBack 1 32 h f X k = X k := by
  unfold sp_goBack
  simp (disch := omega) only [zup_ne]
theorem lg_take {h : Nat} {M : zMem} : sp_take 1 32 h M 30 = sp_note 30 (M 32 2) (nI h) (M (32 + 3) (h - 1)) (M (32 + 4) (h - 1)) (M (32 + 5) (h - 1)) M 30 ∧ sp_take 1 32 h M 31 = sp_note 30 (M 32 2) (nI h) (M (32 + 3) (h - 1)) (M (32 + 4) (h - 1)) (M (32 + 5) (h - 1)) M 31 := by
  have c : zlg 32 = some 30 := rfl
  have e : sp_take 1 32 h M = sp_goBack 1 32 (h - 1) (M (32 + 3) (h - 1)) (sp_note 30 (M 32 2) (nI h) (M (32 + 3) (h - 1)) (M (32 + 4) (h - 1)) (M (32 + 5) (h - 1)) (zup (zup (zup (zup (zup M (32 + 1) h 2) (32 + 3) h (M (32 + 3) (h - 1))) (32 + 4) h (M (32 + 4) (h - 1))) (32 + 5) h (M (32 + 5) (h - 1))) 32 4 (M 32 4 + 1))) := by
    unfold sp_take
    rw [c]
  rw [e, lg_gb (by omega), lg_gb (by omega)]
  exact lg_note_c (by simp (disch := omega) only [zup_ne]) (by simp (disch := omega) only [zup_ne])
theorem lg_finish {h k : Nat} {M : zMem} (hk : k < 32) : sp_finish 1 32 h M k = M k := by
  unfold sp_finish
  dsimp only
  split
  · simp (disch := omega) only [zup_ne]
  · split
    · simp (disch := omega) only [zup_ne]
    · rw [lg_gb hk]
      simp (disch := omega) only [zup_ne]
theorem lg_new {k : Nat} {M : zMem} (hk : k < 32) : sp_new 1 32 M k = M k := by
  unfold sp_new
  simp (disch := omega) only [zup_ne]
theorem lg_start {h k : Nat} {M : zMem} (hk : k < 32) : sp_start 1 32 h M k = M k := by
  unfold sp_start
  simp (disch := omega) only [zup_ne]
/-- what a step does to the log -/
theorem lg_hand {h : Nat} {M M' : zMem} (e : sp_hand 1 32 h M = some M') : (M' 30 = M 30 ∧ M' 31 = M 31 ∧ ¬ (M (32 + 1) h = 0 ∧ h ≠ 0)) ∨ (M (32 + 1) h = 0 ∧ h ≠ 0 ∧ M (32 + 1) (h - 1) = 2 ∧ M' = sp_take 1 32 h M) := by
  unfold sp_hand at e
  split at e
  · split at e
    · rename_i h3
      cases e
      exact Or.inl ⟨lg_finish (by omega), lg_finish (by omega), fun q => by rw [h3] at q; exact absurd q.1 (by decide)⟩
    · split at e
      · rename_i h0
        split at e
        · rename_i hz
          cases e
          exact Or.inl ⟨lg_new (by omega), lg_new (by omega), fun q => q.2 hz⟩
        · rename_i hz
          split at e
          · rename_i c
            cases e
            exact Or.inr ⟨h0, hz, c.1, rfl⟩
          · cases e
      · rename_i h0
        split at e
        · split at e
          · cases e
            exact Or.inl ⟨lg_start (by omega), lg_start (by omega), fun q => h0 q.1⟩
          · cases e
        · cases e
  · cases e
/-- two logs are the same -/
def agl (M N : zMem) : Prop := M 30 0 = N 30 0 ∧ ∀ j, j < 5 * ix (M 30 0) → M 31 j = N 31 j
theorem agl_cells {M N M' N' : zMem} (l : agl M N) (h0 : M' 30 = M 30) (h1 : M' 31 = M 31) (k0 : N' 30 = N 30) (k1 : N' 31 = N 31) : agl M' N' := ⟨by rw [h0, k0]; exact l.1, fun j hj => by rw [h0] at hj; rw [h1, k1]; exact l.2 j hj⟩
theorem agl.trans {M N K : zMem} (l : agl M N) (k : agl N K) : agl M K := ⟨l.1.trans k.1, fun j hj => (l.2 j hj).trans (k.2 j (by rw [← l.1]; exact hj))⟩
theorem agl_hand {n H L h : Nat} {M N M' N' : zMem} (ok : sp_ok M 1 32 n H L) (a : ag 32 32 H M N) (l : agl M N) (hh : h < H) (e : sp_hand 1 32 h M = some M') (e' : sp_hand 1 32 h N = some N') : agl M' N' := by
  obtain ⟨d1, -⟩ := a.2.2.1 h hh
  rcases lg_hand e with ⟨p1, p2, p3⟩ | ⟨p1, p2, p3, p4⟩
  · rcases lg_hand e' with ⟨r1, r2, r3⟩ | ⟨r1, r2, -, -⟩
    · exact agl_cells l p1 p2 r1 r2
    · exact absurd ⟨by rw [d1]; exact r1, r2⟩ p3
  · rcases lg_hand e' with ⟨-, -, r3⟩ | ⟨r1, r2, r3, r4⟩
    · exact absurd ⟨by rw [← d1]; exact p1, p2⟩ r3
    · obtain ⟨z, z1, z2⟩ := ok.2.2.2.2.2.2 30 rfl
      have n8 : n ≤ 8 := ok.2.2.2.1.1.2.1
      have hp : M (32 + 3) (h - 1) ≠ -1 := by
        rcases ok.2.2.2.2.2.1 (h - 1) (by omega) with ⟨q, -⟩ | ⟨q, -⟩ | ⟨p, u, s, U, p1, p2, p3, p4, p5, -⟩
        · rw [p3] at q; exact absurd q (by decide)
        · rw [p3] at q; exact absurd q (by decide)
        · rw [p5]; exact fun q => (q_neq (a := p) (c := 1) (by omega) (by omega) (by omega)).mp q
      obtain ⟨f1, f2, f3, f4⟩ := a.2.2.1 (h - 1) (by omega)
      have f4 := f4.resolve_left hp
      have t2 : M 32 2 = N 32 2 := a.2.1 2 (by omega) (by omega)
      have z1' : N 30 0 = nI z := by rw [← l.1]; exact z1
      obtain ⟨m0, m1⟩ := lg_take (h := h) (M := M)
      obtain ⟨n0, n1⟩ := lg_take (h := h) (M := N)
      rw [p4, r4]
      unfold agl
      rw [m0, m1, n0, n1, t2, f3, f4.1, f4.2]
      rcases Nat.lt_or_ge z 600 with c | c
      · obtain ⟨x0, x1⟩ := lg_note (k := N 32 2) (w := nI h) (p := N (32 + 3) (h - 1)) (u := N (32 + 4) (h - 1)) (s := N (32 + 5) (h - 1)) z1 c
        obtain ⟨y0, y1⟩ := lg_note (k := N 32 2) (w := nI h) (p := N (32 + 3) (h - 1)) (u := N (32 + 4) (h - 1)) (s := N (32 + 5) (h - 1)) z1' c
        rw [x0, y0]
        refine ⟨rfl, fun j hj => ?_⟩
        rw [q_ix (by omega)] at hj
        rw [x1, y1]
        by_cases c4 : j = z * 5 + 4
        · rw [if_pos c4, if_pos c4]
        rw [if_neg c4, if_neg c4]
        by_cases c3 : j = z * 5 + 3
        · rw [if_pos c3, if_pos c3]
        rw [if_neg c3, if_neg c3]
        by_cases c2 : j = z * 5 + 2
        · rw [if_pos c2, if_pos c2]
        rw [if_neg c2, if_neg c2]
        by_cases c1 : j = z * 5 + 1
        · rw [if_pos c1, if_pos c1]
        rw [if_neg c1, if_neg c1]
        by_cases c0 : j = z * 5
        · rw [if_pos c0, if_pos c0]
        rw [if_neg c0, if_neg c0]
        exact l.2 j (by rw [z1, q_ix (by omega)]; omega)
      · rw [lg_full z1 c z2, lg_full z1' c z2]
        exact l
theorem agl_rd {n H L : Nat} : ∀ h (s : Bool) (M N : zMem), h ≤ H → sp_ok M 1 32 n H L → sp_ok N 1 32 n H L → ag 32 32 H M N → agl M N → agl (sp_rd 1 32 h s M).2 (sp_rd 1 32 h s N).2 := by
  intro h
  induction h with
  | zero => intro s M N _ _ _ _ l; exact l
  | succ h ih =>
    intro s M N hh ok ok' a l
    unfold sp_rd
    rcases ag_hand ok ok' a (show h < H by omega) with ⟨q1, q2⟩ | ⟨M', N', q1, q2, a'⟩
    · rw [q1, q2]
      exact ih s M N (by omega) ok ok' a l
    · rw [q1, q2]
      exact ih true M' N' (by omega) (sp_step ok (by omega) q1).1 (sp_step ok' (by omega) q2).1 a' (agl_hand ok a l (by omega) q1 q2)
theorem agl_rounds {n H L : Nat} : ∀ f (M N : zMem), sp_ok M 1 32 n H L → sp_ok N 1 32 n H L → ag 32 32 H M N → agl M N → agl (sp_rounds 1 32 H f M) (sp_rounds 1 32 H f N) := by
  intro f
  induction f with
  | zero => intro M N _ _ _ l; exact l
  | succ f ih =>
    intro M N ok ok' a l
    obtain ⟨e1, e2⟩ := ag_rd H false M N (Nat.le_refl _) ok ok' a
    have e3 := agl_rd H false M N (Nat.le_refl _) ok ok' a l
    unfold sp_rounds
    rw [← e1]
    split
    · exact ih _ _ (sp_rd_ok H false M (Nat.le_refl _) ok).1 (sp_rd_ok H false N (Nat.le_refl _) ok').1 e2 e3
    · exact e3
theorem agl_all {n H L : Nat} {M N : zMem} (ok : sp_ok M 1 32 n H L) (ok' : sp_ok N 1 32 n H L) (a : ag 32 32 H M N) (l : agl M N) : agl (sp_all 1 32 H M) (sp_all 1 32 H N) := by
  have e : sp_sum (sp_c M 32) H = sp_sum (sp_c N 32) H := sp_sum_eq H (fun j hj => by
    obtain ⟨d1, d2, -⟩ := a.2.2.1 j hj
    unfold sp_c
    rw [d1, d2])
  unfold sp_all
  rw [e]
  exact agl_rounds _ M N ok ok' a l
theorem agl_ev {n H L : Nat} {M N : zMem} (ok : sp_ok M 1 32 n H L) (hs : ∀ j, j < H → sp_hand 1 32 j M = none) (ok' : sp_ok N 1 32 n H L) (hs' : ∀ j, j < H → sp_hand 1 32 j N = none) (a : ag 32 32 H M N) (l : agl M N) : agl (sp_ev 1 32 H M) (sp_ev 1 32 H N) := by
  have el : sp_least (M (32 + 2)) H 0 0 = sp_least (N (32 + 2)) H 0 0 := ag_least H 0 0 (fun j _ hj => (a.2.2.1 j (by omega)).2.1)
  unfold sp_ev
  have c1 := sp_can_least ok hs
  have c2 := sp_can_least ok' hs'
  have k1 := sp_pass_ok ok c1
  have k2 := sp_pass_ok ok' c2
  rw [el] at k1 ⊢
  exact agl_all k1 k2 (ag_pass a ok.2.2.1 ok'.2.2.1) (agl_cells l (sp_pass_fr.2.2.2.2 30 (by omega)) (sp_pass_fr.2.2.2.2 31 (by omega)) (sp_pass_fr.2.2.2.2 30 (by omega)) (sp_pass_fr.2.2.2.2 31 (by omega)))
/-- the log grows only -/
def lgk (M M' : zMem) : Prop := ∃ z z', M 30 0 = nI z ∧ M' 30 0 = nI z' ∧ z ≤ z' ∧ z' ≤ 600 ∧ ∀ j, j < 5 * z → M' 31 j = M 31 j
theorem lgk.tr {M M1 M2 : zMem} (h1 : lgk M M1) (h2 : lgk M1 M2) : lgk M M2 := by
  obtain ⟨a, b, a1, a2, a3, a4, a5⟩ := h1
  obtain ⟨c, d, c1, c2, c3, c4, c5⟩ := h2
  have e : b = c := (nI_eq (by omega) (by omega)).mp (a2.symm.trans c1)
  subst e
  exact ⟨a, d, a1, c2, by omega, c4, fun j hj => (c5 j (by omega)).trans (a5 j hj)⟩
theorem lgk_cells {n H L : Nat} {M M' : zMem} (ok : sp_ok M 1 32 n H L) (h0 : M' 30 = M 30) (h1 : M' 31 = M 31) : lgk M M' := by
  obtain ⟨z, z1, z2⟩ := ok.2.2.2.2.2.2 30 rfl
  exact ⟨z, z, z1, by rw [h0]; exact z1, Nat.le_refl _, z2, fun j _ => by rw [h1]⟩
theorem lgk_hand {n H L h : Nat} {M M' : zMem} (ok : sp_ok M 1 32 n H L) (e : sp_hand 1 32 h M = some M') : lgk M M' := by
  rcases lg_hand e with ⟨p1, p2, -⟩ | ⟨p1, p2, p3, p4⟩
  · exact lgk_cells ok p1 p2
  · obtain ⟨z, z1, z2⟩ := ok.2.2.2.2.2.2 30 rfl
    obtain ⟨m0, m1⟩ := lg_take (h := h) (M := M)
    rcases Nat.lt_or_ge z 600 with c | c
    · obtain ⟨x0, x1⟩ := lg_note (k := M 32 2) (w := nI h) (p := M (32 + 3) (h - 1)) (u := M (32 + 4) (h - 1)) (s := M (32 + 5) (h - 1)) z1 c
      refine ⟨z, z + 1, z1, by rw [p4, m0]; exact x0, by omega, by omega, fun j hj => ?_⟩
      rw [p4, m1, x1, if_neg (by omega), if_neg (by omega), if_neg (by omega), if_neg (by omega), if_neg (by omega)]
    · rw [lg_full z1 c z2] at m0 m1
      rw [p4]
      exact lgk_cells ok m0 m1
theorem lgk_rd {n H L : Nat} : ∀ h (s : Bool) (M : zMem), h ≤ H → sp_ok M 1 32 n H L → lgk M (sp_rd 1 32 h s M).2 := by
  intro h
  induction h with
  | zero => intro s M _ ok; exact lgk_cells ok rfl rfl
  | succ h ih =>
    intro s M hh ok
    unfold sp_rd
    cases e : sp_hand 1 32 h M with
    | none => exact ih s M (by omega) ok
    | some M' => exact (lgk_hand ok e).tr (ih true M' (by omega) (sp_step ok (by omega) e).1)
theorem lgk_rounds {n H L : Nat} : ∀ f (M : zMem), sp_ok M 1 32 n H L → lgk M (sp_rounds 1 32 H f M) := by
  intro f
  induction f with
  | zero => intro M ok; exact lgk_cells ok rfl rfl
  | succ f ih =>
    intro M ok
    unfold sp_rounds
    have h1 := lgk_rd H false M (Nat.le_refl _) ok
    split
    · exact h1.tr (ih _ (sp_rd_ok H false M (Nat.le_refl _) ok).1)
    · exact h1
theorem lgk_ev {n H L : Nat} {M : zMem} (ok : sp_ok M 1 32 n H L) (hs : ∀ j, j < H → sp_hand 1 32 j M = none) : lgk M (sp_ev 1 32 H M) := by
  have k1 := sp_pass_ok ok (sp_can_least ok hs)
  unfold sp_ev sp_all
  exact (lgk_cells ok (sp_pass_fr.2.2.2.2 30 (by omega)) (sp_pass_fr.2.2.2.2 31 (by omega))).tr (lgk_rounds _ _ k1)
theorem lgk_run {n H L m : Nat} (hm : m ≤ 120) : ∀ f (M : zMem), sp_rl M 1 32 n H L f → lgk M (sp_run 1 32 H (nI m) f M) := by
  intro f
  induction f with
  | zero => intro M rl; exact lgk_cells rl.1.1 rfl rfl
  | succ f ih =>
    intro M rl
    rw [sp_run_1]
    split
    · rename_i c
      obtain ⟨g, hg, rl2, -, -⟩ := sp_rl_step rl hm c
      have e : g = f := by omega
      subst e
      exact (lgk_ev rl.1.1 rl.1.2.1).tr (ih _ rl2)
    · exact lgk_cells rl.1.1 rfl rfl
