theorem i64_le {a b : Int32} : a.toInt64 ≤ b.toInt64 ↔ a ≤ b := by
  rw [Int64.le_iff_toInt_le, Int32.le_iff_toInt_le, Int32.toInt_toInt64, Int32.toInt_toInt64]
/-- within bounds, as ints -/
theorem e_inc {a lo' hi' : Int32} {lo hi : Int64} {M : zMem} {Q : Int32 → zMem → Prop} (h1 : lo = lo'.toInt64) (h2 : hi = hi'.toInt64) : wp_Model_in a.toInt64 lo hi M Q = Q (if lo' ≤ a ∧ a ≤ hi' then 1 else 0) M := by
  subst h1 h2
  rw [e_in]
  simp only [i64_le]
theorem mt_in {a lo' hi' : Int32} {lo hi : Int64} {M : zMem} {Q : Int32 → zMem → Prop} (h1 : lo = lo'.toInt64) (h2 : hi = hi'.toInt64) (ht : lo' ≤ a → a ≤ hi' → Q 1 M) (hf : ¬ (lo' ≤ a ∧ a ≤ hi') → Q 0 M) : wp_Model_in a.toInt64 lo hi M Q := by
  rw [e_inc h1 h2]
  by_cases c : lo' ≤ a ∧ a ≤ hi'
  · rw [if_pos c]; exact ht c.1 c.2
  · rw [if_neg c]; exact hf c
theorem xt_half {a : Int32} {M : zMem} {Q : Int32 → zMem → Prop} (ht : a = 0 ∨ a = 1 → Q 1 M) (hf : ¬ (a = 0 ∨ a = 1) → Q 0 M) : wp_Main_isHalf a M Q :=
  ⟨fun c => ht (Or.inl c), fun c => ⟨fun d => hf (fun q => q.elim c d), fun d => ht (Or.inr d)⟩⟩
theorem half_in {a : Int32} : (0 ≤ a ∧ a ≤ 1) ↔ (a = 0 ∨ a = 1) := by
  refine ⟨fun ⟨h1, h2⟩ => ?_, fun h => by rcases h with rfl | rfl <;> decide⟩
  obtain ⟨j, hj, e⟩ := nI_of2 (x := a) (M := 1) (n := 1) rfl (by rw [Int32.not_lt]; exact h1) h2
  subst e
  rcases (show j = 0 ∨ j = 1 by omega) with rfl | rfl
  · exact Or.inl rfl
  · exact Or.inr rfl
/-- a ring that the class has kept is that of what is told now -/
def cr (M : zMem) (n H L : Nat) : Prop := M 54 0 = 0 ∨ ∃ M0 Mc, sp_clear 45 M0 Mc ∧ sp_ok Mc 1 45 n H L ∧ (∀ i, i ≤ 4 → Mc (1 + i) = M (1 + i)) ∧ sp_rok (sp_ring 1 45 n H Mc) ∧ sp_ro (sp_ring 1 45 n H Mc) M 54
/-- what the class may change when it looks for a ring -/
def cfr (g : Nat) (M M' : zMem) : Prop := ∀ k, k ≠ g → (k < 41 ∨ 54 ≤ k) → M' k = M k
theorem xt_findRing {n H L : Nat} {M : zMem} {Q : zMem → Prop} (vt : sp_vt M 1 n H L) (h : cr M n H L)
    (hQ : ∀ M' M0 Mc, sp_clear 45 M0 Mc → sp_ok Mc 1 45 n H L → (∀ i, i ≤ 4 → Mc (1 + i) = M (1 + i)) → sp_rok (sp_ring 1 45 n H Mc) → sp_ro (sp_ring 1 45 n H Mc) M' 54 → cfr 54 M M' → Q M') : wp_Main_findRing M Q := by
  refine ⟨fun c => ?_, fun _ => ?_⟩
  · rcases h with h | ⟨M0, Mc, h1, h2, h3, h4, h5⟩
    · exact absurd h c
    · exact hQ M M0 Mc h1 h2 h3 h4 h5 (fun _ _ _ => rfl)
  · exact xt_settle (Or.inl rfl) (Or.inl rfl) vt (fun M0 Mc M' a b c _ d e f => hQ M' M0 Mc a b c d e f)
/-- what the reference may change in a question -/
def mfy (W W' : zMem) : Prop := (∀ k, k ≠ 0 → k ≠ 6 → k ≠ 8 → k ≠ 9 → k ≠ 10 → k ≠ 11 → k ≠ 12 → k ≠ 13 → k ≠ 14 → k ≠ 15 → W' k = W k) ∧ (∀ j, (j < 96 ∨ 192 ≤ j) → W' 6 j = W 6 j) ∧ (∀ j, j ≠ 18 → j ≠ 19 → (j < 28 ∨ 35 ≤ j) → W' 0 j = W 0 j)
theorem mfy.rf {W : zMem} : mfy W W := ⟨fun _ _ _ _ _ _ _ _ _ _ _ => rfl, fun _ _ => rfl, fun _ _ _ _ => rfl⟩
theorem mfy.tr {W W1 W2 : zMem} (h1 : mfy W W1) (h2 : mfy W1 W2) : mfy W W2 := ⟨fun k a b c d e f g h i j => (h2.1 k a b c d e f g h i j).trans (h1.1 k a b c d e f g h i j), fun j a => (h2.2.1 j a).trans (h1.2.1 j a), fun j a b c => (h2.2.2 j a b c).trans (h1.2.2 j a b c)⟩
theorem mfx.y {W W' : zMem} (h : mfx W W') : mfy W W' := ⟨fun k a b _ _ e f g h1 i _ => h.1 k a b e f g h1 i, h.2.1, fun j _ _ c => h.2.2 j (by omega)⟩
theorem mnum.y {W W' M : zMem} {H : Nat} (h : mnum W W' M H) : mfy W W' := ⟨fun k a _ c d _ _ _ _ _ _ => h.2.2.2.2 k a c d, fun j _ => by rw [h.2.2.2.2 6 (by omega) (by omega) (by omega)], fun j a b _ => h.2.2.2.1 j a b⟩
theorem mt_ringAt {n H L : Nat} {M M0 Mc W : zMem} {Q : Int32 → zMem → Prop} (vt : sp_vt M 1 n H L) (r : rt0 W M n H L) (hc : sp_clear 45 M0 Mc) (ok : sp_ok Mc 1 45 n H L) (tc : ∀ i, i ≤ 4 → Mc (1 + i) = M (1 + i))
    (hQ : ∀ W', mfy W W' → mo (sp_ring 1 45 n H Mc) W' → W' 0 31 = nI (ro_c (sp_ring 1 45 n H Mc)) → W' 0 32 = nI (ro_t (sp_ring 1 45 n H Mc)) → Q (if sp_ring 1 45 n H Mc = none then 0 else 1) W') : wp_Model_asNumbered W (fun W1 => wp_Model_hasRing W1 Q) := by
  refine mt_asNumbered vt r (fun W1 m1 => ?_)
  obtain ⟨a18, a19, ah, a0, ak⟩ := id m1
  have H5 : H ≤ 5 := vt.1.2.2.2.1
  have r1 : rt0 W1 Mc n H L := r.moved (ak 4 (by omega) (by omega) (by omega)) tc
  have t1 : Mc 1 = M 1 := tc 0 (by omega)
  have t5 : Mc 5 = M 5 := tc 4 (by omega)
  have rt : mr_t W1 Mc 1 n H L := mr_t_of (M' := Mc) r1 a18 (by rw [t1]; exact a19) (fun h hh => by rw [t5]; exact (ah h hh).2)
  have rw0 : mw0 W1 Mc 1 n H (fun h => h) := ⟨fun h hh => ⟨by show h < 5; omega, (ah h hh).1⟩, fun h j _ _ e => e, fun h p hh hp => r1.2.2.2.2.2.2.2.2.2.1 h p hh hp⟩
  exact mt_hasRing hc ok rt rw0 (fun q => absurd q (by omega)) (fun W' _ fx _ m c t => hQ W' (m1.y.tr fx.y) m c t)
/-- settles -/
theorem p_settles {n H L : Nat} {M W : zMem} {a : Int32} {P : zMem → zMem → Prop} (vt : sp_vt M 1 n H L) (r : rt0 W M n H L) (h : cr M n H L)
    (hP : ∀ M' W', cfr 54 M M' → mfy W W' → cr M' n H L → P M' W') : wp_Main_settles a M (fun x M' => wp_Model_settles a W (fun y W' => x = y ∧ P M' W')) := by
  have bad : (¬ (0 ≤ a ∧ a ≤ 2)) → wp_Model_settles a W (fun y W' => -1 = y ∧ P M W') := fun c =>
    mt_in (lo' := 0) (hi' := 2) (by decide) (by decide) (fun c1 c2 => absurd ⟨c1, c2⟩ c) (fun _ => ⟨fun q => absurd rfl q, fun _ => ⟨rfl, hP M W (fun _ _ _ => rfl) mfy.rf h⟩⟩)
  refine ⟨fun c => bad (fun q => absurd c (Int32.not_lt.mpr q.1)), fun c1 => ⟨fun c2 => ?_, fun c => bad (fun q => c q.2)⟩⟩
  refine xt_findRing vt h (fun M' M0 Mc hc ok tc rk ro cf => ?_)
  have cr' : cr M' n H L := Or.inr ⟨M0, Mc, hc, ok, fun i hi => (tc i hi).trans (cf _ (by omega) (by omega)).symm, rk, ro⟩
  have ask : ∀ x : Int32, (∀ W', mo (sp_ring 1 45 n H Mc) W' → W' 0 31 = nI (ro_c (sp_ring 1 45 n H Mc)) → W' 0 32 = nI (ro_t (sp_ring 1 45 n H Mc)) → (¬ sp_ring 1 45 n H Mc = none → (¬ a = 0 → (¬ a = 1 → x = W' 0 32) ∧ (a = 1 → x = W' 0 31)) ∧ (a = 0 → vp_in (W' 0 29) 120 ∧ x = W' 13 (ix (W' 0 29)))) ∧ (sp_ring 1 45 n H Mc = none → x = -4)) → wp_Model_settles a W (fun y W' => x = y ∧ P M' W') := fun x hx => by
    refine mt_in (lo' := 0) (hi' := 2) (by decide) (by decide) (fun _ _ => ⟨fun _ => ?_, fun q => absurd q (by decide)⟩) (fun q => absurd ⟨Int32.not_lt.mp c1, c2⟩ q)
    refine mt_ringAt vt r hc ok tc (fun W' fy m1 e31 e32 => ?_)
    have p1 := hP M' W' cf fy cr'
    obtain ⟨x1, x2⟩ := hx W' m1 e31 e32
    by_cases co : sp_ring 1 45 n H Mc = none
    · rw [if_pos co]
      exact ⟨fun q => absurd rfl q, fun _ => ⟨x2 co, p1⟩⟩
    · rw [if_neg co]
      obtain ⟨x3, x4⟩ := x1 co
      exact ⟨fun _ => ⟨fun q => ⟨fun q2 => ⟨(x3 q).1 q2, p1⟩, fun q2 => ⟨(x3 q).2 q2, p1⟩⟩, fun q => ⟨(x4 q).1, (x4 q).2, p1⟩⟩, fun q => absurd q (by decide)⟩
  obtain ⟨g0, gn, gs⟩ := ro
  generalize sp_ring 1 45 n H Mc = o at ask gn gs rk
  cases o with
  | none =>
    refine ⟨fun q => absurd (gn rfl).1 q, fun _ => ask _ (fun W' _ _ _ => ⟨fun q => absurd rfl q, fun _ => rfl⟩)⟩
  | some x =>
    obtain ⟨da, ta, dn, tn⟩ := x
    obtain ⟨y1, y2, y5, y3, y4, -, -⟩ := gs da ta dn tn rfl
    rw [y1]
    refine ⟨fun _ => ⟨fun q => ⟨fun q2 => ask _ (fun W' m e31 e32 => ⟨fun _ => ⟨fun _ => ⟨fun _ => ?_, fun z => absurd z q2⟩, fun z => absurd z q⟩, fun z => by cases z⟩), fun q2 => ask _ (fun W' m e31 e32 => ⟨fun _ => ⟨fun _ => ⟨fun z => absurd q2 z, fun _ => ?_⟩, fun z => absurd z q⟩, fun z => by cases z⟩)⟩, fun q => ask _ (fun W' m e31 e32 => ⟨fun _ => ⟨fun z => absurd q z, fun _ => ?_⟩, fun z => by cases z⟩)⟩, fun q => absurd q (by decide)⟩
    · rw [y4, e32]; rfl
    · rw [y3, e31]; rfl
    · obtain ⟨k1, k2, z1, z2, z3, z4, z5, z6, z7, z8⟩ := m.2 da ta dn tn rfl
      rw [z3, q_ix (by omega), z5, y2]
      exact ⟨vp_in_nI z1 (by omega), rfl⟩
