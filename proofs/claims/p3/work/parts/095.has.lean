/-- coats and ticks of a ring, as the reference has them -/
def ro_c (o : Option (Nat × Nat × Nat × Nat)) : Nat := match o with | none => 0 | some (da, _, dn, _) => dn - da
def ro_t (o : Option (Nat × Nat × Nat × Nat)) : Nat := match o with | none => 1 | some (_, ta, _, tn) => tn - ta
theorem ro_ok {o : Option (Nat × Nat × Nat × Nat)} (h : sp_rok o) : ro_c o ≤ 200 ∧ 0 < ro_t o ∧ ro_t o ≤ 480000 ∧ (o = none ↔ ro_c o = 0) := by
  cases o with
  | none => exact ⟨by show 0 ≤ 200; omega, by show 0 < 1; omega, by show 1 ≤ 480000; omega, fun _ => rfl, fun _ => rfl⟩
  | some x =>
    obtain ⟨da, ta, dn, tn⟩ := x
    obtain ⟨a, b, c, d⟩ := h da ta dn tn rfl
    refine ⟨by show dn - da ≤ 200; omega, by show 0 < tn - ta; omega, by show tn - ta ≤ 480000; omega, fun q => (nomatch q), fun q => ?_⟩
    have q' : dn - da = 0 := q
    omega
/-- what the reference may change when it looks for a ring -/
def mfx (W W' : zMem) : Prop := (∀ k, k ≠ 0 → k ≠ 6 → k ≠ 10 → k ≠ 11 → k ≠ 12 → k ≠ 13 → k ≠ 14 → W' k = W k) ∧ (∀ j, (j < 96 ∨ 192 ≤ j) → W' 6 j = W 6 j) ∧ (∀ j, (j < 28 ∨ 33 ≤ j) → W' 0 j = W 0 j)
theorem mfx.rf {W : zMem} : mfx W W := ⟨fun _ _ _ _ _ _ _ _ => rfl, fun _ _ => rfl, fun _ _ => rfl⟩
theorem mfx.tr {W W1 W2 : zMem} (h1 : mfx W W1) (h2 : mfx W1 W2) : mfx W W2 := ⟨fun k a b c d e f g => (h2.1 k a b c d e f g).trans (h1.1 k a b c d e f g), fun j a => (h2.2.1 j a).trans (h1.2.1 j a), fun j a => (h2.2.2 j a).trans (h1.2.2 j a)⟩
theorem mfw.x {W W' : zMem} (h : mfw W W') : mfx W W' := ⟨h.1, h.2.1, fun j a => h.2.2 j (by omega) (by omega) (by omega)⟩
theorem mfx.up {W : zMem} {j : Nat} {x : Int32} (h : 28 ≤ j) (h2 : j < 33) : mfx W (zup W 0 j x) := ⟨fun k a _ _ _ _ _ _ => zup_ne a, fun j _ => by rw [zup_ne (by omega)], fun i a => by rw [zup_eq, upd_ne (by omega)]⟩
theorem mt_hasRing {t b n H L : Nat} {wh : Nat → Nat} {M0 M W : zMem} {Q : Int32 → zMem → Prop} (hc : sp_clear b M0 M) (ok : sp_ok M t b n H L) (rt : mr_t W M t n H L) (rw0 : mw0 W M t n H wh) (hg : b = 32 → M 30 0 = 0)
    (hQ : ∀ W', mr W' (sp_run t b H (nI 120) 12000 (sp_all t b H M)) 1 t b n H L wh → mfx W W' → sp_rok (sp_ring t b n H M) → mo (sp_ring t b n H M) W' → W' 0 31 = nI (ro_c (sp_ring t b n H M)) → W' 0 32 = nI (ro_t (sp_ring t b n H M)) → Q (if sp_ring t b n H M = none then 0 else 1) W') : wp_Model_hasRing W Q := by
  unfold wp_Model_hasRing
  refine mt_runs_r hc ok rt rw0 hg (fun W1 r1 s1 f1 rk m1 => ?_)
  generalize sp_ring t b n H M = o at hQ rk m1
  generalize sp_run t b H (nI 120) 12000 (sp_all t b H M) = Me at hQ r1
  have fin : ∀ x y : Int32, x = nI (ro_c o) → y = nI (ro_t o) → Q (if o = none then 0 else 1) (zup (zup W1 0 31 x) 0 32 y) := fun x y ex ey => by
    refine hQ _ ?_ ((f1.x.tr (mfx.up (by omega) (by omega))).tr (mfx.up (by omega) (by omega))) rk ?_ ?_ ?_
    · exact mr_ext r1 (by simp (disch := omega) only [zup_eq, upd_ne]) (by simp (disch := omega) only [zup_eq, upd_ne]) (by simp (disch := omega) only [zup_ne]) (by simp (disch := omega) only [zup_ne]) (by simp (disch := omega) only [zup_ne]) (by simp (disch := omega) only [zup_ne]) (by simp (disch := omega) only [zup_ne])
    · unfold mo at m1 ⊢
      simp (disch := omega) only [zup_ne, zup_eq, upd_ne]
      exact m1
    · simp (disch := omega) only [zup_eq, upd_ne, upd_eq]; exact ex
    · simp (disch := omega) only [zup_eq, upd_eq]; exact ey
  cases o with
  | none =>
    have e29 := m1.1 rfl
    rw [if_pos rfl] at fin
    refine ⟨fun c => absurd e29 c, fun _ M6 e6 => ?_⟩
    have e29' : M6 0 29 = -4 := by rw [e6, zup_eq, upd_ne (by omega)]; exact e29
    refine ⟨fun c => absurd e29' c, fun _ M8 e8 => ⟨fun _ => ?_, fun c => ?_⟩⟩
    · rw [e8, e6]; exact fin 0 1 rfl rfl
    · exact absurd (by rw [e8, zup_eq, upd_ne (by omega)]; exact e29') c
  | some x =>
    obtain ⟨da, ta, dn, tn⟩ := x
    obtain ⟨q, r, q1, q2, q3, q4, q5, q6, q7, q8⟩ := m1.2 da ta dn tn rfl
    obtain ⟨k1, k2, k3, k4⟩ := rk da ta dn tn rfl
    have ne : ¬ nI q = -4 := fun c => by
      have := q_neq (a := q) (c := 4) (by omega) (by omega) (by omega)
      rw [show (-4 : Int32) = -nI 4 from rfl, this] at c
      exact c
    rw [if_neg (fun c => by cases c)] at fin
    refine ⟨fun _ => ?_, fun c => absurd c (by rw [q3]; exact ne)⟩
    rw [q3, q4, q_ix (by omega), q_ix (by omega), q5, q7, q_sub (by omega)]
    refine ⟨vp_in_nI q2 (by omega), vp_in_nI q1 (by omega), fun M3 e3 => ?_⟩
    have m29 : M3 0 29 = nI q := by rw [e3, zup_eq, upd_ne (by omega)]; exact q3
    have m30 : M3 0 30 = nI r := by rw [e3, zup_eq, upd_ne (by omega)]; exact q4
    have m14 : M3 14 = W1 14 := by rw [e3, zup_ne (by omega)]
    rw [m29, m30, m14, q_ix (by omega), q_ix (by omega), q6, q8, q_sub (by omega)]
    refine ⟨fun _ => ⟨vp_in_nI q2 (by omega), vp_in_nI q1 (by omega), fun M4 e4 => ⟨fun c => ?_, fun _ => ?_⟩⟩, fun c => absurd c ne⟩
    · exact absurd (show nI q = -4 by rw [← m29, ← c, e4, zup_eq, upd_ne (by omega)]) ne
    · rw [e4, e3]; exact fin _ _ rfl rfl
