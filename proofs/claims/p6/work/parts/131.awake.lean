/-- the bench and its page -/
def pr (W M : zMem) (n H : Nat) : Prop := mr_s W M 0 18 ∧ (∀ h, h < H → mr_h W M 0 18 h) ∧ (∀ h p, h < H → p < n → W 6 (48 + 8 * h + p) = M 25 (h * 8 + p)) ∧ (∀ h p, h < H → n ≤ p → p < 8 → W 6 (48 + 8 * h + p) = 0) ∧ W 6 3 = 0 ∧ (∀ h, H ≤ h → h < 5 → W 6 (8 + 8 * h + 2) = 0)
/-- awake, or asleep with an empty page -/
def pst (W M : zMem) (n H L : Nat) : Prop := (W 0 24 = 1 ∧ pr W M n H) ∨ (W 0 24 = 0 ∧ (∀ j, j < 96 → W 6 j = 0) ∧ ∃ M0 Mc, sp_clear 18 M0 Mc ∧ sp_ok Mc 1 18 n H L ∧ M = sp_all 1 18 H Mc)
/-- what waking changes -/
def awf (W W' : zMem) : Prop := (∀ k, k ≠ 0 → k ≠ 6 → k ≠ 8 → k ≠ 9 → W' k = W k) ∧ (∀ j, j ≠ 18 → j ≠ 19 → j ≠ 24 → W' 0 j = W 0 j) ∧ (∀ j, 96 ≤ j → W' 6 j = W 6 j)
theorem awf.rf {W : zMem} : awf W W := ⟨fun _ _ _ _ _ => rfl, fun _ _ _ _ => rfl, fun _ _ => rfl⟩
theorem awf.tr {W W1 W2 : zMem} (a : awf W W1) (b : awf W1 W2) : awf W W2 := ⟨fun k q0 q6 q8 q9 => (b.1 k q0 q6 q8 q9).trans (a.1 k q0 q6 q8 q9), fun j x y z => (b.2.1 j x y z).trans (a.2.1 j x y z), fun j h => (b.2.2 j h).trans (a.2.2 j h)⟩
theorem mnum.a {W W' M : zMem} {H : Nat} (h : mnum W W' M H) : awf W W' := ⟨fun k a _ c d => h.2.2.2.2 k a c d, fun j a b _ => h.2.2.2.1 j a b, fun j _ => by rw [h.2.2.2.2 6 (by omega) (by omega) (by omega)]⟩
theorem mfr.a {W W' : zMem} (h : mfr 0 W W') : awf W W' := ⟨fun k _ b _ _ => by
  by_cases z : k = 10
  · rw [z]; exact h.2.2.1 (by omega)
  · exact h.1 k b z, fun j _ _ _ => by rw [h.1 0 (by omega) (by omega)], fun j hj => h.2.1 j (by omega)⟩
theorem mr.pr {W M : zMem} {n H L : Nat} (r : mr W M 0 1 18 n H L (fun h => h)) (z3 : W 6 3 = 0) (zu : ∀ h, H ≤ h → h < 5 → W 6 (8 + 8 * h + 2) = 0) : pr W M n H :=
  ⟨r.2.2.2.2.1, r.2.2.2.1, fun h p hh hp => by have e := r.2.2.1.2.2.2.1 h p hh hp; rw [show 96 * 0 + 48 + 8 * h + p = 48 + 8 * h + p by omega] at e; exact e, fun h p hh hp h8 => by have e := r.2.2.1.2.2.2.2 h p hh hp h8; rw [show 96 * 0 + 48 + 8 * h + p = 48 + 8 * h + p by omega] at e; exact e, z3, zu⟩
theorem pr.mr {W M : zMem} {n H L : Nat} (h : pr W M n H) (H5 : H ≤ 5) (r : rt0 W M n H L) (h18 : W 0 18 = nI H) (h19 : W 0 19 = M 1 4) (h89 : ∀ h, h < H → W 8 h = nI h ∧ W 9 h = M 5 h) : mr W M 0 1 18 n H L (fun h => h) := by
  obtain ⟨a1, a2, a3, a4, a5, a6⟩ := h
  refine ⟨by omega, mr_t_of (M' := M) r h18 h19 (fun h hh => (h89 h hh).2), ⟨fun h hh => ⟨by show h < 5; omega, (h89 h hh).1⟩, fun _ _ _ _ e => e, fun h p hh hp => r.2.2.2.2.2.2.2.2.2.1 h p hh hp, fun h p hh hp => ?_, fun h p hh hp h8 => ?_⟩, a2, a1, fun h => absurd h (by omega)⟩
  · rw [show 96 * 0 + 48 + 8 * h + p = 48 + 8 * h + p by omega]; exact a3 h p hh hp
  · rw [show 96 * 0 + 48 + 8 * h + p = 48 + 8 * h + p by omega]; exact a4 h p hh hp h8
theorem pr.moved {W W' M : zMem} {n H : Nat} (h : pr W M n H) (H5 : H ≤ 5) (n8 : n ≤ 8) (e : ∀ j, j < 96 → W' 6 j = W 6 j) : pr W' M n H := by
  obtain ⟨⟨s1, s2, s3, s4⟩, a2, a3, a4, a5, a6⟩ := h
  refine ⟨⟨by rw [e _ (by omega)]; exact s1, by rw [e _ (by omega)]; exact s2, by rw [e _ (by omega)]; exact s3, by rw [e _ (by omega)]; exact s4⟩, fun h hh => (a2 h hh).moved (fun i hi => e _ (by omega)) (fun _ _ _ => rfl), fun h p hh hp => by rw [e _ (by omega)]; exact a3 h p hh hp, fun h p hh hp h8 => by rw [e _ (by omega)]; exact a4 h p hh hp h8, by rw [e _ (by omega)]; exact a5, fun h h1 h2 => by rw [e _ (by omega)]; exact a6 h h1 h2⟩
/-- the reference wakes -/
theorem mt_awake {n H L : Nat} {M W : zMem} {Q : zMem → Prop} (vt : sp_vt M 1 n H L) (r : rt0 W M n H L) (st : pst W M n H L) (hQ : ∀ W', W' 0 24 = 1 → pr W' M n H → awf W W' → Q W') : wp_Model_awake W Q := by
  have H5 : H ≤ 5 := vt.1.2.2.2.1
  have n8 : n ≤ 8 := vt.1.2.1
  unfold wp_Model_awake
  rcases st with ⟨h24, hp⟩ | ⟨h24, hz, M0, Mc, hc, ok, eM⟩
  · rw [h24]
    exact ⟨fun _ => hQ W h24 hp awf.rf, fun c => absurd c (by decide)⟩
  · rw [h24]
    refine ⟨fun c => absurd rfl c, fun _ => ?_⟩
    have fr := (sp_all_ok ok).2.1
    have et : ∀ i, i ≤ 4 → Mc (1 + i) = M (1 + i) := fun i hi => by rw [eM]; exact (fr.1 (1 + i) (by omega) (fun q => absurd q (by omega))).symm
    have vtc := ok.2.2.2.1
    have rc : rt0 W Mc n H L := r.moved rfl et
    refine mt_asNumbered vtc rc (fun W1 m1 => ?_)
    have r1 : rt0 W1 Mc n H L := rc.moved (m1.2.2.2.2 4 (by omega) (by omega) (by omega)) (fun _ _ => rfl)
    have x6 : W1 6 = W 6 := m1.2.2.2.2 6 (by omega) (by omega) (by omega)
    have mr1 : mr W1 Mc 0 1 18 n H L (fun h => h) := mr_clear (by omega) (fun j hj => by rw [x6, show 96 * 0 + j = j by omega]; exact hz j hj) hc n8 H5 (mr_t_of (M' := Mc) r1 m1.1 m1.2.1 (fun h hh => (m1.2.2.1 h hh).2)) (fun h hh => ⟨by show h < 5; omega, (m1.2.2.1 h hh).1⟩) (fun _ _ _ _ e => e) (fun h p hh hp => r1.2.2.2.2.2.2.2.2.2.1 h p hh hp) (fun h => absurd h (by omega))
    show wp_Model_settle (nI 0) W1 _
    refine mt_settle (C := 40) (by omega) ok mr1 (fun h => absurd h (by omega)) (fun W2 mr2 f2 _ z2 => ?_)
    intro W3 e3
    have y6 : W3 6 = W2 6 := by rw [e3, zup_ne (by omega)]
    have p2 : pr W2 M n H := by
      rw [eM]
      refine mr2.pr z2 (fun h h1 h2 => ?_)
      have := f2.2.2.2 H h m1.1 h1 h2
      rw [show 96 * 0 + 8 + 8 * h + 2 = 8 + 8 * h + 2 by omega] at this
      rw [this, x6]
      exact hz _ (by omega)
    refine hQ W3 (by rw [e3, zup_eq, upd_eq]) (p2.moved H5 n8 (fun j _ => by rw [y6])) (m1.a.tr (f2.a.tr ⟨fun k q0 _ _ _ => by rw [e3, zup_ne q0], fun j _ _ q => by rw [e3, zup_eq, upd_ne q], fun j _ => by rw [y6]⟩))
