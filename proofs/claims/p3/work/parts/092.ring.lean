/-- the first below r that is so -/
noncomputable def sp_fo (P : Nat → Prop) : Nat → Option Nat
  | 0 => none
  | r + 1 => match sp_fo P r with
    | some q => some q
    | none => haveI := Classical.propDecidable (P r); if P r then some r else none
theorem sp_fo_fst {P : Nat → Prop} : ∀ r, sp_fst P r (sp_fo P r) := by
  intro r
  induction r with
  | zero => exact Or.inl ⟨rfl, fun q h => absurd h (by omega)⟩
  | succ r ih =>
    unfold sp_fo
    rcases ih with ⟨e, h⟩ | ⟨q, e, h1, h2, h3⟩
    · rw [e]
      dsimp only
      by_cases c : P r
      · rw [if_pos c]
        exact Or.inr ⟨r, rfl, by omega, c, h⟩
      · rw [if_neg c]
        refine Or.inl ⟨rfl, fun q hq => ?_⟩
        rcases Nat.lt_or_ge q r with c2 | c2
        · exact h q c2
        · have : q = r := by omega
          rw [this]; exact c
    · rw [e]
      exact Or.inr ⟨q, rfl, by omega, h2, h3⟩
theorem sp_fst_eq {P P' : Nat → Prop} {r : Nat} {o : Option Nat} (h : sp_fst P r o) (e : ∀ q, q < r → (P q ↔ P' q)) : o = sp_fo P' r := by
  have h' := sp_fo_fst (P := P') r
  rcases h with ⟨a, b⟩ | ⟨q, a, b, c, d⟩
  · rcases h' with ⟨a', b'⟩ | ⟨q', a', b', c', d'⟩
    · rw [a, a']
    · exact absurd ((e q' b').mpr c') (b q' b')
  · rcases h' with ⟨a', b'⟩ | ⟨q', a', b', c', d'⟩
    · exact absurd ((e q b).mp c) (b' q b)
    · rw [a, a']
      rcases Nat.lt_trichotomy q q' with z | z | z
      · exact absurd ((e q b).mp c) (d' q z)
      · rw [z]
      · exact absurd ((e q' b').mpr c') (d q' z)
theorem sp_fo_lt {P : Nat → Prop} {r q : Nat} (h : sp_fo P r = some q) : q < r := by
  rcases sp_fo_fst (P := P) r with ⟨a, b⟩ | ⟨q', a, b, -, -⟩
  · rw [a] at h; cases h
  · rw [a] at h; cases h; exact b
/-- done and tick at both ends of a ring -/
noncomputable def sp_rn (X Y : zMem) : Nat × Nat × Nat × Nat := (ix (X 5 3), ix (X 5 2), ix (Y 5 3), ix (Y 5 2))
/-- the search of a ring: f events at most, from V on, r records R so far -/
noncomputable def sp_rg (n H : Nat) : Nat → zMem → Nat → (Nat → zMem) → Option (Nat × Nat × Nat × Nat)
  | 0, _, _, _ => none
  | f + 1, V, r, R =>
    if V 5 3 < 120 then
      if V 5 3 < sp_ev 0 5 H V 5 3 then
        match sp_fo (fun q => sp_same 0 5 n H (R q) (sp_ev 0 5 H V)) r with
        | some q => some (sp_rn (R q) (sp_ev 0 5 H V))
        | none => sp_rg n H f (sp_ev 0 5 H V) (r + 1) (fun i => if i = r then sp_ev 0 5 H V else R i)
      else sp_rg n H f (sp_ev 0 5 H V) r R
    else none
theorem sp_rg_end {n H f r : Nat} {V : zMem} {R : Nat → zMem} (h : ¬ V 5 3 < 120) : sp_rg n H f V r R = none := by
  cases f with
  | zero => rfl
  | succ f => unfold sp_rg; rw [if_neg h]
theorem sp_rg_go {n H f r : Nat} {V : zMem} {R : Nat → zMem} (h : V 5 3 < 120) (h2 : ¬ V 5 3 < sp_ev 0 5 H V 5 3) : sp_rg n H (f + 1) V r R = sp_rg n H f (sp_ev 0 5 H V) r R := by
  show (if V 5 3 < 120 then _ else _) = _
  rw [if_pos h, if_neg h2]
theorem sp_rg_some {n H f r q : Nat} {V : zMem} {R : Nat → zMem} (h : V 5 3 < 120) (h2 : V 5 3 < sp_ev 0 5 H V 5 3) (h3 : sp_fo (fun q => sp_same 0 5 n H (R q) (sp_ev 0 5 H V)) r = some q) : sp_rg n H (f + 1) V r R = some (sp_rn (R q) (sp_ev 0 5 H V)) := by
  show (if V 5 3 < 120 then _ else _) = _
  rw [if_pos h, if_pos h2, h3]
theorem sp_rg_none {n H f r : Nat} {V : zMem} {R : Nat → zMem} (h : V 5 3 < 120) (h2 : V 5 3 < sp_ev 0 5 H V 5 3) (h3 : sp_fo (fun q => sp_same 0 5 n H (R q) (sp_ev 0 5 H V)) r = none) : sp_rg n H (f + 1) V r R = sp_rg n H f (sp_ev 0 5 H V) (r + 1) (fun i => if i = r then sp_ev 0 5 H V else R i) := by
  show (if V 5 3 < 120 then _ else _) = _
  rw [if_pos h, if_pos h2, h3]
noncomputable def sp_ring (t b n H : Nat) (M : zMem) : Option (Nat × Nat × Nat × Nat) := sp_rg n H 12000 (vw t b (sp_all t b H M)) 0 (fun _ => M)
/-- a record, by itself -/
def sp_rv (n H : Nat) (V : zMem) (dn tk : Nat) : Prop := (∀ h, h < H → sp_hd V 0 5 n h) ∧ (∀ h, h < H → ∃ l, l ≤ 40 ∧ V (5 + 2) h = nI l) ∧ (∃ d, d ≤ dn ∧ V 5 3 = nI d) ∧ (∃ u, u ≤ tk ∧ V 5 2 = nI u)
theorem sp_rv.mono {n H dn tk dn' tk' : Nat} {V : zMem} (h : sp_rv n H V dn tk) (h1 : dn ≤ dn') (h2 : tk ≤ tk') : sp_rv n H V dn' tk' := by
  obtain ⟨a, b, ⟨d, d1, d2⟩, u, u1, u2⟩ := h
  exact ⟨a, b, ⟨d, by omega, d2⟩, u, by omega, u2⟩
theorem vw_hd {t b n h : Nat} {M : zMem} : sp_hd (vw t b M) 0 5 n h = sp_hd M t b n h := by
  unfold sp_hd
  simp (disch := omega) only [vw_b, vw_t, vw_tt]
theorem vw_row {t b n H : Nat} {M : zMem} : sp_row 0 5 n H (vw t b M) = sp_row t b n H M := by
  funext i
  unfold sp_row sp_num
  simp (disch := omega) only [vw_b, vw_0, vw_cnt]
theorem sp_rv_of {t b n H L f dn tk : Nat} {M : zMem} (es : sp_es M t b n H L f dn tk) : sp_rv n H (vw t b M) dn tk := by
  obtain ⟨rl, ⟨C, hC, bd⟩, ⟨hd, hd2⟩, htk, htk2⟩ := es
  refine ⟨fun h hh => ?_, fun h hh => ?_, ⟨dn, Nat.le_refl _, by rw [vw_0 (by omega)]; exact hd⟩, ⟨tk, Nat.le_refl _, by rw [vw_0 (by omega)]; exact htk⟩⟩
  · rw [vw_hd]; exact rl.1.1.2.2.2.2.2.1 h hh
  · rw [vw_b (by omega) (by omega)]; exact bd.1 h hh
/-- the two ends of a ring are apart -/
def sp_rok (o : Option (Nat × Nat × Nat × Nat)) : Prop := ∀ da ta dn tn, o = some (da, ta, dn, tn) → da < dn ∧ ta < tn ∧ dn ≤ 200 ∧ tn ≤ 480000
/-- what the class writes of it -/
def sp_ro (o : Option (Nat × Nat × Nat × Nat)) (M : zMem) (g : Nat) : Prop := M g 0 = 1 ∧ (o = none → M g 1 = 0 ∧ M g 6 = 0 ∧ M g 7 = 1) ∧ (∀ da ta dn tn, o = some (da, ta, dn, tn) → M g 1 = 1 ∧ M g 2 = nI da ∧ M g 5 = nI ta ∧ M g 3 = nI (dn - da) ∧ M g 4 = nI (tn - ta) ∧ M g 6 = nI ((dn - da) / Nat.gcd (dn - da) (tn - ta)) ∧ M g 7 = nI ((tn - ta) / Nat.gcd (dn - da) (tn - ta)))
/-- the class's records -/
def sp_lc (M : zMem) (n H r : Nat) (R : Nat → zMem) (dn tk : Nat) : Prop := r ≤ dn ∧ M 41 1 = nI r ∧ ∀ q, q < r → sp_rv n H (R q) dn tk ∧ (∀ i, i < 46 → M 42 (46 * q + i) = sp_row 0 5 n H (R q) i) ∧ M 43 q = R q 5 3 ∧ M 44 q = R q 5 2
