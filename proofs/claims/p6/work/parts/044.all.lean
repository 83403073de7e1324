/-- one round of all hands, from the last (h of them are left) -/
noncomputable def sp_rd (t b : Nat) : Nat → Bool → zMem → Bool × zMem
  | 0, s, M => (s, M)
  | h + 1, s, M => match sp_hand t b h M with
    | some M' => sp_rd t b h true M'
    | none => sp_rd t b h s M
noncomputable def sp_rounds (t b H : Nat) : Nat → zMem → zMem
  | 0, M => M
  | f + 1, M => if (sp_rd t b H false M).1 = true then sp_rounds t b H f (sp_rd t b H false M).2 else (sp_rd t b H false M).2
noncomputable def sp_all (t b H : Nat) (M : zMem) : zMem := sp_rounds t b H (sp_sum (sp_c M b) H + 1) M
theorem sp_rd_ok {t b n H L : Nat} : ∀ h (s : Bool) (M : zMem), h ≤ H → sp_ok M t b n H L → sp_ok (sp_rd t b h s M).2 t b n H L ∧ sp_sum (sp_c (sp_rd t b h s M).2 b) H ≤ sp_sum (sp_c M b) H ∧ ((sp_rd t b h s M).1 = true → s = true ∨ sp_sum (sp_c (sp_rd t b h s M).2 b) H < sp_sum (sp_c M b) H) ∧ sp_fr b M (sp_rd t b h s M).2 ∧ (s = true → (sp_rd t b h s M).1 = true) ∧ ((sp_rd t b h s M).1 = false → (sp_rd t b h s M).2 = M ∧ ∀ j, j < h → sp_hand t b j M = none) := by
  intro h
  induction h with
  | zero => intro s M _ ok; exact ⟨ok, Nat.le_refl _, fun e => Or.inl e, sp_fr.rf, fun e => e, fun _ => ⟨rfl, fun j hj => absurd hj (by omega)⟩⟩
  | succ h ih =>
    intro s M hh ok
    unfold sp_rd
    cases e : sp_hand t b h M with
    | none =>
      dsimp only
      obtain ⟨a1, a2, a3, a4, a5, a6⟩ := ih s M (by omega) ok
      refine ⟨a1, a2, a3, a4, a5, fun q => ⟨(a6 q).1, fun j hj => ?_⟩⟩
      by_cases c : j = h
      · subst c; exact e
      · exact (a6 q).2 j (by omega)
    | some M' =>
      dsimp only
      obtain ⟨b1, b2⟩ := sp_step ok (by omega) e
      obtain ⟨a1, a2, a3, a4, a5, a6⟩ := ih true M' (by omega) b1
      refine ⟨a1, by omega, fun _ => Or.inr (by omega), (sp_fr_hand e).tr a4, fun _ => a5 rfl, fun q => ?_⟩
      rw [a5 rfl] at q
      cases q
theorem sp_rounds_ok {t b n H L : Nat} : ∀ f (M : zMem), sp_sum (sp_c M b) H < f → sp_ok M t b n H L → sp_ok (sp_rounds t b H f M) t b n H L ∧ sp_fr b M (sp_rounds t b H f M) ∧ ∀ j, j < H → sp_hand t b j (sp_rounds t b H f M) = none := by
  intro f
  induction f with
  | zero => intro M h; omega
  | succ f ih =>
    intro M hf ok
    obtain ⟨a1, a2, a3, a4, a5, a6⟩ := sp_rd_ok H false M (Nat.le_refl _) ok
    unfold sp_rounds
    by_cases c : (sp_rd t b H false M).1 = true
    · rw [if_pos c]
      rcases a3 c with q | q
      · cases q
      · obtain ⟨c1, c2, c3⟩ := ih _ (by omega) a1
        exact ⟨c1, a4.tr c2, c3⟩
    · rw [if_neg c]
      have c' : (sp_rd t b H false M).1 = false := by cases h : (sp_rd t b H false M).1 with
        | true => exact absurd h c
        | false => rfl
      obtain ⟨d1, d2⟩ := a6 c'
      rw [d1]
      exact ⟨ok, sp_fr.rf, d2⟩
theorem sp_rounds_fuel {t b n H L : Nat} : ∀ f f' (M : zMem), sp_sum (sp_c M b) H < f → sp_sum (sp_c M b) H < f' → sp_ok M t b n H L → sp_rounds t b H f M = sp_rounds t b H f' M := by
  intro f
  induction f with
  | zero => intro f' M h; omega
  | succ f ih =>
    intro f' M hf hf' ok
    obtain ⟨g, rfl⟩ : ∃ g, f' = g + 1 := ⟨f' - 1, by omega⟩
    obtain ⟨a1, a2, a3, a4, a5, a6⟩ := sp_rd_ok H false M (Nat.le_refl _) ok
    unfold sp_rounds
    by_cases c : (sp_rd t b H false M).1 = true
    · rw [if_pos c, if_pos c]
      rcases a3 c with q | q
      · cases q
      · exact ih g _ (by omega) (by omega) a1
    · rw [if_neg c, if_neg c]
theorem sp_all_ok {t b n H L : Nat} {M : zMem} (ok : sp_ok M t b n H L) : sp_ok (sp_all t b H M) t b n H L ∧ sp_fr b M (sp_all t b H M) ∧ ∀ j, j < H → sp_hand t b j (sp_all t b H M) = none := sp_rounds_ok _ M (by omega) ok
theorem sp_c_bound {M : zMem} {b : Nat} : ∀ H, H ≤ 5 → sp_sum (sp_c M b) H ≤ 8 * H := by
  intro H
  induction H with
  | zero => intro _; exact Nat.le_refl _
  | succ H ih =>
    intro h
    unfold sp_sum
    have := ih (by omega)
    have h2 : sp_c M b H ≤ 8 := by
      unfold sp_c
      split
      · omega
      · split
        · omega
        · split <;> omega
    omega
set_option maxHeartbeats 1000000 in
theorem xt_round {t b n H L : Nat} {y2 : Int32} {Q : zMem → Prop} {K : Int32 → zMem → Prop} : ∀ h (s : Bool) (M : zMem), h ≤ H → sp_ok M t b n H L → K (if (sp_rd t b h s M).1 = true then 1 else 0) (sp_rd t b h s M).2 → ∃ k, zlp2 (wpB_Bench_doAll_26 b y2 K Q) k (if s = true then 1 else 0) (nI h - 1) M := by
  intro h
  induction h with
  | zero =>
    intro s M _ ok hK
    refine ⟨1, ?_⟩
    show wpB_Bench_doAll_26 b y2 K Q _ _ _ _
    unfold wpB_Bench_doAll_26
    refine ⟨fun _ => hK, fun c => absurd (show nI 0 - 1 < 0 by decide) c⟩
  | succ h ih =>
    intro s M hh ok hK
    have H5 : H ≤ 5 := ok.2.2.2.1.1.2.2.2.1
    have e1 : nI (h + 1) - 1 = nI h := nI_pred h
    have e2 : ix (nI h) = h := q_ix (by omega)
    have e3 : vp_in (nI h) 5 := vp_in_nI (by omega) (by omega)
    have e4 : nI h + (-1) = nI h - 1 := (Int32.sub_eq_add_neg _ _).symm
    have e5 : ¬ nI h < 0 := nI_pos (by omega)
    have step : ∀ s' M', (∃ k, zlp2 (wpB_Bench_doAll_26 b y2 K Q) k s' (nI h - 1) M') → ∃ k, ∀ x, x = nI h + (-1) → zlp2 (wpB_Bench_doAll_26 b y2 K Q) k s' x M' := fun s' M' ⟨k, hk⟩ => ⟨k, fun x hx => by rw [hx, e4]; exact hk⟩
    rw [e1]
    cases e : sp_hand t b h M with
    | none =>
      unfold sp_rd at hK
      rw [e] at hK
      obtain ⟨k, hk⟩ := step _ _ (ih s M (by omega) ok hK)
      refine ⟨k + 1, ?_⟩
      show wpB_Bench_doAll_26 b y2 K Q (zlp2 (wpB_Bench_doAll_26 b y2 K Q) k) _ _ _
      unfold wpB_Bench_doAll_26
      rw [e2]
      refine ⟨fun c => absurd c e5, fun _ => ⟨e3, fun _ => hk, fun c => ?_⟩⟩
      refine xt_hand ok (by omega) c (fun M' q => by rw [e] at q; cases q) (fun _ => ⟨fun _ => hk, fun c => absurd rfl c⟩)
    | some M' =>
      unfold sp_rd at hK
      rw [e] at hK
      obtain ⟨b1, b2⟩ := sp_step ok (by omega) e
      obtain ⟨k, hk⟩ := step _ _ (ih true M' (by omega) b1 hK)
      refine ⟨k + 1, ?_⟩
      show wpB_Bench_doAll_26 b y2 K Q (zlp2 (wpB_Bench_doAll_26 b y2 K Q) k) _ _ _
      unfold wpB_Bench_doAll_26
      rw [e2]
      refine ⟨fun c => absurd c e5, fun _ => ⟨e3, fun c => ?_, fun c => ?_⟩⟩
      · unfold sp_hand at e
        rw [if_neg c] at e
        cases e
      · refine xt_hand ok (by omega) c (fun M'' q => ?_) (fun q => by rw [e] at q; cases q)
        rw [e] at q
        cases q
        exact ⟨fun c => absurd c (by decide), fun _ => hk⟩
theorem xt_doAll {t b n H L : Nat} {M : zMem} {Q : zMem → Prop} (ok : sp_ok M t b n H L) (hQ : Q (sp_all t b H M)) : wp_Bench_doAll b M Q := by
  have H5 : H ≤ 5 := ok.2.2.2.1.1.2.2.2.1
  unfold wp_Bench_doAll
  unfold sp_all at hQ
  have hb := sp_c_bound (M := M) (b := b) H H5
  refine zlp2_r (fun m s i M' => ∃ j : Nat, i = nI j ∧ j + m ≤ 60 ∧ ((s = 1 ∧ sp_ok M' t b n H L ∧ sp_sum (sp_c M' b) H + 1 = m ∧ Q (sp_rounds t b H m M')) ∨ (s = 0 ∧ Q M'))) ?_ (n := sp_sum (sp_c M b) H + 1) ⟨0, rfl, by omega, Or.inl ⟨rfl, ok, rfl, hQ⟩⟩
  rintro m s i M' ⟨j, rfl, hj, hc⟩ J hJ
  unfold wpB_Bench_doAll_4
  have e1 : ¬ 1000000 ≤ nI j := by rw [Int32.not_le]; exact nI_lt (b := 1000000) (by omega) (by omega)
  refine ⟨fun c => absurd c e1, fun _ => ?_⟩
  rcases hc with ⟨rfl, ok', hm, hQ'⟩ | ⟨rfl, hQ'⟩
  · refine ⟨fun c => absurd c (by decide), fun _ x hx => ?_⟩
    have eH : M' (ztc (M' b 0)) 1 = nI H := by rw [ok'.1]; exact ok'.2.2.2.1.2.2.1
    rw [eH] at hx
    subst hx
    refine xt_round (s := false) H M' (Nat.le_refl _) ok' (fun y hy => ?_)
    obtain ⟨a1, a2, a3, a4, a5, a6⟩ := sp_rd_ok H false M' (Nat.le_refl _) ok'
    obtain ⟨f, rfl⟩ : ∃ f, m = f + 1 := ⟨m - 1, by omega⟩
    unfold sp_rounds at hQ'
    subst hy
    rw [nI_1]
    by_cases c : (sp_rd t b H false M').1 = true
    · rw [if_pos c] at hQ' ⊢
      rcases a3 c with q | q
      · cases q
      · refine hJ (sp_sum (sp_c (sp_rd t b H false M').2 b) H + 1) _ _ _ (by omega) ⟨j + 1, rfl, by omega, Or.inl ⟨rfl, a1, rfl, ?_⟩⟩
        rw [sp_rounds_fuel _ f _ (by omega) (by omega) a1]
        exact hQ'
    · rw [if_neg c] at hQ' ⊢
      exact hJ 0 _ _ _ (by omega) ⟨j + 1, rfl, by omega, Or.inr ⟨rfl, hQ'⟩⟩
  · exact ⟨fun _ => hQ', fun c => absurd rfl c⟩
