theorem fsh_0 : wp_Told_tellAsAtFirst 1 zM0 (fun zm1 => (∀ c, 6 ≤ c → zm1 c = zM0 c) ∧ wp_Bench_clear 18 zm1 (fun zm2 => wp_Bench_doAll 18 zm2 (fun M => 0 = 0 → fsh M zW0))) := by
  refine xt_tell (fun M1 t1 => ?_)
  have kk := t1.2.2.2.2.2.2.2.2.2.2.2
  refine ⟨fun c hc => kk c (by omega), xt_clear (fun Mc hc => ?_)⟩
  have ck := hc.2.2.2.2.2.2.2.2.2
  have vt1 := tf_vt t1
  have e18 : M1 18 0 = 0 := by rw [kk 18 (by omega)]; rfl
  have ok := sp_ok_clear hc (by rw [e18]; rfl) (by omega) (by omega) vt1 (fun g hg => by rw [zlg_18] at hg; cases hg)
  refine xt_doAll ok (fun _ => ?_)
  obtain ⟨ok2, fr2, hs2⟩ := sp_all_ok ok
  have ek : ∀ k, (k < 18 ∨ 27 ≤ k) → sp_all 1 18 3 Mc k = M1 k := fun k hk => by
    rw [fr2.1 k (by omega) (fun q => absurd q (by omega))]
    exact ck k (by omega)
  have e1 : sp_all 1 18 3 Mc 1 = M1 1 := ek 1 (by omega)
  refine ⟨rfl, ok2.2.2.2.1, (tf_rt t1).moved rfl (fun i hi => ek _ (by omega)), fun c hc => ?_, ?_, ?_, ?_, ?_, M1, Mc, hc, ok, rfl⟩
  · rw [ek c (by omega)]; exact kk c (by omega)
  · rw [e1]; exact t1.2.2.1
  · rw [e1]; exact t1.2.2.2.1
  · rw [e1]; exact t1.2.2.2.2.1
  · rw [e1]; exact t1.2.2.2.2.2.1
set_option maxHeartbeats 4000000 in
theorem fsh_law {M W : zMem} {op : Int32} {a : Nat → Int32} {P : zMem → zMem → Prop} (h : fsh M W) (tr : ∀ M' W', P M' W') (hw : ∀ a1 a2, wp_Main_where a1 a2 M (fun x M' => wp_Model_where a1 a2 W (fun y W' => x = y ∧ P M' W'))) : zLaw op a M W P := by
  obtain ⟨rfl, vt, rt, ek, -, -, -, -, M0, Mc, hc, ok, eM⟩ := id h
  obtain ⟨ok2, fr2, hs2⟩ := sp_all_ok ok
  rw [← eM] at ok2 fr2 hs2
  have bs : bst M 3 3 1 := ⟨ok2, hs2⟩
  have st : pst zW0 M 3 3 1 := Or.inr ⟨rfl, fun j _ => rfl, M0, Mc, hc, ok, eM⟩
  have t18 : ztc (M 18 0) = 1 := ok2.1
  have z : ∀ c j, (c = 0 ∨ 6 ≤ c ∧ c < 18 ∨ 27 ≤ c) → zM0 c j = 0 → M c j = 0 := fun c j h1 h2 => by rw [ek c h1]; exact h2
  have t32 : ztc (M 32 0) = 1 := by rw [z 32 0 (by omega) rfl]; rfl
  have hcr : cr M 3 3 1 := Or.inl (z 54 0 (by omega) rfl)
  have hco : co M 3 3 1 := fun q _ => Or.inl (z 58 q (by omega) rfl)
  have hcp : cp M 3 3 1 := Or.inl (z 60 0 (by omega) rfl)
  have hcc : cc M 3 3 1 := Or.inl (z 29 2 (by omega) rfl)
  have z11 : M 11 5 = 0 := z 11 5 (by omega) rfl
  have e28 : ∀ i, i < 2 → M 28 i = zW0 7 i := fun i _ => by rw [z 28 i (by omega) rfl]; rfl
  have hs : ∀ i, i < 4 → M (81 + 2 * i) 0 = -1 ∧ zW0 16 i = -4 := by
    intro i hi
    rw [ek (81 + 2 * i) (by omega)]
    rcases (show i = 0 ∨ i = 1 ∨ i = 2 ∨ i = 3 by omega) with rfl | rfl | rfl | rfl <;> exact ⟨rfl, rfl⟩
  have h81 : ∀ i, i < 4 → M (81 + 2 * i) 1 = 0 := by
    intro i hi
    rw [ek (81 + 2 * i) (by omega)]
    rcases (show i = 0 ∨ i = 1 ∨ i = 2 ∨ i = 3 by omega) with rfl | rfl | rfl | rfl <;> rfl
  refine ⟨fun _ => p_feed (z := 0) z11 rfl (by omega) (tr _ _) (by intros; exact tr _ _), fun _ => p_end (z := 0) z11 rfl (by omega) (tr _ _) (by intros; exact tr _ _), fun _ => xt_text0 z11 (fun M' _ _ _ => mw_text0 rfl (fun W' _ _ _ _ => ⟨rfl, tr _ _⟩)), fun _ => p_fault (z 11 1 (by omega) rfl) (tr _ _), fun _ => p_rule vt rt (tr _ _), fun _ => p_units vt rt (tr _ _), fun _ => p_pace vt rt (tr _ _), fun _ => p_setPace vt rt st (tr _ _) (by intros; exact tr _ _), fun _ => p_begin vt rt st t18 (by intros; exact tr _ _), fun _ => p_go vt rt st bs (tr _ _) (by intros; exact tr _ _), fun _ => p_night vt rt st bs (by intros; exact tr _ _), fun _ => p_now vt rt st bs (by intros; exact tr _ _), fun _ => p_hand vt rt st (by intros; exact tr _ _), fun _ => p_learnt vt rt st (tr _ _), fun _ => p_takes vt rt st (tr _ _), fun _ => p_keep vt rt st e28 (tr _ _) (by intros; exact tr _ _), fun _ => p_back e28 (tr _ _) (fun i M' W' hi q => absurd (z 28 i (by omega) rfl) q), fun _ => p_run vt rt t32 hcc (tr _ _) (by intros; exact tr _ _), fun _ => p_waits vt rt t32 hcc (tr _ _) (by intros; exact tr _ _), fun _ => p_over vt rt t32 hcc (tr _ _) (by intros; exact tr _ _) (by intros; exact tr _ _), fun _ => p_judge vt rt t32 hcc (by intros; exact tr _ _), fun _ => p_settles vt rt hcr (by intros; exact tr _ _), fun _ => hw _ _, fun _ => p_makes vt rt hcr (by intros; exact tr _ _), fun _ => p_could vt rt (tr _ _), fun _ => p_order vt rt hco (by intros; exact tr _ _), fun _ => p_best vt rt hco (by intros; exact tr _ _), fun _ => p_stands vt rt (by intros; exact tr _ _), fun _ => p_parts vt rt hcp (by intros; exact tr _ _), fun _ => p_less vt rt (by intros; exact tr _ _), fun _ => p_sheet (tr _ _) (by intros; exact tr _ _), fun _ => p_lay0 hs (tr _ _), fun _ => p_read0 vt rt st hs h81 (tr _ _) (by intros; exact tr _ _), fun _ => p_torn (z 0 13 (by omega) rfl) (tr _ _), fun _ => p_count vt rt e28 z11 (Or.inl (hs 0 (by omega))) (tr _ _), fun _ => tr _ _⟩
/-- the law from its entry, but for where -/
theorem whole_of {p : Program} {e : Env} {s : State} {m : MethodId} {below : List Frame} {meth : Method} {c : Code} (l : Launch) {b L : Nat} {xs : Nat → Int32} (hL : L ≤ 6) (C0 : lw_At p s m meth c b L xs) (hw : ∀ (M W : zMem) (P : zMem → zMem → Prop) (a1 a2 : Int32), fsh M W → (∀ M' W', P M' W') → wp_Main_where a1 a2 M (fun x M' => wp_Model_where a1 a2 W (fun y W' => x = y ∧ P M' W'))) : W p l e room_1 s m #[Value.ref b] below meth c s.heap [] 0 0 (lw_Z below #[Value.ref b] s) (entryFrame m ([Value.ref b] : List Value).toArray 4) := by
  refine start_of l hL C0 (fun i M W => i = 0 → fsh M W) fsh_0 (fun i M W' hi hin => ?_)
  have tr : ∀ M' W'' : zMem, (fun M' W'' => i + 6 = 0 → fsh M' W'') M' W'' := fun M' W'' q => absurd q (by omega)
  exact fsh_law (hin (by omega)) tr (fun a1 a2 => hw M W' _ a1 a2 (hin (by omega)) tr)
