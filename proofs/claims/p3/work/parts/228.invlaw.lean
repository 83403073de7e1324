set_option maxHeartbeats 4000000 in
theorem Inv_law {M W : zMem} {op : Int32} {a : Nat → Int32} (h : Inv M W) : zLaw op a M W (fun M' W' => Inv M' W') := by
  obtain ⟨n, H, L, cor, ca⟩ := id h
  obtain ⟨vt, r, st, bs, e18, im, rs⟩ := id cor
  obtain ⟨hcr, hco, hcp, hcc, h32⟩ := id ca
  obtain ⟨⟨z, z4, e5, w1, tp⟩, wt, fl, tn, sh⟩ := id rs
  have e28 : ∀ i, i < 2 → M 28 i = W 7 i := fun i hi => (im i hi).1
  have q : ∀ M' W', (∀ c, c < 6 ∨ (11 ≤ c ∧ c < 29) ∨ 62 ≤ c → M' c = M c) → mfy W W' → Cas M' n H L → Inv M' W' := fun M' W' e f c => ⟨n, H, L, cor.q e f, c⟩
  have bn : ∀ M' W', bst M' n H L → W' 0 24 = 1 → pr W' M' n H → M' 18 0 = M 18 0 → (∀ k, (k < 18 ∨ 27 ≤ k) → M' k = M k) → awf W W' → Inv M' W' := fun M' W' b h24 hp e8 e f => ⟨n, H, L, cor.b b h24 hp e8 e f, ca.b e⟩
  have aw : ∀ W', W' 0 24 = 1 → pr W' M n H → awf W W' → Inv M W' := fun W' h24 hp f => ⟨n, H, L, cor.aw h24 hp f, ca⟩
  have run : ∀ M' W', cc M' n H L → cfc M M' → mfy W W' → Inv M' W' := fun M' W' c f g => q M' W' (fun c hc => f.2 c (by omega)) g ⟨hcr.mv (fun i hi => f.2 _ (by omega)) (f.2 54 (by omega)), hco.mv (fun i hi => f.2 _ (by omega)) (f.2 57 (by omega)) (f.2 58 (by omega)), hcp.mv (fun i hi => f.2 _ (by omega)) (f.2 60 (by omega)) (f.2 61 (by omega)), c, by rw [f.1]; exact h32⟩
  have ring : ∀ M' W', cfr 54 M M' → mfy W W' → cr M' n H L → Inv M' W' := fun M' W' f g c => q M' W' (fun c hc => f c (by omega) (by omega)) g ⟨c, hco.mv (fun i hi => f _ (by omega) (by omega)) (f 57 (by omega) (by omega)) (f 58 (by omega) (by omega)), hcp.mv (fun i hi => f _ (by omega) (by omega)) (f 60 (by omega) (by omega)) (f 61 (by omega) (by omega)), hcc.mv (fun i hi => f _ (by omega) (by omega)) (fun k k1 k2 => f k (by omega) (by omega)), by rw [f 32 (by omega) (by omega)]; exact h32⟩
  have ord : ∀ M' W', ofr M M' → mfy W W' → co M' n H L → Inv M' W' := fun M' W' f g c => q M' W' (fun c hc => f c (by omega)) g ⟨hcr.mv (fun i hi => f _ (by omega)) (f 54 (by omega)), c, hcp.mv (fun i hi => f _ (by omega)) (f 60 (by omega)) (f 61 (by omega)), hcc.mv (fun i hi => f _ (by omega)) (fun k k1 k2 => f k (by omega)), by rw [f 32 (by omega)]; exact h32⟩
  have es : (M 81 0 = -1 ∧ W 16 0 = -4) ∨ (M 81 0 ≠ -1 ∧ W 16 0 ≠ -4 ∧ M 81 1 = W 17 0) := by
    rcases sh 0 (by omega) with ⟨a, b, c⟩ | ⟨l, z, hl, hz, c, d, e, f, -⟩
    · exact Or.inl ⟨a, c⟩
    · have c' : M 81 0 = nI l := c
      have e' : M 81 1 = nI z := e
      refine Or.inr ⟨fun w => ?_, fun w => ?_, e'.trans f.symm⟩
      · rw [c'] at w
        exact absurd w (by rcases (show l = 0 ∨ l = 1 ∨ l = 2 by omega) with rfl | rfl | rfl <;> decide)
      · rw [d] at w
        exact absurd w (by rcases (show l = 0 ∨ l = 1 ∨ l = 2 by omega) with rfl | rfl | rfl <;> decide)
  refine ⟨fun _ => i_feed h, fun _ => i_end h, fun _ => i_text h, fun _ => p_fault fl h, fun _ => p_rule vt r h, fun _ => p_units vt r h, fun _ => p_pace vt r h, fun _ => i_setPace h, fun _ => p_begin vt r st e18 bn, fun _ => p_go vt r st bs h bn, fun _ => p_night vt r st bs bn, fun _ => p_now vt r st bs aw, fun _ => p_hand vt r st aw, fun _ => p_learnt vt r st h, fun _ => p_takes vt r st h, fun _ => i_keep h, fun _ => i_back h, fun _ => p_run vt r h32 hcc h run, fun _ => p_waits vt r h32 hcc h run, fun _ => p_over vt r h32 hcc h run (fun M' c f => run M' W c f mfy.rf), fun _ => p_judge vt r h32 hcc run, fun _ => p_settles vt r hcr ring, fun _ => p_where vt r hcr h32 hcc h (fun M' W' c1 c2 e f g => ?_), fun _ => p_makes vt r hcr ring, fun _ => p_could vt r h, fun _ => p_order vt r hco ord, fun _ => p_best vt r hco ord, fun _ => p_stands vt r (fun M' W' f g => q M' W' (fun c hc => f c (by omega)) g (ca.mv (fun i hi => f _ (by omega)) (fun k hk => f k (by omega)))), fun _ => p_parts vt r hcp (fun M' W' f g c => ?_), fun _ => p_less vt r (fun M' W' f g => q M' W' (fun c hc => f c (by omega)) g (ca.mv (fun i hi => f _ (by omega)) (fun k hk => f k (by omega)))), fun _ => i_sheet h, fun _ => i_lay h, fun _ => i_read h, fun _ => p_torn tn h, fun _ => p_count vt r e28 (e5.trans w1.symm) es h, fun _ => h⟩
  · exact q M' W' (fun c hc => f c (by omega)) g ⟨c1, hco.mv (fun i hi => f _ (by omega)) (f 57 (by omega)) (f 58 (by omega)), hcp.mv (fun i hi => f _ (by omega)) (f 60 (by omega)) (f 61 (by omega)), c2, by rw [e]; exact h32⟩
  · exact q M' W' (fun c hc => f c (by omega)) g ⟨hcr.mv (fun i hi => f _ (by omega)) (f 54 (by omega)), hco.mv (fun i hi => f _ (by omega)) (f 57 (by omega)) (f 58 (by omega)), c, hcc.mv (fun i hi => f _ (by omega)) (fun k k1 k2 => f k (by omega)), by rw [f 32 (by omega)]; exact h32⟩
theorem wtb_0 : wtb zW0 := by
  have h1 : ((List.range 11).all fun i => decide (zW0 2 i = nI (sp_sum (fun j => zsL.getD j 0) i))) = true := by decide +kernel
  have h2 : ((List.range 10).all fun i => (List.range (zsL.getD i 0)).all fun j => decide (zW0 3 (sp_sum (fun j => zsL.getD j 0) i + j) = zsc i j)) = true := by decide +kernel
  exact ⟨fun i hi => of_decide_eq_true (List.all_eq_true.mp h1 i (List.mem_range.mpr (by omega))), fun i hi j hj => of_decide_eq_true (List.all_eq_true.mp (List.all_eq_true.mp h2 i (List.mem_range.mpr hi)) j (List.mem_range.mpr hj))⟩
theorem Inv_0 : wp_Told_tellAsAtFirst 1 zM0 (fun zm1 => (∀ c, 6 ≤ c → zm1 c = zM0 c) ∧ wp_Bench_clear 18 zm1 (fun zm2 => wp_Bench_doAll 18 zm2 (fun M => Inv M zW0))) := by
  refine xt_tell (fun M1 t1 => ?_)
  have kk := t1.2.2.2.2.2.2.2.2.2.2.2
  refine ⟨fun c hc => kk c (by omega), xt_clear (fun Mc hc => ?_)⟩
  have ck := hc.2.2.2.2.2.2.2.2.2
  have vt1 := tf_vt t1
  have e18 : M1 18 0 = 0 := by rw [kk 18 (by omega)]; rfl
  have ok := sp_ok_clear hc (by rw [e18]; rfl) (by omega) (by omega) vt1 (fun g hg => by rw [zlg_18] at hg; cases hg)
  refine xt_doAll ok ?_
  obtain ⟨ok2, fr2, hs2⟩ := sp_all_ok ok
  have ek : ∀ k, (k < 18 ∨ 27 ≤ k) → sp_all 1 18 3 Mc k = M1 k := fun k hk => by
    rw [fr2.1 k (by omega) (fun q => absurd q (by omega))]
    exact ck k (by omega)
  have ez : ∀ c, (c = 0 ∨ 6 ≤ c ∧ c < 18 ∨ 27 ≤ c) → sp_all 1 18 3 Mc c = zM0 c := fun c hc => by
    rw [ek c (by omega)]; exact kk c (by omega)
  have z : ∀ c j, (c = 0 ∨ 6 ≤ c ∧ c < 18 ∨ 27 ≤ c) → zM0 c j = 0 → sp_all 1 18 3 Mc c j = 0 := fun c j h1 h2 => by rw [ez c h1]; exact h2
  refine ⟨3, 3, 1, ⟨ok2.2.2.2.1, (tf_rt t1).moved rfl (fun i hi => ek _ (by omega)), Or.inr ⟨rfl, fun j _ => rfl, M1, Mc, hc, ok, rfl⟩, ⟨ok2, hs2⟩, ok2.1, fun i hi => ⟨by rw [z 28 i (by omega) rfl]; rfl, fun w => absurd (z 28 i (by omega) rfl) w⟩, ⟨0, by omega, z 11 5 (by omega) rfl, rfl, fun j hj => absurd hj (by omega)⟩, wtb_0, z 11 1 (by omega) rfl, z 0 13 (by omega) rfl, fun i hi => Or.inl ?_⟩, Cas.no (z 54 0 (by omega) rfl) (fun q _ => z 58 q (by omega) rfl) (z 60 0 (by omega) rfl) (z 29 2 (by omega) rfl) (by rw [z 32 0 (by omega) rfl]; rfl) (by omega)⟩
  rw [ez (81 + 2 * i) (by omega)]
  rcases (show i = 0 ∨ i = 1 ∨ i = 2 ∨ i = 3 by omega) with rfl | rfl | rfl | rfl <;> exact ⟨rfl, rfl, rfl⟩
theorem whole_start {p : Program} {e : Env} {s : State} {m : MethodId} {below : List Frame} {meth : Method} {c : Code} (l : Launch) (hflags : l.flags = flags0) {b L : Nat} {xs : Nat → Int32} (hL : L ≤ 384) (C0 : lw_At p s m meth c b L xs) : W p l e room_1 s m #[Value.ref b] below meth c s.heap [] 0 0 (lw_Z below #[Value.ref b] s) (entryFrame m ([Value.ref b] : List Value).toArray 4) := start_of l hL C0 (fun _ M W => Inv M W) Inv_0 (fun i M W' hi hin => Inv_law hin)
