theorem zk_Main_89 : zCV "HandToHand" 89 "HandToHand$Told" ⟨"HandToHand$Told", "tellAsAtFirst", "()V"⟩ prog_11_method_3_code 3 none 0 := ⟨zgoodV zu_372 zu_373 zu_374 zu_2 zu_375, by decide +kernel⟩
set_option maxHeartbeats 4000000 in
set_option maxRecDepth 20000 in
theorem i_Main {l : Launch} {w : zWd} {M : zMem} {post : zMem → Prop} (hn : w.2.2.2.2 = 1) (hk : w.2.2.1 0 (M 0) = .inr (10, [.null, .null, .null, .null, .null, .null, .null, .null, .null, .null, .null, .null, .null, .int 0])) (h : wp_Told_tellAsAtFirst 1 zM0 (fun zm1 => (∀ c, 6 ≤ c → zm1 c = zM0 c) ∧ wp_Bench_clear 18 zm1 (fun zm2 => wp_Bench_doAll 18 zm2 post))) : zMc l ⟨"HandToHand", "<init>", "()V"⟩ prog_1_method_1_code 2 4 92 88 10356 w [.ref (w.2.2.2.1 + 0)] M (zwC w) post := by
  refine zMetC (by decide) rfl (Nat.le_of_ble_eq_true rfl) ?_
  intro p e s m below meth c X hKo hmi hr hlk hml hsz hG ls hl
  have hx := X.1
  have hb := X.2.1
  have hl : lv_has ls 2 [(0, .ref (w.2.2.2.1 + 0))] := hl
  have hG : zGo (zwn w (zsk (zsk (zsk (zshC w.2.1 w.2.2.2.1) 62 (.inl (w.2.1 4, 4, .inr (.inr (.inr (.inr (fun _ => none))))))) 27 (.inl (w.2.1 3, 2, .inr (.inr (.inr (.inr (fun _ => none))))))) 0 (.inr (10, [.null, .null, .null, .null, .null, .null, .null, .null, .null, .null, .null, .null, .null, .int 0]))) 1) s.heap zM0 s.heap [] := by
    rw [← hn]
    refine zGo_cast (w := w) (sh := w.2.2.1) (M := M) (fun c hc => ?_) hG
    have q : c = 0 := by omega
    subst q; rw [zsk_eq]; exact hk
  refine lv_aload_n hx hb dX10_init_0 rfl (lv_at hl 0 rfl) ?_
  refine zg_obj X hml hl zu_23 zu_24 zu_25 ⟨Nat.le_of_ble_eq_true rfl, Nat.le_of_ble_eq_true rfl⟩ dX10_init_1 ?_
  refine lv_aload_n hx hb dX10_init_4 rfl (lv_at hl 0 rfl) ?_
  refine zg_new (w := w) (ci := 9) (C := "HandToHand$Told") (T := TX9) (ty0 := tyX9) (fs := [.int 0, .int 0, .int 0, .int 0, .int 0, .int 0, .int 0, .null, .null, .null, .null]) X hG (by omega) (by omega) rfl zin_9 tyX9_ok zu_26 zu_27 zu_2 (fun j hj => by rcases (show j = 0 ∨ j = 1 ∨ j = 2 ∨ j = 3 ∨ j = 4 ∨ j = 5 ∨ j = 6 ∨ j = 7 ∨ j = 8 ∨ j = 9 ∨ j = 10 by omega) with rfl | rfl | rfl | rfl | rfl | rfl | rfl | rfl | rfl | rfl | rfl <;> rfl) (Nat.le_of_ble_eq_true rfl) (Nat.le_of_ble_eq_true rfl) dX10_init_5 (fun H hG => ?_)
  refine W.widen (k := 1) (n := 11) (Nat.le_of_ble_eq_true rfl) (Nat.le_of_ble_eq_true rfl) ?_
  refine lv_dup hx hb dX10_init_8 rfl ?_
  refine zg_ctorN (w := w) (k := 1) (na := 0) (As := []) (rest := [.ref (w.2.2.2.1 + 1), .ref (w.2.2.2.1 + 0)]) (host := "HandToHand") X hKo hml hl hG (by omega) (by omega) (List.mem_of_getElem? (i := 0) rfl) zu_29 zu_2 zu_30 rfl (by decide +kernel) (i_Told (w := zwn w (zsk (zsk (zsk (zsk (zshC w.2.1 w.2.2.2.1) 62 (.inl (w.2.1 4, 4, .inr (.inr (.inr (.inr (fun _ => none))))))) 27 (.inl (w.2.1 3, 2, .inr (.inr (.inr (.inr (fun _ => none))))))) 0 (.inr (10, [.null, .null, .null, .null, .null, .null, .null, .null, .null, .null, .null, .null, .null, .int 0]))) 1 (.inr (9, [.int 0, .int 0, .int 0, .int 0, .int 0, .int 0, .int 0, .null, .null, .null, .null]))) 2) (k := 1) (M := zM0) (M' := zM0) (sh := (zsk (zsk (zsk (zshC w.2.1 w.2.2.2.1) 62 (.inl (w.2.1 4, 4, .inr (.inr (.inr (.inr (fun _ => none))))))) 27 (.inl (w.2.1 3, 2, .inr (.inr (.inr (.inr (fun _ => none))))))) 0 (.inr (10, [.null, .null, .null, .null, .null, .null, .null, .null, .null, .null, .null, .null, .null, .int 0])))) rfl rfl (fun c hc => congrFun (zsk_ne (by omega)) _) ((congrFun (zsk_ne (by omega)) _).trans rfl) ((congrFun (zsk_ne (by omega)) _).trans rfl) ((congrFun (zsk_ne (by omega)) _).trans rfl) ((congrFun (zsk_ne (by omega)) _).trans rfl) ((congrFun (zsk_ne (by omega)) _).trans rfl)) rfl rfl ⟨Nat.le_of_ble_eq_true rfl, Nat.le_of_ble_eq_true rfl⟩ ⟨Nat.le_of_ble_eq_true rfl, Nat.le_of_ble_eq_true rfl⟩ rfl (Nat.le_of_ble_eq_true rfl) dX10_init_9 (fun zM H locs eM hG => ?_)
  rw [eM] at hG
  refine W.widen (k := 5) (n := 86) (Nat.le_of_ble_eq_true rfl) (Nat.le_of_ble_eq_true rfl) ?_
  refine zg_putF (w := w) (k := 0) (ci := 10) (C := "HandToHand") (T := TX10) (ty0 := tyX10) (ty := (.object "HandToHand$Told")) (v := .ref (w.2.2.2.1 + 1)) X hmi hG (by omega) zsk_eq rfl zin_10 tyX10_ok nmX10 0 (by decide) rfl rfl zu_467 rfl rfl rfl rfl rfl dX10_init_12 (fun H locs hG => ?_)
  replace hG := zsk_re (E'' := .inr (10, [.ref (w.2.2.2.1 + 1), .null, .null, .null, .null, .null, .null, .null, .null, .null, .null, .null, .null, .int 0])) rfl hG
  refine lv_aload_n hx hb dX10_init_15 rfl (lv_at hl 0 rfl) ?_
  refine zg_new (w := w) (ci := 9) (C := "HandToHand$Told") (T := TX9) (ty0 := tyX9) (fs := [.int 0, .int 0, .int 0, .int 0, .int 0, .int 0, .int 0, .null, .null, .null, .null]) X hG (by omega) (by omega) rfl zin_9 tyX9_ok zu_26 zu_27 zu_2 (fun j hj => by rcases (show j = 0 ∨ j = 1 ∨ j = 2 ∨ j = 3 ∨ j = 4 ∨ j = 5 ∨ j = 6 ∨ j = 7 ∨ j = 8 ∨ j = 9 ∨ j = 10 by omega) with rfl | rfl | rfl | rfl | rfl | rfl | rfl | rfl | rfl | rfl | rfl <;> rfl) (Nat.le_of_ble_eq_true rfl) (Nat.le_of_ble_eq_true rfl) dX10_init_16 (fun H hG => ?_)
  refine W.widen (k := 6) (n := 97) (Nat.le_of_ble_eq_true rfl) (Nat.le_of_ble_eq_true rfl) ?_
  refine lv_dup hx hb dX10_init_19 rfl ?_
  refine zg_ctorN (w := w) (k := 6) (na := 0) (As := []) (rest := [.ref (w.2.2.2.1 + 6), .ref (w.2.2.2.1 + 0)]) (host := "HandToHand") X hKo hml hl hG (by omega) (by omega) (List.mem_of_getElem? (i := 0) rfl) zu_29 zu_2 zu_30 rfl (by decide +kernel) (i_Told (w := zwn w (zsk (zsk (zsk (zsk (zshC w.2.1 w.2.2.2.1) 62 (.inl (w.2.1 4, 4, .inr (.inr (.inr (.inr (fun _ => none))))))) 27 (.inl (w.2.1 3, 2, .inr (.inr (.inr (.inr (fun _ => none))))))) 0 (.inr (10, [.ref (w.2.2.2.1 + 1), .null, .null, .null, .null, .null, .null, .null, .null, .null, .null, .null, .null, .int 0]))) 6 (.inr (9, [.int 0, .int 0, .int 0, .int 0, .int 0, .int 0, .int 0, .null, .null, .null, .null]))) 7) (k := 6) (M := zM0) (M' := zM0) (sh := (zsk (zsk (zsk (zshC w.2.1 w.2.2.2.1) 62 (.inl (w.2.1 4, 4, .inr (.inr (.inr (.inr (fun _ => none))))))) 27 (.inl (w.2.1 3, 2, .inr (.inr (.inr (.inr (fun _ => none))))))) 0 (.inr (10, [.ref (w.2.2.2.1 + 1), .null, .null, .null, .null, .null, .null, .null, .null, .null, .null, .null, .null, .int 0])))) rfl rfl (fun c hc => congrFun (zsk_ne (by omega)) _) ((congrFun (zsk_ne (by omega)) _).trans rfl) ((congrFun (zsk_ne (by omega)) _).trans rfl) ((congrFun (zsk_ne (by omega)) _).trans rfl) ((congrFun (zsk_ne (by omega)) _).trans rfl) ((congrFun (zsk_ne (by omega)) _).trans rfl)) rfl rfl ⟨Nat.le_of_ble_eq_true rfl, Nat.le_of_ble_eq_true rfl⟩ ⟨Nat.le_of_ble_eq_true rfl, Nat.le_of_ble_eq_true rfl⟩ rfl (Nat.le_of_ble_eq_true rfl) dX10_init_20 (fun zM H locs eM hG => ?_)
  rw [eM] at hG
  refine W.widen (k := 10) (n := 172) (Nat.le_of_ble_eq_true rfl) (Nat.le_of_ble_eq_true rfl) ?_
  refine zg_putF (w := w) (k := 0) (ci := 10) (C := "HandToHand") (T := TX10) (ty0 := tyX10) (ty := (.object "HandToHand$Told")) (v := .ref (w.2.2.2.1 + 6)) X hmi hG (by omega) zsk_eq rfl zin_10 tyX10_ok nmX10 1 (by decide) rfl rfl zu_468 rfl rfl rfl rfl rfl dX10_init_23 (fun H locs hG => ?_)
  replace hG := zsk_re (E'' := .inr (10, [.ref (w.2.2.2.1 + 1), .ref (w.2.2.2.1 + 6), .null, .null, .null, .null, .null, .null, .null, .null, .null, .null, .null, .int 0])) rfl hG
  refine lv_aload_n hx hb dX10_init_26 rfl (lv_at hl 0 rfl) ?_
  refine zg_new (w := w) (ci := 5) (C := "HandToHand$Reader") (T := TX5) (ty0 := tyX5) (fs := [.null, .int 0, .int 0, .int 0, .null, .int 0, .int 0, .int 0, .int 0, .int 0, .int 0, .int 0, .int 0, .int 0]) X hG (by omega) (by omega) rfl zin_5 tyX5_ok zu_96 zu_97 zu_3 (fun j hj => by rcases (show j = 0 ∨ j = 1 ∨ j = 2 ∨ j = 3 ∨ j = 4 ∨ j = 5 ∨ j = 6 ∨ j = 7 ∨ j = 8 ∨ j = 9 ∨ j = 10 ∨ j = 11 ∨ j = 12 ∨ j = 13 by omega) with rfl | rfl | rfl | rfl | rfl | rfl | rfl | rfl | rfl | rfl | rfl | rfl | rfl | rfl <;> rfl) (Nat.le_of_ble_eq_true rfl) (Nat.le_of_ble_eq_true rfl) dX10_init_27 (fun H hG => ?_)
  refine W.widen (k := 11) (n := 186) (Nat.le_of_ble_eq_true rfl) (Nat.le_of_ble_eq_true rfl) ?_
  refine lv_dup hx hb dX10_init_30 rfl ?_
  refine zg_ctorN (w := w) (k := 11) (na := 0) (As := []) (rest := [.ref (w.2.2.2.1 + 11), .ref (w.2.2.2.1 + 0)]) (host := "HandToHand") X hKo hml hl hG (by omega) (by omega) (List.mem_of_getElem? (i := 1) rfl) zu_99 zu_3 zu_100 rfl (by decide +kernel) (i_Reader (w := zwn w (zsk (zsk (zsk (zsk (zshC w.2.1 w.2.2.2.1) 62 (.inl (w.2.1 4, 4, .inr (.inr (.inr (.inr (fun _ => none))))))) 27 (.inl (w.2.1 3, 2, .inr (.inr (.inr (.inr (fun _ => none))))))) 0 (.inr (10, [.ref (w.2.2.2.1 + 1), .ref (w.2.2.2.1 + 6), .null, .null, .null, .null, .null, .null, .null, .null, .null, .null, .null, .int 0]))) 11 (.inr (5, [.null, .int 0, .int 0, .int 0, .null, .int 0, .int 0, .int 0, .int 0, .int 0, .int 0, .int 0, .int 0, .int 0]))) 12) (k := 11) (M := zM0) (M' := zM0) (sh := (zsk (zsk (zsk (zshC w.2.1 w.2.2.2.1) 62 (.inl (w.2.1 4, 4, .inr (.inr (.inr (.inr (fun _ => none))))))) 27 (.inl (w.2.1 3, 2, .inr (.inr (.inr (.inr (fun _ => none))))))) 0 (.inr (10, [.ref (w.2.2.2.1 + 1), .ref (w.2.2.2.1 + 6), .null, .null, .null, .null, .null, .null, .null, .null, .null, .null, .null, .int 0])))) rfl rfl (fun c hc => congrFun (zsk_ne (by omega)) _) ((congrFun (zsk_ne (by omega)) _).trans rfl) ((congrFun (zsk_ne (by omega)) _).trans rfl) ((congrFun (zsk_ne (by omega)) _).trans rfl) ((congrFun (zsk_ne (by omega)) _).trans rfl) ((congrFun (zsk_ne (by omega)) _).trans rfl) ((congrFun (zsk_ne (by omega)) _).trans rfl) ((congrFun (zsk_ne (by omega)) _).trans rfl)) rfl rfl ⟨Nat.le_of_ble_eq_true rfl, Nat.le_of_ble_eq_true rfl⟩ ⟨Nat.le_of_ble_eq_true rfl, Nat.le_of_ble_eq_true rfl⟩ rfl (Nat.le_of_ble_eq_true rfl) dX10_init_31 (fun zM H locs eM hG => ?_)
  rw [eM] at hG
  refine W.widen (k := 17) (n := 672) (Nat.le_of_ble_eq_true rfl) (Nat.le_of_ble_eq_true rfl) ?_
  refine zg_putF (w := w) (k := 0) (ci := 10) (C := "HandToHand") (T := TX10) (ty0 := tyX10) (ty := (.object "HandToHand$Reader")) (v := .ref (w.2.2.2.1 + 11)) X hmi hG (by omega) zsk_eq rfl zin_10 tyX10_ok nmX10 2 (by decide) rfl rfl zu_469 rfl rfl rfl rfl rfl dX10_init_34 (fun H locs hG => ?_)
  replace hG := zsk_re (E'' := .inr (10, [.ref (w.2.2.2.1 + 1), .ref (w.2.2.2.1 + 6), .ref (w.2.2.2.1 + 11), .null, .null, .null, .null, .null, .null, .null, .null, .null, .null, .int 0])) rfl hG
  refine lv_aload_n hx hb dX10_init_37 rfl (lv_at hl 0 rfl) ?_
  refine zg_new (w := w) (ci := 0) (C := "HandToHand$Bench") (T := TX0) (ty0 := tyX0) (fs := [.null, .null, .int 0, .int 0, .int 0, .int 0, .null, .null, .null, .null, .null, .null, .null, .null]) X hG (by omega) (by omega) rfl zin_0 tyX0_ok zu_154 zu_155 zu_4 (fun j hj => by rcases (show j = 0 ∨ j = 1 ∨ j = 2 ∨ j = 3 ∨ j = 4 ∨ j = 5 ∨ j = 6 ∨ j = 7 ∨ j = 8 ∨ j = 9 ∨ j = 10 ∨ j = 11 ∨ j = 12 ∨ j = 13 by omega) with rfl | rfl | rfl | rfl | rfl | rfl | rfl | rfl | rfl | rfl | rfl | rfl | rfl | rfl <;> rfl) (Nat.le_of_ble_eq_true rfl) (Nat.le_of_ble_eq_true rfl) dX10_init_38 (fun H hG => ?_)
  refine W.widen (k := 18) (n := 686) (Nat.le_of_ble_eq_true rfl) (Nat.le_of_ble_eq_true rfl) ?_
  refine lv_dup hx hb dX10_init_41 rfl ?_
  refine lv_aload_n hx hb dX10_init_42 rfl (lv_at hl 0 rfl) ?_
  refine zg_get (w := w) (k := 0) (ci := 10) (C := "HandToHand") (T := TX10) (fs := [.ref (w.2.2.2.1 + 1), .ref (w.2.2.2.1 + 6), .ref (w.2.2.2.1 + 11), .null, .null, .null, .null, .null, .null, .null, .null, .null, .null, .int 0]) X hG (by omega) (by first | exact zsk_eq | exact (congrFun (zsk_ne (by omega)) _).trans zsk_eq) rfl zin_10 0 (by decide) rfl zu_467 rfl dX10_init_43 ?_
  refine lv_null hx hb dX10_init_46 ?_
  refine zg_ctor (w := w) (k := 18) (na := 2) (As := [.ref (w.2.2.2.1 + 1), .null]) (rest := [.ref (w.2.2.2.1 + 18), .ref (w.2.2.2.1 + 0)]) X hKo hml hl hG (by omega) (by omega) zu_156 zu_157 zu_4 zu_158 rfl (by decide +kernel) (i_BenchN (w := zwn w (zsk (zsk (zsk (zsk (zshC w.2.1 w.2.2.2.1) 62 (.inl (w.2.1 4, 4, .inr (.inr (.inr (.inr (fun _ => none))))))) 27 (.inl (w.2.1 3, 2, .inr (.inr (.inr (.inr (fun _ => none))))))) 0 (.inr (10, [.ref (w.2.2.2.1 + 1), .ref (w.2.2.2.1 + 6), .ref (w.2.2.2.1 + 11), .null, .null, .null, .null, .null, .null, .null, .null, .null, .null, .int 0]))) 18 (.inr (0, [.null, .null, .int 0, .int 0, .int 0, .int 0, .null, .null, .null, .null, .null, .null, .null, .null]))) 19) (k := 18) (M := zM0) (M' := zM0) (sh := (zsk (zsk (zsk (zshC w.2.1 w.2.2.2.1) 62 (.inl (w.2.1 4, 4, .inr (.inr (.inr (.inr (fun _ => none))))))) 27 (.inl (w.2.1 3, 2, .inr (.inr (.inr (.inr (fun _ => none))))))) 0 (.inr (10, [.ref (w.2.2.2.1 + 1), .ref (w.2.2.2.1 + 6), .ref (w.2.2.2.1 + 11), .null, .null, .null, .null, .null, .null, .null, .null, .null, .null, .int 0])))) rfl rfl (fun c hc => congrFun (zsk_ne (by omega)) _) ((congrFun (zsk_ne (by omega)) _).trans rfl) ((congrFun (zsk_ne (by omega)) _).trans rfl) ((congrFun (zsk_ne (by omega)) _).trans rfl) ((congrFun (zsk_ne (by omega)) _).trans rfl) ((congrFun (zsk_ne (by omega)) _).trans rfl) ((congrFun (zsk_ne (by omega)) _).trans rfl) ((congrFun (zsk_ne (by omega)) _).trans rfl) ((congrFun (zsk_ne (by omega)) _).trans rfl) ((congrFun (zsk_ne (by omega)) _).trans rfl)) rfl rfl ⟨Nat.le_of_ble_eq_true rfl, Nat.le_of_ble_eq_true rfl⟩ ⟨Nat.le_of_ble_eq_true rfl, Nat.le_of_ble_eq_true rfl⟩ rfl (Nat.le_of_ble_eq_true rfl) dX10_init_47 (fun zM H locs eM hG => ?_)
  rw [eM] at hG
  refine W.widen (k := 26) (n := 764) (Nat.le_of_ble_eq_true rfl) (Nat.le_of_ble_eq_true rfl) ?_
  refine zg_putF (w := w) (k := 0) (ci := 10) (C := "HandToHand") (T := TX10) (ty0 := tyX10) (ty := (.object "HandToHand$Bench")) (v := .ref (w.2.2.2.1 + 18)) X hmi hG (by omega) zsk_eq rfl zin_10 tyX10_ok nmX10 3 (by decide) rfl rfl zu_470 rfl rfl rfl rfl rfl dX10_init_50 (fun H locs hG => ?_)
  replace hG := zsk_re (E'' := .inr (10, [.ref (w.2.2.2.1 + 1), .ref (w.2.2.2.1 + 6), .ref (w.2.2.2.1 + 11), .ref (w.2.2.2.1 + 18), .null, .null, .null, .null, .null, .null, .null, .null, .null, .int 0])) rfl hG
  refine lv_aload_n hx hb dX10_init_53 rfl (lv_at hl 0 rfl) ?_
  refine lv_iconst (v := 2) hx hb dX10_init_54 (by decide) ?_
  refine zg_newq (w := w) (N := 2) (t := 3) (C := "HandToHand$Bench") X hG (by omega) (by omega) hKo.2.1 zu_154 rfl (by decide) (by decide) (Nat.le_of_ble_eq_true rfl) (Nat.le_of_ble_eq_true rfl) (Nat.le_of_ble_eq_true rfl) dX10_init_55 (fun H hG => ?_)
  replace hG := zsk_fin rfl hG
  refine W.widen (k := 27) (n := 766) (Nat.le_of_ble_eq_true rfl) (Nat.le_of_ble_eq_true rfl) ?_
  refine zg_putF (w := w) (k := 0) (ci := 10) (C := "HandToHand") (T := TX10) (ty0 := tyX10) (ty := (.array (.object "HandToHand$Bench"))) (v := .ref (w.2.2.2.1 + 27)) X hmi hG (by omega) zsk_eq rfl zin_10 tyX10_ok nmX10 4 (by decide) rfl rfl zu_471 rfl rfl rfl rfl rfl dX10_init_58 (fun H locs hG => ?_)
  replace hG := zsk_re (E'' := .inr (10, [.ref (w.2.2.2.1 + 1), .ref (w.2.2.2.1 + 6), .ref (w.2.2.2.1 + 11), .ref (w.2.2.2.1 + 18), .ref (w.2.2.2.1 + 27), .null, .null, .null, .null, .null, .null, .null, .null, .int 0])) rfl hG
  refine lv_aload_n hx hb dX10_init_61 rfl (lv_at hl 0 rfl) ?_
  refine lv_iconst (v := 2) hx hb dX10_init_62 (by decide) ?_
  refine zg_newa (w := w) (N := 2) (t := 2) (atype := .boolean) (ty := .boolean) X hG (by omega) (by omega) zu_242 rfl rfl (fun _ => rfl) (fun _ => rfl) (by decide) (by decide) (Nat.le_of_ble_eq_true rfl) rfl (Nat.le_of_ble_eq_true rfl) (Nat.le_of_ble_eq_true rfl) dX10_init_63 (fun H hG => ?_)
  refine W.widen (k := 28) (n := 768) (Nat.le_of_ble_eq_true rfl) (Nat.le_of_ble_eq_true rfl) ?_
  refine zg_putF (w := w) (k := 0) (ci := 10) (C := "HandToHand") (T := TX10) (ty0 := tyX10) (ty := (.array .boolean)) (v := .ref (w.2.2.2.1 + 28)) X hmi hG (by omega) zsk_eq rfl zin_10 tyX10_ok nmX10 5 (by decide) rfl rfl zu_472 rfl rfl rfl rfl rfl dX10_init_65 (fun H locs hG => ?_)
  replace hG := zsk_re (E'' := .inr (10, [.ref (w.2.2.2.1 + 1), .ref (w.2.2.2.1 + 6), .ref (w.2.2.2.1 + 11), .ref (w.2.2.2.1 + 18), .ref (w.2.2.2.1 + 27), .ref (w.2.2.2.1 + 28), .null, .null, .null, .null, .null, .null, .null, .int 0])) rfl hG
  refine lv_aload_n hx hb dX10_init_68 rfl (lv_at hl 0 rfl) ?_
  refine zg_new (w := w) (ci := 1) (C := "HandToHand$Course") (T := TX1) (ty0 := tyX1) (fs := [.null, .null, .int 0, .int 0]) X hG (by omega) (by omega) rfl zin_1 tyX1_ok zu_221 zu_222 zu_5 (fun j hj => by rcases (show j = 0 ∨ j = 1 ∨ j = 2 ∨ j = 3 by omega) with rfl | rfl | rfl | rfl <;> rfl) (Nat.le_of_ble_eq_true rfl) (Nat.le_of_ble_eq_true rfl) dX10_init_69 (fun H hG => ?_)
  refine W.widen (k := 29) (n := 772) (Nat.le_of_ble_eq_true rfl) (Nat.le_of_ble_eq_true rfl) ?_
  refine lv_dup hx hb dX10_init_72 rfl ?_
  refine lv_aload_n hx hb dX10_init_73 rfl (lv_at hl 0 rfl) ?_
  refine zg_get (w := w) (k := 0) (ci := 10) (C := "HandToHand") (T := TX10) (fs := [.ref (w.2.2.2.1 + 1), .ref (w.2.2.2.1 + 6), .ref (w.2.2.2.1 + 11), .ref (w.2.2.2.1 + 18), .ref (w.2.2.2.1 + 27), .ref (w.2.2.2.1 + 28), .null, .null, .null, .null, .null, .null, .null, .int 0]) X hG (by omega) (by first | exact zsk_eq | exact (congrFun (zsk_ne (by omega)) _).trans zsk_eq) rfl zin_10 0 (by decide) rfl zu_467 rfl dX10_init_74 ?_
  refine zg_ctor (w := w) (k := 29) (na := 1) (As := [.ref (w.2.2.2.1 + 1)]) (rest := [.ref (w.2.2.2.1 + 29), .ref (w.2.2.2.1 + 0)]) X hKo hml hl hG (by omega) (by omega) zu_223 zu_224 zu_5 zu_225 rfl (by decide +kernel) (i_Course (w := zwn w (zsk (zsk (zsk (zsk (zshC w.2.1 w.2.2.2.1) 62 (.inl (w.2.1 4, 4, .inr (.inr (.inr (.inr (fun _ => none))))))) 27 (.inl (w.2.1 3, 2, .inr (.inr (.inr (.inr (fun _ => none))))))) 0 (.inr (10, [.ref (w.2.2.2.1 + 1), .ref (w.2.2.2.1 + 6), .ref (w.2.2.2.1 + 11), .ref (w.2.2.2.1 + 18), .ref (w.2.2.2.1 + 27), .ref (w.2.2.2.1 + 28), .null, .null, .null, .null, .null, .null, .null, .int 0]))) 29 (.inr (1, [.null, .null, .int 0, .int 0]))) 30) (k := 29) (M := zM0) (M' := zM0) (sh := (zsk (zsk (zsk (zshC w.2.1 w.2.2.2.1) 62 (.inl (w.2.1 4, 4, .inr (.inr (.inr (.inr (fun _ => none))))))) 27 (.inl (w.2.1 3, 2, .inr (.inr (.inr (.inr (fun _ => none))))))) 0 (.inr (10, [.ref (w.2.2.2.1 + 1), .ref (w.2.2.2.1 + 6), .ref (w.2.2.2.1 + 11), .ref (w.2.2.2.1 + 18), .ref (w.2.2.2.1 + 27), .ref (w.2.2.2.1 + 28), .null, .null, .null, .null, .null, .null, .null, .int 0])))) rfl rfl (fun c hc => congrFun (zsk_ne (by omega)) _) ((congrFun (zsk_ne (by omega)) _).trans rfl) ((congrFun (zsk_ne (by omega)) _).trans rfl) ((congrFun (zsk_ne (by omega)) _).trans rfl) ((congrFun (zsk_ne (by omega)) _).trans rfl) ((congrFun (zsk_ne (by omega)) _).trans rfl) ((congrFun (zsk_ne (by omega)) _).trans rfl) ((congrFun (zsk_ne (by omega)) _).trans rfl) ((congrFun (zsk_ne (by omega)) _).trans rfl) ((congrFun (zsk_ne (by omega)) _).trans rfl) ((congrFun (zsk_ne (by omega)) _).trans rfl) ((congrFun (zsk_ne (by omega)) _).trans rfl) ((congrFun (zsk_ne (by omega)) _).trans rfl)) rfl rfl ⟨Nat.le_of_ble_eq_true rfl, Nat.le_of_ble_eq_true rfl⟩ ⟨Nat.le_of_ble_eq_true rfl, Nat.le_of_ble_eq_true rfl⟩ rfl (Nat.le_of_ble_eq_true rfl) dX10_init_77 (fun zM H locs eM hG => ?_)
  rw [eM] at hG
  refine W.widen (k := 40) (n := 3866) (Nat.le_of_ble_eq_true rfl) (Nat.le_of_ble_eq_true rfl) ?_
  refine zg_putF (w := w) (k := 0) (ci := 10) (C := "HandToHand") (T := TX10) (ty0 := tyX10) (ty := (.object "HandToHand$Course")) (v := .ref (w.2.2.2.1 + 29)) X hmi hG (by omega) zsk_eq rfl zin_10 tyX10_ok nmX10 6 (by decide) rfl rfl zu_473 rfl rfl rfl rfl rfl dX10_init_80 (fun H locs hG => ?_)
  replace hG := zsk_re (E'' := .inr (10, [.ref (w.2.2.2.1 + 1), .ref (w.2.2.2.1 + 6), .ref (w.2.2.2.1 + 11), .ref (w.2.2.2.1 + 18), .ref (w.2.2.2.1 + 27), .ref (w.2.2.2.1 + 28), .ref (w.2.2.2.1 + 29), .null, .null, .null, .null, .null, .null, .int 0])) rfl hG
  refine lv_aload_n hx hb dX10_init_83 rfl (lv_at hl 0 rfl) ?_
  refine zg_new (w := w) (ci := 7) (C := "HandToHand$Settling") (T := TX7) (ty0 := tyX7) (fs := [.null, .int 0, .null, .null, .null]) X hG (by omega) (by omega) rfl zin_7 tyX7_ok zu_262 zu_263 zu_7 (fun j hj => by rcases (show j = 0 ∨ j = 1 ∨ j = 2 ∨ j = 3 ∨ j = 4 by omega) with rfl | rfl | rfl | rfl | rfl <;> rfl) (Nat.le_of_ble_eq_true rfl) (Nat.le_of_ble_eq_true rfl) dX10_init_84 (fun H hG => ?_)
  refine W.widen (k := 41) (n := 3871) (Nat.le_of_ble_eq_true rfl) (Nat.le_of_ble_eq_true rfl) ?_
  refine lv_dup hx hb dX10_init_87 rfl ?_
  refine lv_aload_n hx hb dX10_init_88 rfl (lv_at hl 0 rfl) ?_
  refine zg_get (w := w) (k := 0) (ci := 10) (C := "HandToHand") (T := TX10) (fs := [.ref (w.2.2.2.1 + 1), .ref (w.2.2.2.1 + 6), .ref (w.2.2.2.1 + 11), .ref (w.2.2.2.1 + 18), .ref (w.2.2.2.1 + 27), .ref (w.2.2.2.1 + 28), .ref (w.2.2.2.1 + 29), .null, .null, .null, .null, .null, .null, .int 0]) X hG (by omega) (by first | exact zsk_eq | exact (congrFun (zsk_ne (by omega)) _).trans zsk_eq) rfl zin_10 1 (by decide) rfl zu_468 rfl dX10_init_89 ?_
  refine zg_ctor (w := w) (k := 41) (na := 1) (As := [.ref (w.2.2.2.1 + 6)]) (rest := [.ref (w.2.2.2.1 + 41), .ref (w.2.2.2.1 + 0)]) X hKo hml hl hG (by omega) (by omega) zu_264 zu_265 zu_7 zu_266 rfl (by decide +kernel) (i_Settling (w := zwn w (zsk (zsk (zsk (zsk (zshC w.2.1 w.2.2.2.1) 62 (.inl (w.2.1 4, 4, .inr (.inr (.inr (.inr (fun _ => none))))))) 27 (.inl (w.2.1 3, 2, .inr (.inr (.inr (.inr (fun _ => none))))))) 0 (.inr (10, [.ref (w.2.2.2.1 + 1), .ref (w.2.2.2.1 + 6), .ref (w.2.2.2.1 + 11), .ref (w.2.2.2.1 + 18), .ref (w.2.2.2.1 + 27), .ref (w.2.2.2.1 + 28), .ref (w.2.2.2.1 + 29), .null, .null, .null, .null, .null, .null, .int 0]))) 41 (.inr (7, [.null, .int 0, .null, .null, .null]))) 42) (k := 41) (M := zM0) (M' := zM0) (sh := (zsk (zsk (zsk (zshC w.2.1 w.2.2.2.1) 62 (.inl (w.2.1 4, 4, .inr (.inr (.inr (.inr (fun _ => none))))))) 27 (.inl (w.2.1 3, 2, .inr (.inr (.inr (.inr (fun _ => none))))))) 0 (.inr (10, [.ref (w.2.2.2.1 + 1), .ref (w.2.2.2.1 + 6), .ref (w.2.2.2.1 + 11), .ref (w.2.2.2.1 + 18), .ref (w.2.2.2.1 + 27), .ref (w.2.2.2.1 + 28), .ref (w.2.2.2.1 + 29), .null, .null, .null, .null, .null, .null, .int 0])))) rfl rfl (fun c hc => congrFun (zsk_ne (by omega)) _) ((congrFun (zsk_ne (by omega)) _).trans rfl) ((congrFun (zsk_ne (by omega)) _).trans rfl) ((congrFun (zsk_ne (by omega)) _).trans rfl) ((congrFun (zsk_ne (by omega)) _).trans rfl) ((congrFun (zsk_ne (by omega)) _).trans rfl) ((congrFun (zsk_ne (by omega)) _).trans rfl) ((congrFun (zsk_ne (by omega)) _).trans rfl) ((congrFun (zsk_ne (by omega)) _).trans rfl) ((congrFun (zsk_ne (by omega)) _).trans rfl) ((congrFun (zsk_ne (by omega)) _).trans rfl) ((congrFun (zsk_ne (by omega)) _).trans rfl) ((congrFun (zsk_ne (by omega)) _).trans rfl) ((congrFun (zsk_ne (by omega)) _).trans rfl)) rfl rfl ⟨Nat.le_of_ble_eq_true rfl, Nat.le_of_ble_eq_true rfl⟩ ⟨Nat.le_of_ble_eq_true rfl, Nat.le_of_ble_eq_true rfl⟩ rfl (Nat.le_of_ble_eq_true rfl) dX10_init_92 (fun zM H locs eM hG => ?_)
  rw [eM] at hG
  refine W.widen (k := 53) (n := 9723) (Nat.le_of_ble_eq_true rfl) (Nat.le_of_ble_eq_true rfl) ?_
  refine zg_putF (w := w) (k := 0) (ci := 10) (C := "HandToHand") (T := TX10) (ty0 := tyX10) (ty := (.object "HandToHand$Settling")) (v := .ref (w.2.2.2.1 + 41)) X hmi hG (by omega) zsk_eq rfl zin_10 tyX10_ok nmX10 7 (by decide) rfl rfl zu_474 rfl rfl rfl rfl rfl dX10_init_95 (fun H locs hG => ?_)
  replace hG := zsk_re (E'' := .inr (10, [.ref (w.2.2.2.1 + 1), .ref (w.2.2.2.1 + 6), .ref (w.2.2.2.1 + 11), .ref (w.2.2.2.1 + 18), .ref (w.2.2.2.1 + 27), .ref (w.2.2.2.1 + 28), .ref (w.2.2.2.1 + 29), .ref (w.2.2.2.1 + 41), .null, .null, .null, .null, .null, .int 0])) rfl hG
  refine lv_aload_n hx hb dX10_init_98 rfl (lv_at hl 0 rfl) ?_
  refine zg_new (w := w) (ci := 6) (C := "HandToHand$Ring") (T := TX6) (ty0 := tyX6) (fs := [.int 0, .int 0, .int 0, .int 0, .int 0, .int 0, .int 0, .int 0]) X hG (by omega) (by omega) rfl zin_6 tyX6_ok zu_286 zu_287 zu_8 (fun j hj => by rcases (show j = 0 ∨ j = 1 ∨ j = 2 ∨ j = 3 ∨ j = 4 ∨ j = 5 ∨ j = 6 ∨ j = 7 by omega) with rfl | rfl | rfl | rfl | rfl | rfl | rfl | rfl <;> rfl) (Nat.le_of_ble_eq_true rfl) (Nat.le_of_ble_eq_true rfl) dX10_init_99 (fun H hG => ?_)
  refine W.widen (k := 54) (n := 9731) (Nat.le_of_ble_eq_true rfl) (Nat.le_of_ble_eq_true rfl) ?_
  refine lv_dup hx hb dX10_init_102 rfl ?_
  refine zg_ctorN (w := w) (k := 54) (na := 0) (As := []) (rest := [.ref (w.2.2.2.1 + 54), .ref (w.2.2.2.1 + 0)]) (host := "HandToHand") X hKo hml hl hG (by omega) (by omega) (List.mem_of_getElem? (i := 4) rfl) zu_289 zu_8 zu_290 rfl (by decide +kernel) (i_Ring (w := zwn w (zsk (zsk (zsk (zsk (zshC w.2.1 w.2.2.2.1) 62 (.inl (w.2.1 4, 4, .inr (.inr (.inr (.inr (fun _ => none))))))) 27 (.inl (w.2.1 3, 2, .inr (.inr (.inr (.inr (fun _ => none))))))) 0 (.inr (10, [.ref (w.2.2.2.1 + 1), .ref (w.2.2.2.1 + 6), .ref (w.2.2.2.1 + 11), .ref (w.2.2.2.1 + 18), .ref (w.2.2.2.1 + 27), .ref (w.2.2.2.1 + 28), .ref (w.2.2.2.1 + 29), .ref (w.2.2.2.1 + 41), .null, .null, .null, .null, .null, .int 0]))) 54 (.inr (6, [.int 0, .int 0, .int 0, .int 0, .int 0, .int 0, .int 0, .int 0]))) 55) (k := 54) (M := zM0) (M' := zM0) (sh := (zsk (zsk (zsk (zshC w.2.1 w.2.2.2.1) 62 (.inl (w.2.1 4, 4, .inr (.inr (.inr (.inr (fun _ => none))))))) 27 (.inl (w.2.1 3, 2, .inr (.inr (.inr (.inr (fun _ => none))))))) 0 (.inr (10, [.ref (w.2.2.2.1 + 1), .ref (w.2.2.2.1 + 6), .ref (w.2.2.2.1 + 11), .ref (w.2.2.2.1 + 18), .ref (w.2.2.2.1 + 27), .ref (w.2.2.2.1 + 28), .ref (w.2.2.2.1 + 29), .ref (w.2.2.2.1 + 41), .null, .null, .null, .null, .null, .int 0])))) rfl rfl (fun c hc => congrFun (zsk_ne (by omega)) _) ((congrFun (zsk_ne (by omega)) _).trans rfl)) rfl rfl ⟨Nat.le_of_ble_eq_true rfl, Nat.le_of_ble_eq_true rfl⟩ ⟨Nat.le_of_ble_eq_true rfl, Nat.le_of_ble_eq_true rfl⟩ rfl (Nat.le_of_ble_eq_true rfl) dX10_init_103 (fun zM H locs eM hG => ?_)
  rw [eM] at hG
  refine W.widen (k := 54) (n := 9731) (Nat.le_of_ble_eq_true rfl) (Nat.le_of_ble_eq_true rfl) ?_
  refine zg_putF (w := w) (k := 0) (ci := 10) (C := "HandToHand") (T := TX10) (ty0 := tyX10) (ty := (.object "HandToHand$Ring")) (v := .ref (w.2.2.2.1 + 54)) X hmi hG (by omega) zsk_eq rfl zin_10 tyX10_ok nmX10 8 (by decide) rfl rfl zu_475 rfl rfl rfl rfl rfl dX10_init_106 (fun H locs hG => ?_)
  replace hG := zsk_re (E'' := .inr (10, [.ref (w.2.2.2.1 + 1), .ref (w.2.2.2.1 + 6), .ref (w.2.2.2.1 + 11), .ref (w.2.2.2.1 + 18), .ref (w.2.2.2.1 + 27), .ref (w.2.2.2.1 + 28), .ref (w.2.2.2.1 + 29), .ref (w.2.2.2.1 + 41), .ref (w.2.2.2.1 + 54), .null, .null, .null, .null, .int 0])) rfl hG
  refine lv_aload_n hx hb dX10_init_109 rfl (lv_at hl 0 rfl) ?_
  refine zg_new (w := w) (ci := 6) (C := "HandToHand$Ring") (T := TX6) (ty0 := tyX6) (fs := [.int 0, .int 0, .int 0, .int 0, .int 0, .int 0, .int 0, .int 0]) X hG (by omega) (by omega) rfl zin_6 tyX6_ok zu_286 zu_287 zu_8 (fun j hj => by rcases (show j = 0 ∨ j = 1 ∨ j = 2 ∨ j = 3 ∨ j = 4 ∨ j = 5 ∨ j = 6 ∨ j = 7 by omega) with rfl | rfl | rfl | rfl | rfl | rfl | rfl | rfl <;> rfl) (Nat.le_of_ble_eq_true rfl) (Nat.le_of_ble_eq_true rfl) dX10_init_110 (fun H hG => ?_)
  refine W.widen (k := 55) (n := 9739) (Nat.le_of_ble_eq_true rfl) (Nat.le_of_ble_eq_true rfl) ?_
  refine lv_dup hx hb dX10_init_113 rfl ?_
  refine zg_ctorN (w := w) (k := 55) (na := 0) (As := []) (rest := [.ref (w.2.2.2.1 + 55), .ref (w.2.2.2.1 + 0)]) (host := "HandToHand") X hKo hml hl hG (by omega) (by omega) (List.mem_of_getElem? (i := 4) rfl) zu_289 zu_8 zu_290 rfl (by decide +kernel) (i_Ring (w := zwn w (zsk (zsk (zsk (zsk (zshC w.2.1 w.2.2.2.1) 62 (.inl (w.2.1 4, 4, .inr (.inr (.inr (.inr (fun _ => none))))))) 27 (.inl (w.2.1 3, 2, .inr (.inr (.inr (.inr (fun _ => none))))))) 0 (.inr (10, [.ref (w.2.2.2.1 + 1), .ref (w.2.2.2.1 + 6), .ref (w.2.2.2.1 + 11), .ref (w.2.2.2.1 + 18), .ref (w.2.2.2.1 + 27), .ref (w.2.2.2.1 + 28), .ref (w.2.2.2.1 + 29), .ref (w.2.2.2.1 + 41), .ref (w.2.2.2.1 + 54), .null, .null, .null, .null, .int 0]))) 55 (.inr (6, [.int 0, .int 0, .int 0, .int 0, .int 0, .int 0, .int 0, .int 0]))) 56) (k := 55) (M := zM0) (M' := zM0) (sh := (zsk (zsk (zsk (zshC w.2.1 w.2.2.2.1) 62 (.inl (w.2.1 4, 4, .inr (.inr (.inr (.inr (fun _ => none))))))) 27 (.inl (w.2.1 3, 2, .inr (.inr (.inr (.inr (fun _ => none))))))) 0 (.inr (10, [.ref (w.2.2.2.1 + 1), .ref (w.2.2.2.1 + 6), .ref (w.2.2.2.1 + 11), .ref (w.2.2.2.1 + 18), .ref (w.2.2.2.1 + 27), .ref (w.2.2.2.1 + 28), .ref (w.2.2.2.1 + 29), .ref (w.2.2.2.1 + 41), .ref (w.2.2.2.1 + 54), .null, .null, .null, .null, .int 0])))) rfl rfl (fun c hc => congrFun (zsk_ne (by omega)) _) ((congrFun (zsk_ne (by omega)) _).trans rfl)) rfl rfl ⟨Nat.le_of_ble_eq_true rfl, Nat.le_of_ble_eq_true rfl⟩ ⟨Nat.le_of_ble_eq_true rfl, Nat.le_of_ble_eq_true rfl⟩ rfl (Nat.le_of_ble_eq_true rfl) dX10_init_114 (fun zM H locs eM hG => ?_)
  rw [eM] at hG
  refine W.widen (k := 55) (n := 9739) (Nat.le_of_ble_eq_true rfl) (Nat.le_of_ble_eq_true rfl) ?_
  refine zg_putF (w := w) (k := 0) (ci := 10) (C := "HandToHand") (T := TX10) (ty0 := tyX10) (ty := (.object "HandToHand$Ring")) (v := .ref (w.2.2.2.1 + 55)) X hmi hG (by omega) zsk_eq rfl zin_10 tyX10_ok nmX10 9 (by decide) rfl rfl zu_476 rfl rfl rfl rfl rfl dX10_init_117 (fun H locs hG => ?_)
  replace hG := zsk_re (E'' := .inr (10, [.ref (w.2.2.2.1 + 1), .ref (w.2.2.2.1 + 6), .ref (w.2.2.2.1 + 11), .ref (w.2.2.2.1 + 18), .ref (w.2.2.2.1 + 27), .ref (w.2.2.2.1 + 28), .ref (w.2.2.2.1 + 29), .ref (w.2.2.2.1 + 41), .ref (w.2.2.2.1 + 54), .ref (w.2.2.2.1 + 55), .null, .null, .null, .int 0])) rfl hG
  refine lv_aload_n hx hb dX10_init_120 rfl (lv_at hl 0 rfl) ?_
  refine zg_new (w := w) (ci := 3) (C := "HandToHand$Orders") (T := TX3) (ty0 := tyX3) (fs := [.null, .null, .null]) X hG (by omega) (by omega) rfl zin_3 tyX3_ok zu_329 zu_330 zu_9 (fun j hj => by rcases (show j = 0 ∨ j = 1 ∨ j = 2 by omega) with rfl | rfl | rfl <;> rfl) (Nat.le_of_ble_eq_true rfl) (Nat.le_of_ble_eq_true rfl) dX10_init_121 (fun H hG => ?_)
  refine W.widen (k := 56) (n := 9742) (Nat.le_of_ble_eq_true rfl) (Nat.le_of_ble_eq_true rfl) ?_
  refine lv_dup hx hb dX10_init_124 rfl ?_
  refine zg_ctorN (w := w) (k := 56) (na := 0) (As := []) (rest := [.ref (w.2.2.2.1 + 56), .ref (w.2.2.2.1 + 0)]) (host := "HandToHand") X hKo hml hl hG (by omega) (by omega) (List.mem_of_getElem? (i := 5) rfl) zu_332 zu_9 zu_333 rfl (by decide +kernel) (i_Orders (w := zwn w (zsk (zsk (zsk (zsk (zshC w.2.1 w.2.2.2.1) 62 (.inl (w.2.1 4, 4, .inr (.inr (.inr (.inr (fun _ => none))))))) 27 (.inl (w.2.1 3, 2, .inr (.inr (.inr (.inr (fun _ => none))))))) 0 (.inr (10, [.ref (w.2.2.2.1 + 1), .ref (w.2.2.2.1 + 6), .ref (w.2.2.2.1 + 11), .ref (w.2.2.2.1 + 18), .ref (w.2.2.2.1 + 27), .ref (w.2.2.2.1 + 28), .ref (w.2.2.2.1 + 29), .ref (w.2.2.2.1 + 41), .ref (w.2.2.2.1 + 54), .ref (w.2.2.2.1 + 55), .null, .null, .null, .int 0]))) 56 (.inr (3, [.null, .null, .null]))) 57) (k := 56) (M := zM0) (M' := zM0) (sh := (zsk (zsk (zsk (zshC w.2.1 w.2.2.2.1) 62 (.inl (w.2.1 4, 4, .inr (.inr (.inr (.inr (fun _ => none))))))) 27 (.inl (w.2.1 3, 2, .inr (.inr (.inr (.inr (fun _ => none))))))) 0 (.inr (10, [.ref (w.2.2.2.1 + 1), .ref (w.2.2.2.1 + 6), .ref (w.2.2.2.1 + 11), .ref (w.2.2.2.1 + 18), .ref (w.2.2.2.1 + 27), .ref (w.2.2.2.1 + 28), .ref (w.2.2.2.1 + 29), .ref (w.2.2.2.1 + 41), .ref (w.2.2.2.1 + 54), .ref (w.2.2.2.1 + 55), .null, .null, .null, .int 0])))) rfl rfl (fun c hc => congrFun (zsk_ne (by omega)) _) ((congrFun (zsk_ne (by omega)) _).trans rfl) ((congrFun (zsk_ne (by omega)) _).trans rfl) ((congrFun (zsk_ne (by omega)) _).trans rfl) ((congrFun (zsk_ne (by omega)) _).trans rfl)) rfl rfl ⟨Nat.le_of_ble_eq_true rfl, Nat.le_of_ble_eq_true rfl⟩ ⟨Nat.le_of_ble_eq_true rfl, Nat.le_of_ble_eq_true rfl⟩ rfl (Nat.le_of_ble_eq_true rfl) dX10_init_125 (fun zM H locs eM hG => ?_)
  rw [eM] at hG
  refine W.widen (k := 59) (n := 9987) (Nat.le_of_ble_eq_true rfl) (Nat.le_of_ble_eq_true rfl) ?_
  refine zg_putF (w := w) (k := 0) (ci := 10) (C := "HandToHand") (T := TX10) (ty0 := tyX10) (ty := (.object "HandToHand$Orders")) (v := .ref (w.2.2.2.1 + 56)) X hmi hG (by omega) zsk_eq rfl zin_10 tyX10_ok nmX10 10 (by decide) rfl rfl zu_477 rfl rfl rfl rfl rfl dX10_init_128 (fun H locs hG => ?_)
  replace hG := zsk_re (E'' := .inr (10, [.ref (w.2.2.2.1 + 1), .ref (w.2.2.2.1 + 6), .ref (w.2.2.2.1 + 11), .ref (w.2.2.2.1 + 18), .ref (w.2.2.2.1 + 27), .ref (w.2.2.2.1 + 28), .ref (w.2.2.2.1 + 29), .ref (w.2.2.2.1 + 41), .ref (w.2.2.2.1 + 54), .ref (w.2.2.2.1 + 55), .ref (w.2.2.2.1 + 56), .null, .null, .int 0])) rfl hG
  refine lv_aload_n hx hb dX10_init_131 rfl (lv_at hl 0 rfl) ?_
  refine zg_new (w := w) (ci := 4) (C := "HandToHand$Parts") (T := TX4) (ty0 := tyX4) (fs := [.int 0, .int 0, .int 0, .null]) X hG (by omega) (by omega) rfl zin_4 tyX4_ok zu_348 zu_349 zu_10 (fun j hj => by rcases (show j = 0 ∨ j = 1 ∨ j = 2 ∨ j = 3 by omega) with rfl | rfl | rfl | rfl <;> rfl) (Nat.le_of_ble_eq_true rfl) (Nat.le_of_ble_eq_true rfl) dX10_init_132 (fun H hG => ?_)
  refine W.widen (k := 60) (n := 9991) (Nat.le_of_ble_eq_true rfl) (Nat.le_of_ble_eq_true rfl) ?_
  refine lv_dup hx hb dX10_init_135 rfl ?_
  refine zg_ctorN (w := w) (k := 60) (na := 0) (As := []) (rest := [.ref (w.2.2.2.1 + 60), .ref (w.2.2.2.1 + 0)]) (host := "HandToHand") X hKo hml hl hG (by omega) (by omega) (List.mem_of_getElem? (i := 6) rfl) zu_351 zu_10 zu_352 rfl (by decide +kernel) (i_Parts (w := zwn w (zsk (zsk (zsk (zsk (zshC w.2.1 w.2.2.2.1) 62 (.inl (w.2.1 4, 4, .inr (.inr (.inr (.inr (fun _ => none))))))) 27 (.inl (w.2.1 3, 2, .inr (.inr (.inr (.inr (fun _ => none))))))) 0 (.inr (10, [.ref (w.2.2.2.1 + 1), .ref (w.2.2.2.1 + 6), .ref (w.2.2.2.1 + 11), .ref (w.2.2.2.1 + 18), .ref (w.2.2.2.1 + 27), .ref (w.2.2.2.1 + 28), .ref (w.2.2.2.1 + 29), .ref (w.2.2.2.1 + 41), .ref (w.2.2.2.1 + 54), .ref (w.2.2.2.1 + 55), .ref (w.2.2.2.1 + 56), .null, .null, .int 0]))) 60 (.inr (4, [.int 0, .int 0, .int 0, .null]))) 61) (k := 60) (M := zM0) (M' := zM0) (sh := (zsk (zsk (zsk (zshC w.2.1 w.2.2.2.1) 62 (.inl (w.2.1 4, 4, .inr (.inr (.inr (.inr (fun _ => none))))))) 27 (.inl (w.2.1 3, 2, .inr (.inr (.inr (.inr (fun _ => none))))))) 0 (.inr (10, [.ref (w.2.2.2.1 + 1), .ref (w.2.2.2.1 + 6), .ref (w.2.2.2.1 + 11), .ref (w.2.2.2.1 + 18), .ref (w.2.2.2.1 + 27), .ref (w.2.2.2.1 + 28), .ref (w.2.2.2.1 + 29), .ref (w.2.2.2.1 + 41), .ref (w.2.2.2.1 + 54), .ref (w.2.2.2.1 + 55), .ref (w.2.2.2.1 + 56), .null, .null, .int 0])))) rfl rfl (fun c hc => congrFun (zsk_ne (by omega)) _) ((congrFun (zsk_ne (by omega)) _).trans rfl) ((congrFun (zsk_ne (by omega)) _).trans rfl)) rfl rfl ⟨Nat.le_of_ble_eq_true rfl, Nat.le_of_ble_eq_true rfl⟩ ⟨Nat.le_of_ble_eq_true rfl, Nat.le_of_ble_eq_true rfl⟩ rfl (Nat.le_of_ble_eq_true rfl) dX10_init_136 (fun zM H locs eM hG => ?_)
  rw [eM] at hG
  refine W.widen (k := 61) (n := 9996) (Nat.le_of_ble_eq_true rfl) (Nat.le_of_ble_eq_true rfl) ?_
  refine zg_putF (w := w) (k := 0) (ci := 10) (C := "HandToHand") (T := TX10) (ty0 := tyX10) (ty := (.object "HandToHand$Parts")) (v := .ref (w.2.2.2.1 + 60)) X hmi hG (by omega) zsk_eq rfl zin_10 tyX10_ok nmX10 11 (by decide) rfl rfl zu_478 rfl rfl rfl rfl rfl dX10_init_139 (fun H locs hG => ?_)
  replace hG := zsk_re (E'' := .inr (10, [.ref (w.2.2.2.1 + 1), .ref (w.2.2.2.1 + 6), .ref (w.2.2.2.1 + 11), .ref (w.2.2.2.1 + 18), .ref (w.2.2.2.1 + 27), .ref (w.2.2.2.1 + 28), .ref (w.2.2.2.1 + 29), .ref (w.2.2.2.1 + 41), .ref (w.2.2.2.1 + 54), .ref (w.2.2.2.1 + 55), .ref (w.2.2.2.1 + 56), .ref (w.2.2.2.1 + 60), .null, .int 0])) rfl hG
  refine lv_aload_n hx hb dX10_init_142 rfl (lv_at hl 0 rfl) ?_
  refine lv_iconst (v := 4) hx hb dX10_init_143 (by decide) ?_
  refine zg_newq (w := w) (N := 4) (t := 4) (C := "HandToHand$Sheet") X hG (by omega) (by omega) hKo.2.2 zu_370 rfl (by decide) (by decide) (Nat.le_of_ble_eq_true rfl) (Nat.le_of_ble_eq_true rfl) (Nat.le_of_ble_eq_true rfl) dX10_init_144 (fun H hG => ?_)
  replace hG := zsk_fin rfl hG
  refine W.widen (k := 62) (n := 10000) (Nat.le_of_ble_eq_true rfl) (Nat.le_of_ble_eq_true rfl) ?_
  refine zg_putF (w := w) (k := 0) (ci := 10) (C := "HandToHand") (T := TX10) (ty0 := tyX10) (ty := (.array (.object "HandToHand$Sheet"))) (v := .ref (w.2.2.2.1 + 62)) X hmi hG (by omega) zsk_eq rfl zin_10 tyX10_ok nmX10 12 (by decide) rfl rfl zu_479 rfl rfl rfl rfl rfl dX10_init_147 (fun H locs hG => ?_)
  replace hG := zsk_re (E'' := .inr (10, [.ref (w.2.2.2.1 + 1), .ref (w.2.2.2.1 + 6), .ref (w.2.2.2.1 + 11), .ref (w.2.2.2.1 + 18), .ref (w.2.2.2.1 + 27), .ref (w.2.2.2.1 + 28), .ref (w.2.2.2.1 + 29), .ref (w.2.2.2.1 + 41), .ref (w.2.2.2.1 + 54), .ref (w.2.2.2.1 + 55), .ref (w.2.2.2.1 + 56), .ref (w.2.2.2.1 + 60), .ref (w.2.2.2.1 + 62), .int 0])) rfl hG
  replace hG := zsk_fin (sh := (zsk (zsk (zshC w.2.1 w.2.2.2.1) 62 (.inl (w.2.1 4, 4, .inr (.inr (.inr (.inr (fun _ => none))))))) 27 (.inl (w.2.1 3, 2, .inr (.inr (.inr (.inr (fun _ => none)))))))) (k := 0) (E := .inr (10, [.ref (w.2.2.2.1 + 1), .ref (w.2.2.2.1 + 6), .ref (w.2.2.2.1 + 11), .ref (w.2.2.2.1 + 18), .ref (w.2.2.2.1 + 27), .ref (w.2.2.2.1 + 28), .ref (w.2.2.2.1 + 29), .ref (w.2.2.2.1 + 41), .ref (w.2.2.2.1 + 54), .ref (w.2.2.2.1 + 55), .ref (w.2.2.2.1 + 56), .ref (w.2.2.2.1 + 60), .ref (w.2.2.2.1 + 62), .int 0])) (M := zM0) rfl hG
  refine lv_aload_n hx hb dX10_init_150 rfl (lv_at hl 0 rfl) ?_
  refine zg_get (w := w) (k := 0) (ci := 10) (C := "HandToHand") (T := TX10) (fs := [.ref (w.2.2.2.1 + 1), .ref (w.2.2.2.1 + 6), .ref (w.2.2.2.1 + 11), .ref (w.2.2.2.1 + 18), .ref (w.2.2.2.1 + 27), .ref (w.2.2.2.1 + 28), .ref (w.2.2.2.1 + 29), .ref (w.2.2.2.1 + 41), .ref (w.2.2.2.1 + 54), .ref (w.2.2.2.1 + 55), .ref (w.2.2.2.1 + 56), .ref (w.2.2.2.1 + 60), .ref (w.2.2.2.1 + 62), .int 0]) X hG (by omega) rfl rfl zin_10 0 (by decide) rfl zu_467 rfl dX10_init_151 ?_
  refine zg_callv (w := (zwn w (zsk (zsk (zshC w.2.1 w.2.2.2.1) 62 (.inl (w.2.1 4, 4, .inr (.inr (.inr (.inr (fun _ => none))))))) 27 (.inl (w.2.1 3, 2, .inr (.inr (.inr (.inr (fun _ => none))))))) 63)) (k := 1) (As := []) (rest := []) X hml hl hG (show zI_Told (zwn w (zsk (zsk (zshC w.2.1 w.2.2.2.1) 62 (.inl (w.2.1 4, 4, .inr (.inr (.inr (.inr (fun _ => none))))))) 27 (.inl (w.2.1 3, 2, .inr (.inr (.inr (.inr (fun _ => none))))))) 63) 1 from ⟨⟨Nat.le_of_ble_eq_true rfl, fun _ => rfl⟩, ⟨Nat.le_of_ble_eq_true rfl, fun _ => rfl⟩, ⟨Nat.le_of_ble_eq_true rfl, fun _ => rfl⟩, ⟨Nat.le_of_ble_eq_true rfl, fun _ => rfl⟩, ⟨Nat.le_of_ble_eq_true rfl, fun _ => rfl⟩⟩).1 rfl zk_Main_89 (c_Told_tellAsAtFirst (show zI_Told (zwn w (zsk (zsk (zshC w.2.1 w.2.2.2.1) 62 (.inl (w.2.1 4, 4, .inr (.inr (.inr (.inr (fun _ => none))))))) 27 (.inl (w.2.1 3, 2, .inr (.inr (.inr (.inr (fun _ => none))))))) 63) 1 from ⟨⟨Nat.le_of_ble_eq_true rfl, fun _ => rfl⟩, ⟨Nat.le_of_ble_eq_true rfl, fun _ => rfl⟩, ⟨Nat.le_of_ble_eq_true rfl, fun _ => rfl⟩, ⟨Nat.le_of_ble_eq_true rfl, fun _ => rfl⟩, ⟨Nat.le_of_ble_eq_true rfl, fun _ => rfl⟩⟩) h) rfl ⟨Nat.le_of_ble_eq_true rfl, Nat.le_of_ble_eq_true rfl⟩ ⟨Nat.le_of_ble_eq_true rfl, Nat.le_of_ble_eq_true rfl⟩ rfl (Nat.le_of_ble_eq_true rfl) dX10_init_154 (fun zm1 H locs h hG => ?_)
  obtain ⟨hq, h⟩ := h
  have hz : ∀ (c : Nat) (E : va_E), 6 ≤ c ∧ c ≠ 27 ∧ c ≠ 62 → zshC w.2.1 w.2.2.2.1 c (zM0 c) = E → (zsk (zsk (zshC w.2.1 w.2.2.2.1) 62 (.inl (w.2.1 4, 4, .inr (.inr (.inr (.inr (fun _ => none))))))) 27 (.inl (w.2.1 3, 2, .inr (.inr (.inr (.inr (fun _ => none))))))) c (zm1 c) = E := fun c E h e => by rw [zsk_ne h.2.1, zsk_ne h.2.2, hq c h.1]; exact e
  refine lv_iconst (v := 0) hx hb dX10_init_157 (by decide) ?_
  refine lv_istore_n (lv' := [(1, .int 0), (0, .ref (w.2.2.2.1 + 0))]) hx hb dX10_init_158 rfl hl (Nat.le_of_ble_eq_true rfl) rfl (fun ls hl => ?_)
  refine lv_iload_n hx hb dX10_init_159 rfl (lv_at hl 0 rfl) ?_
  refine lv_iconst (v := 2) hx hb dX10_init_160 (by decide) ?_
  refine lv_icmp_ge (tgt := 188) hx hb dX10_init_161 rfl (fun c => absurd c (by decide)) (fun _ => ?_)
  refine lv_aload_n hx hb dX10_init_164 rfl (lv_at hl 1 rfl) ?_
  refine zg_get (w := w) (k := 0) (ci := 10) (C := "HandToHand") (T := TX10) (fs := [.ref (w.2.2.2.1 + 1), .ref (w.2.2.2.1 + 6), .ref (w.2.2.2.1 + 11), .ref (w.2.2.2.1 + 18), .ref (w.2.2.2.1 + 27), .ref (w.2.2.2.1 + 28), .ref (w.2.2.2.1 + 29), .ref (w.2.2.2.1 + 41), .ref (w.2.2.2.1 + 54), .ref (w.2.2.2.1 + 55), .ref (w.2.2.2.1 + 56), .ref (w.2.2.2.1 + 60), .ref (w.2.2.2.1 + 62), .int (zm1 0 13)]) X hG (by omega) (rfl) rfl zin_10 4 (by decide) rfl zu_471 rfl dX10_init_165 ?_
  refine lv_iload_n hx hb dX10_init_168 rfl (lv_at hl 0 rfl) ?_
  refine zg_new (w := w) (ci := 0) (C := "HandToHand$Bench") (T := TX0) (ty0 := tyX0) (fs := [.null, .null, .int 0, .int 0, .int 0, .int 0, .null, .null, .null, .null, .null, .null, .null, .null]) X hG (by omega) (by omega) rfl zin_0 tyX0_ok zu_154 zu_155 zu_4 (fun j hj => by rcases (show j = 0 ∨ j = 1 ∨ j = 2 ∨ j = 3 ∨ j = 4 ∨ j = 5 ∨ j = 6 ∨ j = 7 ∨ j = 8 ∨ j = 9 ∨ j = 10 ∨ j = 11 ∨ j = 12 ∨ j = 13 by omega) with rfl | rfl | rfl | rfl | rfl | rfl | rfl | rfl | rfl | rfl | rfl | rfl | rfl | rfl <;> rfl) (Nat.le_of_ble_eq_true rfl) (Nat.le_of_ble_eq_true rfl) dX10_init_169 (fun H hG => ?_)
  refine W.widen (k := 63) (n := 10014) (Nat.le_of_ble_eq_true rfl) (Nat.le_of_ble_eq_true rfl) ?_
  refine lv_dup hx hb dX10_init_172 rfl ?_
  refine lv_aload_n hx hb dX10_init_173 rfl (lv_at hl 1 rfl) ?_
  refine zg_get (w := w) (k := 0) (ci := 10) (C := "HandToHand") (T := TX10) (fs := [.ref (w.2.2.2.1 + 1), .ref (w.2.2.2.1 + 6), .ref (w.2.2.2.1 + 11), .ref (w.2.2.2.1 + 18), .ref (w.2.2.2.1 + 27), .ref (w.2.2.2.1 + 28), .ref (w.2.2.2.1 + 29), .ref (w.2.2.2.1 + 41), .ref (w.2.2.2.1 + 54), .ref (w.2.2.2.1 + 55), .ref (w.2.2.2.1 + 56), .ref (w.2.2.2.1 + 60), .ref (w.2.2.2.1 + 62), .int (zm1 0 13)]) X hG (by omega) (rfl) rfl zin_10 0 (by decide) rfl zu_467 rfl dX10_init_174 ?_
  refine lv_null hx hb dX10_init_177 ?_
  refine zg_ctor (w := w) (k := 63) (na := 2) (As := [.ref (w.2.2.2.1 + 1), .null]) (rest := [.ref (w.2.2.2.1 + 63), .int 0, .ref (w.2.2.2.1 + 27)]) X hKo hml hl hG (by omega) (by omega) zu_156 zu_157 zu_4 zu_158 rfl (by decide +kernel) (i_BenchN (w := zwn w (zsk (zsk (zsk (zshC w.2.1 w.2.2.2.1) 62 (.inl (w.2.1 4, 4, .inr (.inr (.inr (.inr (fun _ => none))))))) 27 (.inl (w.2.1 3, 2, .inr (.inr (.inr (.inr (fun _ => none))))))) 63 (.inr (0, [.null, .null, .int 0, .int 0, .int 0, .int 0, .null, .null, .null, .null, .null, .null, .null, .null]))) 64) (k := 63) (M := zm1) (M' := zm1) (sh := (zsk (zsk (zshC w.2.1 w.2.2.2.1) 62 (.inl (w.2.1 4, 4, .inr (.inr (.inr (.inr (fun _ => none))))))) 27 (.inl (w.2.1 3, 2, .inr (.inr (.inr (.inr (fun _ => none)))))))) rfl rfl (fun c hc => congrFun (zsk_ne (by omega)) _) (hz _ _ (by omega) rfl) (hz _ _ (by omega) rfl) (hz _ _ (by omega) rfl) (hz _ _ (by omega) rfl) (hz _ _ (by omega) rfl) (hz _ _ (by omega) rfl) (hz _ _ (by omega) rfl) (hz _ _ (by omega) rfl) (hz _ _ (by omega) rfl)) rfl rfl ⟨Nat.le_of_ble_eq_true rfl, Nat.le_of_ble_eq_true rfl⟩ ⟨Nat.le_of_ble_eq_true rfl, Nat.le_of_ble_eq_true rfl⟩ rfl (Nat.le_of_ble_eq_true rfl) dX10_init_178 (fun zM H locs eM hG => ?_)
  rw [eM] at hG
  refine W.widen (k := 71) (n := 10092) (Nat.le_of_ble_eq_true rfl) (Nat.le_of_ble_eq_true rfl) ?_
  refine zg_astq (w := w) (k := 27) (N := 2) (t := 3) (qk := 63) (ci := 0) (r := (RX0, TX0, 14)) (f := fun _ => none) X hG (by omega) zsk_eq rfl (by omega) (hz _ _ (by omega) rfl) rfl (vp_in_nI (n := 0) (by omega) (by omega)) dX10_init_181 (fun H locs hG => ?_)
  replace hG := zsk_re (E'' := .inl (w.2.1 3, 2, .inr (.inr (.inr (.inr (va_up (fun _ => none) 0 (some (w.2.2.2.1 + 63)))))))) rfl hG
  have hz : ∀ (c : Nat) (E : va_E), 6 ≤ c ∧ c ≠ 27 ∧ c ≠ 62 → zshC w.2.1 w.2.2.2.1 c (zM0 c) = E → (zsk (zsk (zshC w.2.1 w.2.2.2.1) 62 (.inl (w.2.1 4, 4, .inr (.inr (.inr (.inr (fun _ => none))))))) 27 (.inl (w.2.1 3, 2, .inr (.inr (.inr (.inr (va_up (fun _ => none) 0 (some (w.2.2.2.1 + 63))))))))) c (zm1 c) = E := fun c E h e => by rw [zsk_ne h.2.1, zsk_ne h.2.2, hq c h.1]; exact e
  refine lv_iinc (v := 1) (lv' := [(1, .int 1), (0, .ref (w.2.2.2.1 + 0))]) hx hb dX10_init_182 hl (k := 0) rfl (by decide) (Nat.le_of_ble_eq_true rfl) rfl (fun ls hl => ?_)
  refine lv_goto (tgt := 159) hx hb dX10_init_185 rfl ?_
  refine lv_iload_n hx hb dX10_init_159 rfl (lv_at hl 0 rfl) ?_
  refine lv_iconst (v := 2) hx hb dX10_init_160 (by decide) ?_
  refine lv_icmp_ge (tgt := 188) hx hb dX10_init_161 rfl (fun c => absurd c (by decide)) (fun _ => ?_)
  refine lv_aload_n hx hb dX10_init_164 rfl (lv_at hl 1 rfl) ?_
  refine zg_get (w := w) (k := 0) (ci := 10) (C := "HandToHand") (T := TX10) (fs := [.ref (w.2.2.2.1 + 1), .ref (w.2.2.2.1 + 6), .ref (w.2.2.2.1 + 11), .ref (w.2.2.2.1 + 18), .ref (w.2.2.2.1 + 27), .ref (w.2.2.2.1 + 28), .ref (w.2.2.2.1 + 29), .ref (w.2.2.2.1 + 41), .ref (w.2.2.2.1 + 54), .ref (w.2.2.2.1 + 55), .ref (w.2.2.2.1 + 56), .ref (w.2.2.2.1 + 60), .ref (w.2.2.2.1 + 62), .int (zm1 0 13)]) X hG (by omega) (rfl) rfl zin_10 4 (by decide) rfl zu_471 rfl dX10_init_165 ?_
  refine lv_iload_n hx hb dX10_init_168 rfl (lv_at hl 0 rfl) ?_
  refine zg_new (w := w) (ci := 0) (C := "HandToHand$Bench") (T := TX0) (ty0 := tyX0) (fs := [.null, .null, .int 0, .int 0, .int 0, .int 0, .null, .null, .null, .null, .null, .null, .null, .null]) X hG (by omega) (by omega) rfl zin_0 tyX0_ok zu_154 zu_155 zu_4 (fun j hj => by rcases (show j = 0 ∨ j = 1 ∨ j = 2 ∨ j = 3 ∨ j = 4 ∨ j = 5 ∨ j = 6 ∨ j = 7 ∨ j = 8 ∨ j = 9 ∨ j = 10 ∨ j = 11 ∨ j = 12 ∨ j = 13 by omega) with rfl | rfl | rfl | rfl | rfl | rfl | rfl | rfl | rfl | rfl | rfl | rfl | rfl | rfl <;> rfl) (Nat.le_of_ble_eq_true rfl) (Nat.le_of_ble_eq_true rfl) dX10_init_169 (fun H hG => ?_)
  refine W.widen (k := 72) (n := 10106) (Nat.le_of_ble_eq_true rfl) (Nat.le_of_ble_eq_true rfl) ?_
  refine lv_dup hx hb dX10_init_172 rfl ?_
  refine lv_aload_n hx hb dX10_init_173 rfl (lv_at hl 1 rfl) ?_
  refine zg_get (w := w) (k := 0) (ci := 10) (C := "HandToHand") (T := TX10) (fs := [.ref (w.2.2.2.1 + 1), .ref (w.2.2.2.1 + 6), .ref (w.2.2.2.1 + 11), .ref (w.2.2.2.1 + 18), .ref (w.2.2.2.1 + 27), .ref (w.2.2.2.1 + 28), .ref (w.2.2.2.1 + 29), .ref (w.2.2.2.1 + 41), .ref (w.2.2.2.1 + 54), .ref (w.2.2.2.1 + 55), .ref (w.2.2.2.1 + 56), .ref (w.2.2.2.1 + 60), .ref (w.2.2.2.1 + 62), .int (zm1 0 13)]) X hG (by omega) (rfl) rfl zin_10 0 (by decide) rfl zu_467 rfl dX10_init_174 ?_
  refine lv_null hx hb dX10_init_177 ?_
  refine zg_ctor (w := w) (k := 72) (na := 2) (As := [.ref (w.2.2.2.1 + 1), .null]) (rest := [.ref (w.2.2.2.1 + 72), .int 1, .ref (w.2.2.2.1 + 27)]) X hKo hml hl hG (by omega) (by omega) zu_156 zu_157 zu_4 zu_158 rfl (by decide +kernel) (i_BenchN (w := zwn w (zsk (zsk (zsk (zshC w.2.1 w.2.2.2.1) 62 (.inl (w.2.1 4, 4, .inr (.inr (.inr (.inr (fun _ => none))))))) 27 (.inl (w.2.1 3, 2, .inr (.inr (.inr (.inr (va_up (fun _ => none) 0 (some (w.2.2.2.1 + 63))))))))) 72 (.inr (0, [.null, .null, .int 0, .int 0, .int 0, .int 0, .null, .null, .null, .null, .null, .null, .null, .null]))) 73) (k := 72) (M := zm1) (M' := zm1) (sh := (zsk (zsk (zshC w.2.1 w.2.2.2.1) 62 (.inl (w.2.1 4, 4, .inr (.inr (.inr (.inr (fun _ => none))))))) 27 (.inl (w.2.1 3, 2, .inr (.inr (.inr (.inr (va_up (fun _ => none) 0 (some (w.2.2.2.1 + 63)))))))))) rfl rfl (fun c hc => congrFun (zsk_ne (by omega)) _) (hz _ _ (by omega) rfl) (hz _ _ (by omega) rfl) (hz _ _ (by omega) rfl) (hz _ _ (by omega) rfl) (hz _ _ (by omega) rfl) (hz _ _ (by omega) rfl) (hz _ _ (by omega) rfl) (hz _ _ (by omega) rfl) (hz _ _ (by omega) rfl)) rfl rfl ⟨Nat.le_of_ble_eq_true rfl, Nat.le_of_ble_eq_true rfl⟩ ⟨Nat.le_of_ble_eq_true rfl, Nat.le_of_ble_eq_true rfl⟩ rfl (Nat.le_of_ble_eq_true rfl) dX10_init_178 (fun zM H locs eM hG => ?_)
  rw [eM] at hG
  refine W.widen (k := 80) (n := 10184) (Nat.le_of_ble_eq_true rfl) (Nat.le_of_ble_eq_true rfl) ?_
  refine zg_astq (w := w) (k := 27) (N := 2) (t := 3) (qk := 72) (ci := 0) (r := (RX0, TX0, 14)) (f := va_up (fun _ => none) 0 (some (w.2.2.2.1 + 63))) X hG (by omega) zsk_eq rfl (by omega) (hz _ _ (by omega) rfl) rfl (vp_in_nI (n := 1) (by omega) (by omega)) dX10_init_181 (fun H locs hG => ?_)
  replace hG := zsk_re (E'' := .inl (w.2.1 3, 2, .inr (.inr (.inr (.inr (va_up (va_up (fun _ => none) 0 (some (w.2.2.2.1 + 63))) 1 (some (w.2.2.2.1 + 72)))))))) rfl hG
  replace hG := zGo_castE (sh' := (zsk (zshC w.2.1 w.2.2.2.1) 62 (.inl (w.2.1 4, 4, .inr (.inr (.inr (.inr (fun _ => none)))))))) (M' := zm1) (fun c hc => by
    by_cases q : c = 27
    · subst q
      rw [zsk_eq]
      exact Or.inr ⟨_, _, _, fun j => some (w.2.2.2.1 + (63 + 9 * j)), rfl, rfl, fun j hj => by rcases (show j = 0 ∨ j = 1 by omega) with rfl | rfl <;> rfl⟩
    · rw [zsk_ne q]; exact Or.inl rfl) hG
  have hz : ∀ (c : Nat) (E : va_E), 6 ≤ c ∧ c ≠ 62 → zshC w.2.1 w.2.2.2.1 c (zM0 c) = E → (zsk (zshC w.2.1 w.2.2.2.1) 62 (.inl (w.2.1 4, 4, .inr (.inr (.inr (.inr (fun _ => none))))))) c (zm1 c) = E := fun c E h e => by rw [zsk_ne h.2, hq c h.1]; exact e
  refine lv_iinc (v := 2) (lv' := [(1, .int 2), (0, .ref (w.2.2.2.1 + 0))]) hx hb dX10_init_182 hl (k := 0) rfl (by decide) (Nat.le_of_ble_eq_true rfl) rfl (fun ls hl => ?_)
  refine lv_goto (tgt := 159) hx hb dX10_init_185 rfl ?_
  refine lv_iload_n hx hb dX10_init_159 rfl (lv_at hl 0 rfl) ?_
  refine lv_iconst (v := 2) hx hb dX10_init_160 (by decide) ?_
  refine lv_icmp_ge (tgt := 188) hx hb dX10_init_161 rfl (fun _ => ?_) (fun c => absurd (by decide) c)
  refine lv_iconst (v := 0) hx hb dX10_init_188 (by decide) ?_
  refine lv_istore_n (lv' := [(1, .int 0), (0, .ref (w.2.2.2.1 + 0))]) hx hb dX10_init_189 rfl hl (Nat.le_of_ble_eq_true rfl) rfl (fun ls hl => ?_)
  refine lv_iload_n hx hb dX10_init_190 rfl (lv_at hl 0 rfl) ?_
  refine lv_iconst (v := 4) hx hb dX10_init_191 (by decide) ?_
  refine lv_icmp_ge (tgt := 214) hx hb dX10_init_192 rfl (fun c => absurd c (by decide)) (fun _ => ?_)
  refine lv_aload_n hx hb dX10_init_195 rfl (lv_at hl 1 rfl) ?_
  refine zg_get (w := w) (k := 0) (ci := 10) (C := "HandToHand") (T := TX10) (fs := [.ref (w.2.2.2.1 + 1), .ref (w.2.2.2.1 + 6), .ref (w.2.2.2.1 + 11), .ref (w.2.2.2.1 + 18), .ref (w.2.2.2.1 + 27), .ref (w.2.2.2.1 + 28), .ref (w.2.2.2.1 + 29), .ref (w.2.2.2.1 + 41), .ref (w.2.2.2.1 + 54), .ref (w.2.2.2.1 + 55), .ref (w.2.2.2.1 + 56), .ref (w.2.2.2.1 + 60), .ref (w.2.2.2.1 + 62), .int (zm1 0 13)]) X hG (by omega) (rfl) rfl zin_10 12 (by decide) rfl zu_479 rfl dX10_init_196 ?_
  refine lv_iload_n hx hb dX10_init_199 rfl (lv_at hl 0 rfl) ?_
  refine zg_new (w := w) (ci := 8) (C := "HandToHand$Sheet") (T := TX8) (ty0 := tyX8) (fs := [.int 0, .int 0, .null]) X hG (by omega) (by omega) rfl zin_8 tyX8_ok zu_370 zu_384 zu_11 (fun j hj => by rcases (show j = 0 ∨ j = 1 ∨ j = 2 by omega) with rfl | rfl | rfl <;> rfl) (Nat.le_of_ble_eq_true rfl) (Nat.le_of_ble_eq_true rfl) dX10_init_200 (fun H hG => ?_)
  refine W.widen (k := 81) (n := 10187) (Nat.le_of_ble_eq_true rfl) (Nat.le_of_ble_eq_true rfl) ?_
  refine lv_dup hx hb dX10_init_203 rfl ?_
  refine zg_ctorN (w := w) (k := 81) (na := 0) (As := []) (rest := [.ref (w.2.2.2.1 + 81), .int 0, .ref (w.2.2.2.1 + 62)]) (host := "HandToHand") X hKo hml hl hG (by omega) (by omega) (List.mem_of_getElem? (i := 7) rfl) zu_386 zu_11 zu_387 rfl (by decide +kernel) (i_Sheet (w := zwn w (zsk (zsk (zshC w.2.1 w.2.2.2.1) 62 (.inl (w.2.1 4, 4, .inr (.inr (.inr (.inr (fun _ => none))))))) 81 (.inr (8, [.int 0, .int 0, .null]))) 82) (k := 81) (M := zm1) (M' := zm1) (sh := (zsk (zshC w.2.1 w.2.2.2.1) 62 (.inl (w.2.1 4, 4, .inr (.inr (.inr (.inr (fun _ => none)))))))) rfl rfl (fun c hc => congrFun (zsk_ne (by omega)) _) (hz _ _ (by omega) rfl) (hz _ _ (by omega) rfl)) rfl rfl ⟨Nat.le_of_ble_eq_true rfl, Nat.le_of_ble_eq_true rfl⟩ ⟨Nat.le_of_ble_eq_true rfl, Nat.le_of_ble_eq_true rfl⟩ rfl (Nat.le_of_ble_eq_true rfl) dX10_init_204 (fun zM H locs eM hG => ?_)
  rw [eM] at hG
  refine W.widen (k := 82) (n := 10227) (Nat.le_of_ble_eq_true rfl) (Nat.le_of_ble_eq_true rfl) ?_
  refine zg_astq (w := w) (k := 62) (N := 4) (t := 4) (qk := 81) (ci := 8) (r := (RX8, TX8, 3)) (f := fun _ => none) X hG (by omega) zsk_eq rfl (by omega) (hz _ _ (by omega) rfl) rfl (vp_in_nI (n := 0) (by omega) (by omega)) dX10_init_207 (fun H locs hG => ?_)
  replace hG := zsk_re (E'' := .inl (w.2.1 4, 4, .inr (.inr (.inr (.inr (va_up (fun _ => none) 0 (some (w.2.2.2.1 + 81)))))))) rfl hG
  have hz : ∀ (c : Nat) (E : va_E), 6 ≤ c ∧ c ≠ 62 → zshC w.2.1 w.2.2.2.1 c (zM0 c) = E → (zsk (zshC w.2.1 w.2.2.2.1) 62 (.inl (w.2.1 4, 4, .inr (.inr (.inr (.inr (va_up (fun _ => none) 0 (some (w.2.2.2.1 + 81))))))))) c (zm1 c) = E := fun c E h e => by rw [zsk_ne h.2, hq c h.1]; exact e
  refine lv_iinc (v := 1) (lv' := [(1, .int 1), (0, .ref (w.2.2.2.1 + 0))]) hx hb dX10_init_208 hl (k := 0) rfl (by decide) (Nat.le_of_ble_eq_true rfl) rfl (fun ls hl => ?_)
  refine lv_goto (tgt := 190) hx hb dX10_init_211 rfl ?_
  refine lv_iload_n hx hb dX10_init_190 rfl (lv_at hl 0 rfl) ?_
  refine lv_iconst (v := 4) hx hb dX10_init_191 (by decide) ?_
  refine lv_icmp_ge (tgt := 214) hx hb dX10_init_192 rfl (fun c => absurd c (by decide)) (fun _ => ?_)
  refine lv_aload_n hx hb dX10_init_195 rfl (lv_at hl 1 rfl) ?_
  refine zg_get (w := w) (k := 0) (ci := 10) (C := "HandToHand") (T := TX10) (fs := [.ref (w.2.2.2.1 + 1), .ref (w.2.2.2.1 + 6), .ref (w.2.2.2.1 + 11), .ref (w.2.2.2.1 + 18), .ref (w.2.2.2.1 + 27), .ref (w.2.2.2.1 + 28), .ref (w.2.2.2.1 + 29), .ref (w.2.2.2.1 + 41), .ref (w.2.2.2.1 + 54), .ref (w.2.2.2.1 + 55), .ref (w.2.2.2.1 + 56), .ref (w.2.2.2.1 + 60), .ref (w.2.2.2.1 + 62), .int (zm1 0 13)]) X hG (by omega) (rfl) rfl zin_10 12 (by decide) rfl zu_479 rfl dX10_init_196 ?_
  refine lv_iload_n hx hb dX10_init_199 rfl (lv_at hl 0 rfl) ?_
  refine zg_new (w := w) (ci := 8) (C := "HandToHand$Sheet") (T := TX8) (ty0 := tyX8) (fs := [.int 0, .int 0, .null]) X hG (by omega) (by omega) rfl zin_8 tyX8_ok zu_370 zu_384 zu_11 (fun j hj => by rcases (show j = 0 ∨ j = 1 ∨ j = 2 by omega) with rfl | rfl | rfl <;> rfl) (Nat.le_of_ble_eq_true rfl) (Nat.le_of_ble_eq_true rfl) dX10_init_200 (fun H hG => ?_)
  refine W.widen (k := 83) (n := 10230) (Nat.le_of_ble_eq_true rfl) (Nat.le_of_ble_eq_true rfl) ?_
  refine lv_dup hx hb dX10_init_203 rfl ?_
  refine zg_ctorN (w := w) (k := 83) (na := 0) (As := []) (rest := [.ref (w.2.2.2.1 + 83), .int 1, .ref (w.2.2.2.1 + 62)]) (host := "HandToHand") X hKo hml hl hG (by omega) (by omega) (List.mem_of_getElem? (i := 7) rfl) zu_386 zu_11 zu_387 rfl (by decide +kernel) (i_Sheet (w := zwn w (zsk (zsk (zshC w.2.1 w.2.2.2.1) 62 (.inl (w.2.1 4, 4, .inr (.inr (.inr (.inr (va_up (fun _ => none) 0 (some (w.2.2.2.1 + 81))))))))) 83 (.inr (8, [.int 0, .int 0, .null]))) 84) (k := 83) (M := zm1) (M' := zm1) (sh := (zsk (zshC w.2.1 w.2.2.2.1) 62 (.inl (w.2.1 4, 4, .inr (.inr (.inr (.inr (va_up (fun _ => none) 0 (some (w.2.2.2.1 + 81)))))))))) rfl rfl (fun c hc => congrFun (zsk_ne (by omega)) _) (hz _ _ (by omega) rfl) (hz _ _ (by omega) rfl)) rfl rfl ⟨Nat.le_of_ble_eq_true rfl, Nat.le_of_ble_eq_true rfl⟩ ⟨Nat.le_of_ble_eq_true rfl, Nat.le_of_ble_eq_true rfl⟩ rfl (Nat.le_of_ble_eq_true rfl) dX10_init_204 (fun zM H locs eM hG => ?_)
  rw [eM] at hG
  refine W.widen (k := 84) (n := 10270) (Nat.le_of_ble_eq_true rfl) (Nat.le_of_ble_eq_true rfl) ?_
  refine zg_astq (w := w) (k := 62) (N := 4) (t := 4) (qk := 83) (ci := 8) (r := (RX8, TX8, 3)) (f := va_up (fun _ => none) 0 (some (w.2.2.2.1 + 81))) X hG (by omega) zsk_eq rfl (by omega) (hz _ _ (by omega) rfl) rfl (vp_in_nI (n := 1) (by omega) (by omega)) dX10_init_207 (fun H locs hG => ?_)
  replace hG := zsk_re (E'' := .inl (w.2.1 4, 4, .inr (.inr (.inr (.inr (va_up (va_up (fun _ => none) 0 (some (w.2.2.2.1 + 81))) 1 (some (w.2.2.2.1 + 83)))))))) rfl hG
  have hz : ∀ (c : Nat) (E : va_E), 6 ≤ c ∧ c ≠ 62 → zshC w.2.1 w.2.2.2.1 c (zM0 c) = E → (zsk (zshC w.2.1 w.2.2.2.1) 62 (.inl (w.2.1 4, 4, .inr (.inr (.inr (.inr (va_up (va_up (fun _ => none) 0 (some (w.2.2.2.1 + 81))) 1 (some (w.2.2.2.1 + 83))))))))) c (zm1 c) = E := fun c E h e => by rw [zsk_ne h.2, hq c h.1]; exact e
  refine lv_iinc (v := 2) (lv' := [(1, .int 2), (0, .ref (w.2.2.2.1 + 0))]) hx hb dX10_init_208 hl (k := 0) rfl (by decide) (Nat.le_of_ble_eq_true rfl) rfl (fun ls hl => ?_)
  refine lv_goto (tgt := 190) hx hb dX10_init_211 rfl ?_
  refine lv_iload_n hx hb dX10_init_190 rfl (lv_at hl 0 rfl) ?_
  refine lv_iconst (v := 4) hx hb dX10_init_191 (by decide) ?_
  refine lv_icmp_ge (tgt := 214) hx hb dX10_init_192 rfl (fun c => absurd c (by decide)) (fun _ => ?_)
  refine lv_aload_n hx hb dX10_init_195 rfl (lv_at hl 1 rfl) ?_
  refine zg_get (w := w) (k := 0) (ci := 10) (C := "HandToHand") (T := TX10) (fs := [.ref (w.2.2.2.1 + 1), .ref (w.2.2.2.1 + 6), .ref (w.2.2.2.1 + 11), .ref (w.2.2.2.1 + 18), .ref (w.2.2.2.1 + 27), .ref (w.2.2.2.1 + 28), .ref (w.2.2.2.1 + 29), .ref (w.2.2.2.1 + 41), .ref (w.2.2.2.1 + 54), .ref (w.2.2.2.1 + 55), .ref (w.2.2.2.1 + 56), .ref (w.2.2.2.1 + 60), .ref (w.2.2.2.1 + 62), .int (zm1 0 13)]) X hG (by omega) (rfl) rfl zin_10 12 (by decide) rfl zu_479 rfl dX10_init_196 ?_
  refine lv_iload_n hx hb dX10_init_199 rfl (lv_at hl 0 rfl) ?_
  refine zg_new (w := w) (ci := 8) (C := "HandToHand$Sheet") (T := TX8) (ty0 := tyX8) (fs := [.int 0, .int 0, .null]) X hG (by omega) (by omega) rfl zin_8 tyX8_ok zu_370 zu_384 zu_11 (fun j hj => by rcases (show j = 0 ∨ j = 1 ∨ j = 2 by omega) with rfl | rfl | rfl <;> rfl) (Nat.le_of_ble_eq_true rfl) (Nat.le_of_ble_eq_true rfl) dX10_init_200 (fun H hG => ?_)
  refine W.widen (k := 85) (n := 10273) (Nat.le_of_ble_eq_true rfl) (Nat.le_of_ble_eq_true rfl) ?_
  refine lv_dup hx hb dX10_init_203 rfl ?_
  refine zg_ctorN (w := w) (k := 85) (na := 0) (As := []) (rest := [.ref (w.2.2.2.1 + 85), .int 2, .ref (w.2.2.2.1 + 62)]) (host := "HandToHand") X hKo hml hl hG (by omega) (by omega) (List.mem_of_getElem? (i := 7) rfl) zu_386 zu_11 zu_387 rfl (by decide +kernel) (i_Sheet (w := zwn w (zsk (zsk (zshC w.2.1 w.2.2.2.1) 62 (.inl (w.2.1 4, 4, .inr (.inr (.inr (.inr (va_up (va_up (fun _ => none) 0 (some (w.2.2.2.1 + 81))) 1 (some (w.2.2.2.1 + 83))))))))) 85 (.inr (8, [.int 0, .int 0, .null]))) 86) (k := 85) (M := zm1) (M' := zm1) (sh := (zsk (zshC w.2.1 w.2.2.2.1) 62 (.inl (w.2.1 4, 4, .inr (.inr (.inr (.inr (va_up (va_up (fun _ => none) 0 (some (w.2.2.2.1 + 81))) 1 (some (w.2.2.2.1 + 83)))))))))) rfl rfl (fun c hc => congrFun (zsk_ne (by omega)) _) (hz _ _ (by omega) rfl) (hz _ _ (by omega) rfl)) rfl rfl ⟨Nat.le_of_ble_eq_true rfl, Nat.le_of_ble_eq_true rfl⟩ ⟨Nat.le_of_ble_eq_true rfl, Nat.le_of_ble_eq_true rfl⟩ rfl (Nat.le_of_ble_eq_true rfl) dX10_init_204 (fun zM H locs eM hG => ?_)
  rw [eM] at hG
  refine W.widen (k := 86) (n := 10313) (Nat.le_of_ble_eq_true rfl) (Nat.le_of_ble_eq_true rfl) ?_
  refine zg_astq (w := w) (k := 62) (N := 4) (t := 4) (qk := 85) (ci := 8) (r := (RX8, TX8, 3)) (f := va_up (va_up (fun _ => none) 0 (some (w.2.2.2.1 + 81))) 1 (some (w.2.2.2.1 + 83))) X hG (by omega) zsk_eq rfl (by omega) (hz _ _ (by omega) rfl) rfl (vp_in_nI (n := 2) (by omega) (by omega)) dX10_init_207 (fun H locs hG => ?_)
  replace hG := zsk_re (E'' := .inl (w.2.1 4, 4, .inr (.inr (.inr (.inr (va_up (va_up (va_up (fun _ => none) 0 (some (w.2.2.2.1 + 81))) 1 (some (w.2.2.2.1 + 83))) 2 (some (w.2.2.2.1 + 85)))))))) rfl hG
  have hz : ∀ (c : Nat) (E : va_E), 6 ≤ c ∧ c ≠ 62 → zshC w.2.1 w.2.2.2.1 c (zM0 c) = E → (zsk (zshC w.2.1 w.2.2.2.1) 62 (.inl (w.2.1 4, 4, .inr (.inr (.inr (.inr (va_up (va_up (va_up (fun _ => none) 0 (some (w.2.2.2.1 + 81))) 1 (some (w.2.2.2.1 + 83))) 2 (some (w.2.2.2.1 + 85))))))))) c (zm1 c) = E := fun c E h e => by rw [zsk_ne h.2, hq c h.1]; exact e
  refine lv_iinc (v := 3) (lv' := [(1, .int 3), (0, .ref (w.2.2.2.1 + 0))]) hx hb dX10_init_208 hl (k := 0) rfl (by decide) (Nat.le_of_ble_eq_true rfl) rfl (fun ls hl => ?_)
  refine lv_goto (tgt := 190) hx hb dX10_init_211 rfl ?_
  refine lv_iload_n hx hb dX10_init_190 rfl (lv_at hl 0 rfl) ?_
  refine lv_iconst (v := 4) hx hb dX10_init_191 (by decide) ?_
  refine lv_icmp_ge (tgt := 214) hx hb dX10_init_192 rfl (fun c => absurd c (by decide)) (fun _ => ?_)
  refine lv_aload_n hx hb dX10_init_195 rfl (lv_at hl 1 rfl) ?_
  refine zg_get (w := w) (k := 0) (ci := 10) (C := "HandToHand") (T := TX10) (fs := [.ref (w.2.2.2.1 + 1), .ref (w.2.2.2.1 + 6), .ref (w.2.2.2.1 + 11), .ref (w.2.2.2.1 + 18), .ref (w.2.2.2.1 + 27), .ref (w.2.2.2.1 + 28), .ref (w.2.2.2.1 + 29), .ref (w.2.2.2.1 + 41), .ref (w.2.2.2.1 + 54), .ref (w.2.2.2.1 + 55), .ref (w.2.2.2.1 + 56), .ref (w.2.2.2.1 + 60), .ref (w.2.2.2.1 + 62), .int (zm1 0 13)]) X hG (by omega) (rfl) rfl zin_10 12 (by decide) rfl zu_479 rfl dX10_init_196 ?_
  refine lv_iload_n hx hb dX10_init_199 rfl (lv_at hl 0 rfl) ?_
  refine zg_new (w := w) (ci := 8) (C := "HandToHand$Sheet") (T := TX8) (ty0 := tyX8) (fs := [.int 0, .int 0, .null]) X hG (by omega) (by omega) rfl zin_8 tyX8_ok zu_370 zu_384 zu_11 (fun j hj => by rcases (show j = 0 ∨ j = 1 ∨ j = 2 by omega) with rfl | rfl | rfl <;> rfl) (Nat.le_of_ble_eq_true rfl) (Nat.le_of_ble_eq_true rfl) dX10_init_200 (fun H hG => ?_)
  refine W.widen (k := 87) (n := 10316) (Nat.le_of_ble_eq_true rfl) (Nat.le_of_ble_eq_true rfl) ?_
  refine lv_dup hx hb dX10_init_203 rfl ?_
  refine zg_ctorN (w := w) (k := 87) (na := 0) (As := []) (rest := [.ref (w.2.2.2.1 + 87), .int 3, .ref (w.2.2.2.1 + 62)]) (host := "HandToHand") X hKo hml hl hG (by omega) (by omega) (List.mem_of_getElem? (i := 7) rfl) zu_386 zu_11 zu_387 rfl (by decide +kernel) (i_Sheet (w := zwn w (zsk (zsk (zshC w.2.1 w.2.2.2.1) 62 (.inl (w.2.1 4, 4, .inr (.inr (.inr (.inr (va_up (va_up (va_up (fun _ => none) 0 (some (w.2.2.2.1 + 81))) 1 (some (w.2.2.2.1 + 83))) 2 (some (w.2.2.2.1 + 85))))))))) 87 (.inr (8, [.int 0, .int 0, .null]))) 88) (k := 87) (M := zm1) (M' := zm1) (sh := (zsk (zshC w.2.1 w.2.2.2.1) 62 (.inl (w.2.1 4, 4, .inr (.inr (.inr (.inr (va_up (va_up (va_up (fun _ => none) 0 (some (w.2.2.2.1 + 81))) 1 (some (w.2.2.2.1 + 83))) 2 (some (w.2.2.2.1 + 85)))))))))) rfl rfl (fun c hc => congrFun (zsk_ne (by omega)) _) (hz _ _ (by omega) rfl) (hz _ _ (by omega) rfl)) rfl rfl ⟨Nat.le_of_ble_eq_true rfl, Nat.le_of_ble_eq_true rfl⟩ ⟨Nat.le_of_ble_eq_true rfl, Nat.le_of_ble_eq_true rfl⟩ rfl (Nat.le_of_ble_eq_true rfl) dX10_init_204 (fun zM H locs eM hG => ?_)
  rw [eM] at hG
  refine W.widen (k := 88) (n := 10356) (Nat.le_of_ble_eq_true rfl) (Nat.le_of_ble_eq_true rfl) ?_
  refine zg_astq (w := w) (k := 62) (N := 4) (t := 4) (qk := 87) (ci := 8) (r := (RX8, TX8, 3)) (f := va_up (va_up (va_up (fun _ => none) 0 (some (w.2.2.2.1 + 81))) 1 (some (w.2.2.2.1 + 83))) 2 (some (w.2.2.2.1 + 85))) X hG (by omega) zsk_eq rfl (by omega) (hz _ _ (by omega) rfl) rfl (vp_in_nI (n := 3) (by omega) (by omega)) dX10_init_207 (fun H locs hG => ?_)
  replace hG := zsk_re (E'' := .inl (w.2.1 4, 4, .inr (.inr (.inr (.inr (va_up (va_up (va_up (va_up (fun _ => none) 0 (some (w.2.2.2.1 + 81))) 1 (some (w.2.2.2.1 + 83))) 2 (some (w.2.2.2.1 + 85))) 3 (some (w.2.2.2.1 + 87)))))))) rfl hG
  replace hG := zGo_castE (sh' := (zshC w.2.1 w.2.2.2.1)) (M' := zm1) (fun c hc => by
    by_cases q : c = 62
    · subst q
      rw [zsk_eq]
      exact Or.inr ⟨_, _, _, fun j => some (w.2.2.2.1 + (81 + 2 * j)), rfl, rfl, fun j hj => by rcases (show j = 0 ∨ j = 1 ∨ j = 2 ∨ j = 3 by omega) with rfl | rfl | rfl | rfl <;> rfl⟩
    · rw [zsk_ne q]; exact Or.inl rfl) hG
  refine lv_iinc (v := 4) (lv' := [(1, .int 4), (0, .ref (w.2.2.2.1 + 0))]) hx hb dX10_init_208 hl (k := 0) rfl (by decide) (Nat.le_of_ble_eq_true rfl) rfl (fun ls hl => ?_)
  refine lv_goto (tgt := 190) hx hb dX10_init_211 rfl ?_
  refine lv_iload_n hx hb dX10_init_190 rfl (lv_at hl 0 rfl) ?_
  refine lv_iconst (v := 4) hx hb dX10_init_191 (by decide) ?_
  refine lv_icmp_ge (tgt := 214) hx hb dX10_init_192 rfl (fun _ => ?_) (fun c => absurd (by decide) c)
  refine lv_aload_n hx hb dX10_init_214 rfl (lv_at hl 1 rfl) ?_
  refine zg_get (w := w) (k := 0) (ci := 10) (C := "HandToHand") (T := TX10) (fs := [.ref (w.2.2.2.1 + 1), .ref (w.2.2.2.1 + 6), .ref (w.2.2.2.1 + 11), .ref (w.2.2.2.1 + 18), .ref (w.2.2.2.1 + 27), .ref (w.2.2.2.1 + 28), .ref (w.2.2.2.1 + 29), .ref (w.2.2.2.1 + 41), .ref (w.2.2.2.1 + 54), .ref (w.2.2.2.1 + 55), .ref (w.2.2.2.1 + 56), .ref (w.2.2.2.1 + 60), .ref (w.2.2.2.1 + 62), .int (zm1 0 13)]) X hG (by omega) (rfl) rfl zin_10 3 (by decide) rfl zu_470 rfl dX10_init_215 ?_
  refine zg_callv (w := zwC w) (k := 18) (As := []) (rest := []) X hml hl hG (zi_b18 w).1 rfl zk_Main_93 (c_Bench_clear (zi_b18 w) h) rfl ⟨Nat.le_of_ble_eq_true rfl, Nat.le_of_ble_eq_true rfl⟩ ⟨Nat.le_of_ble_eq_true rfl, Nat.le_of_ble_eq_true rfl⟩ rfl (Nat.le_of_ble_eq_true rfl) dX10_init_218 (fun zm2 H locs h hG => ?_)
  refine lv_aload_n hx hb dX10_init_221 rfl (lv_at hl 1 rfl) ?_
  refine zg_get (w := w) (k := 0) (ci := 10) (C := "HandToHand") (T := TX10) (fs := [.ref (w.2.2.2.1 + 1), .ref (w.2.2.2.1 + 6), .ref (w.2.2.2.1 + 11), .ref (w.2.2.2.1 + 18), .ref (w.2.2.2.1 + 27), .ref (w.2.2.2.1 + 28), .ref (w.2.2.2.1 + 29), .ref (w.2.2.2.1 + 41), .ref (w.2.2.2.1 + 54), .ref (w.2.2.2.1 + 55), .ref (w.2.2.2.1 + 56), .ref (w.2.2.2.1 + 60), .ref (w.2.2.2.1 + 62), .int (zm2 0 13)]) X hG (by omega) (rfl) rfl zin_10 3 (by decide) rfl zu_470 rfl dX10_init_222 ?_
  refine zg_callv (w := zwC w) (k := 18) (As := []) (rest := []) X hml hl hG (zi_b18 w).1 rfl zk_Main_96 (c_Bench_doAll (zi_b18 w) h) rfl ⟨Nat.le_of_ble_eq_true rfl, Nat.le_of_ble_eq_true rfl⟩ ⟨Nat.le_of_ble_eq_true rfl, Nat.le_of_ble_eq_true rfl⟩ rfl (Nat.le_of_ble_eq_true rfl) dX10_init_225 (fun zm3 H locs h hG => ?_)
  exact zg_vret (w' := zwC w) X hr hlk rfl hG h dX10_init_228
def zL2 : Nat → Int32 := fun j => ([0, 5, 10, 14, 17, 21, 25, 30, 34, 38, 43] : List Int32).getD j 0
def zL3 : Nat → Int32 := fun j => ([112, 105, 101, 99, 101, 119, 104, 111, 108, 101, 115, 111, 114, 116, 114, 111, 119, 104, 97, 110, 100, 119, 97, 108, 107, 108, 101, 97, 114, 110, 98, 97, 99, 107, 122, 111, 110, 101, 102, 105, 120, 101, 100] : List Int32).getD j 0
def zL4 : Nat → Int32 := fun j => ([3, 3, 0, 0, 0, 0, 1, 0, 0, 0, 0, 0, 0, 0, 0, 0, 0, 0, 0, 0, 0, 0, 0, 0, 0, 0, 0, 0, 0, 0, 2, 2, 2, 0, 0, 0, 0, 0, 2, 2, 2, 0, 0, 0, 0, 0, 2, 2, 2, 0, 0, 0, 0, 0, 0, 0, 0, 0, 0, 0, 3, 3, 3, 0, 0, 0, 0, 0, 2, 2, 2, 0, 0, 0, 0, 0, 1, 1, 1, 0, 0, 0, 0, 0, 0, 0, 0, 0, 0, 0, 0, 0, 0, 0, 0, 0, 0, 0, 0, 0] : List Int32).getD j 0
def zL16 : Nat → Int32 := fun j => ([-4, -4, -4, -4] : List Int32).getD j 0
def zshN (ar : Nat → ClassId) (b : Nat) : List ((Nat → Int32) → va_E) := [fun f => .inr (11, [.ref (b + 1), .int (f 1), .int (f 2), .int (f 3), .int (f 4), .int (f 5), .int (f 6), .int (f 7), .int (f 8), .ref (b + 2), .ref (b + 3), .ref (b + 4), .ref (b + 5), .int (f 13), .int (f 14), .int (f 15), .ref (b + 6), .ref (b + 7), .int (f 18), .int (f 19), .ref (b + 8), .ref (b + 9), .ref (b + 10), .ref (b + 11), .int (f 24), .ref (b + 12), .ref (b + 13), .ref (b + 14), .int (f 28), .int (f 29), .int (f 30), .int (f 31), .int (f 32), .int (f 33), .int (f 34), .ref (b + 15), .ref (b + 16), .ref (b + 17), .ref (b + 18), .int (f 39)]),
  fun f => .inl (ar 1, 400, .inl f),
  fun f => .inl (ar 1, 11, .inl f),
  fun f => .inl (ar 1, 43, .inl f),
  fun f => .inl (ar 1, 100, .inl f),
  fun f => .inl (ar 1, 100, .inl f),
  fun f => .inl (ar 1, 384, .inl f),
  fun f => .inl (ar 2, 2, .inl f),
  fun f => .inl (ar 1, 5, .inl f),
  fun f => .inl (ar 1, 5, .inl f),
  fun f => .inl (ar 1, 3000, .inl f),
  fun f => .inl (ar 1, 8, .inl f),
  fun f => .inl (ar 1, 9600, .inl f),
  fun f => .inl (ar 1, 120, .inl f),
  fun f => .inl (ar 1, 120, .inl f),
  fun f => .inl (ar 1, 5, .inl f),
  fun f => .inl (ar 1, 4, .inl f),
  fun f => .inl (ar 1, 4, .inl f),
  fun f => .inl (ar 1, 160, .inl f)]
def zshM (ar : Nat → ClassId) (b c : Nat) : (Nat → Int32) → va_E := (zshN ar b).getD c (fun _ => .inr (0, []))
def zW0 : zMem := fun c j => if c = 2 then zL2 j else if c = 3 then zL3 j else if c = 4 then zL4 j else if c = 16 then zL16 j else  0
abbrev zwM (w : zWd) : zWd := zwn w (zshM w.2.1 w.2.2.2.1) 19
theorem zi_model (w : zWd) : zI_Model (zwM w) := ⟨⟨Nat.le_of_ble_eq_true rfl, fun _ => rfl⟩, ⟨Nat.le_of_ble_eq_true rfl, fun _ => rfl⟩, ⟨Nat.le_of_ble_eq_true rfl, fun _ => rfl⟩, ⟨Nat.le_of_ble_eq_true rfl, fun _ => rfl⟩, ⟨Nat.le_of_ble_eq_true rfl, fun _ => rfl⟩, ⟨Nat.le_of_ble_eq_true rfl, fun _ => rfl⟩, ⟨Nat.le_of_ble_eq_true rfl, fun _ => rfl⟩, ⟨Nat.le_of_ble_eq_true rfl, fun _ => rfl⟩, ⟨Nat.le_of_ble_eq_true rfl, fun _ => rfl⟩, ⟨Nat.le_of_ble_eq_true rfl, fun _ => rfl⟩, ⟨Nat.le_of_ble_eq_true rfl, fun _ => rfl⟩, ⟨Nat.le_of_ble_eq_true rfl, fun _ => rfl⟩, ⟨Nat.le_of_ble_eq_true rfl, fun _ => rfl⟩, ⟨Nat.le_of_ble_eq_true rfl, fun _ => rfl⟩, ⟨Nat.le_of_ble_eq_true rfl, fun _ => rfl⟩, ⟨Nat.le_of_ble_eq_true rfl, fun _ => rfl⟩, ⟨Nat.le_of_ble_eq_true rfl, fun _ => rfl⟩, ⟨Nat.le_of_ble_eq_true rfl, fun _ => rfl⟩, ⟨Nat.le_of_ble_eq_true rfl, fun _ => rfl⟩⟩
set_option maxHeartbeats 4000000 in
set_option maxRecDepth 20000 in
theorem i_Model {l : Launch} {w : zWd} {M : zMem} (hn : w.2.2.2.2 = 1) (hk : w.2.2.1 0 (M 0) = .inr (11, [.null, .int 0, .int 0, .int 0, .int 0, .int 0, .int 0, .int 0, .int 0, .null, .null, .null, .null, .int 0, .int 0, .int 0, .null, .null, .int 0, .int 0, .null, .null, .null, .null, .int 0, .null, .null, .null, .int 0, .int 0, .int 0, .int 0, .int 0, .int 0, .int 0, .null, .null, .null, .null, .int 0])) : zMc l ⟨"HandToHandModel", "<init>", "()V"⟩ prog_13_method_1_code 1 1 12 18 14071 w [.ref (w.2.2.2.1 + 0)] M (zwM w) (fun M1 => M1 = zW0) := by
  refine zMetC (by decide) rfl (Nat.le_of_ble_eq_true rfl) ?_
  intro p e s m below meth c X hKo hmi hr hlk hml hsz hG ls hl
  have hx := X.1
  have hb := X.2.1
  have hl : lv_has ls 1 [(0, .ref (w.2.2.2.1 + 0))] := hl
  have hG : zGo (zwn w (zsk (zshM w.2.1 w.2.2.2.1) 0 (.inr (11, [.null, .int 0, .int 0, .int 0, .int 0, .int 0, .int 0, .int 0, .int 0, .null, .null, .null, .null, .int 0, .int 0, .int 0, .null, .null, .int 0, .int 0, .null, .null, .null, .null, .int 0, .null, .null, .null, .int 0, .int 0, .int 0, .int 0, .int 0, .int 0, .int 0, .null, .null, .null, .null, .int 0]))) 1) s.heap zW0 s.heap [] := by
    rw [← hn]
    refine zGo_cast (w := w) (sh := w.2.2.1) (M := M) (fun c hc => ?_) hG
    have q : c = 0 := by omega
    subst q; rw [zsk_eq]; exact hk
  refine lv_aload_n hx hb dX11_init_0 rfl (lv_at hl 0 rfl) ?_
  refine zg_obj X hml hl zu_1019 zu_24 zu_25 ⟨Nat.le_of_ble_eq_true rfl, Nat.le_of_ble_eq_true rfl⟩ dX11_init_1 ?_
  refine lv_aload_n hx hb dX11_init_4 rfl (lv_at hl 0 rfl) ?_
  refine lv_sipush (v := 400) hx hb dX11_init_5 (by decide) ?_
  refine zg_newa (w := w) (N := 400) (t := 1) (atype := .int) (ty := .int) X hG (by omega) (by omega) zu_95 rfl rfl (fun _ => rfl) (fun _ => rfl) (by decide) (by decide) (Nat.le_of_ble_eq_true rfl) rfl (Nat.le_of_ble_eq_true rfl) (Nat.le_of_ble_eq_true rfl) dX11_init_8 (fun H hG => ?_)
  refine W.widen (k := 1) (n := 400) (Nat.le_of_ble_eq_true rfl) (Nat.le_of_ble_eq_true rfl) ?_
  refine zg_putF (w := w) (k := 0) (ci := 11) (C := "HandToHandModel") (T := TX11) (ty0 := tyX11) (ty := (.array .int)) (v := .ref (w.2.2.2.1 + 1)) X hmi hG (by omega) zsk_eq rfl zin_11 tyX11_ok nmX11 0 (by decide) rfl rfl zu_1020 rfl rfl rfl rfl rfl dX11_init_10 (fun H locs hG => ?_)
  replace hG := zsk_re (E'' := .inr (11, [.ref (w.2.2.2.1 + 1), .int 0, .int 0, .int 0, .int 0, .int 0, .int 0, .int 0, .int 0, .null, .null, .null, .null, .int 0, .int 0, .int 0, .null, .null, .int 0, .int 0, .null, .null, .null, .null, .int 0, .null, .null, .null, .int 0, .int 0, .int 0, .int 0, .int 0, .int 0, .int 0, .null, .null, .null, .null, .int 0])) rfl hG
  refine lv_aload_n hx hb dX11_init_13 rfl (lv_at hl 0 rfl) ?_
  refine lv_bipush (v := 11) hx hb dX11_init_14 (by decide) ?_
  replace hG := zsk_add (j := 2) (E := .inl (w.2.1 1, 11, .inl (zpre zL2 0))) (by omega) hG
  refine zg_newa (w := w) (N := 11) (t := 1) (atype := .int) (ty := .int) X hG (by omega) (by omega) zu_95 rfl rfl (fun _ => rfl) (fun _ => rfl) (by decide) (by decide) (Nat.le_of_ble_eq_true rfl) (by rw [zsk_eq, zpre_0]) (Nat.le_of_ble_eq_true rfl) (Nat.le_of_ble_eq_true rfl) dX11_init_16 (fun H hG => ?_)
  refine W.widen (k := 2) (n := 411) (Nat.le_of_ble_eq_true rfl) (Nat.le_of_ble_eq_true rfl) ?_
  refine lv_dup hx hb dX11_init_18 rfl ?_
  refine lv_iconst (v := 0) hx hb dX11_init_19 (by decide) ?_
  refine lv_iconst (v := 0) hx hb dX11_init_20 (by decide) ?_
  refine zg_ist (w := w) (k := 2) (N := 11) zL2 0 X hG (by decide) rfl rfl (vp_in_nI (n := 0) (by decide) (by decide)) dX11_init_21 (fun H locs hG => ?_)
  refine lv_dup hx hb dX11_init_22 rfl ?_
  refine lv_iconst (v := 1) hx hb dX11_init_23 (by decide) ?_
  refine lv_iconst (v := 5) hx hb dX11_init_24 (by decide) ?_
  refine zg_ist (w := w) (k := 2) (N := 11) zL2 1 X hG (by decide) rfl rfl (vp_in_nI (n := 1) (by decide) (by decide)) dX11_init_25 (fun H locs hG => ?_)
  refine lv_dup hx hb dX11_init_26 rfl ?_
  refine lv_iconst (v := 2) hx hb dX11_init_27 (by decide) ?_
  refine lv_bipush (v := 10) hx hb dX11_init_28 (by decide) ?_
  refine zg_ist (w := w) (k := 2) (N := 11) zL2 2 X hG (by decide) rfl rfl (vp_in_nI (n := 2) (by decide) (by decide)) dX11_init_30 (fun H locs hG => ?_)
  refine lv_dup hx hb dX11_init_31 rfl ?_
  refine lv_iconst (v := 3) hx hb dX11_init_32 (by decide) ?_
  refine lv_bipush (v := 14) hx hb dX11_init_33 (by decide) ?_
  refine zg_ist (w := w) (k := 2) (N := 11) zL2 3 X hG (by decide) rfl rfl (vp_in_nI (n := 3) (by decide) (by decide)) dX11_init_35 (fun H locs hG => ?_)
  refine lv_dup hx hb dX11_init_36 rfl ?_
  refine lv_iconst (v := 4) hx hb dX11_init_37 (by decide) ?_
  refine lv_bipush (v := 17) hx hb dX11_init_38 (by decide) ?_
  refine zg_ist (w := w) (k := 2) (N := 11) zL2 4 X hG (by decide) rfl rfl (vp_in_nI (n := 4) (by decide) (by decide)) dX11_init_40 (fun H locs hG => ?_)
  refine lv_dup hx hb dX11_init_41 rfl ?_
  refine lv_iconst (v := 5) hx hb dX11_init_42 (by decide) ?_
  refine lv_bipush (v := 21) hx hb dX11_init_43 (by decide) ?_
  refine zg_ist (w := w) (k := 2) (N := 11) zL2 5 X hG (by decide) rfl rfl (vp_in_nI (n := 5) (by decide) (by decide)) dX11_init_45 (fun H locs hG => ?_)
  refine lv_dup hx hb dX11_init_46 rfl ?_
  refine lv_bipush (v := 6) hx hb dX11_init_47 (by decide) ?_
  refine lv_bipush (v := 25) hx hb dX11_init_49 (by decide) ?_
  refine zg_ist (w := w) (k := 2) (N := 11) zL2 6 X hG (by decide) rfl rfl (vp_in_nI (n := 6) (by decide) (by decide)) dX11_init_51 (fun H locs hG => ?_)
  refine lv_dup hx hb dX11_init_52 rfl ?_
  refine lv_bipush (v := 7) hx hb dX11_init_53 (by decide) ?_
  refine lv_bipush (v := 30) hx hb dX11_init_55 (by decide) ?_
  refine zg_ist (w := w) (k := 2) (N := 11) zL2 7 X hG (by decide) rfl rfl (vp_in_nI (n := 7) (by decide) (by decide)) dX11_init_57 (fun H locs hG => ?_)
  refine lv_dup hx hb dX11_init_58 rfl ?_
  refine lv_bipush (v := 8) hx hb dX11_init_59 (by decide) ?_
  refine lv_bipush (v := 34) hx hb dX11_init_61 (by decide) ?_
  refine zg_ist (w := w) (k := 2) (N := 11) zL2 8 X hG (by decide) rfl rfl (vp_in_nI (n := 8) (by decide) (by decide)) dX11_init_63 (fun H locs hG => ?_)
  refine lv_dup hx hb dX11_init_64 rfl ?_
  refine lv_bipush (v := 9) hx hb dX11_init_65 (by decide) ?_
  refine lv_bipush (v := 38) hx hb dX11_init_67 (by decide) ?_
  refine zg_ist (w := w) (k := 2) (N := 11) zL2 9 X hG (by decide) rfl rfl (vp_in_nI (n := 9) (by decide) (by decide)) dX11_init_69 (fun H locs hG => ?_)
  refine lv_dup hx hb dX11_init_70 rfl ?_
  refine lv_bipush (v := 10) hx hb dX11_init_71 (by decide) ?_
  refine lv_bipush (v := 43) hx hb dX11_init_73 (by decide) ?_
  refine zg_ist (w := w) (k := 2) (N := 11) zL2 10 X hG (by decide) rfl rfl (vp_in_nI (n := 10) (by decide) (by decide)) dX11_init_75 (fun H locs hG => ?_)
  replace hG := zsk_pre (k := 2) (L := zL2) (M := zW0) rfl (fun j hj => rfl) hG
  refine zg_putF (w := w) (k := 0) (ci := 11) (C := "HandToHandModel") (T := TX11) (ty0 := tyX11) (ty := (.array .int)) (v := .ref (w.2.2.2.1 + 2)) X hmi hG (by omega) zsk_eq rfl zin_11 tyX11_ok nmX11 9 (by decide) rfl rfl zu_1029 rfl rfl rfl rfl rfl dX11_init_76 (fun H locs hG => ?_)
  replace hG := zsk_re (E'' := .inr (11, [.ref (w.2.2.2.1 + 1), .int 0, .int 0, .int 0, .int 0, .int 0, .int 0, .int 0, .int 0, .ref (w.2.2.2.1 + 2), .null, .null, .null, .int 0, .int 0, .int 0, .null, .null, .int 0, .int 0, .null, .null, .null, .null, .int 0, .null, .null, .null, .int 0, .int 0, .int 0, .int 0, .int 0, .int 0, .int 0, .null, .null, .null, .null, .int 0])) rfl hG
  refine lv_aload_n hx hb dX11_init_79 rfl (lv_at hl 0 rfl) ?_
  refine lv_bipush (v := 43) hx hb dX11_init_80 (by decide) ?_
  replace hG := zsk_add (j := 3) (E := .inl (w.2.1 1, 43, .inl (zpre zL3 0))) (by omega) hG
  refine zg_newa (w := w) (N := 43) (t := 1) (atype := .int) (ty := .int) X hG (by omega) (by omega) zu_95 rfl rfl (fun _ => rfl) (fun _ => rfl) (by decide) (by decide) (Nat.le_of_ble_eq_true rfl) (by rw [zsk_eq, zpre_0]) (Nat.le_of_ble_eq_true rfl) (Nat.le_of_ble_eq_true rfl) dX11_init_82 (fun H hG => ?_)
  refine W.widen (k := 3) (n := 454) (Nat.le_of_ble_eq_true rfl) (Nat.le_of_ble_eq_true rfl) ?_
  refine lv_dup hx hb dX11_init_84 rfl ?_
  refine lv_iconst (v := 0) hx hb dX11_init_85 (by decide) ?_
  refine lv_bipush (v := 112) hx hb dX11_init_86 (by decide) ?_
  refine zg_ist (w := w) (k := 3) (N := 43) zL3 0 X hG (by decide) rfl rfl (vp_in_nI (n := 0) (by decide) (by decide)) dX11_init_88 (fun H locs hG => ?_)
  refine lv_dup hx hb dX11_init_89 rfl ?_
  refine lv_iconst (v := 1) hx hb dX11_init_90 (by decide) ?_
  refine lv_bipush (v := 105) hx hb dX11_init_91 (by decide) ?_
  refine zg_ist (w := w) (k := 3) (N := 43) zL3 1 X hG (by decide) rfl rfl (vp_in_nI (n := 1) (by decide) (by decide)) dX11_init_93 (fun H locs hG => ?_)
  refine lv_dup hx hb dX11_init_94 rfl ?_
  refine lv_iconst (v := 2) hx hb dX11_init_95 (by decide) ?_
  refine lv_bipush (v := 101) hx hb dX11_init_96 (by decide) ?_
  refine zg_ist (w := w) (k := 3) (N := 43) zL3 2 X hG (by decide) rfl rfl (vp_in_nI (n := 2) (by decide) (by decide)) dX11_init_98 (fun H locs hG => ?_)
  refine lv_dup hx hb dX11_init_99 rfl ?_
  refine lv_iconst (v := 3) hx hb dX11_init_100 (by decide) ?_
  refine lv_bipush (v := 99) hx hb dX11_init_101 (by decide) ?_
  refine zg_ist (w := w) (k := 3) (N := 43) zL3 3 X hG (by decide) rfl rfl (vp_in_nI (n := 3) (by decide) (by decide)) dX11_init_103 (fun H locs hG => ?_)
  refine lv_dup hx hb dX11_init_104 rfl ?_
  refine lv_iconst (v := 4) hx hb dX11_init_105 (by decide) ?_
  refine lv_bipush (v := 101) hx hb dX11_init_106 (by decide) ?_
  refine zg_ist (w := w) (k := 3) (N := 43) zL3 4 X hG (by decide) rfl rfl (vp_in_nI (n := 4) (by decide) (by decide)) dX11_init_108 (fun H locs hG => ?_)
  refine lv_dup hx hb dX11_init_109 rfl ?_
  refine lv_iconst (v := 5) hx hb dX11_init_110 (by decide) ?_
  refine lv_bipush (v := 119) hx hb dX11_init_111 (by decide) ?_
  refine zg_ist (w := w) (k := 3) (N := 43) zL3 5 X hG (by decide) rfl rfl (vp_in_nI (n := 5) (by decide) (by decide)) dX11_init_113 (fun H locs hG => ?_)
  refine lv_dup hx hb dX11_init_114 rfl ?_
  refine lv_bipush (v := 6) hx hb dX11_init_115 (by decide) ?_
  refine lv_bipush (v := 104) hx hb dX11_init_117 (by decide) ?_
  refine zg_ist (w := w) (k := 3) (N := 43) zL3 6 X hG (by decide) rfl rfl (vp_in_nI (n := 6) (by decide) (by decide)) dX11_init_119 (fun H locs hG => ?_)
  refine lv_dup hx hb dX11_init_120 rfl ?_
  refine lv_bipush (v := 7) hx hb dX11_init_121 (by decide) ?_
  refine lv_bipush (v := 111) hx hb dX11_init_123 (by decide) ?_
  refine zg_ist (w := w) (k := 3) (N := 43) zL3 7 X hG (by decide) rfl rfl (vp_in_nI (n := 7) (by decide) (by decide)) dX11_init_125 (fun H locs hG => ?_)
  refine lv_dup hx hb dX11_init_126 rfl ?_
  refine lv_bipush (v := 8) hx hb dX11_init_127 (by decide) ?_
  refine lv_bipush (v := 108) hx hb dX11_init_129 (by decide) ?_
  refine zg_ist (w := w) (k := 3) (N := 43) zL3 8 X hG (by decide) rfl rfl (vp_in_nI (n := 8) (by decide) (by decide)) dX11_init_131 (fun H locs hG => ?_)
  refine lv_dup hx hb dX11_init_132 rfl ?_
  refine lv_bipush (v := 9) hx hb dX11_init_133 (by decide) ?_
  refine lv_bipush (v := 101) hx hb dX11_init_135 (by decide) ?_
  refine zg_ist (w := w) (k := 3) (N := 43) zL3 9 X hG (by decide) rfl rfl (vp_in_nI (n := 9) (by decide) (by decide)) dX11_init_137 (fun H locs hG => ?_)
  refine lv_dup hx hb dX11_init_138 rfl ?_
  refine lv_bipush (v := 10) hx hb dX11_init_139 (by decide) ?_
  refine lv_bipush (v := 115) hx hb dX11_init_141 (by decide) ?_
  refine zg_ist (w := w) (k := 3) (N := 43) zL3 10 X hG (by decide) rfl rfl (vp_in_nI (n := 10) (by decide) (by decide)) dX11_init_143 (fun H locs hG => ?_)
  refine lv_dup hx hb dX11_init_144 rfl ?_
  refine lv_bipush (v := 11) hx hb dX11_init_145 (by decide) ?_
  refine lv_bipush (v := 111) hx hb dX11_init_147 (by decide) ?_
  refine zg_ist (w := w) (k := 3) (N := 43) zL3 11 X hG (by decide) rfl rfl (vp_in_nI (n := 11) (by decide) (by decide)) dX11_init_149 (fun H locs hG => ?_)
  refine lv_dup hx hb dX11_init_150 rfl ?_
  refine lv_bipush (v := 12) hx hb dX11_init_151 (by decide) ?_
  refine lv_bipush (v := 114) hx hb dX11_init_153 (by decide) ?_
  refine zg_ist (w := w) (k := 3) (N := 43) zL3 12 X hG (by decide) rfl rfl (vp_in_nI (n := 12) (by decide) (by decide)) dX11_init_155 (fun H locs hG => ?_)
  refine lv_dup hx hb dX11_init_156 rfl ?_
  refine lv_bipush (v := 13) hx hb dX11_init_157 (by decide) ?_
  refine lv_bipush (v := 116) hx hb dX11_init_159 (by decide) ?_
  refine zg_ist (w := w) (k := 3) (N := 43) zL3 13 X hG (by decide) rfl rfl (vp_in_nI (n := 13) (by decide) (by decide)) dX11_init_161 (fun H locs hG => ?_)
  refine lv_dup hx hb dX11_init_162 rfl ?_
  refine lv_bipush (v := 14) hx hb dX11_init_163 (by decide) ?_
  refine lv_bipush (v := 114) hx hb dX11_init_165 (by decide) ?_
  refine zg_ist (w := w) (k := 3) (N := 43) zL3 14 X hG (by decide) rfl rfl (vp_in_nI (n := 14) (by decide) (by decide)) dX11_init_167 (fun H locs hG => ?_)
  refine lv_dup hx hb dX11_init_168 rfl ?_
  refine lv_bipush (v := 15) hx hb dX11_init_169 (by decide) ?_
  refine lv_bipush (v := 111) hx hb dX11_init_171 (by decide) ?_
  refine zg_ist (w := w) (k := 3) (N := 43) zL3 15 X hG (by decide) rfl rfl (vp_in_nI (n := 15) (by decide) (by decide)) dX11_init_173 (fun H locs hG => ?_)
  refine lv_dup hx hb dX11_init_174 rfl ?_
  refine lv_bipush (v := 16) hx hb dX11_init_175 (by decide) ?_
  refine lv_bipush (v := 119) hx hb dX11_init_177 (by decide) ?_
  refine zg_ist (w := w) (k := 3) (N := 43) zL3 16 X hG (by decide) rfl rfl (vp_in_nI (n := 16) (by decide) (by decide)) dX11_init_179 (fun H locs hG => ?_)
  refine lv_dup hx hb dX11_init_180 rfl ?_
  refine lv_bipush (v := 17) hx hb dX11_init_181 (by decide) ?_
  refine lv_bipush (v := 104) hx hb dX11_init_183 (by decide) ?_
  refine zg_ist (w := w) (k := 3) (N := 43) zL3 17 X hG (by decide) rfl rfl (vp_in_nI (n := 17) (by decide) (by decide)) dX11_init_185 (fun H locs hG => ?_)
  refine lv_dup hx hb dX11_init_186 rfl ?_
  refine lv_bipush (v := 18) hx hb dX11_init_187 (by decide) ?_
  refine lv_bipush (v := 97) hx hb dX11_init_189 (by decide) ?_
  refine zg_ist (w := w) (k := 3) (N := 43) zL3 18 X hG (by decide) rfl rfl (vp_in_nI (n := 18) (by decide) (by decide)) dX11_init_191 (fun H locs hG => ?_)
  refine lv_dup hx hb dX11_init_192 rfl ?_
  refine lv_bipush (v := 19) hx hb dX11_init_193 (by decide) ?_
  refine lv_bipush (v := 110) hx hb dX11_init_195 (by decide) ?_
  refine zg_ist (w := w) (k := 3) (N := 43) zL3 19 X hG (by decide) rfl rfl (vp_in_nI (n := 19) (by decide) (by decide)) dX11_init_197 (fun H locs hG => ?_)
  refine lv_dup hx hb dX11_init_198 rfl ?_
  refine lv_bipush (v := 20) hx hb dX11_init_199 (by decide) ?_
  refine lv_bipush (v := 100) hx hb dX11_init_201 (by decide) ?_
  refine zg_ist (w := w) (k := 3) (N := 43) zL3 20 X hG (by decide) rfl rfl (vp_in_nI (n := 20) (by decide) (by decide)) dX11_init_203 (fun H locs hG => ?_)
  refine lv_dup hx hb dX11_init_204 rfl ?_
  refine lv_bipush (v := 21) hx hb dX11_init_205 (by decide) ?_
  refine lv_bipush (v := 119) hx hb dX11_init_207 (by decide) ?_
  refine zg_ist (w := w) (k := 3) (N := 43) zL3 21 X hG (by decide) rfl rfl (vp_in_nI (n := 21) (by decide) (by decide)) dX11_init_209 (fun H locs hG => ?_)
  refine lv_dup hx hb dX11_init_210 rfl ?_
  refine lv_bipush (v := 22) hx hb dX11_init_211 (by decide) ?_
  refine lv_bipush (v := 97) hx hb dX11_init_213 (by decide) ?_
  refine zg_ist (w := w) (k := 3) (N := 43) zL3 22 X hG (by decide) rfl rfl (vp_in_nI (n := 22) (by decide) (by decide)) dX11_init_215 (fun H locs hG => ?_)
  refine lv_dup hx hb dX11_init_216 rfl ?_
  refine lv_bipush (v := 23) hx hb dX11_init_217 (by decide) ?_
  refine lv_bipush (v := 108) hx hb dX11_init_219 (by decide) ?_
  refine zg_ist (w := w) (k := 3) (N := 43) zL3 23 X hG (by decide) rfl rfl (vp_in_nI (n := 23) (by decide) (by decide)) dX11_init_221 (fun H locs hG => ?_)
  refine lv_dup hx hb dX11_init_222 rfl ?_
  refine lv_bipush (v := 24) hx hb dX11_init_223 (by decide) ?_
  refine lv_bipush (v := 107) hx hb dX11_init_225 (by decide) ?_
  refine zg_ist (w := w) (k := 3) (N := 43) zL3 24 X hG (by decide) rfl rfl (vp_in_nI (n := 24) (by decide) (by decide)) dX11_init_227 (fun H locs hG => ?_)
  refine lv_dup hx hb dX11_init_228 rfl ?_
  refine lv_bipush (v := 25) hx hb dX11_init_229 (by decide) ?_
  refine lv_bipush (v := 108) hx hb dX11_init_231 (by decide) ?_
  refine zg_ist (w := w) (k := 3) (N := 43) zL3 25 X hG (by decide) rfl rfl (vp_in_nI (n := 25) (by decide) (by decide)) dX11_init_233 (fun H locs hG => ?_)
  refine lv_dup hx hb dX11_init_234 rfl ?_
  refine lv_bipush (v := 26) hx hb dX11_init_235 (by decide) ?_
  refine lv_bipush (v := 101) hx hb dX11_init_237 (by decide) ?_
  refine zg_ist (w := w) (k := 3) (N := 43) zL3 26 X hG (by decide) rfl rfl (vp_in_nI (n := 26) (by decide) (by decide)) dX11_init_239 (fun H locs hG => ?_)
  refine lv_dup hx hb dX11_init_240 rfl ?_
  refine lv_bipush (v := 27) hx hb dX11_init_241 (by decide) ?_
  refine lv_bipush (v := 97) hx hb dX11_init_243 (by decide) ?_
  refine zg_ist (w := w) (k := 3) (N := 43) zL3 27 X hG (by decide) rfl rfl (vp_in_nI (n := 27) (by decide) (by decide)) dX11_init_245 (fun H locs hG => ?_)
  refine lv_dup hx hb dX11_init_246 rfl ?_
  refine lv_bipush (v := 28) hx hb dX11_init_247 (by decide) ?_
  refine lv_bipush (v := 114) hx hb dX11_init_249 (by decide) ?_
  refine zg_ist (w := w) (k := 3) (N := 43) zL3 28 X hG (by decide) rfl rfl (vp_in_nI (n := 28) (by decide) (by decide)) dX11_init_251 (fun H locs hG => ?_)
  refine lv_dup hx hb dX11_init_252 rfl ?_
  refine lv_bipush (v := 29) hx hb dX11_init_253 (by decide) ?_
  refine lv_bipush (v := 110) hx hb dX11_init_255 (by decide) ?_
  refine zg_ist (w := w) (k := 3) (N := 43) zL3 29 X hG (by decide) rfl rfl (vp_in_nI (n := 29) (by decide) (by decide)) dX11_init_257 (fun H locs hG => ?_)
  refine lv_dup hx hb dX11_init_258 rfl ?_
  refine lv_bipush (v := 30) hx hb dX11_init_259 (by decide) ?_
  refine lv_bipush (v := 98) hx hb dX11_init_261 (by decide) ?_
  refine zg_ist (w := w) (k := 3) (N := 43) zL3 30 X hG (by decide) rfl rfl (vp_in_nI (n := 30) (by decide) (by decide)) dX11_init_263 (fun H locs hG => ?_)
  refine lv_dup hx hb dX11_init_264 rfl ?_
  refine lv_bipush (v := 31) hx hb dX11_init_265 (by decide) ?_
  refine lv_bipush (v := 97) hx hb dX11_init_267 (by decide) ?_
  refine zg_ist (w := w) (k := 3) (N := 43) zL3 31 X hG (by decide) rfl rfl (vp_in_nI (n := 31) (by decide) (by decide)) dX11_init_269 (fun H locs hG => ?_)
  refine lv_dup hx hb dX11_init_270 rfl ?_
  refine lv_bipush (v := 32) hx hb dX11_init_271 (by decide) ?_
  refine lv_bipush (v := 99) hx hb dX11_init_273 (by decide) ?_
  refine zg_ist (w := w) (k := 3) (N := 43) zL3 32 X hG (by decide) rfl rfl (vp_in_nI (n := 32) (by decide) (by decide)) dX11_init_275 (fun H locs hG => ?_)
  refine lv_dup hx hb dX11_init_276 rfl ?_
  refine lv_bipush (v := 33) hx hb dX11_init_277 (by decide) ?_
  refine lv_bipush (v := 107) hx hb dX11_init_279 (by decide) ?_
  refine zg_ist (w := w) (k := 3) (N := 43) zL3 33 X hG (by decide) rfl rfl (vp_in_nI (n := 33) (by decide) (by decide)) dX11_init_281 (fun H locs hG => ?_)
  refine lv_dup hx hb dX11_init_282 rfl ?_
  refine lv_bipush (v := 34) hx hb dX11_init_283 (by decide) ?_
  refine lv_bipush (v := 122) hx hb dX11_init_285 (by decide) ?_
  refine zg_ist (w := w) (k := 3) (N := 43) zL3 34 X hG (by decide) rfl rfl (vp_in_nI (n := 34) (by decide) (by decide)) dX11_init_287 (fun H locs hG => ?_)
  refine lv_dup hx hb dX11_init_288 rfl ?_
  refine lv_bipush (v := 35) hx hb dX11_init_289 (by decide) ?_
  refine lv_bipush (v := 111) hx hb dX11_init_291 (by decide) ?_
  refine zg_ist (w := w) (k := 3) (N := 43) zL3 35 X hG (by decide) rfl rfl (vp_in_nI (n := 35) (by decide) (by decide)) dX11_init_293 (fun H locs hG => ?_)
  refine lv_dup hx hb dX11_init_294 rfl ?_
  refine lv_bipush (v := 36) hx hb dX11_init_295 (by decide) ?_
  refine lv_bipush (v := 110) hx hb dX11_init_297 (by decide) ?_
  refine zg_ist (w := w) (k := 3) (N := 43) zL3 36 X hG (by decide) rfl rfl (vp_in_nI (n := 36) (by decide) (by decide)) dX11_init_299 (fun H locs hG => ?_)
  refine lv_dup hx hb dX11_init_300 rfl ?_
  refine lv_bipush (v := 37) hx hb dX11_init_301 (by decide) ?_
  refine lv_bipush (v := 101) hx hb dX11_init_303 (by decide) ?_
  refine zg_ist (w := w) (k := 3) (N := 43) zL3 37 X hG (by decide) rfl rfl (vp_in_nI (n := 37) (by decide) (by decide)) dX11_init_305 (fun H locs hG => ?_)
  refine lv_dup hx hb dX11_init_306 rfl ?_
  refine lv_bipush (v := 38) hx hb dX11_init_307 (by decide) ?_
  refine lv_bipush (v := 102) hx hb dX11_init_309 (by decide) ?_
  refine zg_ist (w := w) (k := 3) (N := 43) zL3 38 X hG (by decide) rfl rfl (vp_in_nI (n := 38) (by decide) (by decide)) dX11_init_311 (fun H locs hG => ?_)
  refine lv_dup hx hb dX11_init_312 rfl ?_
  refine lv_bipush (v := 39) hx hb dX11_init_313 (by decide) ?_
  refine lv_bipush (v := 105) hx hb dX11_init_315 (by decide) ?_
  refine zg_ist (w := w) (k := 3) (N := 43) zL3 39 X hG (by decide) rfl rfl (vp_in_nI (n := 39) (by decide) (by decide)) dX11_init_317 (fun H locs hG => ?_)
  refine lv_dup hx hb dX11_init_318 rfl ?_
  refine lv_bipush (v := 40) hx hb dX11_init_319 (by decide) ?_
  refine lv_bipush (v := 120) hx hb dX11_init_321 (by decide) ?_
  refine zg_ist (w := w) (k := 3) (N := 43) zL3 40 X hG (by decide) rfl rfl (vp_in_nI (n := 40) (by decide) (by decide)) dX11_init_323 (fun H locs hG => ?_)
  refine lv_dup hx hb dX11_init_324 rfl ?_
  refine lv_bipush (v := 41) hx hb dX11_init_325 (by decide) ?_
  refine lv_bipush (v := 101) hx hb dX11_init_327 (by decide) ?_
  refine zg_ist (w := w) (k := 3) (N := 43) zL3 41 X hG (by decide) rfl rfl (vp_in_nI (n := 41) (by decide) (by decide)) dX11_init_329 (fun H locs hG => ?_)
  refine lv_dup hx hb dX11_init_330 rfl ?_
  refine lv_bipush (v := 42) hx hb dX11_init_331 (by decide) ?_
  refine lv_bipush (v := 100) hx hb dX11_init_333 (by decide) ?_
  refine zg_ist (w := w) (k := 3) (N := 43) zL3 42 X hG (by decide) rfl rfl (vp_in_nI (n := 42) (by decide) (by decide)) dX11_init_335 (fun H locs hG => ?_)
  replace hG := zsk_pre (k := 3) (L := zL3) (M := zW0) rfl (fun j hj => rfl) hG
  refine zg_putF (w := w) (k := 0) (ci := 11) (C := "HandToHandModel") (T := TX11) (ty0 := tyX11) (ty := (.array .int)) (v := .ref (w.2.2.2.1 + 3)) X hmi hG (by omega) zsk_eq rfl zin_11 tyX11_ok nmX11 10 (by decide) rfl rfl zu_1030 rfl rfl rfl rfl rfl dX11_init_336 (fun H locs hG => ?_)
  replace hG := zsk_re (E'' := .inr (11, [.ref (w.2.2.2.1 + 1), .int 0, .int 0, .int 0, .int 0, .int 0, .int 0, .int 0, .int 0, .ref (w.2.2.2.1 + 2), .ref (w.2.2.2.1 + 3), .null, .null, .int 0, .int 0, .int 0, .null, .null, .int 0, .int 0, .null, .null, .null, .null, .int 0, .null, .null, .null, .int 0, .int 0, .int 0, .int 0, .int 0, .int 0, .int 0, .null, .null, .null, .null, .int 0])) rfl hG
  refine lv_aload_n hx hb dX11_init_339 rfl (lv_at hl 0 rfl) ?_
  refine lv_bipush (v := 100) hx hb dX11_init_340 (by decide) ?_
  replace hG := zsk_add (j := 4) (E := .inl (w.2.1 1, 100, .inl (zpre zL4 0))) (by omega) hG
  refine zg_newa (w := w) (N := 100) (t := 1) (atype := .int) (ty := .int) X hG (by omega) (by omega) zu_95 rfl rfl (fun _ => rfl) (fun _ => rfl) (by decide) (by decide) (Nat.le_of_ble_eq_true rfl) (by rw [zsk_eq, zpre_0]) (Nat.le_of_ble_eq_true rfl) (Nat.le_of_ble_eq_true rfl) dX11_init_342 (fun H hG => ?_)
  refine W.widen (k := 4) (n := 554) (Nat.le_of_ble_eq_true rfl) (Nat.le_of_ble_eq_true rfl) ?_
  refine lv_dup hx hb dX11_init_344 rfl ?_
  refine lv_iconst (v := 0) hx hb dX11_init_345 (by decide) ?_
  refine lv_iconst (v := 3) hx hb dX11_init_346 (by decide) ?_
  refine zg_ist (w := w) (k := 4) (N := 100) zL4 0 X hG (by decide) rfl rfl (vp_in_nI (n := 0) (by decide) (by decide)) dX11_init_347 (fun H locs hG => ?_)
  refine lv_dup hx hb dX11_init_348 rfl ?_
  refine lv_iconst (v := 1) hx hb dX11_init_349 (by decide) ?_
  refine lv_iconst (v := 3) hx hb dX11_init_350 (by decide) ?_
  refine zg_ist (w := w) (k := 4) (N := 100) zL4 1 X hG (by decide) rfl rfl (vp_in_nI (n := 1) (by decide) (by decide)) dX11_init_351 (fun H locs hG => ?_)
  refine lv_dup hx hb dX11_init_352 rfl ?_
  refine lv_iconst (v := 2) hx hb dX11_init_353 (by decide) ?_
  refine lv_iconst (v := 0) hx hb dX11_init_354 (by decide) ?_
  refine zg_ist (w := w) (k := 4) (N := 100) zL4 2 X hG (by decide) rfl rfl (vp_in_nI (n := 2) (by decide) (by decide)) dX11_init_355 (fun H locs hG => ?_)
  refine lv_dup hx hb dX11_init_356 rfl ?_
  refine lv_iconst (v := 3) hx hb dX11_init_357 (by decide) ?_
  refine lv_iconst (v := 0) hx hb dX11_init_358 (by decide) ?_
  refine zg_ist (w := w) (k := 4) (N := 100) zL4 3 X hG (by decide) rfl rfl (vp_in_nI (n := 3) (by decide) (by decide)) dX11_init_359 (fun H locs hG => ?_)
  refine lv_dup hx hb dX11_init_360 rfl ?_
  refine lv_iconst (v := 4) hx hb dX11_init_361 (by decide) ?_
  refine lv_iconst (v := 0) hx hb dX11_init_362 (by decide) ?_
  refine zg_ist (w := w) (k := 4) (N := 100) zL4 4 X hG (by decide) rfl rfl (vp_in_nI (n := 4) (by decide) (by decide)) dX11_init_363 (fun H locs hG => ?_)
  refine lv_dup hx hb dX11_init_364 rfl ?_
  refine lv_iconst (v := 5) hx hb dX11_init_365 (by decide) ?_
  refine lv_iconst (v := 0) hx hb dX11_init_366 (by decide) ?_
  refine zg_ist (w := w) (k := 4) (N := 100) zL4 5 X hG (by decide) rfl rfl (vp_in_nI (n := 5) (by decide) (by decide)) dX11_init_367 (fun H locs hG => ?_)
  refine lv_dup hx hb dX11_init_368 rfl ?_
  refine lv_bipush (v := 6) hx hb dX11_init_369 (by decide) ?_
  refine lv_iconst (v := 1) hx hb dX11_init_371 (by decide) ?_
  refine zg_ist (w := w) (k := 4) (N := 100) zL4 6 X hG (by decide) rfl rfl (vp_in_nI (n := 6) (by decide) (by decide)) dX11_init_372 (fun H locs hG => ?_)
  refine lv_dup hx hb dX11_init_373 rfl ?_
  refine lv_bipush (v := 7) hx hb dX11_init_374 (by decide) ?_
  refine lv_iconst (v := 0) hx hb dX11_init_376 (by decide) ?_
  refine zg_ist (w := w) (k := 4) (N := 100) zL4 7 X hG (by decide) rfl rfl (vp_in_nI (n := 7) (by decide) (by decide)) dX11_init_377 (fun H locs hG => ?_)
  refine lv_dup hx hb dX11_init_378 rfl ?_
  refine lv_bipush (v := 8) hx hb dX11_init_379 (by decide) ?_
  refine lv_iconst (v := 0) hx hb dX11_init_381 (by decide) ?_
  refine zg_ist (w := w) (k := 4) (N := 100) zL4 8 X hG (by decide) rfl rfl (vp_in_nI (n := 8) (by decide) (by decide)) dX11_init_382 (fun H locs hG => ?_)
  refine lv_dup hx hb dX11_init_383 rfl ?_
  refine lv_bipush (v := 9) hx hb dX11_init_384 (by decide) ?_
  refine lv_iconst (v := 0) hx hb dX11_init_386 (by decide) ?_
  refine zg_ist (w := w) (k := 4) (N := 100) zL4 9 X hG (by decide) rfl rfl (vp_in_nI (n := 9) (by decide) (by decide)) dX11_init_387 (fun H locs hG => ?_)
  refine lv_dup hx hb dX11_init_388 rfl ?_
  refine lv_bipush (v := 10) hx hb dX11_init_389 (by decide) ?_
  refine lv_iconst (v := 0) hx hb dX11_init_391 (by decide) ?_
  refine zg_ist (w := w) (k := 4) (N := 100) zL4 10 X hG (by decide) rfl rfl (vp_in_nI (n := 10) (by decide) (by decide)) dX11_init_392 (fun H locs hG => ?_)
  refine lv_dup hx hb dX11_init_393 rfl ?_
  refine lv_bipush (v := 11) hx hb dX11_init_394 (by decide) ?_
  refine lv_iconst (v := 0) hx hb dX11_init_396 (by decide) ?_
  refine zg_ist (w := w) (k := 4) (N := 100) zL4 11 X hG (by decide) rfl rfl (vp_in_nI (n := 11) (by decide) (by decide)) dX11_init_397 (fun H locs hG => ?_)
  refine lv_dup hx hb dX11_init_398 rfl ?_
  refine lv_bipush (v := 12) hx hb dX11_init_399 (by decide) ?_
  refine lv_iconst (v := 0) hx hb dX11_init_401 (by decide) ?_
  refine zg_ist (w := w) (k := 4) (N := 100) zL4 12 X hG (by decide) rfl rfl (vp_in_nI (n := 12) (by decide) (by decide)) dX11_init_402 (fun H locs hG => ?_)
  refine lv_dup hx hb dX11_init_403 rfl ?_
  refine lv_bipush (v := 13) hx hb dX11_init_404 (by decide) ?_
  refine lv_iconst (v := 0) hx hb dX11_init_406 (by decide) ?_
  refine zg_ist (w := w) (k := 4) (N := 100) zL4 13 X hG (by decide) rfl rfl (vp_in_nI (n := 13) (by decide) (by decide)) dX11_init_407 (fun H locs hG => ?_)
  refine lv_dup hx hb dX11_init_408 rfl ?_
  refine lv_bipush (v := 14) hx hb dX11_init_409 (by decide) ?_
  refine lv_iconst (v := 0) hx hb dX11_init_411 (by decide) ?_
  refine zg_ist (w := w) (k := 4) (N := 100) zL4 14 X hG (by decide) rfl rfl (vp_in_nI (n := 14) (by decide) (by decide)) dX11_init_412 (fun H locs hG => ?_)
  refine lv_dup hx hb dX11_init_413 rfl ?_
  refine lv_bipush (v := 15) hx hb dX11_init_414 (by decide) ?_
  refine lv_iconst (v := 0) hx hb dX11_init_416 (by decide) ?_
  refine zg_ist (w := w) (k := 4) (N := 100) zL4 15 X hG (by decide) rfl rfl (vp_in_nI (n := 15) (by decide) (by decide)) dX11_init_417 (fun H locs hG => ?_)
  refine lv_dup hx hb dX11_init_418 rfl ?_
  refine lv_bipush (v := 16) hx hb dX11_init_419 (by decide) ?_
  refine lv_iconst (v := 0) hx hb dX11_init_421 (by decide) ?_
  refine zg_ist (w := w) (k := 4) (N := 100) zL4 16 X hG (by decide) rfl rfl (vp_in_nI (n := 16) (by decide) (by decide)) dX11_init_422 (fun H locs hG => ?_)
  refine lv_dup hx hb dX11_init_423 rfl ?_
  refine lv_bipush (v := 17) hx hb dX11_init_424 (by decide) ?_
  refine lv_iconst (v := 0) hx hb dX11_init_426 (by decide) ?_
  refine zg_ist (w := w) (k := 4) (N := 100) zL4 17 X hG (by decide) rfl rfl (vp_in_nI (n := 17) (by decide) (by decide)) dX11_init_427 (fun H locs hG => ?_)
  refine lv_dup hx hb dX11_init_428 rfl ?_
  refine lv_bipush (v := 18) hx hb dX11_init_429 (by decide) ?_
  refine lv_iconst (v := 0) hx hb dX11_init_431 (by decide) ?_
  refine zg_ist (w := w) (k := 4) (N := 100) zL4 18 X hG (by decide) rfl rfl (vp_in_nI (n := 18) (by decide) (by decide)) dX11_init_432 (fun H locs hG => ?_)
  refine lv_dup hx hb dX11_init_433 rfl ?_
  refine lv_bipush (v := 19) hx hb dX11_init_434 (by decide) ?_
  refine lv_iconst (v := 0) hx hb dX11_init_436 (by decide) ?_
  refine zg_ist (w := w) (k := 4) (N := 100) zL4 19 X hG (by decide) rfl rfl (vp_in_nI (n := 19) (by decide) (by decide)) dX11_init_437 (fun H locs hG => ?_)
  refine lv_dup hx hb dX11_init_438 rfl ?_
  refine lv_bipush (v := 20) hx hb dX11_init_439 (by decide) ?_
  refine lv_iconst (v := 0) hx hb dX11_init_441 (by decide) ?_
  refine zg_ist (w := w) (k := 4) (N := 100) zL4 20 X hG (by decide) rfl rfl (vp_in_nI (n := 20) (by decide) (by decide)) dX11_init_442 (fun H locs hG => ?_)
  refine lv_dup hx hb dX11_init_443 rfl ?_
  refine lv_bipush (v := 21) hx hb dX11_init_444 (by decide) ?_
  refine lv_iconst (v := 0) hx hb dX11_init_446 (by decide) ?_
  refine zg_ist (w := w) (k := 4) (N := 100) zL4 21 X hG (by decide) rfl rfl (vp_in_nI (n := 21) (by decide) (by decide)) dX11_init_447 (fun H locs hG => ?_)
  refine lv_dup hx hb dX11_init_448 rfl ?_
  refine lv_bipush (v := 22) hx hb dX11_init_449 (by decide) ?_
  refine lv_iconst (v := 0) hx hb dX11_init_451 (by decide) ?_
  refine zg_ist (w := w) (k := 4) (N := 100) zL4 22 X hG (by decide) rfl rfl (vp_in_nI (n := 22) (by decide) (by decide)) dX11_init_452 (fun H locs hG => ?_)
  refine lv_dup hx hb dX11_init_453 rfl ?_
  refine lv_bipush (v := 23) hx hb dX11_init_454 (by decide) ?_
  refine lv_iconst (v := 0) hx hb dX11_init_456 (by decide) ?_
  refine zg_ist (w := w) (k := 4) (N := 100) zL4 23 X hG (by decide) rfl rfl (vp_in_nI (n := 23) (by decide) (by decide)) dX11_init_457 (fun H locs hG => ?_)
  refine lv_dup hx hb dX11_init_458 rfl ?_
  refine lv_bipush (v := 24) hx hb dX11_init_459 (by decide) ?_
  refine lv_iconst (v := 0) hx hb dX11_init_461 (by decide) ?_
  refine zg_ist (w := w) (k := 4) (N := 100) zL4 24 X hG (by decide) rfl rfl (vp_in_nI (n := 24) (by decide) (by decide)) dX11_init_462 (fun H locs hG => ?_)
  refine lv_dup hx hb dX11_init_463 rfl ?_
  refine lv_bipush (v := 25) hx hb dX11_init_464 (by decide) ?_
  refine lv_iconst (v := 0) hx hb dX11_init_466 (by decide) ?_
  refine zg_ist (w := w) (k := 4) (N := 100) zL4 25 X hG (by decide) rfl rfl (vp_in_nI (n := 25) (by decide) (by decide)) dX11_init_467 (fun H locs hG => ?_)
  refine lv_dup hx hb dX11_init_468 rfl ?_
  refine lv_bipush (v := 26) hx hb dX11_init_469 (by decide) ?_
  refine lv_iconst (v := 0) hx hb dX11_init_471 (by decide) ?_
  refine zg_ist (w := w) (k := 4) (N := 100) zL4 26 X hG (by decide) rfl rfl (vp_in_nI (n := 26) (by decide) (by decide)) dX11_init_472 (fun H locs hG => ?_)
  refine lv_dup hx hb dX11_init_473 rfl ?_
  refine lv_bipush (v := 27) hx hb dX11_init_474 (by decide) ?_
  refine lv_iconst (v := 0) hx hb dX11_init_476 (by decide) ?_
  refine zg_ist (w := w) (k := 4) (N := 100) zL4 27 X hG (by decide) rfl rfl (vp_in_nI (n := 27) (by decide) (by decide)) dX11_init_477 (fun H locs hG => ?_)
  refine lv_dup hx hb dX11_init_478 rfl ?_
  refine lv_bipush (v := 28) hx hb dX11_init_479 (by decide) ?_
  refine lv_iconst (v := 0) hx hb dX11_init_481 (by decide) ?_
  refine zg_ist (w := w) (k := 4) (N := 100) zL4 28 X hG (by decide) rfl rfl (vp_in_nI (n := 28) (by decide) (by decide)) dX11_init_482 (fun H locs hG => ?_)
  refine lv_dup hx hb dX11_init_483 rfl ?_
  refine lv_bipush (v := 29) hx hb dX11_init_484 (by decide) ?_
  refine lv_iconst (v := 0) hx hb dX11_init_486 (by decide) ?_
  refine zg_ist (w := w) (k := 4) (N := 100) zL4 29 X hG (by decide) rfl rfl (vp_in_nI (n := 29) (by decide) (by decide)) dX11_init_487 (fun H locs hG => ?_)
  refine lv_dup hx hb dX11_init_488 rfl ?_
  refine lv_bipush (v := 30) hx hb dX11_init_489 (by decide) ?_
  refine lv_iconst (v := 2) hx hb dX11_init_491 (by decide) ?_
  refine zg_ist (w := w) (k := 4) (N := 100) zL4 30 X hG (by decide) rfl rfl (vp_in_nI (n := 30) (by decide) (by decide)) dX11_init_492 (fun H locs hG => ?_)
  refine lv_dup hx hb dX11_init_493 rfl ?_
  refine lv_bipush (v := 31) hx hb dX11_init_494 (by decide) ?_
  refine lv_iconst (v := 2) hx hb dX11_init_496 (by decide) ?_
  refine zg_ist (w := w) (k := 4) (N := 100) zL4 31 X hG (by decide) rfl rfl (vp_in_nI (n := 31) (by decide) (by decide)) dX11_init_497 (fun H locs hG => ?_)
  refine lv_dup hx hb dX11_init_498 rfl ?_
  refine lv_bipush (v := 32) hx hb dX11_init_499 (by decide) ?_
  refine lv_iconst (v := 2) hx hb dX11_init_501 (by decide) ?_
  refine zg_ist (w := w) (k := 4) (N := 100) zL4 32 X hG (by decide) rfl rfl (vp_in_nI (n := 32) (by decide) (by decide)) dX11_init_502 (fun H locs hG => ?_)
  refine lv_dup hx hb dX11_init_503 rfl ?_
  refine lv_bipush (v := 33) hx hb dX11_init_504 (by decide) ?_
  refine lv_iconst (v := 0) hx hb dX11_init_506 (by decide) ?_
  refine zg_ist (w := w) (k := 4) (N := 100) zL4 33 X hG (by decide) rfl rfl (vp_in_nI (n := 33) (by decide) (by decide)) dX11_init_507 (fun H locs hG => ?_)
  refine lv_dup hx hb dX11_init_508 rfl ?_
  refine lv_bipush (v := 34) hx hb dX11_init_509 (by decide) ?_
  refine lv_iconst (v := 0) hx hb dX11_init_511 (by decide) ?_
  refine zg_ist (w := w) (k := 4) (N := 100) zL4 34 X hG (by decide) rfl rfl (vp_in_nI (n := 34) (by decide) (by decide)) dX11_init_512 (fun H locs hG => ?_)
  refine lv_dup hx hb dX11_init_513 rfl ?_
  refine lv_bipush (v := 35) hx hb dX11_init_514 (by decide) ?_
  refine lv_iconst (v := 0) hx hb dX11_init_516 (by decide) ?_
  refine zg_ist (w := w) (k := 4) (N := 100) zL4 35 X hG (by decide) rfl rfl (vp_in_nI (n := 35) (by decide) (by decide)) dX11_init_517 (fun H locs hG => ?_)
  refine lv_dup hx hb dX11_init_518 rfl ?_
  refine lv_bipush (v := 36) hx hb dX11_init_519 (by decide) ?_
  refine lv_iconst (v := 0) hx hb dX11_init_521 (by decide) ?_
  refine zg_ist (w := w) (k := 4) (N := 100) zL4 36 X hG (by decide) rfl rfl (vp_in_nI (n := 36) (by decide) (by decide)) dX11_init_522 (fun H locs hG => ?_)
  refine lv_dup hx hb dX11_init_523 rfl ?_
  refine lv_bipush (v := 37) hx hb dX11_init_524 (by decide) ?_
  refine lv_iconst (v := 0) hx hb dX11_init_526 (by decide) ?_
  refine zg_ist (w := w) (k := 4) (N := 100) zL4 37 X hG (by decide) rfl rfl (vp_in_nI (n := 37) (by decide) (by decide)) dX11_init_527 (fun H locs hG => ?_)
  refine lv_dup hx hb dX11_init_528 rfl ?_
  refine lv_bipush (v := 38) hx hb dX11_init_529 (by decide) ?_
  refine lv_iconst (v := 2) hx hb dX11_init_531 (by decide) ?_
  refine zg_ist (w := w) (k := 4) (N := 100) zL4 38 X hG (by decide) rfl rfl (vp_in_nI (n := 38) (by decide) (by decide)) dX11_init_532 (fun H locs hG => ?_)
  refine lv_dup hx hb dX11_init_533 rfl ?_
  refine lv_bipush (v := 39) hx hb dX11_init_534 (by decide) ?_
  refine lv_iconst (v := 2) hx hb dX11_init_536 (by decide) ?_
  refine zg_ist (w := w) (k := 4) (N := 100) zL4 39 X hG (by decide) rfl rfl (vp_in_nI (n := 39) (by decide) (by decide)) dX11_init_537 (fun H locs hG => ?_)
  refine lv_dup hx hb dX11_init_538 rfl ?_
  refine lv_bipush (v := 40) hx hb dX11_init_539 (by decide) ?_
  refine lv_iconst (v := 2) hx hb dX11_init_541 (by decide) ?_
  refine zg_ist (w := w) (k := 4) (N := 100) zL4 40 X hG (by decide) rfl rfl (vp_in_nI (n := 40) (by decide) (by decide)) dX11_init_542 (fun H locs hG => ?_)
  refine lv_dup hx hb dX11_init_543 rfl ?_
  refine lv_bipush (v := 41) hx hb dX11_init_544 (by decide) ?_
  refine lv_iconst (v := 0) hx hb dX11_init_546 (by decide) ?_
  refine zg_ist (w := w) (k := 4) (N := 100) zL4 41 X hG (by decide) rfl rfl (vp_in_nI (n := 41) (by decide) (by decide)) dX11_init_547 (fun H locs hG => ?_)
  refine lv_dup hx hb dX11_init_548 rfl ?_
  refine lv_bipush (v := 42) hx hb dX11_init_549 (by decide) ?_
  refine lv_iconst (v := 0) hx hb dX11_init_551 (by decide) ?_
  refine zg_ist (w := w) (k := 4) (N := 100) zL4 42 X hG (by decide) rfl rfl (vp_in_nI (n := 42) (by decide) (by decide)) dX11_init_552 (fun H locs hG => ?_)
  refine lv_dup hx hb dX11_init_553 rfl ?_
  refine lv_bipush (v := 43) hx hb dX11_init_554 (by decide) ?_
  refine lv_iconst (v := 0) hx hb dX11_init_556 (by decide) ?_
  refine zg_ist (w := w) (k := 4) (N := 100) zL4 43 X hG (by decide) rfl rfl (vp_in_nI (n := 43) (by decide) (by decide)) dX11_init_557 (fun H locs hG => ?_)
  refine lv_dup hx hb dX11_init_558 rfl ?_
  refine lv_bipush (v := 44) hx hb dX11_init_559 (by decide) ?_
  refine lv_iconst (v := 0) hx hb dX11_init_561 (by decide) ?_
  refine zg_ist (w := w) (k := 4) (N := 100) zL4 44 X hG (by decide) rfl rfl (vp_in_nI (n := 44) (by decide) (by decide)) dX11_init_562 (fun H locs hG => ?_)
  refine lv_dup hx hb dX11_init_563 rfl ?_
  refine lv_bipush (v := 45) hx hb dX11_init_564 (by decide) ?_
  refine lv_iconst (v := 0) hx hb dX11_init_566 (by decide) ?_
  refine zg_ist (w := w) (k := 4) (N := 100) zL4 45 X hG (by decide) rfl rfl (vp_in_nI (n := 45) (by decide) (by decide)) dX11_init_567 (fun H locs hG => ?_)
  refine lv_dup hx hb dX11_init_568 rfl ?_
  refine lv_bipush (v := 46) hx hb dX11_init_569 (by decide) ?_
  refine lv_iconst (v := 2) hx hb dX11_init_571 (by decide) ?_
  refine zg_ist (w := w) (k := 4) (N := 100) zL4 46 X hG (by decide) rfl rfl (vp_in_nI (n := 46) (by decide) (by decide)) dX11_init_572 (fun H locs hG => ?_)
  refine lv_dup hx hb dX11_init_573 rfl ?_
  refine lv_bipush (v := 47) hx hb dX11_init_574 (by decide) ?_
  refine lv_iconst (v := 2) hx hb dX11_init_576 (by decide) ?_
  refine zg_ist (w := w) (k := 4) (N := 100) zL4 47 X hG (by decide) rfl rfl (vp_in_nI (n := 47) (by decide) (by decide)) dX11_init_577 (fun H locs hG => ?_)
  refine lv_dup hx hb dX11_init_578 rfl ?_
  refine lv_bipush (v := 48) hx hb dX11_init_579 (by decide) ?_
  refine lv_iconst (v := 2) hx hb dX11_init_581 (by decide) ?_
  refine zg_ist (w := w) (k := 4) (N := 100) zL4 48 X hG (by decide) rfl rfl (vp_in_nI (n := 48) (by decide) (by decide)) dX11_init_582 (fun H locs hG => ?_)
  refine lv_dup hx hb dX11_init_583 rfl ?_
  refine lv_bipush (v := 49) hx hb dX11_init_584 (by decide) ?_
  refine lv_iconst (v := 0) hx hb dX11_init_586 (by decide) ?_
  refine zg_ist (w := w) (k := 4) (N := 100) zL4 49 X hG (by decide) rfl rfl (vp_in_nI (n := 49) (by decide) (by decide)) dX11_init_587 (fun H locs hG => ?_)
  refine lv_dup hx hb dX11_init_588 rfl ?_
  refine lv_bipush (v := 50) hx hb dX11_init_589 (by decide) ?_
  refine lv_iconst (v := 0) hx hb dX11_init_591 (by decide) ?_
  refine zg_ist (w := w) (k := 4) (N := 100) zL4 50 X hG (by decide) rfl rfl (vp_in_nI (n := 50) (by decide) (by decide)) dX11_init_592 (fun H locs hG => ?_)
  refine lv_dup hx hb dX11_init_593 rfl ?_
  refine lv_bipush (v := 51) hx hb dX11_init_594 (by decide) ?_
  refine lv_iconst (v := 0) hx hb dX11_init_596 (by decide) ?_
  refine zg_ist (w := w) (k := 4) (N := 100) zL4 51 X hG (by decide) rfl rfl (vp_in_nI (n := 51) (by decide) (by decide)) dX11_init_597 (fun H locs hG => ?_)
  refine lv_dup hx hb dX11_init_598 rfl ?_
  refine lv_bipush (v := 52) hx hb dX11_init_599 (by decide) ?_
  refine lv_iconst (v := 0) hx hb dX11_init_601 (by decide) ?_
  refine zg_ist (w := w) (k := 4) (N := 100) zL4 52 X hG (by decide) rfl rfl (vp_in_nI (n := 52) (by decide) (by decide)) dX11_init_602 (fun H locs hG => ?_)
  refine lv_dup hx hb dX11_init_603 rfl ?_
  refine lv_bipush (v := 53) hx hb dX11_init_604 (by decide) ?_
  refine lv_iconst (v := 0) hx hb dX11_init_606 (by decide) ?_
  refine zg_ist (w := w) (k := 4) (N := 100) zL4 53 X hG (by decide) rfl rfl (vp_in_nI (n := 53) (by decide) (by decide)) dX11_init_607 (fun H locs hG => ?_)
  refine lv_dup hx hb dX11_init_608 rfl ?_
  refine lv_bipush (v := 54) hx hb dX11_init_609 (by decide) ?_
  refine lv_iconst (v := 0) hx hb dX11_init_611 (by decide) ?_
  refine zg_ist (w := w) (k := 4) (N := 100) zL4 54 X hG (by decide) rfl rfl (vp_in_nI (n := 54) (by decide) (by decide)) dX11_init_612 (fun H locs hG => ?_)
  refine lv_dup hx hb dX11_init_613 rfl ?_
  refine lv_bipush (v := 55) hx hb dX11_init_614 (by decide) ?_
  refine lv_iconst (v := 0) hx hb dX11_init_616 (by decide) ?_
  refine zg_ist (w := w) (k := 4) (N := 100) zL4 55 X hG (by decide) rfl rfl (vp_in_nI (n := 55) (by decide) (by decide)) dX11_init_617 (fun H locs hG => ?_)
  refine lv_dup hx hb dX11_init_618 rfl ?_
  refine lv_bipush (v := 56) hx hb dX11_init_619 (by decide) ?_
  refine lv_iconst (v := 0) hx hb dX11_init_621 (by decide) ?_
  refine zg_ist (w := w) (k := 4) (N := 100) zL4 56 X hG (by decide) rfl rfl (vp_in_nI (n := 56) (by decide) (by decide)) dX11_init_622 (fun H locs hG => ?_)
  refine lv_dup hx hb dX11_init_623 rfl ?_
  refine lv_bipush (v := 57) hx hb dX11_init_624 (by decide) ?_
  refine lv_iconst (v := 0) hx hb dX11_init_626 (by decide) ?_
  refine zg_ist (w := w) (k := 4) (N := 100) zL4 57 X hG (by decide) rfl rfl (vp_in_nI (n := 57) (by decide) (by decide)) dX11_init_627 (fun H locs hG => ?_)
  refine lv_dup hx hb dX11_init_628 rfl ?_
  refine lv_bipush (v := 58) hx hb dX11_init_629 (by decide) ?_
  refine lv_iconst (v := 0) hx hb dX11_init_631 (by decide) ?_
  refine zg_ist (w := w) (k := 4) (N := 100) zL4 58 X hG (by decide) rfl rfl (vp_in_nI (n := 58) (by decide) (by decide)) dX11_init_632 (fun H locs hG => ?_)
  refine lv_dup hx hb dX11_init_633 rfl ?_
  refine lv_bipush (v := 59) hx hb dX11_init_634 (by decide) ?_
  refine lv_iconst (v := 0) hx hb dX11_init_636 (by decide) ?_
  refine zg_ist (w := w) (k := 4) (N := 100) zL4 59 X hG (by decide) rfl rfl (vp_in_nI (n := 59) (by decide) (by decide)) dX11_init_637 (fun H locs hG => ?_)
  refine lv_dup hx hb dX11_init_638 rfl ?_
  refine lv_bipush (v := 60) hx hb dX11_init_639 (by decide) ?_
  refine lv_iconst (v := 3) hx hb dX11_init_641 (by decide) ?_
  refine zg_ist (w := w) (k := 4) (N := 100) zL4 60 X hG (by decide) rfl rfl (vp_in_nI (n := 60) (by decide) (by decide)) dX11_init_642 (fun H locs hG => ?_)
  refine lv_dup hx hb dX11_init_643 rfl ?_
  refine lv_bipush (v := 61) hx hb dX11_init_644 (by decide) ?_
  refine lv_iconst (v := 3) hx hb dX11_init_646 (by decide) ?_
  refine zg_ist (w := w) (k := 4) (N := 100) zL4 61 X hG (by decide) rfl rfl (vp_in_nI (n := 61) (by decide) (by decide)) dX11_init_647 (fun H locs hG => ?_)
  refine lv_dup hx hb dX11_init_648 rfl ?_
  refine lv_bipush (v := 62) hx hb dX11_init_649 (by decide) ?_
  refine lv_iconst (v := 3) hx hb dX11_init_651 (by decide) ?_
  refine zg_ist (w := w) (k := 4) (N := 100) zL4 62 X hG (by decide) rfl rfl (vp_in_nI (n := 62) (by decide) (by decide)) dX11_init_652 (fun H locs hG => ?_)
  refine lv_dup hx hb dX11_init_653 rfl ?_
  refine lv_bipush (v := 63) hx hb dX11_init_654 (by decide) ?_
  refine lv_iconst (v := 0) hx hb dX11_init_656 (by decide) ?_
  refine zg_ist (w := w) (k := 4) (N := 100) zL4 63 X hG (by decide) rfl rfl (vp_in_nI (n := 63) (by decide) (by decide)) dX11_init_657 (fun H locs hG => ?_)
  refine lv_dup hx hb dX11_init_658 rfl ?_
  refine lv_bipush (v := 64) hx hb dX11_init_659 (by decide) ?_
  refine lv_iconst (v := 0) hx hb dX11_init_661 (by decide) ?_
  refine zg_ist (w := w) (k := 4) (N := 100) zL4 64 X hG (by decide) rfl rfl (vp_in_nI (n := 64) (by decide) (by decide)) dX11_init_662 (fun H locs hG => ?_)
  refine lv_dup hx hb dX11_init_663 rfl ?_
  refine lv_bipush (v := 65) hx hb dX11_init_664 (by decide) ?_
  refine lv_iconst (v := 0) hx hb dX11_init_666 (by decide) ?_
  refine zg_ist (w := w) (k := 4) (N := 100) zL4 65 X hG (by decide) rfl rfl (vp_in_nI (n := 65) (by decide) (by decide)) dX11_init_667 (fun H locs hG => ?_)
  refine lv_dup hx hb dX11_init_668 rfl ?_
  refine lv_bipush (v := 66) hx hb dX11_init_669 (by decide) ?_
  refine lv_iconst (v := 0) hx hb dX11_init_671 (by decide) ?_
  refine zg_ist (w := w) (k := 4) (N := 100) zL4 66 X hG (by decide) rfl rfl (vp_in_nI (n := 66) (by decide) (by decide)) dX11_init_672 (fun H locs hG => ?_)
  refine lv_dup hx hb dX11_init_673 rfl ?_
  refine lv_bipush (v := 67) hx hb dX11_init_674 (by decide) ?_
  refine lv_iconst (v := 0) hx hb dX11_init_676 (by decide) ?_
  refine zg_ist (w := w) (k := 4) (N := 100) zL4 67 X hG (by decide) rfl rfl (vp_in_nI (n := 67) (by decide) (by decide)) dX11_init_677 (fun H locs hG => ?_)
  refine lv_dup hx hb dX11_init_678 rfl ?_
  refine lv_bipush (v := 68) hx hb dX11_init_679 (by decide) ?_
  refine lv_iconst (v := 2) hx hb dX11_init_681 (by decide) ?_
  refine zg_ist (w := w) (k := 4) (N := 100) zL4 68 X hG (by decide) rfl rfl (vp_in_nI (n := 68) (by decide) (by decide)) dX11_init_682 (fun H locs hG => ?_)
  refine lv_dup hx hb dX11_init_683 rfl ?_
  refine lv_bipush (v := 69) hx hb dX11_init_684 (by decide) ?_
  refine lv_iconst (v := 2) hx hb dX11_init_686 (by decide) ?_
  refine zg_ist (w := w) (k := 4) (N := 100) zL4 69 X hG (by decide) rfl rfl (vp_in_nI (n := 69) (by decide) (by decide)) dX11_init_687 (fun H locs hG => ?_)
  refine lv_dup hx hb dX11_init_688 rfl ?_
  refine lv_bipush (v := 70) hx hb dX11_init_689 (by decide) ?_
  refine lv_iconst (v := 2) hx hb dX11_init_691 (by decide) ?_
  refine zg_ist (w := w) (k := 4) (N := 100) zL4 70 X hG (by decide) rfl rfl (vp_in_nI (n := 70) (by decide) (by decide)) dX11_init_692 (fun H locs hG => ?_)
  refine lv_dup hx hb dX11_init_693 rfl ?_
  refine lv_bipush (v := 71) hx hb dX11_init_694 (by decide) ?_
  refine lv_iconst (v := 0) hx hb dX11_init_696 (by decide) ?_
  refine zg_ist (w := w) (k := 4) (N := 100) zL4 71 X hG (by decide) rfl rfl (vp_in_nI (n := 71) (by decide) (by decide)) dX11_init_697 (fun H locs hG => ?_)
  refine lv_dup hx hb dX11_init_698 rfl ?_
  refine lv_bipush (v := 72) hx hb dX11_init_699 (by decide) ?_
  refine lv_iconst (v := 0) hx hb dX11_init_701 (by decide) ?_
  refine zg_ist (w := w) (k := 4) (N := 100) zL4 72 X hG (by decide) rfl rfl (vp_in_nI (n := 72) (by decide) (by decide)) dX11_init_702 (fun H locs hG => ?_)
  refine lv_dup hx hb dX11_init_703 rfl ?_
  refine lv_bipush (v := 73) hx hb dX11_init_704 (by decide) ?_
  refine lv_iconst (v := 0) hx hb dX11_init_706 (by decide) ?_
  refine zg_ist (w := w) (k := 4) (N := 100) zL4 73 X hG (by decide) rfl rfl (vp_in_nI (n := 73) (by decide) (by decide)) dX11_init_707 (fun H locs hG => ?_)
  refine lv_dup hx hb dX11_init_708 rfl ?_
  refine lv_bipush (v := 74) hx hb dX11_init_709 (by decide) ?_
  refine lv_iconst (v := 0) hx hb dX11_init_711 (by decide) ?_
  refine zg_ist (w := w) (k := 4) (N := 100) zL4 74 X hG (by decide) rfl rfl (vp_in_nI (n := 74) (by decide) (by decide)) dX11_init_712 (fun H locs hG => ?_)
  refine lv_dup hx hb dX11_init_713 rfl ?_
  refine lv_bipush (v := 75) hx hb dX11_init_714 (by decide) ?_
  refine lv_iconst (v := 0) hx hb dX11_init_716 (by decide) ?_
  refine zg_ist (w := w) (k := 4) (N := 100) zL4 75 X hG (by decide) rfl rfl (vp_in_nI (n := 75) (by decide) (by decide)) dX11_init_717 (fun H locs hG => ?_)
  refine lv_dup hx hb dX11_init_718 rfl ?_
  refine lv_bipush (v := 76) hx hb dX11_init_719 (by decide) ?_
  refine lv_iconst (v := 1) hx hb dX11_init_721 (by decide) ?_
  refine zg_ist (w := w) (k := 4) (N := 100) zL4 76 X hG (by decide) rfl rfl (vp_in_nI (n := 76) (by decide) (by decide)) dX11_init_722 (fun H locs hG => ?_)
  refine lv_dup hx hb dX11_init_723 rfl ?_
  refine lv_bipush (v := 77) hx hb dX11_init_724 (by decide) ?_
  refine lv_iconst (v := 1) hx hb dX11_init_726 (by decide) ?_
  refine zg_ist (w := w) (k := 4) (N := 100) zL4 77 X hG (by decide) rfl rfl (vp_in_nI (n := 77) (by decide) (by decide)) dX11_init_727 (fun H locs hG => ?_)
  refine lv_dup hx hb dX11_init_728 rfl ?_
  refine lv_bipush (v := 78) hx hb dX11_init_729 (by decide) ?_
  refine lv_iconst (v := 1) hx hb dX11_init_731 (by decide) ?_
  refine zg_ist (w := w) (k := 4) (N := 100) zL4 78 X hG (by decide) rfl rfl (vp_in_nI (n := 78) (by decide) (by decide)) dX11_init_732 (fun H locs hG => ?_)
  refine lv_dup hx hb dX11_init_733 rfl ?_
  refine lv_bipush (v := 79) hx hb dX11_init_734 (by decide) ?_
  refine lv_iconst (v := 0) hx hb dX11_init_736 (by decide) ?_
  refine zg_ist (w := w) (k := 4) (N := 100) zL4 79 X hG (by decide) rfl rfl (vp_in_nI (n := 79) (by decide) (by decide)) dX11_init_737 (fun H locs hG => ?_)
  refine lv_dup hx hb dX11_init_738 rfl ?_
  refine lv_bipush (v := 80) hx hb dX11_init_739 (by decide) ?_
  refine lv_iconst (v := 0) hx hb dX11_init_741 (by decide) ?_
  refine zg_ist (w := w) (k := 4) (N := 100) zL4 80 X hG (by decide) rfl rfl (vp_in_nI (n := 80) (by decide) (by decide)) dX11_init_742 (fun H locs hG => ?_)
  refine lv_dup hx hb dX11_init_743 rfl ?_
  refine lv_bipush (v := 81) hx hb dX11_init_744 (by decide) ?_
  refine lv_iconst (v := 0) hx hb dX11_init_746 (by decide) ?_
  refine zg_ist (w := w) (k := 4) (N := 100) zL4 81 X hG (by decide) rfl rfl (vp_in_nI (n := 81) (by decide) (by decide)) dX11_init_747 (fun H locs hG => ?_)
  refine lv_dup hx hb dX11_init_748 rfl ?_
  refine lv_bipush (v := 82) hx hb dX11_init_749 (by decide) ?_
  refine lv_iconst (v := 0) hx hb dX11_init_751 (by decide) ?_
  refine zg_ist (w := w) (k := 4) (N := 100) zL4 82 X hG (by decide) rfl rfl (vp_in_nI (n := 82) (by decide) (by decide)) dX11_init_752 (fun H locs hG => ?_)
  refine lv_dup hx hb dX11_init_753 rfl ?_
  refine lv_bipush (v := 83) hx hb dX11_init_754 (by decide) ?_
  refine lv_iconst (v := 0) hx hb dX11_init_756 (by decide) ?_
  refine zg_ist (w := w) (k := 4) (N := 100) zL4 83 X hG (by decide) rfl rfl (vp_in_nI (n := 83) (by decide) (by decide)) dX11_init_757 (fun H locs hG => ?_)
  refine lv_dup hx hb dX11_init_758 rfl ?_
  refine lv_bipush (v := 84) hx hb dX11_init_759 (by decide) ?_
  refine lv_iconst (v := 0) hx hb dX11_init_761 (by decide) ?_
  refine zg_ist (w := w) (k := 4) (N := 100) zL4 84 X hG (by decide) rfl rfl (vp_in_nI (n := 84) (by decide) (by decide)) dX11_init_762 (fun H locs hG => ?_)
  refine lv_dup hx hb dX11_init_763 rfl ?_
  refine lv_bipush (v := 85) hx hb dX11_init_764 (by decide) ?_
  refine lv_iconst (v := 0) hx hb dX11_init_766 (by decide) ?_
  refine zg_ist (w := w) (k := 4) (N := 100) zL4 85 X hG (by decide) rfl rfl (vp_in_nI (n := 85) (by decide) (by decide)) dX11_init_767 (fun H locs hG => ?_)
  refine lv_dup hx hb dX11_init_768 rfl ?_
  refine lv_bipush (v := 86) hx hb dX11_init_769 (by decide) ?_
  refine lv_iconst (v := 0) hx hb dX11_init_771 (by decide) ?_
  refine zg_ist (w := w) (k := 4) (N := 100) zL4 86 X hG (by decide) rfl rfl (vp_in_nI (n := 86) (by decide) (by decide)) dX11_init_772 (fun H locs hG => ?_)
  refine lv_dup hx hb dX11_init_773 rfl ?_
  refine lv_bipush (v := 87) hx hb dX11_init_774 (by decide) ?_
  refine lv_iconst (v := 0) hx hb dX11_init_776 (by decide) ?_
  refine zg_ist (w := w) (k := 4) (N := 100) zL4 87 X hG (by decide) rfl rfl (vp_in_nI (n := 87) (by decide) (by decide)) dX11_init_777 (fun H locs hG => ?_)
  refine lv_dup hx hb dX11_init_778 rfl ?_
  refine lv_bipush (v := 88) hx hb dX11_init_779 (by decide) ?_
  refine lv_iconst (v := 0) hx hb dX11_init_781 (by decide) ?_
  refine zg_ist (w := w) (k := 4) (N := 100) zL4 88 X hG (by decide) rfl rfl (vp_in_nI (n := 88) (by decide) (by decide)) dX11_init_782 (fun H locs hG => ?_)
  refine lv_dup hx hb dX11_init_783 rfl ?_
  refine lv_bipush (v := 89) hx hb dX11_init_784 (by decide) ?_
  refine lv_iconst (v := 0) hx hb dX11_init_786 (by decide) ?_
  refine zg_ist (w := w) (k := 4) (N := 100) zL4 89 X hG (by decide) rfl rfl (vp_in_nI (n := 89) (by decide) (by decide)) dX11_init_787 (fun H locs hG => ?_)
  refine lv_dup hx hb dX11_init_788 rfl ?_
  refine lv_bipush (v := 90) hx hb dX11_init_789 (by decide) ?_
  refine lv_iconst (v := 0) hx hb dX11_init_791 (by decide) ?_
  refine zg_ist (w := w) (k := 4) (N := 100) zL4 90 X hG (by decide) rfl rfl (vp_in_nI (n := 90) (by decide) (by decide)) dX11_init_792 (fun H locs hG => ?_)
  refine lv_dup hx hb dX11_init_793 rfl ?_
  refine lv_bipush (v := 91) hx hb dX11_init_794 (by decide) ?_
  refine lv_iconst (v := 0) hx hb dX11_init_796 (by decide) ?_
  refine zg_ist (w := w) (k := 4) (N := 100) zL4 91 X hG (by decide) rfl rfl (vp_in_nI (n := 91) (by decide) (by decide)) dX11_init_797 (fun H locs hG => ?_)
  refine lv_dup hx hb dX11_init_798 rfl ?_
  refine lv_bipush (v := 92) hx hb dX11_init_799 (by decide) ?_
  refine lv_iconst (v := 0) hx hb dX11_init_801 (by decide) ?_
  refine zg_ist (w := w) (k := 4) (N := 100) zL4 92 X hG (by decide) rfl rfl (vp_in_nI (n := 92) (by decide) (by decide)) dX11_init_802 (fun H locs hG => ?_)
  refine lv_dup hx hb dX11_init_803 rfl ?_
  refine lv_bipush (v := 93) hx hb dX11_init_804 (by decide) ?_
  refine lv_iconst (v := 0) hx hb dX11_init_806 (by decide) ?_
  refine zg_ist (w := w) (k := 4) (N := 100) zL4 93 X hG (by decide) rfl rfl (vp_in_nI (n := 93) (by decide) (by decide)) dX11_init_807 (fun H locs hG => ?_)
  refine lv_dup hx hb dX11_init_808 rfl ?_
  refine lv_bipush (v := 94) hx hb dX11_init_809 (by decide) ?_
  refine lv_iconst (v := 0) hx hb dX11_init_811 (by decide) ?_
  refine zg_ist (w := w) (k := 4) (N := 100) zL4 94 X hG (by decide) rfl rfl (vp_in_nI (n := 94) (by decide) (by decide)) dX11_init_812 (fun H locs hG => ?_)
  refine lv_dup hx hb dX11_init_813 rfl ?_
  refine lv_bipush (v := 95) hx hb dX11_init_814 (by decide) ?_
  refine lv_iconst (v := 0) hx hb dX11_init_816 (by decide) ?_
  refine zg_ist (w := w) (k := 4) (N := 100) zL4 95 X hG (by decide) rfl rfl (vp_in_nI (n := 95) (by decide) (by decide)) dX11_init_817 (fun H locs hG => ?_)
  refine lv_dup hx hb dX11_init_818 rfl ?_
  refine lv_bipush (v := 96) hx hb dX11_init_819 (by decide) ?_
  refine lv_iconst (v := 0) hx hb dX11_init_821 (by decide) ?_
  refine zg_ist (w := w) (k := 4) (N := 100) zL4 96 X hG (by decide) rfl rfl (vp_in_nI (n := 96) (by decide) (by decide)) dX11_init_822 (fun H locs hG => ?_)
  refine lv_dup hx hb dX11_init_823 rfl ?_
  refine lv_bipush (v := 97) hx hb dX11_init_824 (by decide) ?_
  refine lv_iconst (v := 0) hx hb dX11_init_826 (by decide) ?_
  refine zg_ist (w := w) (k := 4) (N := 100) zL4 97 X hG (by decide) rfl rfl (vp_in_nI (n := 97) (by decide) (by decide)) dX11_init_827 (fun H locs hG => ?_)
  refine lv_dup hx hb dX11_init_828 rfl ?_
  refine lv_bipush (v := 98) hx hb dX11_init_829 (by decide) ?_
  refine lv_iconst (v := 0) hx hb dX11_init_831 (by decide) ?_
  refine zg_ist (w := w) (k := 4) (N := 100) zL4 98 X hG (by decide) rfl rfl (vp_in_nI (n := 98) (by decide) (by decide)) dX11_init_832 (fun H locs hG => ?_)
  refine lv_dup hx hb dX11_init_833 rfl ?_
  refine lv_bipush (v := 99) hx hb dX11_init_834 (by decide) ?_
  refine lv_iconst (v := 0) hx hb dX11_init_836 (by decide) ?_
  refine zg_ist (w := w) (k := 4) (N := 100) zL4 99 X hG (by decide) rfl rfl (vp_in_nI (n := 99) (by decide) (by decide)) dX11_init_837 (fun H locs hG => ?_)
  replace hG := zsk_pre (k := 4) (L := zL4) (M := zW0) rfl (fun j hj => rfl) hG
  refine zg_putF (w := w) (k := 0) (ci := 11) (C := "HandToHandModel") (T := TX11) (ty0 := tyX11) (ty := (.array .int)) (v := .ref (w.2.2.2.1 + 4)) X hmi hG (by omega) zsk_eq rfl zin_11 tyX11_ok nmX11 11 (by decide) rfl rfl zu_1031 rfl rfl rfl rfl rfl dX11_init_838 (fun H locs hG => ?_)
  replace hG := zsk_re (E'' := .inr (11, [.ref (w.2.2.2.1 + 1), .int 0, .int 0, .int 0, .int 0, .int 0, .int 0, .int 0, .int 0, .ref (w.2.2.2.1 + 2), .ref (w.2.2.2.1 + 3), .ref (w.2.2.2.1 + 4), .null, .int 0, .int 0, .int 0, .null, .null, .int 0, .int 0, .null, .null, .null, .null, .int 0, .null, .null, .null, .int 0, .int 0, .int 0, .int 0, .int 0, .int 0, .int 0, .null, .null, .null, .null, .int 0])) rfl hG
  refine lv_aload_n hx hb dX11_init_841 rfl (lv_at hl 0 rfl) ?_
  refine lv_bipush (v := 100) hx hb dX11_init_842 (by decide) ?_
  refine zg_newa (w := w) (N := 100) (t := 1) (atype := .int) (ty := .int) X hG (by omega) (by omega) zu_95 rfl rfl (fun _ => rfl) (fun _ => rfl) (by decide) (by decide) (Nat.le_of_ble_eq_true rfl) rfl (Nat.le_of_ble_eq_true rfl) (Nat.le_of_ble_eq_true rfl) dX11_init_844 (fun H hG => ?_)
  refine W.widen (k := 5) (n := 654) (Nat.le_of_ble_eq_true rfl) (Nat.le_of_ble_eq_true rfl) ?_
  refine zg_putF (w := w) (k := 0) (ci := 11) (C := "HandToHandModel") (T := TX11) (ty0 := tyX11) (ty := (.array .int)) (v := .ref (w.2.2.2.1 + 5)) X hmi hG (by omega) zsk_eq rfl zin_11 tyX11_ok nmX11 12 (by decide) rfl rfl zu_1032 rfl rfl rfl rfl rfl dX11_init_846 (fun H locs hG => ?_)
  replace hG := zsk_re (E'' := .inr (11, [.ref (w.2.2.2.1 + 1), .int 0, .int 0, .int 0, .int 0, .int 0, .int 0, .int 0, .int 0, .ref (w.2.2.2.1 + 2), .ref (w.2.2.2.1 + 3), .ref (w.2.2.2.1 + 4), .ref (w.2.2.2.1 + 5), .int 0, .int 0, .int 0, .null, .null, .int 0, .int 0, .null, .null, .null, .null, .int 0, .null, .null, .null, .int 0, .int 0, .int 0, .int 0, .int 0, .int 0, .int 0, .null, .null, .null, .null, .int 0])) rfl hG
  refine lv_aload_n hx hb dX11_init_849 rfl (lv_at hl 0 rfl) ?_
  refine lv_sipush (v := 384) hx hb dX11_init_850 (by decide) ?_
  refine zg_newa (w := w) (N := 384) (t := 1) (atype := .int) (ty := .int) X hG (by omega) (by omega) zu_95 rfl rfl (fun _ => rfl) (fun _ => rfl) (by decide) (by decide) (Nat.le_of_ble_eq_true rfl) rfl (Nat.le_of_ble_eq_true rfl) (Nat.le_of_ble_eq_true rfl) dX11_init_853 (fun H hG => ?_)
  refine W.widen (k := 6) (n := 1038) (Nat.le_of_ble_eq_true rfl) (Nat.le_of_ble_eq_true rfl) ?_
  refine zg_putF (w := w) (k := 0) (ci := 11) (C := "HandToHandModel") (T := TX11) (ty0 := tyX11) (ty := (.array .int)) (v := .ref (w.2.2.2.1 + 6)) X hmi hG (by omega) zsk_eq rfl zin_11 tyX11_ok nmX11 16 (by decide) rfl rfl zu_1036 rfl rfl rfl rfl rfl dX11_init_855 (fun H locs hG => ?_)
  replace hG := zsk_re (E'' := .inr (11, [.ref (w.2.2.2.1 + 1), .int 0, .int 0, .int 0, .int 0, .int 0, .int 0, .int 0, .int 0, .ref (w.2.2.2.1 + 2), .ref (w.2.2.2.1 + 3), .ref (w.2.2.2.1 + 4), .ref (w.2.2.2.1 + 5), .int 0, .int 0, .int 0, .ref (w.2.2.2.1 + 6), .null, .int 0, .int 0, .null, .null, .null, .null, .int 0, .null, .null, .null, .int 0, .int 0, .int 0, .int 0, .int 0, .int 0, .int 0, .null, .null, .null, .null, .int 0])) rfl hG
  refine lv_aload_n hx hb dX11_init_858 rfl (lv_at hl 0 rfl) ?_
  refine lv_iconst (v := 2) hx hb dX11_init_859 (by decide) ?_
  refine zg_newa (w := w) (N := 2) (t := 2) (atype := .boolean) (ty := .boolean) X hG (by omega) (by omega) zu_242 rfl rfl (fun _ => rfl) (fun _ => rfl) (by decide) (by decide) (Nat.le_of_ble_eq_true rfl) rfl (Nat.le_of_ble_eq_true rfl) (Nat.le_of_ble_eq_true rfl) dX11_init_860 (fun H hG => ?_)
  refine W.widen (k := 7) (n := 1040) (Nat.le_of_ble_eq_true rfl) (Nat.le_of_ble_eq_true rfl) ?_
  refine zg_putF (w := w) (k := 0) (ci := 11) (C := "HandToHandModel") (T := TX11) (ty0 := tyX11) (ty := (.array .boolean)) (v := .ref (w.2.2.2.1 + 7)) X hmi hG (by omega) zsk_eq rfl zin_11 tyX11_ok nmX11 17 (by decide) rfl rfl zu_1037 rfl rfl rfl rfl rfl dX11_init_862 (fun H locs hG => ?_)
  replace hG := zsk_re (E'' := .inr (11, [.ref (w.2.2.2.1 + 1), .int 0, .int 0, .int 0, .int 0, .int 0, .int 0, .int 0, .int 0, .ref (w.2.2.2.1 + 2), .ref (w.2.2.2.1 + 3), .ref (w.2.2.2.1 + 4), .ref (w.2.2.2.1 + 5), .int 0, .int 0, .int 0, .ref (w.2.2.2.1 + 6), .ref (w.2.2.2.1 + 7), .int 0, .int 0, .null, .null, .null, .null, .int 0, .null, .null, .null, .int 0, .int 0, .int 0, .int 0, .int 0, .int 0, .int 0, .null, .null, .null, .null, .int 0])) rfl hG
  refine lv_aload_n hx hb dX11_init_865 rfl (lv_at hl 0 rfl) ?_
  refine lv_iconst (v := 5) hx hb dX11_init_866 (by decide) ?_
  refine zg_newa (w := w) (N := 5) (t := 1) (atype := .int) (ty := .int) X hG (by omega) (by omega) zu_95 rfl rfl (fun _ => rfl) (fun _ => rfl) (by decide) (by decide) (Nat.le_of_ble_eq_true rfl) rfl (Nat.le_of_ble_eq_true rfl) (Nat.le_of_ble_eq_true rfl) dX11_init_867 (fun H hG => ?_)
  refine W.widen (k := 8) (n := 1045) (Nat.le_of_ble_eq_true rfl) (Nat.le_of_ble_eq_true rfl) ?_
  refine zg_putF (w := w) (k := 0) (ci := 11) (C := "HandToHandModel") (T := TX11) (ty0 := tyX11) (ty := (.array .int)) (v := .ref (w.2.2.2.1 + 8)) X hmi hG (by omega) zsk_eq rfl zin_11 tyX11_ok nmX11 20 (by decide) rfl rfl zu_1040 rfl rfl rfl rfl rfl dX11_init_869 (fun H locs hG => ?_)
  replace hG := zsk_re (E'' := .inr (11, [.ref (w.2.2.2.1 + 1), .int 0, .int 0, .int 0, .int 0, .int 0, .int 0, .int 0, .int 0, .ref (w.2.2.2.1 + 2), .ref (w.2.2.2.1 + 3), .ref (w.2.2.2.1 + 4), .ref (w.2.2.2.1 + 5), .int 0, .int 0, .int 0, .ref (w.2.2.2.1 + 6), .ref (w.2.2.2.1 + 7), .int 0, .int 0, .ref (w.2.2.2.1 + 8), .null, .null, .null, .int 0, .null, .null, .null, .int 0, .int 0, .int 0, .int 0, .int 0, .int 0, .int 0, .null, .null, .null, .null, .int 0])) rfl hG
  refine lv_aload_n hx hb dX11_init_872 rfl (lv_at hl 0 rfl) ?_
  refine lv_iconst (v := 5) hx hb dX11_init_873 (by decide) ?_
  refine zg_newa (w := w) (N := 5) (t := 1) (atype := .int) (ty := .int) X hG (by omega) (by omega) zu_95 rfl rfl (fun _ => rfl) (fun _ => rfl) (by decide) (by decide) (Nat.le_of_ble_eq_true rfl) rfl (Nat.le_of_ble_eq_true rfl) (Nat.le_of_ble_eq_true rfl) dX11_init_874 (fun H hG => ?_)
  refine W.widen (k := 9) (n := 1050) (Nat.le_of_ble_eq_true rfl) (Nat.le_of_ble_eq_true rfl) ?_
  refine zg_putF (w := w) (k := 0) (ci := 11) (C := "HandToHandModel") (T := TX11) (ty0 := tyX11) (ty := (.array .int)) (v := .ref (w.2.2.2.1 + 9)) X hmi hG (by omega) zsk_eq rfl zin_11 tyX11_ok nmX11 21 (by decide) rfl rfl zu_1041 rfl rfl rfl rfl rfl dX11_init_876 (fun H locs hG => ?_)
  replace hG := zsk_re (E'' := .inr (11, [.ref (w.2.2.2.1 + 1), .int 0, .int 0, .int 0, .int 0, .int 0, .int 0, .int 0, .int 0, .ref (w.2.2.2.1 + 2), .ref (w.2.2.2.1 + 3), .ref (w.2.2.2.1 + 4), .ref (w.2.2.2.1 + 5), .int 0, .int 0, .int 0, .ref (w.2.2.2.1 + 6), .ref (w.2.2.2.1 + 7), .int 0, .int 0, .ref (w.2.2.2.1 + 8), .ref (w.2.2.2.1 + 9), .null, .null, .int 0, .null, .null, .null, .int 0, .int 0, .int 0, .int 0, .int 0, .int 0, .int 0, .null, .null, .null, .null, .int 0])) rfl hG
  refine lv_aload_n hx hb dX11_init_879 rfl (lv_at hl 0 rfl) ?_
  refine lv_sipush (v := 3000) hx hb dX11_init_880 (by decide) ?_
  refine zg_newa (w := w) (N := 3000) (t := 1) (atype := .int) (ty := .int) X hG (by omega) (by omega) zu_95 rfl rfl (fun _ => rfl) (fun _ => rfl) (by decide) (by decide) (Nat.le_of_ble_eq_true rfl) rfl (Nat.le_of_ble_eq_true rfl) (Nat.le_of_ble_eq_true rfl) dX11_init_883 (fun H hG => ?_)
  refine W.widen (k := 10) (n := 4050) (Nat.le_of_ble_eq_true rfl) (Nat.le_of_ble_eq_true rfl) ?_
  refine zg_putF (w := w) (k := 0) (ci := 11) (C := "HandToHandModel") (T := TX11) (ty0 := tyX11) (ty := (.array .int)) (v := .ref (w.2.2.2.1 + 10)) X hmi hG (by omega) zsk_eq rfl zin_11 tyX11_ok nmX11 22 (by decide) rfl rfl zu_1042 rfl rfl rfl rfl rfl dX11_init_885 (fun H locs hG => ?_)
  replace hG := zsk_re (E'' := .inr (11, [.ref (w.2.2.2.1 + 1), .int 0, .int 0, .int 0, .int 0, .int 0, .int 0, .int 0, .int 0, .ref (w.2.2.2.1 + 2), .ref (w.2.2.2.1 + 3), .ref (w.2.2.2.1 + 4), .ref (w.2.2.2.1 + 5), .int 0, .int 0, .int 0, .ref (w.2.2.2.1 + 6), .ref (w.2.2.2.1 + 7), .int 0, .int 0, .ref (w.2.2.2.1 + 8), .ref (w.2.2.2.1 + 9), .ref (w.2.2.2.1 + 10), .null, .int 0, .null, .null, .null, .int 0, .int 0, .int 0, .int 0, .int 0, .int 0, .int 0, .null, .null, .null, .null, .int 0])) rfl hG
  refine lv_aload_n hx hb dX11_init_888 rfl (lv_at hl 0 rfl) ?_
  refine lv_bipush (v := 8) hx hb dX11_init_889 (by decide) ?_
  refine zg_newa (w := w) (N := 8) (t := 1) (atype := .int) (ty := .int) X hG (by omega) (by omega) zu_95 rfl rfl (fun _ => rfl) (fun _ => rfl) (by decide) (by decide) (Nat.le_of_ble_eq_true rfl) rfl (Nat.le_of_ble_eq_true rfl) (Nat.le_of_ble_eq_true rfl) dX11_init_891 (fun H hG => ?_)
  refine W.widen (k := 11) (n := 4058) (Nat.le_of_ble_eq_true rfl) (Nat.le_of_ble_eq_true rfl) ?_
  refine zg_putF (w := w) (k := 0) (ci := 11) (C := "HandToHandModel") (T := TX11) (ty0 := tyX11) (ty := (.array .int)) (v := .ref (w.2.2.2.1 + 11)) X hmi hG (by omega) zsk_eq rfl zin_11 tyX11_ok nmX11 23 (by decide) rfl rfl zu_1043 rfl rfl rfl rfl rfl dX11_init_893 (fun H locs hG => ?_)
  replace hG := zsk_re (E'' := .inr (11, [.ref (w.2.2.2.1 + 1), .int 0, .int 0, .int 0, .int 0, .int 0, .int 0, .int 0, .int 0, .ref (w.2.2.2.1 + 2), .ref (w.2.2.2.1 + 3), .ref (w.2.2.2.1 + 4), .ref (w.2.2.2.1 + 5), .int 0, .int 0, .int 0, .ref (w.2.2.2.1 + 6), .ref (w.2.2.2.1 + 7), .int 0, .int 0, .ref (w.2.2.2.1 + 8), .ref (w.2.2.2.1 + 9), .ref (w.2.2.2.1 + 10), .ref (w.2.2.2.1 + 11), .int 0, .null, .null, .null, .int 0, .int 0, .int 0, .int 0, .int 0, .int 0, .int 0, .null, .null, .null, .null, .int 0])) rfl hG
  refine lv_aload_n hx hb dX11_init_896 rfl (lv_at hl 0 rfl) ?_
  refine lv_sipush (v := 9600) hx hb dX11_init_897 (by decide) ?_
  refine zg_newa (w := w) (N := 9600) (t := 1) (atype := .int) (ty := .int) X hG (by omega) (by omega) zu_95 rfl rfl (fun _ => rfl) (fun _ => rfl) (by decide) (by decide) (Nat.le_of_ble_eq_true rfl) rfl (Nat.le_of_ble_eq_true rfl) (Nat.le_of_ble_eq_true rfl) dX11_init_900 (fun H hG => ?_)
  refine W.widen (k := 12) (n := 13658) (Nat.le_of_ble_eq_true rfl) (Nat.le_of_ble_eq_true rfl) ?_
  refine zg_putF (w := w) (k := 0) (ci := 11) (C := "HandToHandModel") (T := TX11) (ty0 := tyX11) (ty := (.array .int)) (v := .ref (w.2.2.2.1 + 12)) X hmi hG (by omega) zsk_eq rfl zin_11 tyX11_ok nmX11 25 (by decide) rfl rfl zu_1045 rfl rfl rfl rfl rfl dX11_init_902 (fun H locs hG => ?_)
  replace hG := zsk_re (E'' := .inr (11, [.ref (w.2.2.2.1 + 1), .int 0, .int 0, .int 0, .int 0, .int 0, .int 0, .int 0, .int 0, .ref (w.2.2.2.1 + 2), .ref (w.2.2.2.1 + 3), .ref (w.2.2.2.1 + 4), .ref (w.2.2.2.1 + 5), .int 0, .int 0, .int 0, .ref (w.2.2.2.1 + 6), .ref (w.2.2.2.1 + 7), .int 0, .int 0, .ref (w.2.2.2.1 + 8), .ref (w.2.2.2.1 + 9), .ref (w.2.2.2.1 + 10), .ref (w.2.2.2.1 + 11), .int 0, .ref (w.2.2.2.1 + 12), .null, .null, .int 0, .int 0, .int 0, .int 0, .int 0, .int 0, .int 0, .null, .null, .null, .null, .int 0])) rfl hG
  refine lv_aload_n hx hb dX11_init_905 rfl (lv_at hl 0 rfl) ?_
  refine lv_bipush (v := 120) hx hb dX11_init_906 (by decide) ?_
  refine zg_newa (w := w) (N := 120) (t := 1) (atype := .int) (ty := .int) X hG (by omega) (by omega) zu_95 rfl rfl (fun _ => rfl) (fun _ => rfl) (by decide) (by decide) (Nat.le_of_ble_eq_true rfl) rfl (Nat.le_of_ble_eq_true rfl) (Nat.le_of_ble_eq_true rfl) dX11_init_908 (fun H hG => ?_)
  refine W.widen (k := 13) (n := 13778) (Nat.le_of_ble_eq_true rfl) (Nat.le_of_ble_eq_true rfl) ?_
  refine zg_putF (w := w) (k := 0) (ci := 11) (C := "HandToHandModel") (T := TX11) (ty0 := tyX11) (ty := (.array .int)) (v := .ref (w.2.2.2.1 + 13)) X hmi hG (by omega) zsk_eq rfl zin_11 tyX11_ok nmX11 26 (by decide) rfl rfl zu_1046 rfl rfl rfl rfl rfl dX11_init_910 (fun H locs hG => ?_)
  replace hG := zsk_re (E'' := .inr (11, [.ref (w.2.2.2.1 + 1), .int 0, .int 0, .int 0, .int 0, .int 0, .int 0, .int 0, .int 0, .ref (w.2.2.2.1 + 2), .ref (w.2.2.2.1 + 3), .ref (w.2.2.2.1 + 4), .ref (w.2.2.2.1 + 5), .int 0, .int 0, .int 0, .ref (w.2.2.2.1 + 6), .ref (w.2.2.2.1 + 7), .int 0, .int 0, .ref (w.2.2.2.1 + 8), .ref (w.2.2.2.1 + 9), .ref (w.2.2.2.1 + 10), .ref (w.2.2.2.1 + 11), .int 0, .ref (w.2.2.2.1 + 12), .ref (w.2.2.2.1 + 13), .null, .int 0, .int 0, .int 0, .int 0, .int 0, .int 0, .int 0, .null, .null, .null, .null, .int 0])) rfl hG
  refine lv_aload_n hx hb dX11_init_913 rfl (lv_at hl 0 rfl) ?_
  refine lv_bipush (v := 120) hx hb dX11_init_914 (by decide) ?_
  refine zg_newa (w := w) (N := 120) (t := 1) (atype := .int) (ty := .int) X hG (by omega) (by omega) zu_95 rfl rfl (fun _ => rfl) (fun _ => rfl) (by decide) (by decide) (Nat.le_of_ble_eq_true rfl) rfl (Nat.le_of_ble_eq_true rfl) (Nat.le_of_ble_eq_true rfl) dX11_init_916 (fun H hG => ?_)
  refine W.widen (k := 14) (n := 13898) (Nat.le_of_ble_eq_true rfl) (Nat.le_of_ble_eq_true rfl) ?_
  refine zg_putF (w := w) (k := 0) (ci := 11) (C := "HandToHandModel") (T := TX11) (ty0 := tyX11) (ty := (.array .int)) (v := .ref (w.2.2.2.1 + 14)) X hmi hG (by omega) zsk_eq rfl zin_11 tyX11_ok nmX11 27 (by decide) rfl rfl zu_1047 rfl rfl rfl rfl rfl dX11_init_918 (fun H locs hG => ?_)
  replace hG := zsk_re (E'' := .inr (11, [.ref (w.2.2.2.1 + 1), .int 0, .int 0, .int 0, .int 0, .int 0, .int 0, .int 0, .int 0, .ref (w.2.2.2.1 + 2), .ref (w.2.2.2.1 + 3), .ref (w.2.2.2.1 + 4), .ref (w.2.2.2.1 + 5), .int 0, .int 0, .int 0, .ref (w.2.2.2.1 + 6), .ref (w.2.2.2.1 + 7), .int 0, .int 0, .ref (w.2.2.2.1 + 8), .ref (w.2.2.2.1 + 9), .ref (w.2.2.2.1 + 10), .ref (w.2.2.2.1 + 11), .int 0, .ref (w.2.2.2.1 + 12), .ref (w.2.2.2.1 + 13), .ref (w.2.2.2.1 + 14), .int 0, .int 0, .int 0, .int 0, .int 0, .int 0, .int 0, .null, .null, .null, .null, .int 0])) rfl hG
  refine lv_aload_n hx hb dX11_init_921 rfl (lv_at hl 0 rfl) ?_
  refine lv_iconst (v := 5) hx hb dX11_init_922 (by decide) ?_
  refine zg_newa (w := w) (N := 5) (t := 1) (atype := .int) (ty := .int) X hG (by omega) (by omega) zu_95 rfl rfl (fun _ => rfl) (fun _ => rfl) (by decide) (by decide) (Nat.le_of_ble_eq_true rfl) rfl (Nat.le_of_ble_eq_true rfl) (Nat.le_of_ble_eq_true rfl) dX11_init_923 (fun H hG => ?_)
  refine W.widen (k := 15) (n := 13903) (Nat.le_of_ble_eq_true rfl) (Nat.le_of_ble_eq_true rfl) ?_
  refine zg_putF (w := w) (k := 0) (ci := 11) (C := "HandToHandModel") (T := TX11) (ty0 := tyX11) (ty := (.array .int)) (v := .ref (w.2.2.2.1 + 15)) X hmi hG (by omega) zsk_eq rfl zin_11 tyX11_ok nmX11 35 (by decide) rfl rfl zu_1055 rfl rfl rfl rfl rfl dX11_init_925 (fun H locs hG => ?_)
  replace hG := zsk_re (E'' := .inr (11, [.ref (w.2.2.2.1 + 1), .int 0, .int 0, .int 0, .int 0, .int 0, .int 0, .int 0, .int 0, .ref (w.2.2.2.1 + 2), .ref (w.2.2.2.1 + 3), .ref (w.2.2.2.1 + 4), .ref (w.2.2.2.1 + 5), .int 0, .int 0, .int 0, .ref (w.2.2.2.1 + 6), .ref (w.2.2.2.1 + 7), .int 0, .int 0, .ref (w.2.2.2.1 + 8), .ref (w.2.2.2.1 + 9), .ref (w.2.2.2.1 + 10), .ref (w.2.2.2.1 + 11), .int 0, .ref (w.2.2.2.1 + 12), .ref (w.2.2.2.1 + 13), .ref (w.2.2.2.1 + 14), .int 0, .int 0, .int 0, .int 0, .int 0, .int 0, .int 0, .ref (w.2.2.2.1 + 15), .null, .null, .null, .int 0])) rfl hG
  refine lv_aload_n hx hb dX11_init_928 rfl (lv_at hl 0 rfl) ?_
  refine lv_iconst (v := 4) hx hb dX11_init_929 (by decide) ?_
  replace hG := zsk_add (j := 16) (E := .inl (w.2.1 1, 4, .inl (zpre zL16 0))) (by omega) hG
  refine zg_newa (w := w) (N := 4) (t := 1) (atype := .int) (ty := .int) X hG (by omega) (by omega) zu_95 rfl rfl (fun _ => rfl) (fun _ => rfl) (by decide) (by decide) (Nat.le_of_ble_eq_true rfl) (by rw [zsk_eq, zpre_0]) (Nat.le_of_ble_eq_true rfl) (Nat.le_of_ble_eq_true rfl) dX11_init_930 (fun H hG => ?_)
  refine W.widen (k := 16) (n := 13907) (Nat.le_of_ble_eq_true rfl) (Nat.le_of_ble_eq_true rfl) ?_
  refine lv_dup hx hb dX11_init_932 rfl ?_
  refine lv_iconst (v := 0) hx hb dX11_init_933 (by decide) ?_
  refine lv_bipush (v := (-4)) hx hb dX11_init_934 (by decide) ?_
  refine zg_ist (w := w) (k := 16) (N := 4) zL16 0 X hG (by decide) rfl rfl (vp_in_nI (n := 0) (by decide) (by decide)) dX11_init_936 (fun H locs hG => ?_)
  refine lv_dup hx hb dX11_init_937 rfl ?_
  refine lv_iconst (v := 1) hx hb dX11_init_938 (by decide) ?_
  refine lv_bipush (v := (-4)) hx hb dX11_init_939 (by decide) ?_
  refine zg_ist (w := w) (k := 16) (N := 4) zL16 1 X hG (by decide) rfl rfl (vp_in_nI (n := 1) (by decide) (by decide)) dX11_init_941 (fun H locs hG => ?_)
  refine lv_dup hx hb dX11_init_942 rfl ?_
  refine lv_iconst (v := 2) hx hb dX11_init_943 (by decide) ?_
  refine lv_bipush (v := (-4)) hx hb dX11_init_944 (by decide) ?_
  refine zg_ist (w := w) (k := 16) (N := 4) zL16 2 X hG (by decide) rfl rfl (vp_in_nI (n := 2) (by decide) (by decide)) dX11_init_946 (fun H locs hG => ?_)
  refine lv_dup hx hb dX11_init_947 rfl ?_
  refine lv_iconst (v := 3) hx hb dX11_init_948 (by decide) ?_
  refine lv_bipush (v := (-4)) hx hb dX11_init_949 (by decide) ?_
  refine zg_ist (w := w) (k := 16) (N := 4) zL16 3 X hG (by decide) rfl rfl (vp_in_nI (n := 3) (by decide) (by decide)) dX11_init_951 (fun H locs hG => ?_)
  replace hG := zsk_pre (k := 16) (L := zL16) (M := zW0) rfl (fun j hj => rfl) hG
  refine zg_putF (w := w) (k := 0) (ci := 11) (C := "HandToHandModel") (T := TX11) (ty0 := tyX11) (ty := (.array .int)) (v := .ref (w.2.2.2.1 + 16)) X hmi hG (by omega) zsk_eq rfl zin_11 tyX11_ok nmX11 36 (by decide) rfl rfl zu_1056 rfl rfl rfl rfl rfl dX11_init_952 (fun H locs hG => ?_)
  replace hG := zsk_re (E'' := .inr (11, [.ref (w.2.2.2.1 + 1), .int 0, .int 0, .int 0, .int 0, .int 0, .int 0, .int 0, .int 0, .ref (w.2.2.2.1 + 2), .ref (w.2.2.2.1 + 3), .ref (w.2.2.2.1 + 4), .ref (w.2.2.2.1 + 5), .int 0, .int 0, .int 0, .ref (w.2.2.2.1 + 6), .ref (w.2.2.2.1 + 7), .int 0, .int 0, .ref (w.2.2.2.1 + 8), .ref (w.2.2.2.1 + 9), .ref (w.2.2.2.1 + 10), .ref (w.2.2.2.1 + 11), .int 0, .ref (w.2.2.2.1 + 12), .ref (w.2.2.2.1 + 13), .ref (w.2.2.2.1 + 14), .int 0, .int 0, .int 0, .int 0, .int 0, .int 0, .int 0, .ref (w.2.2.2.1 + 15), .ref (w.2.2.2.1 + 16), .null, .null, .int 0])) rfl hG
  refine lv_aload_n hx hb dX11_init_955 rfl (lv_at hl 0 rfl) ?_
  refine lv_iconst (v := 4) hx hb dX11_init_956 (by decide) ?_
  refine zg_newa (w := w) (N := 4) (t := 1) (atype := .int) (ty := .int) X hG (by omega) (by omega) zu_95 rfl rfl (fun _ => rfl) (fun _ => rfl) (by decide) (by decide) (Nat.le_of_ble_eq_true rfl) rfl (Nat.le_of_ble_eq_true rfl) (Nat.le_of_ble_eq_true rfl) dX11_init_957 (fun H hG => ?_)
  refine W.widen (k := 17) (n := 13911) (Nat.le_of_ble_eq_true rfl) (Nat.le_of_ble_eq_true rfl) ?_
  refine zg_putF (w := w) (k := 0) (ci := 11) (C := "HandToHandModel") (T := TX11) (ty0 := tyX11) (ty := (.array .int)) (v := .ref (w.2.2.2.1 + 17)) X hmi hG (by omega) zsk_eq rfl zin_11 tyX11_ok nmX11 37 (by decide) rfl rfl zu_1057 rfl rfl rfl rfl rfl dX11_init_959 (fun H locs hG => ?_)
  replace hG := zsk_re (E'' := .inr (11, [.ref (w.2.2.2.1 + 1), .int 0, .int 0, .int 0, .int 0, .int 0, .int 0, .int 0, .int 0, .ref (w.2.2.2.1 + 2), .ref (w.2.2.2.1 + 3), .ref (w.2.2.2.1 + 4), .ref (w.2.2.2.1 + 5), .int 0, .int 0, .int 0, .ref (w.2.2.2.1 + 6), .ref (w.2.2.2.1 + 7), .int 0, .int 0, .ref (w.2.2.2.1 + 8), .ref (w.2.2.2.1 + 9), .ref (w.2.2.2.1 + 10), .ref (w.2.2.2.1 + 11), .int 0, .ref (w.2.2.2.1 + 12), .ref (w.2.2.2.1 + 13), .ref (w.2.2.2.1 + 14), .int 0, .int 0, .int 0, .int 0, .int 0, .int 0, .int 0, .ref (w.2.2.2.1 + 15), .ref (w.2.2.2.1 + 16), .ref (w.2.2.2.1 + 17), .null, .int 0])) rfl hG
  refine lv_aload_n hx hb dX11_init_962 rfl (lv_at hl 0 rfl) ?_
  refine lv_sipush (v := 160) hx hb dX11_init_963 (by decide) ?_
  refine zg_newa (w := w) (N := 160) (t := 1) (atype := .int) (ty := .int) X hG (by omega) (by omega) zu_95 rfl rfl (fun _ => rfl) (fun _ => rfl) (by decide) (by decide) (Nat.le_of_ble_eq_true rfl) rfl (Nat.le_of_ble_eq_true rfl) (Nat.le_of_ble_eq_true rfl) dX11_init_966 (fun H hG => ?_)
  refine W.widen (k := 18) (n := 14071) (Nat.le_of_ble_eq_true rfl) (Nat.le_of_ble_eq_true rfl) ?_
  refine zg_putF (w := w) (k := 0) (ci := 11) (C := "HandToHandModel") (T := TX11) (ty0 := tyX11) (ty := (.array .int)) (v := .ref (w.2.2.2.1 + 18)) X hmi hG (by omega) zsk_eq rfl zin_11 tyX11_ok nmX11 38 (by decide) rfl rfl zu_1058 rfl rfl rfl rfl rfl dX11_init_968 (fun H locs hG => ?_)
  replace hG := zsk_re (E'' := .inr (11, [.ref (w.2.2.2.1 + 1), .int 0, .int 0, .int 0, .int 0, .int 0, .int 0, .int 0, .int 0, .ref (w.2.2.2.1 + 2), .ref (w.2.2.2.1 + 3), .ref (w.2.2.2.1 + 4), .ref (w.2.2.2.1 + 5), .int 0, .int 0, .int 0, .ref (w.2.2.2.1 + 6), .ref (w.2.2.2.1 + 7), .int 0, .int 0, .ref (w.2.2.2.1 + 8), .ref (w.2.2.2.1 + 9), .ref (w.2.2.2.1 + 10), .ref (w.2.2.2.1 + 11), .int 0, .ref (w.2.2.2.1 + 12), .ref (w.2.2.2.1 + 13), .ref (w.2.2.2.1 + 14), .int 0, .int 0, .int 0, .int 0, .int 0, .int 0, .int 0, .ref (w.2.2.2.1 + 15), .ref (w.2.2.2.1 + 16), .ref (w.2.2.2.1 + 17), .ref (w.2.2.2.1 + 18), .int 0])) rfl hG
  replace hG := zsk_fin (sh := (zshM w.2.1 w.2.2.2.1)) (k := 0) (E := .inr (11, [.ref (w.2.2.2.1 + 1), .int 0, .int 0, .int 0, .int 0, .int 0, .int 0, .int 0, .int 0, .ref (w.2.2.2.1 + 2), .ref (w.2.2.2.1 + 3), .ref (w.2.2.2.1 + 4), .ref (w.2.2.2.1 + 5), .int 0, .int 0, .int 0, .ref (w.2.2.2.1 + 6), .ref (w.2.2.2.1 + 7), .int 0, .int 0, .ref (w.2.2.2.1 + 8), .ref (w.2.2.2.1 + 9), .ref (w.2.2.2.1 + 10), .ref (w.2.2.2.1 + 11), .int 0, .ref (w.2.2.2.1 + 12), .ref (w.2.2.2.1 + 13), .ref (w.2.2.2.1 + 14), .int 0, .int 0, .int 0, .int 0, .int 0, .int 0, .int 0, .ref (w.2.2.2.1 + 15), .ref (w.2.2.2.1 + 16), .ref (w.2.2.2.1 + 17), .ref (w.2.2.2.1 + 18), .int 0])) (M := zW0) rfl hG
  exact zg_vret (w' := zwM w) X hr hlk rfl hG rfl dX11_init_971
/-- both worlds, at the law -/
def zLw (w1 w2 : zWd) (s : State) (M W : zMem) (H : Heap) (locs : List Loc) : Prop := zP w1 M H ∧ zP w2 W H ∧ va_S (fun q => s.heap.size ≤ q) s.heap H locs
def zLa (w1 w2 : zWd) (s : State) : Prop := w1.2.2.2.1 = s.heap.size ∧ w1.2.2.2.1 + w1.2.2.2.2 ≤ w2.2.2.2.1
theorem zP.kept {w : zWd} {M : zMem} {H H1 : Heap} (hP : zP w M H) (hk : ∀ k, k < w.2.2.2.2 → H1[zad w k]? = H[zad w k]?) : zP w M H1 := by
  unfold zP at hP ⊢
  refine va_P.kept hP (fun k x hx => ?_)
  obtain ⟨j, hj, e⟩ := (zws_D w M).2 k x hx
  rw [e]
  exact hk j hj
theorem zP.at {w : zWd} {M : zMem} {H : Heap} (hP : zP w M H) {k : Nat} (hk : k < w.2.2.2.2) : zad w k < H.size := (hP k _ (zws_get hk)).lt
section ZL
variable {p : Program} {l : Launch} {e : Env} {R : Room} {s : State} {m : MethodId} {args : Array Value} {below : List Frame} {meth : Method} {c : Code} {H : Heap} {locs : List Loc} {cells slots : Nat} {Q : State → Prop} {cc : ByteArray} {pc : Nat} {ls : Array Slot} {rest : List Value} {w1 w2 : zWd} {M W' : zMem} {own : String}
variable {y : MethodName} {b : ByteArray} {mL n idx fr lo nL : Nat} {r : Option FieldType} {lv : List (Nat × Value)} {st As : List Value}
theorem zl_run {w : zWd} {k ci N : Nat} {C : String} {T : u_T} {fs : (Nat → Int32) → List Value} {Qc : Array Value → State → Outcome → State → Prop} (X : zX w p s m args c cc own) (hml : c.maxLocals = nL) (hl : lv_has ls nL lv) (hP : zP w M H) (hS : va_S (fun q => s.heap.size ≤ q) s.heap H locs) (hI : zI_o w k ci fs) (hc : vwCl[ci]? = some (C, T, N)) (hC : zCV own idx C y b mL r n)
    (hM : Met l y (.code y b mL r :: zU) (zRm fr lo) (zPre w (.ref (zad w k) :: As) M) Qc 0 0 (zA w)) (hn : As.length = n) (hR : fr + 1 ≤ R.frames ∧ 8 + (mL + 11) + lo ≤ R.locals) (hf : cells ≤ R.cells ∧ slots ≤ R.slots) (hst : st = As.reverse ++ .ref (zad w k) :: rest) (hcat : (rest.map fun v => v.category).sum ≤ 8) (hdg : decode cc pc = .ok (.invokevirtual idx, 3)) :
    va_Run p l e R s m args below meth c H locs cells slots 0 0 (F0 m pc ls st) rest (Qc (Value.ref (zad w k) :: As).toArray) (zA w) := by
  obtain ⟨hx, hb, hown, hts, hK⟩ := X
  exact va_runV (As := As) (rest := rest) ⟨hx, hb, hml, hown, hts⟩ hM (cwV n hts hC.1 rfl rfl rfl hC.2 hR) (zPreV hK hP (fun a ha _ => hS.2.1 a ha (Nat.not_le.mpr ha)) hI hc) rfl hn hl.1 hst (lv_room hcat) hdg ⟨hf.1, hf.2⟩
theorem zl_in1 (hA : zLa w1 w2 s) {q : Nat} (h : zA w1 q) : s.heap.size ≤ q := by
  obtain ⟨j, -, e⟩ := h
  have := hA.1
  unfold zad at e
  omega
theorem zl_in2 (hA : zLa w1 w2 s) {q : Nat} (h : zA w2 q) : s.heap.size ≤ q := by
  obtain ⟨j, -, e⟩ := h
  have := hA.1
  have := hA.2
  unfold zad at e
  omega
theorem zl_keep2 (hA : zLa w1 w2 s) {H1 : Heap} (hP : zP w2 W' H) (hk : ∀ q : Nat, q < H.size → ¬ zA w1 q → H1[q]? = H[q]?) : zP w2 W' H1 := hP.kept (fun k hk2 => hk _ (hP.at hk2) (fun z => by
  obtain ⟨j, hj, e⟩ := z
  have := hA.2
  unfold zad at e
  omega))
theorem zl_keep1 (hA : zLa w1 w2 s) {H1 : Heap} (hP : zP w1 M H) (hk : ∀ q : Nat, q < H.size → ¬ zA w2 q → H1[q]? = H[q]?) : zP w1 M H1 := hP.kept (fun k hk2 => hk _ (hP.at hk2) (fun z => by
  obtain ⟨j, hj, e⟩ := z
  have := hA.2
  unfold zad at e
  omega))
theorem zl_1i {post : Int32 → zMem → Prop} {a : Array Value} (hA : zLa w1 w2 s) (hL : zLw w1 w2 s M W' H locs) (hr : va_Run p l e R s m args below meth c H locs cells slots 0 0 (F0 m pc ls st) rest (va_Qi post (zB w1) (zA w1) a) (zA w1))
    (kk : ∀ (r : Int32) (M : zMem) (H : Heap) (locs : List Loc), post r M → zLw w1 w2 s M W' H locs → W p l e R s m args below meth c H locs cells slots Q (F0 m (pc + 3) ls (.int r :: rest))) : W p l e R s m args below meth c H locs cells slots Q (F0 m pc ls st) :=
  va_calli hr hL.2.2 (fun q _ h => zl_in1 hA h) (fun q h => zl_in1 hA h) (fun r M1 t H1 locs1 ht _ hp hB _ hk hS => kk r M1 H1 locs1 hp ⟨by rw [← ht]; exact hB, zl_keep2 hA hL.2.1 hk, hS⟩)
theorem zl_1l {post : Int64 → zMem → Prop} {a : Array Value} (hA : zLa w1 w2 s) (hL : zLw w1 w2 s M W' H locs) (hr : va_Run p l e R s m args below meth c H locs cells slots 0 0 (F0 m pc ls st) rest (va_Ql post (zB w1) (zA w1) a) (zA w1))
    (kk : ∀ (r : Int64) (M : zMem) (H : Heap) (locs : List Loc), post r M → zLw w1 w2 s M W' H locs → W p l e R s m args below meth c H locs cells slots Q (F0 m (pc + 3) ls (.long r :: rest))) : W p l e R s m args below meth c H locs cells slots Q (F0 m pc ls st) :=
  va_calll hr hL.2.2 (fun q _ h => zl_in1 hA h) (fun q h => zl_in1 hA h) (fun r M1 t H1 locs1 ht _ hp hB _ hk hS => kk r M1 H1 locs1 hp ⟨by rw [← ht]; exact hB, zl_keep2 hA hL.2.1 hk, hS⟩)
theorem zl_2i {post : Int32 → zMem → Prop} {a : Array Value} (hA : zLa w1 w2 s) (hL : zLw w1 w2 s M W' H locs) (hr : va_Run p l e R s m args below meth c H locs cells slots 0 0 (F0 m pc ls st) rest (va_Qi post (zB w2) (zA w2) a) (zA w2))
    (kk : ∀ (r : Int32) (W' : zMem) (H : Heap) (locs : List Loc), post r W' → zLw w1 w2 s M W' H locs → W p l e R s m args below meth c H locs cells slots Q (F0 m (pc + 3) ls (.int r :: rest))) : W p l e R s m args below meth c H locs cells slots Q (F0 m pc ls st) :=
  va_calli hr hL.2.2 (fun q _ h => zl_in2 hA h) (fun q h => zl_in2 hA h) (fun r M1 t H1 locs1 ht _ hp hB _ hk hS => kk r M1 H1 locs1 hp ⟨zl_keep1 hA hL.1 hk, by rw [← ht]; exact hB, hS⟩)
theorem zl_2l {post : Int64 → zMem → Prop} {a : Array Value} (hA : zLa w1 w2 s) (hL : zLw w1 w2 s M W' H locs) (hr : va_Run p l e R s m args below meth c H locs cells slots 0 0 (F0 m pc ls st) rest (va_Ql post (zB w2) (zA w2) a) (zA w2))
    (kk : ∀ (r : Int64) (W' : zMem) (H : Heap) (locs : List Loc), post r W' → zLw w1 w2 s M W' H locs → W p l e R s m args below meth c H locs cells slots Q (F0 m (pc + 3) ls (.long r :: rest))) : W p l e R s m args below meth c H locs cells slots Q (F0 m pc ls st) :=
  va_calll hr hL.2.2 (fun q _ h => zl_in2 hA h) (fun q h => zl_in2 hA h) (fun r M1 t H1 locs1 ht _ hp hB _ hk hS => kk r M1 H1 locs1 hp ⟨zl_keep1 hA hL.1 hk, by rw [← ht]; exact hB, hS⟩)
/-- an int of the script -/
theorem zl_ld {sc L i k : Nat} {xs : Nat → Int32} (hx : p.tables.exec = Jvm.exec) (hb : c.code = cc) (hX : va_X sc L xs s s.heap) (hbl : sc < s.heap.size) (hL : zLw w1 w2 s M W' H locs) (hi : i + k < L) (hLs : L < 2147483648) (hdg : decode cc pc = .ok (.iaload, 1))
    (kk : W p l e R s m args below meth c H locs cells slots Q (F0 m (pc + 1) ls (.int (xs (i + k)) :: rest))) : W p l e R s m args below meth c H locs cells slots Q (F0 m pc ls (.int (nI i + nI k) :: .ref sc :: rest)) := by
  have e1 : nI i + nI k = nI (i + k) := q_add i k
  rw [e1]
  refine va_sld hx hb hX hbl (A := fun q => s.heap.size ≤ q) (Nat.not_le.mpr hbl) hL.2.2 (vp_in_nI hi hLs) hdg ?_
  rw [nI_clamp (by omega)]
  exact kk
theorem zl_ld0 {sc L i : Nat} {xs : Nat → Int32} (hx : p.tables.exec = Jvm.exec) (hb : c.code = cc) (hX : va_X sc L xs s s.heap) (hbl : sc < s.heap.size) (hL : zLw w1 w2 s M W' H locs) (hi : i < L) (hLs : L < 2147483648) (hdg : decode cc pc = .ok (.iaload, 1))
    (kk : W p l e R s m args below meth c H locs cells slots Q (F0 m (pc + 1) ls (.int (xs i) :: rest))) : W p l e R s m args below meth c H locs cells slots Q (F0 m pc ls (.int (nI i) :: .ref sc :: rest)) := by
  refine va_sld hx hb hX hbl (A := fun q => s.heap.size ≤ q) (Nat.not_le.mpr hbl) hL.2.2 (vp_in_nI hi hLs) hdg ?_
  rw [nI_clamp (by omega)]
  exact kk
end ZL
